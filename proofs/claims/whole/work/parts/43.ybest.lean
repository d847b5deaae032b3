/-! bestPush and the ends of solve -/
theorem ys_best0 {post : Int32 → SY → Prop} {w lv : Int64} {B L s D l0 : Nat} {di : Nat → Nat} {t0 : Int64 × Nat} {yf_lim yf_hs yf_started yf_pu yf_moves yf_pushes yf_hn yf_solLen yf_curP yf_nextState : Int32} {ya_edit ya_goal ya_hFrom ya_hBf ya_hBt ya_sol ya_reach ya_stack ya_liveMark ya_liveIdx ya_liveCell ya_dist ya_sb ya_ob : Nat → Int32} (hfit : gr_fit B L) (hS : ys_S w lv B L s ya_liveMark ya_liveIdx ya_reach ya_sb) (hs : s < 64 * L ^ B) (hlw : ∀ c, ce_b lv c = true → ce_b w c = false) (hdi : ∀ x, x < 64 * L ^ B → ya_dist x = nI (di x) ∧ di x ≤ 1000)
    (hD : D < 999) (hl : l0 < 256) (hst0 : gr_step w lv (ys_ab lv L B s) l0 = some t0) (hd0 : di (ys_en lv L B s l0) = D) (hlt : ∀ c t, c < l0 → gr_step w lv (ys_ab lv L B s) c = some t → di (ys_en lv L B s c) ≠ D)
    (h : post (nI l0) (yf_lim, yf_hs, yf_started, yf_pu, yf_moves, yf_pushes, yf_hn, yf_solLen, nI B, nI L, yf_curP, nI (ys_en lv L B s l0), ya_edit, ce_A w, ya_goal, ce_A (gr_ms (ys_cl lv L B s) B), ya_hFrom, ya_hBf, ya_hBt, ya_sol, ya_reach, ya_stack, ya_liveMark, ya_liveIdx, ya_liveCell, ya_dist, ya_sb, ya_ob)) :
    ∀ q c, c + q = l0 → ∀ m, wY_bestPush_11 post (nI D) yf_lim yf_hs yf_started yf_pu yf_moves yf_pushes yf_hn yf_solLen (nI B) (nI L) yf_curP yf_nextState ya_edit (ce_A w) ya_goal (ce_A (gr_ms (ys_cl lv L B s) B)) ya_hFrom ya_hBf ya_hBt ya_sol ya_reach ya_stack ya_liveMark ya_liveIdx ya_liveCell ya_dist ya_sb ya_ob (q + 1 + m) (nI c) := by
  have hpw := gr_pw hfit
  have hB := hS.1
  have hL := hS.2.1
  have h1 := hS.2.2.1
  have hcl : ∀ j, j < B → ys_cl lv L B s j < 64 := fun j _ => (ys_cl_ok hL h1 B s j).2
  have hsb : ∀ j, j < B → ya_sb j = nI (ys_cl lv L B s j) ∧ ys_cl lv L B s j < 64 := fun j hj => ⟨hS.2.2.2.2.2.2.2 j hj, hcl j hj⟩
  have some4 : ∀ c t, gr_step w lv (ys_ab lv L B s) c = some t → ∃ k, k < B ∧ ys_cl lv L B s k = c / 4 := by
    intro c t hst
    unfold gr_step at hst
    split at hst
    · rename_i z
      exact (gr_msT B hcl (c / 4)).mp z.1
    · cases hst
  intro q
  induction q with
  | zero =>
    intro c hc m
    have e : c = l0 := by omega
    subst e
    rw [show 0 + 1 + m = m + 1 by omega]
    have e1 : nI c >>> ((2 : Int32) &&& 31) = nI (c / 4) := pk_shrN (by omega) _ 2 (by decide)
    have e2 : nI c &&& 3 = nI (c % 4) := pk_andN (by omega) 2 (by decide)
    refine br_f (nI_ge (b := 256) (by omega) (by decide)) ?_
    rw [e1, e2]
    refine ys_slot hB (by omega) hsb (fun k hk ek => ?_) (fun z => ?_)
    · refine br_f (nI_pos (by omega)) ?_
      have ec : ys_cl lv L B s k * 4 + c % 4 = c := by rw [ek]; omega
      rw [← ek]
      refine ys_tgt hS hk (by omega) (fun t hst => ?_) (fun hst => ?_)
      · rw [ec] at hst ⊢
        obtain ⟨x1, x2, x3⟩ := ys_hen hL h1 hlw s c t hs hS.2.2.2.1 hl hst
        have ev : vp_in (nI (ys_en lv L B s c)) 13824 := vp_in_nI (by omega) (by decide)
        refine br_f (nI_pos (by omega)) ⟨ev, ?_⟩
        rw [nI_clamp (n := ys_en lv L B s c) (by omega), (hdi _ x1).1, hd0]
        exact br_t rfl h
      · rw [ec, hst0] at hst
        cases hst
    · obtain ⟨k, hk, ek⟩ := some4 c t0 hst0
      exact absurd ek (z k hk)
  | succ q ih =>
    intro c hc m
    rw [show q + 1 + 1 + m = (q + 1 + m) + 1 by omega]
    have e1 : nI c >>> ((2 : Int32) &&& 31) = nI (c / 4) := pk_shrN (by omega) _ 2 (by decide)
    have e2 : nI c &&& 3 = nI (c % 4) := pk_andN (by omega) 2 (by decide)
    have nx := ih (c + 1) (by omega) m
    refine br_f (nI_ge (b := 256) (by omega) (by decide)) ?_
    rw [e1, e2]
    refine ys_slot hB (by omega) hsb (fun k hk ek => ?_) (fun z => br_t (by decide) (nm_r (nI_1 c) nx))
    refine br_f (nI_pos (by omega)) ?_
    have ec : ys_cl lv L B s k * 4 + c % 4 = c := by rw [ek]; omega
    rw [← ek]
    refine ys_tgt hS hk (by omega) (fun t hst => ?_) (fun hst => br_t (by decide) (nm_r (nI_1 c) nx))
    rw [ec] at hst ⊢
    obtain ⟨x1, x2, x3⟩ := ys_hen hL h1 hlw s c t hs hS.2.2.2.1 (by omega) hst
    have ev : vp_in (nI (ys_en lv L B s c)) 13824 := vp_in_nI (by omega) (by decide)
    have hdx := hdi _ x1
    refine br_f (nI_pos (by omega)) ⟨ev, ?_⟩
    rw [nI_clamp (n := ys_en lv L B s c) (by omega), hdx.1]
    exact br_f (fun z => hlt c t (by omega) hst ((nI_eq (by omega) (by omega)).mp z)) (nm_r (nI_1 c) nx)
theorem ys_best {post : Int32 → SY → Prop} {w lv : Int64} {B L s D l0 : Nat} {di : Nat → Nat} {t0 : Int64 × Nat} {yf_lim yf_hs yf_started yf_pu yf_moves yf_pushes yf_hn yf_solLen yf_curP yf_nextState : Int32} {ya_edit ya_goal ya_hFrom ya_hBf ya_hBt ya_sol ya_reach ya_stack ya_liveMark ya_liveIdx ya_liveCell ya_dist ya_sb ya_ob : Nat → Int32} (hfit : gr_fit B L) (hS : ys_S w lv B L s ya_liveMark ya_liveIdx ya_reach ya_sb) (hs : s < 64 * L ^ B) (hlw : ∀ c, ce_b lv c = true → ce_b w c = false) (hdi : ∀ x, x < 64 * L ^ B → ya_dist x = nI (di x) ∧ di x ≤ 1000)
    (hD : D < 999) (hds : di s = D + 1) (hl : l0 < 256) (hst0 : gr_step w lv (ys_ab lv L B s) l0 = some t0) (hd0 : di (ys_en lv L B s l0) = D) (hlt : ∀ c t, c < l0 → gr_step w lv (ys_ab lv L B s) c = some t → di (ys_en lv L B s c) ≠ D)
    (h : post (nI l0) (yf_lim, yf_hs, yf_started, yf_pu, yf_moves, yf_pushes, yf_hn, yf_solLen, nI B, nI L, yf_curP, nI (ys_en lv L B s l0), ya_edit, ce_A w, ya_goal, ce_A (gr_ms (ys_cl lv L B s) B), ya_hFrom, ya_hBf, ya_hBt, ya_sol, ya_reach, ya_stack, ya_liveMark, ya_liveIdx, ya_liveCell, ya_dist, ya_sb, ya_ob)) :
    wpY_bestPush post (yf_lim, yf_hs, yf_started, yf_pu, yf_moves, yf_pushes, yf_hn, yf_solLen, nI B, nI L, yf_curP, yf_nextState, ya_edit, ce_A w, ya_goal, ce_A (gr_ms (ys_cl lv L B s) B), ya_hFrom, ya_hBf, ya_hBt, ya_sol, ya_reach, ya_stack, ya_liveMark, ya_liveIdx, ya_liveCell, ya_dist, ya_sb, ya_ob) (nI s) := by
  have hpw := gr_pw hfit
  refine ⟨vp_in_nI (by omega) (by decide), nm_r (e' := nI D) (by rw [nI_clamp (n := s) (by omega), (hdi s hs).1, hds]; exact nI_pred D) ⟨l0 + 1 + 0, ys_best0 hfit hS hs hlw hdi hD hl hst0 hd0 hlt h l0 0 (by omega) 0⟩⟩
/-! the boxes are laid back -/
theorem ys_490 {post : Int32 → SY → Prop} {P B d0 : Nat} {x4 : Int32} {c0 : Nat → Nat} {yf_hs yf_started yf_pu yf_moves yf_pushes yf_hn yf_solLen yf_nL yf_curP yf_nextState : Int32} {ya_edit ya_wall ya_goal ya_hFrom ya_hBf ya_hBt ya_sol ya_reach ya_stack ya_liveMark ya_liveIdx ya_liveCell ya_dist ya_sb ya_ob : Nat → Int32} (hP : P ≤ 40) (hB : B ≤ 3) (hd : d0 ≤ 1000) (hob : ∀ j, j < B → ya_ob j = nI (c0 j) ∧ c0 j < 64)
    (h1 : d0 ≤ P → post (nI d0) (nI P, yf_hs, yf_started, yf_pu, yf_moves, yf_pushes, yf_hn, x4, nI B, yf_nL, yf_curP, yf_nextState, ya_edit, ya_wall, ya_goal, ce_A (gr_ms c0 B), ya_hFrom, ya_hBf, ya_hBt, ya_sol, ya_reach, ya_stack, ya_liveMark, ya_liveIdx, ya_liveCell, ya_dist, ya_sb, ya_ob)) (h2 : P < d0 → post (-7) (nI P, yf_hs, yf_started, yf_pu, yf_moves, yf_pushes, yf_hn, 0, nI B, yf_nL, yf_curP, yf_nextState, ya_edit, ya_wall, ya_goal, ce_A (gr_ms c0 B), ya_hFrom, ya_hBf, ya_hBt, ya_sol, ya_reach, ya_stack, ya_liveMark, ya_liveIdx, ya_liveCell, ya_dist, ya_sb, ya_ob)) :
    ∀ q i, i + q = B → wY_solve_490 post (nI d0) x4 (nI P) yf_hs yf_started yf_pu yf_moves yf_pushes yf_hn yf_solLen (nI B) yf_nL yf_curP yf_nextState (q + 1) (nI i) ya_edit ya_wall ya_goal (ce_A (gr_ms c0 i)) ya_hFrom ya_hBf ya_hBt ya_sol ya_reach ya_stack ya_liveMark ya_liveIdx ya_liveCell ya_dist ya_sb ya_ob := by
  intro q
  induction q with
  | zero =>
    intro i hi
    have e : i = B := by omega
    subst e
    exact br_t (nI_le (Nat.le_refl i) (by omega)) (pk_le d0 P h1 h2)
  | succ q ih =>
    intro i hi
    have := ih (i + 1) (by omega)
    obtain ⟨s1, s2⟩ := hob i (by omega)
    refine br_f (nI_ge (by omega) (by omega)) ⟨vp_in_nI (by omega) (by decide), ?_⟩
    rw [nI_clamp (n := i) (by omega), s1]
    exact ⟨vp_in_nI s2 (by decide), nm_r (e' := ce_A (gr_ms c0 (i + 1))) (by rw [rl_b1, nI_clamp (n := c0 i) (by omega), ce_A_set s2]; rfl) (nm_r (nI_1 i) this)⟩
theorem ys_459 {post : Int32 → SY → Prop} {P B d0 : Nat} {x4 : Int32} {c0 cl : Nat → Nat} {yf_hs yf_started yf_pu yf_moves yf_pushes yf_hn yf_solLen yf_nL yf_curP yf_nextState : Int32} {ya_edit ya_wall ya_goal ya_hFrom ya_hBf ya_hBt ya_sol ya_reach ya_stack ya_liveMark ya_liveIdx ya_liveCell ya_dist ya_sb ya_ob : Nat → Int32} (hP : P ≤ 40) (hB : B ≤ 3) (hd : d0 ≤ 1000) (hob : ∀ j, j < B → ya_ob j = nI (c0 j) ∧ c0 j < 64) (hsb : ∀ j, j < B → ya_sb j = nI (cl j) ∧ cl j < 64)
    (h1 : d0 ≤ P → post (nI d0) (nI P, yf_hs, yf_started, yf_pu, yf_moves, yf_pushes, yf_hn, x4, nI B, yf_nL, yf_curP, yf_nextState, ya_edit, ya_wall, ya_goal, ce_A (gr_ms c0 B), ya_hFrom, ya_hBf, ya_hBt, ya_sol, ya_reach, ya_stack, ya_liveMark, ya_liveIdx, ya_liveCell, ya_dist, ya_sb, ya_ob)) (h2 : P < d0 → post (-7) (nI P, yf_hs, yf_started, yf_pu, yf_moves, yf_pushes, yf_hn, 0, nI B, yf_nL, yf_curP, yf_nextState, ya_edit, ya_wall, ya_goal, ce_A (gr_ms c0 B), ya_hFrom, ya_hBf, ya_hBt, ya_sol, ya_reach, ya_stack, ya_liveMark, ya_liveIdx, ya_liveCell, ya_dist, ya_sb, ya_ob)) :
    ∃ n : Nat, wY_solve_459 post (nI d0) x4 (nI P) yf_hs yf_started yf_pu yf_moves yf_pushes yf_hn yf_solLen (nI B) yf_nL yf_curP yf_nextState n 0 ya_edit ya_wall ya_goal (ce_A (gr_ms cl B)) ya_hFrom ya_hBf ya_hBt ya_sol ya_reach ya_stack ya_liveMark ya_liveIdx ya_liveCell ya_dist ya_sb ya_ob := by
  have key : ∀ q i, i + q = B → wY_solve_459 post (nI d0) x4 (nI P) yf_hs yf_started yf_pu yf_moves yf_pushes yf_hn yf_solLen (nI B) yf_nL yf_curP yf_nextState (q + 1) (nI i) ya_edit ya_wall ya_goal (ce_A (gr_cr (gr_ms cl B) cl i)) ya_hFrom ya_hBf ya_hBt ya_sol ya_reach ya_stack ya_liveMark ya_liveIdx ya_liveCell ya_dist ya_sb ya_ob := by
    intro q
    induction q with
    | zero =>
      intro i hi
      have e : i = B := by omega
      subst e
      rw [gr_cr0 (fun j hj => (hsb j hj).2)]
      exact br_t (nI_le (Nat.le_refl i) (by omega)) ⟨i + 1, ys_490 hP hB hd hob h1 h2 i 0 (by omega)⟩
    | succ q ih =>
      intro i hi
      have := ih (i + 1) (by omega)
      obtain ⟨s1, s2⟩ := hsb i (by omega)
      refine br_f (nI_ge (by omega) (by omega)) ⟨vp_in_nI (by omega) (by decide), ?_⟩
      rw [nI_clamp (n := i) (by omega), s1]
      exact ⟨vp_in_nI s2 (by decide), nm_r (e' := ce_A (gr_cr (gr_ms cl B) cl (i + 1))) (by rw [rl_b0, nI_clamp (n := cl i) (by omega), ce_A_clr s2]; rfl) (nm_r (nI_1 i) this)⟩
  exact ⟨B + 1, key B 0 (by omega)⟩
/-! the list is read off the table -/
theorem ys_387 {post : Int32 → SY → Prop} {P B L D : Nat} {w g lv : Int64} {di : Nat → Nat} {l c0 : Nat → Nat} {yf_hs yf_started yf_pu yf_moves yf_pushes yf_hn yf_solLen : Int32} {ya_edit ya_goal ya_hFrom ya_hBf ya_hBt ya_liveMark ya_liveIdx ya_liveCell ya_dist ya_ob : Nat → Int32} (hP : P ≤ 40) (hDP : D ≤ P) (hH : ys_H w lv B L ya_liveMark ya_liveIdx ya_liveCell) (hob : ∀ j, j < B → ya_ob j = nI (c0 j) ∧ c0 j < 64) (hdi : ∀ x, x < 64 * L ^ B → ya_dist x = nI (di x) ∧ di x ≤ 1000)
    (hA : gr_VA (gr_step w lv) (gr_so g) (ys_V w lv L B) (ys_ab lv L B) (64 * L ^ B) di) (hBd : gr_VB (gr_step w lv) (gr_so g) (ys_V w lv L B) (ys_ab lv L B) (64 * L ^ B) di D)
    (h : ∀ cp ns so re sk sb, (∀ i, i < D → so i = nI (l i)) → post (nI D) (nI P, yf_hs, yf_started, yf_pu, yf_moves, yf_pushes, yf_hn, nI D, nI B, nI L, cp, ns, ya_edit, ce_A w, ya_goal, ce_A (gr_ms c0 B), ya_hFrom, ya_hBf, ya_hBt, so, re, sk, ya_liveMark, ya_liveIdx, ya_liveCell, ya_dist, sb, ya_ob)) :
    ∀ q i s cl cp ns so re sk sb, i + q = D → s < 64 * L ^ B → ys_V w lv L B s → di s = q → gr_G (gr_step w lv) (gr_so g) q (ys_ab lv L B s) (fun j => l (i + j)) → (∀ j, j < i → so j = nI (l j)) → (∀ j, j < B → sb j = nI (cl j) ∧ cl j < 64) →
      wY_solve_387 post (nI D) (q + 1) (nI i) (nI s) (nI i) (nI P) yf_hs yf_started yf_pu yf_moves yf_pushes yf_hn yf_solLen (nI B) (nI L) (cp) (ns) ya_edit (ce_A w) ya_goal (ce_A (gr_ms cl B)) ya_hFrom ya_hBf ya_hBt (so) (re) (sk) ya_liveMark ya_liveIdx ya_liveCell ya_dist (sb) ya_ob := by
  obtain ⟨a1, a2, a3, a4, a5, a6, a7, a8, a9⟩ := hH
  have hpw := gr_pw a5
  have hen := ys_hen (w := w) (B := B) a3 a4 a6
  intro q
  induction q with
  | zero =>
    intro i s cl cp ns so re sk sb hi hs hV hd hG hso hsb
    have e : i = D := by omega
    subst e
    refine br_t (nI_le (Nat.le_refl i) (by omega)) (ys_459 hP a2 (by omega) hob hsb (fun _ => h _ _ _ _ _ _ hso) (fun z => by omega))
  | succ q ih =>
    intro i s cl cp ns so re sk sb hi hs hV hd hG hso hsb
    have hb' : gr_VB (gr_step w lv) (gr_so g) (ys_V w lv L B) (ys_ab lv L B) (64 * L ^ B) di (q + 1) := fun s' h1 h2 m hm hc => hBd s' h1 h2 m (by omega) hc
    obtain ⟨n1, ⟨t, n2, n3, n4⟩, n5⟩ := gr_next (gr_step w lv) (gr_so g) (ys_V w lv L B) (ys_ab lv L B) (ys_en lv L B) (64 * L ^ B) hen hA hb' hs hV hd (by omega) hG
    refine br_f (nI_ge (by omega) (by omega)) (br_f (nI_nlt (by omega) (by omega)) ?_)
    refine ys_load (cl := cl) a1 a2 a3 a4 (by omega) a9 hsb (fun sb' hsb' _ => ?_) (fun sb' hsb' z => absurd hV z)
    refine ys_flood (Nat.mod_lt s (by decide)) hV.2.1 hV.2.2 (fun re' sk' hre => ?_)
    refine ys_best (di := di) (D := q) a5 ⟨a2, a3, a4, hV, a7, a8, hre, hsb'⟩ hs a6 hdi (by omega) hd n1 n2 n3 n5 ?_
    refine br_t (nI_pos' (by omega)) ⟨vp_in_nI (by omega) (by decide), nm_r (e' := upd so i (nI (l i))) (by rw [nI_clamp (n := i) (by omega)]; rfl) (nm_r (nI_1 i) (nm_r (nI_1 i) ?_))⟩
    obtain ⟨e1, e2, e3⟩ := hen s _ t hs hV n1 n2
    refine ih (i + 1) _ _ _ _ _ _ _ _ (by omega) e1 e2 n3 ?_ (fun j hj => ?_) (fun j hj => ⟨hsb' j hj, (ys_cl_ok a3 a4 B s j).2⟩)
    · have ef : (fun j => (fun j => l (i + j)) (j + 1)) = (fun j => l (i + 1 + j)) := by
        funext j
        show l (i + (j + 1)) = l (i + 1 + j)
        congr 1
        omega
      rw [← ef]
      exact n4
    · by_cases z : j = i
      · subst z; rw [pk_us]
      · rw [pk_un z]; exact hso j (by omega)
