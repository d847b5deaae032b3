/-! the reference's solve: the table -/
/-- what is known of the answer when the table is done -/
def ys_R (w g lv : Int64) (P : Nat) (rt : Int64 × Nat) (none : Prop) (some : Nat → (Nat → Nat) → Prop) : Prop :=
  ((∀ m, m ≤ P → ¬ gr_can (gr_step w lv) (gr_so g) m rt) ∧ none) ∨ ∃ D l, 1 ≤ D ∧ D ≤ P ∧ gr_G (gr_step w lv) (gr_so g) D rt l ∧ (∀ m, m < D → ¬ gr_can (gr_step w lv) (gr_so g) m rt) ∧ some D l
theorem ys_371 {post : Int32 → SY → Prop} {P B L st : Nat} {w g lv : Int64} {rt : Int64 × Nat} {di : Nat → Nat} {c0 cl : Nat → Nat} {yf_hs yf_started yf_pu yf_moves yf_pushes yf_hn yf_solLen yf_curP yf_nextState : Int32} {ya_edit ya_goal ya_hFrom ya_hBf ya_hBt ya_sol ya_reach ya_stack ya_liveMark ya_liveIdx ya_liveCell ya_dist ya_sb ya_ob : Nat → Int32} (hP1 : 1 ≤ P) (hP : P ≤ 40) (hH : ys_H w lv B L ya_liveMark ya_liveIdx ya_liveCell) (hob : ∀ j, j < B → ya_ob j = nI (c0 j) ∧ c0 j < 64) (hst : st < 64 * L ^ B) (hsv : ys_V w lv L B st) (hsa : ys_ab lv L B st = rt)
    (hR : ys_R w g lv P rt (∀ cp ns re sk ds sb, post (-7) (nI P, yf_hs, yf_started, yf_pu, yf_moves, yf_pushes, yf_hn, 0, nI B, nI L, cp, ns, ya_edit, ce_A w, ya_goal, ce_A (gr_ms c0 B), ya_hFrom, ya_hBf, ya_hBt, ya_sol, re, sk, ya_liveMark, ya_liveIdx, ya_liveCell, ds, sb, ya_ob)) (fun D l => ∀ cp ns so re sk ds sb, (∀ i, i < D → so i = nI (l i)) → post (nI D) (nI P, yf_hs, yf_started, yf_pu, yf_moves, yf_pushes, yf_hn, nI D, nI B, nI L, cp, ns, ya_edit, ce_A w, ya_goal, ce_A (gr_ms c0 B), ya_hFrom, ya_hBf, ya_hBt, so, re, sk, ya_liveMark, ya_liveIdx, ya_liveCell, ds, sb, ya_ob)))
    (hdi : ∀ x, x < 64 * L ^ B → ya_dist x = nI (di x) ∧ di x ≤ 1000) (hsb : ∀ j, j < B → ya_sb j = nI (cl j) ∧ cl j < 64)
    (hA : gr_VA (gr_step w lv) (gr_so g) (ys_V w lv L B) (ys_ab lv L B) (64 * L ^ B) di)
    (hBd : (di st ≤ P → gr_VB (gr_step w lv) (gr_so g) (ys_V w lv L B) (ys_ab lv L B) (64 * L ^ B) di (di st)) ∧ (P < di st → gr_VB (gr_step w lv) (gr_so g) (ys_V w lv L B) (ys_ab lv L B) (64 * L ^ B) di P)) :
    wY_solve_371 post (nI st) (nI P) yf_hs yf_started yf_pu yf_moves yf_pushes yf_hn yf_solLen (nI B) (nI L) yf_curP yf_nextState ya_edit (ce_A w) ya_goal (ce_A (gr_ms cl B)) ya_hFrom ya_hBf ya_hBt ya_sol ya_reach ya_stack ya_liveMark ya_liveIdx ya_liveCell ya_dist ya_sb ya_ob := by
  have hH' := hH
  obtain ⟨a1, a2, a3, a4, a5, a6, a7, a8, a9⟩ := hH'
  have hpw := gr_pw a5
  have hd := hdi st hst
  have gd := gr_dist (gr_step w lv) (gr_so g) (ys_V w lv L B) (ys_ab lv L B) (64 * L ^ B) hA hst hsv hP hBd
  rw [hsa] at gd
  refine ⟨vp_in_nI (by omega) (by decide), nm_r (e' := nI (di st)) (by rw [nI_clamp (n := st) (by omega)]; exact hd.1) ?_⟩
  rcases hR with ⟨r1, r2⟩ | ⟨D, l, r1, r2, r3, r4, r5⟩
  · have hgt := gd.2 r1
    refine ⟨1, br_f (nI_ge (a := 0) (by omega) (by omega)) (br_t (nI_lt hgt (by omega)) ?_)⟩
    exact ys_459 hP a2 hd.2 hob hsb (fun z => by omega) (fun _ => r2 _ _ _ _ _ _)
  · have hD := gd.1 D r2 (gr_G_can _ _ _ _ _ r3) r4
    rw [hD]
    have hBD := hBd.1 (by omega)
    rw [hD] at hBD
    refine ⟨D + 1, ys_387 (g := g) (l := l) hP r2 hH hob hdi hA hBD (fun cp ns so re sk sb hso => r5 cp ns so re sk _ sb hso) D 0 st cl _ _ _ _ _ _ (by omega) hst hsv hD ?_ (fun j hj => by omega) hsb⟩
    rw [hsa]
    have ef : (fun j => l (0 + j)) = l := by
      funext j
      congr 1
      omega
    rw [ef]
    exact r3
theorem ys_304 {post : Int32 → SY → Prop} {J : Int32 → Int32 → Int32 → Int32 → Int32 → Int32 → Int32 → Int32 → Int32 → Int32 → Int32 → Int32 → Int32 → (Nat → Int32) → (Nat → Int32) → (Nat → Int32) → (Nat → Int32) → (Nat → Int32) → (Nat → Int32) → (Nat → Int32) → (Nat → Int32) → (Nat → Int32) → (Nat → Int32) → (Nat → Int32) → (Nat → Int32) → (Nat → Int32) → (Nat → Int32) → (Nat → Int32) → (Nat → Int32) → Prop} {P B L st r : Nat} {w g lv : Int64} {rt : Int64 × Nat} {d0 : Nat → Nat} {c0 : Nat → Nat} {yf_hs yf_started yf_pu yf_moves yf_pushes yf_hn yf_solLen yf_nextState : Int32} {ya_edit ya_goal ya_hFrom ya_hBf ya_hBt ya_sol ya_liveMark ya_liveIdx ya_liveCell ya_ob : Nat → Int32} (hP1 : 1 ≤ P) (hP : P ≤ 40) (hrP : r + 1 ≤ P) (hH : ys_H w lv B L ya_liveMark ya_liveIdx ya_liveCell) (hob : ∀ j, j < B → ya_ob j = nI (c0 j) ∧ c0 j < 64) (hst : st < 64 * L ^ B) (hsv : ys_V w lv L B st) (hsa : ys_ab lv L B st = rt)
    (hR : ys_R w g lv P rt (∀ cp ns re sk ds sb, post (-7) (nI P, yf_hs, yf_started, yf_pu, yf_moves, yf_pushes, yf_hn, 0, nI B, nI L, cp, ns, ya_edit, ce_A w, ya_goal, ce_A (gr_ms c0 B), ya_hFrom, ya_hBf, ya_hBt, ya_sol, re, sk, ya_liveMark, ya_liveIdx, ya_liveCell, ds, sb, ya_ob)) (fun D l => ∀ cp ns so re sk ds sb, (∀ i, i < D → so i = nI (l i)) → post (nI D) (nI P, yf_hs, yf_started, yf_pu, yf_moves, yf_pushes, yf_hn, nI D, nI B, nI L, cp, ns, ya_edit, ce_A w, ya_goal, ce_A (gr_ms c0 B), ya_hFrom, ya_hBf, ya_hBt, so, re, sk, ya_liveMark, ya_liveIdx, ya_liveCell, ds, sb, ya_ob)))
    (hJ : ∀ cp cl re sk ds sb di, (∀ x, x < 64 * L ^ B → ds x = nI (di x) ∧ di x ≤ 1000) → (∀ j, j < B → sb j = nI (cl j) ∧ cl j < 64) → gr_VA (gr_step w lv) (gr_so g) (ys_V w lv L B) (ys_ab lv L B) (64 * L ^ B) di → gr_VB (gr_step w lv) (gr_so g) (ys_V w lv L B) (ys_ab lv L B) (64 * L ^ B) di (r + 1) → J (nI (r + 2)) (nI P) yf_hs yf_started yf_pu yf_moves yf_pushes yf_hn yf_solLen (nI B) (nI L) (cp) yf_nextState ya_edit (ce_A w) ya_goal (ce_A (gr_ms cl B)) ya_hFrom ya_hBf ya_hBt ya_sol (re) (sk) ya_liveMark ya_liveIdx ya_liveCell (ds) (sb) ya_ob) :
    ∀ q s (ch : Bool) cp cl re sk ds sb di, s + q = 64 * L ^ B → (∀ x, x < 64 * L ^ B → ds x = nI (di x) ∧ di x ≤ 1000) → (∀ j, j < B → sb j = nI (cl j) ∧ cl j < 64) → gr_VR (gr_step w lv) (gr_so g) (ys_V w lv L B) (ys_ab lv L B) (ys_en lv L B) (64 * L ^ B) d0 di ch r s →
      wY_solve_304 post J (nI (64 * L ^ B)) (nI st) (nI (r + 1)) (q + 1) (rl_1 ch) (nI s) (nI P) yf_hs yf_started yf_pu yf_moves yf_pushes yf_hn yf_solLen (nI B) (nI L) (cp) yf_nextState ya_edit (ce_A w) ya_goal (ce_A (gr_ms cl B)) ya_hFrom ya_hBf ya_hBt ya_sol (re) (sk) ya_liveMark ya_liveIdx ya_liveCell (ds) (sb) ya_ob := by
  have hH' := hH
  obtain ⟨a1, a2, a3, a4, a5, a6, a7, a8, a9⟩ := hH'
  have hpw := gr_pw a5
  have hen := ys_hen (w := w) (B := B) a3 a4 a6
  intro q
  induction q with
  | zero =>
    intro s ch cp cl re sk ds sb di hq hdi hsb hVR
    have e : s = 64 * L ^ B := by omega
    subst e
    have hE := gr_VRend _ _ _ _ _ _ hVR
    have hd := hdi st hst
    refine br_t (nI_le (Nat.le_refl _) (by omega)) ⟨vp_in_nI (by omega) (by decide), ?_⟩
    rw [nI_clamp (n := st) (by omega), hd.1]
    refine pk_le (di st) (r + 1) (fun z => ?_) (fun z => ?_)
    · refine ys_371 (g := g) hP1 hP hH hob hst hsv hsa hR hdi hsb hE.1 ⟨fun _ s' h1 h2 m hm hc => hE.2 s' h1 h2 m (by omega) hc, fun y => by omega⟩
    · refine rl_br (fun ec => ?_) (fun ec => nm_r (nI_1 (r + 1)) (hJ cp cl re sk ds sb di hdi hsb hE.1 hE.2))
      subst ec
      have hfix := gr_VRfix _ _ _ _ _ _ hen hVR
      exact ys_371 (g := g) hP1 hP hH hob hst hsv hsa hR hdi hsb hE.1 ⟨fun _ => hfix _, fun _ => hfix _⟩
  | succ q ih =>
    intro s ch cp cl re sk ds sb di hq hdi hsb hVR
    have hs : s < 64 * L ^ B := by omega
    have hcl' : ∀ sb' : Nat → Int32, (∀ j, j < B → sb' j = nI (ys_cl lv L B s j)) → ∀ j, j < B → sb' j = nI (ys_cl lv L B s j) ∧ ys_cl lv L B s j < 64 := fun sb' h j hj => ⟨h j hj, (ys_cl_ok a3 a4 B s j).2⟩
    refine br_f (nI_ge (by omega) (by omega)) ?_
    refine ys_load (cl := cl) a1 a2 a3 a4 (by omega) a9 hsb (fun sb' hsb' hV => ?_) (fun sb' hsb' hV => ?_)
    · refine br_f (by decide) ⟨vp_in_nI (by omega) (by decide), ?_⟩
      have hd1000 := (hdi s hs).2
      rw [nI_clamp (n := s) (by omega), (hdi s hs).1]
      refine pk_le (di s) 0 (fun z => nm_r (nI_1 s) (ih (s + 1) ch _ _ _ _ _ _ di (by omega) hdi (hcl' sb' hsb') (gr_VRskip _ _ _ _ _ _ hVR (Or.inr (by omega))))) (fun z => ?_)
      refine ys_relax (g := g) a5 hH hV hsb' hs hdi (fun re' sk' hx => ?_) (fun re' sk' be hx hlt => ?_)
      · exact br_t rfl (nm_r (nI_1 s) (ih (s + 1) ch _ _ _ _ _ _ di (by omega) hdi (hcl' sb' hsb') (gr_VRkeep _ _ _ _ _ _ hen hVR hs hV hx z)))
      · refine br_f (by decide) (nm_r (nI_1 s) (ih (s + 1) true _ _ _ _ _ _ (fun x => if x = s then be else di x) (by omega) (fun x hx' => ?_) (hcl' sb' hsb') (gr_VRput _ _ _ _ _ _ hen hVR hs hV hx hlt (if_pos rfl) (fun x hx' => if_neg hx'))))
        show upd ds s (nI be) x = nI (if x = s then be else di x) ∧ (if x = s then be else di x) ≤ 1000
        by_cases y : x = s
        · subst y
          rw [pk_us, if_pos rfl]
          exact ⟨rfl, by have := (hdi x hs).2; omega⟩
        · rw [pk_un y, if_neg y]; exact hdi x hx'
    · exact br_t rfl (nm_r (nI_1 s) (ih (s + 1) ch _ _ _ _ _ _ di (by omega) hdi (hcl' sb' hsb') (gr_VRskip _ _ _ _ _ _ hVR (Or.inl hV))))
theorem ys_290 {post : Int32 → SY → Prop} {P B L st : Nat} {w g lv : Int64} {rt : Int64 × Nat} {c0 : Nat → Nat} {yf_hs yf_started yf_pu yf_moves yf_pushes yf_hn yf_solLen yf_nextState : Int32} {ya_edit ya_goal ya_hFrom ya_hBf ya_hBt ya_sol ya_liveMark ya_liveIdx ya_liveCell ya_ob : Nat → Int32} (hP1 : 1 ≤ P) (hP : P ≤ 40) (hH : ys_H w lv B L ya_liveMark ya_liveIdx ya_liveCell) (hob : ∀ j, j < B → ya_ob j = nI (c0 j) ∧ c0 j < 64) (hst : st < 64 * L ^ B) (hsv : ys_V w lv L B st) (hsa : ys_ab lv L B st = rt)
    (hR : ys_R w g lv P rt (∀ cp ns re sk ds sb, post (-7) (nI P, yf_hs, yf_started, yf_pu, yf_moves, yf_pushes, yf_hn, 0, nI B, nI L, cp, ns, ya_edit, ce_A w, ya_goal, ce_A (gr_ms c0 B), ya_hFrom, ya_hBf, ya_hBt, ya_sol, re, sk, ya_liveMark, ya_liveIdx, ya_liveCell, ds, sb, ya_ob)) (fun D l => ∀ cp ns so re sk ds sb, (∀ i, i < D → so i = nI (l i)) → post (nI D) (nI P, yf_hs, yf_started, yf_pu, yf_moves, yf_pushes, yf_hn, nI D, nI B, nI L, cp, ns, ya_edit, ce_A w, ya_goal, ce_A (gr_ms c0 B), ya_hFrom, ya_hBf, ya_hBt, so, re, sk, ya_liveMark, ya_liveIdx, ya_liveCell, ds, sb, ya_ob))) :
    ∀ q r cp cl re sk ds sb di, r + q = P → (∀ x, x < 64 * L ^ B → ds x = nI (di x) ∧ di x ≤ 1000) → (∀ j, j < B → sb j = nI (cl j) ∧ cl j < 64) → gr_VA (gr_step w lv) (gr_so g) (ys_V w lv L B) (ys_ab lv L B) (64 * L ^ B) di → gr_VB (gr_step w lv) (gr_so g) (ys_V w lv L B) (ys_ab lv L B) (64 * L ^ B) di r →
      wY_solve_290 post (nI (64 * L ^ B)) (nI st) (q + 1) (nI (r + 1)) (nI P) yf_hs yf_started yf_pu yf_moves yf_pushes yf_hn yf_solLen (nI B) (nI L) (cp) yf_nextState ya_edit (ce_A w) ya_goal (ce_A (gr_ms cl B)) ya_hFrom ya_hBf ya_hBt ya_sol (re) (sk) ya_liveMark ya_liveIdx ya_liveCell (ds) (sb) ya_ob := by
  intro q
  induction q with
  | zero =>
    intro r cp cl re sk ds sb di hq hdi hsb hA hB
    have e : r = P := by omega
    subst e
    exact br_t (nI_lt (by omega) (by omega)) (ys_371 (g := g) hP1 hP hH hob hst hsv hsa hR hdi hsb hA ⟨fun z s' h1 h2 m hm hc => hB s' h1 h2 m (by omega) hc, fun _ => hB⟩)
  | succ q ih =>
    intro r cp cl re sk ds sb di hq hdi hsb hA hB
    exact br_f (nI_nlt (by omega) (by omega)) ⟨64 * L ^ B + 1, ys_304 (g := g) (d0 := di) hP1 hP (by omega) hH hob hst hsv hsa hR (fun cp' cl' re' sk' ds' sb' di' k1 k2 k3 k4 => ih (r + 1) cp' cl' re' sk' ds' sb' di' (by omega) k1 k2 k3 k4) (64 * L ^ B) 0 false cp cl re sk ds sb di (by omega) hdi hsb (gr_VR0 _ _ _ _ _ _ hA hB)⟩
theorem ys_246 {post : Int32 → SY → Prop} {P B L st : Nat} {w g lv : Int64} {rt : Int64 × Nat} {c0 : Nat → Nat} {yf_hs yf_started yf_pu yf_moves yf_pushes yf_hn yf_solLen yf_nextState : Int32} {ya_edit ya_hFrom ya_hBf ya_hBt ya_sol ya_reach ya_stack ya_liveMark ya_liveIdx ya_liveCell ya_ob : Nat → Int32} (hP1 : 1 ≤ P) (hP : P ≤ 40) (hH : ys_H w lv B L ya_liveMark ya_liveIdx ya_liveCell) (hob : ∀ j, j < B → ya_ob j = nI (c0 j) ∧ c0 j < 64) (hst : st < 64 * L ^ B) (hsv : ys_V w lv L B st) (hsa : ys_ab lv L B st = rt)
    (hR : ys_R w g lv P rt (∀ cp ns re sk ds sb, post (-7) (nI P, yf_hs, yf_started, yf_pu, yf_moves, yf_pushes, yf_hn, 0, nI B, nI L, cp, ns, ya_edit, ce_A w, ce_A g, ce_A (gr_ms c0 B), ya_hFrom, ya_hBf, ya_hBt, ya_sol, re, sk, ya_liveMark, ya_liveIdx, ya_liveCell, ds, sb, ya_ob)) (fun D l => ∀ cp ns so re sk ds sb, (∀ i, i < D → so i = nI (l i)) → post (nI D) (nI P, yf_hs, yf_started, yf_pu, yf_moves, yf_pushes, yf_hn, nI D, nI B, nI L, cp, ns, ya_edit, ce_A w, ce_A g, ce_A (gr_ms c0 B), ya_hFrom, ya_hBf, ya_hBt, so, re, sk, ya_liveMark, ya_liveIdx, ya_liveCell, ds, sb, ya_ob))) :
    ∀ q s cp cl ds sb (di : Nat → Nat), s + q = 64 * L ^ B → (∀ x, x < s → ds x = nI (di x) ∧ (ys_V w lv L B x ∧ gr_so g (ys_ab lv L B x) → di x = 0) ∧ (¬ (ys_V w lv L B x ∧ gr_so g (ys_ab lv L B x)) → di x = 1000)) → (∀ j, j < B → sb j = nI (cl j) ∧ cl j < 64) →
      wY_solve_246 post (nI (64 * L ^ B)) (nI st) (q + 1) (nI s) (nI P) yf_hs yf_started yf_pu yf_moves yf_pushes yf_hn yf_solLen (nI B) (nI L) (cp) yf_nextState ya_edit (ce_A w) (ce_A g) (ce_A (gr_ms cl B)) ya_hFrom ya_hBf ya_hBt ya_sol ya_reach ya_stack ya_liveMark ya_liveIdx ya_liveCell (ds) (sb) ya_ob := by
  have hH' := hH
  obtain ⟨a1, a2, a3, a4, a5, a6, a7, a8, a9⟩ := hH'
  have hpw := gr_pw a5
  intro q
  induction q with
  | zero =>
    intro s cp cl ds sb di hq hdi hsb
    have e : s = 64 * L ^ B := by omega
    subst e
    refine br_t (nI_le (Nat.le_refl _) (by omega)) ⟨P + 1, ys_290 (g := g) hP1 hP hH hob hst hsv hsa hR P 0 cp cl _ _ ds sb di (by omega) (fun x hx => ?_) hsb (fun x hx hv => ?_) (fun x hx hv m hm hc => ?_)⟩
    · obtain ⟨h1, h2, h3⟩ := hdi x hx
      refine ⟨h1, ?_⟩
      by_cases z : ys_V w lv L B x ∧ gr_so g (ys_ab lv L B x)
      · rw [h2 z]; decide
      · rw [h3 z]; decide
    · obtain ⟨h1, h2, h3⟩ := hdi x hx
      by_cases z : ys_V w lv L B x ∧ gr_so g (ys_ab lv L B x)
      · rw [h2 z]; exact ⟨by decide, fun _ => z.2⟩
      · rw [h3 z]; exact ⟨by decide, fun y => absurd y (by decide)⟩
    · have : m = 0 := by omega
      subst this
      rw [(hdi x hx).2.1 ⟨hv, hc⟩]
      exact Nat.le_refl 0
  | succ q ih =>
    intro s cp cl ds sb di hq hdi hsb
    have hs : s < 64 * L ^ B := by omega
    have hcl' : ∀ sb' : Nat → Int32, (∀ j, j < B → sb' j = nI (ys_cl lv L B s j)) → ∀ j, j < B → sb' j = nI (ys_cl lv L B s j) ∧ ys_cl lv L B s j < 64 := fun sb' h j hj => ⟨h j hj, (ys_cl_ok a3 a4 B s j).2⟩
    have ec : (nI s).toNatClampNeg = s := nI_clamp (by omega)
    have ev : vp_in (nI s) 13824 := vp_in_nI (by omega) (by decide)
    have big : ∀ sb', (∀ j, j < B → sb' j = nI (ys_cl lv L B s j)) → ¬ (ys_V w lv L B s ∧ gr_so g (ys_ab lv L B s)) → wY_solve_246 post (nI (64 * L ^ B)) (nI st) (q + 1) (nI (s + 1)) (nI P) yf_hs yf_started yf_pu yf_moves yf_pushes yf_hn yf_solLen (nI B) (nI L) (nI (s % 64)) yf_nextState ya_edit (ce_A w) (ce_A g) (ce_A (gr_ms (ys_cl lv L B s) B)) ya_hFrom ya_hBf ya_hBt ya_sol ya_reach ya_stack ya_liveMark ya_liveIdx ya_liveCell (upd ds s 1000) (sb') ya_ob := by
      intro sb' hsb' hn
      refine ih (s + 1) _ _ _ _ (fun x => if x = s then 1000 else di x) (by omega) (fun x hx => ?_) (hcl' sb' hsb')
      by_cases y : x = s
      · subst y
        rw [pk_us, if_pos rfl]
        exact ⟨rfl, fun z => absurd z hn, fun _ => rfl⟩
      · rw [pk_un y, if_neg y]; exact hdi x (by omega)
    refine br_f (nI_ge (by omega) (by omega)) ⟨ev, nm_r (e' := upd ds s 1000) (by rw [ec]) ?_⟩
    refine ys_load (cl := cl) a1 a2 a3 a4 (by omega) a9 hsb (fun sb' hsb' hV => ?_) (fun sb' hsb' hV => ?_)
    · refine br_f (by decide) (ys_goals (cl := ys_cl lv L B s) (p := s % 64) a2 (hcl' sb' hsb') (fun hso => ?_) (fun hso => br_t rfl (nm_r (nI_1 s) (big sb' hsb' (fun z => hso z.2)))))
      refine br_f (by decide) ⟨ev, nm_r (e' := upd (upd ds s 1000) s 0) (by rw [ec]) (nm_r (nI_1 s) ?_)⟩
      refine ih (s + 1) _ _ _ _ (fun x => if x = s then 0 else di x) (by omega) (fun x hx => ?_) (hcl' sb' hsb')
      by_cases y : x = s
      · subst y
        rw [pk_us, if_pos rfl]
        exact ⟨rfl, fun _ => rfl, fun z => absurd ⟨hV, hso⟩ z⟩
      · rw [pk_un y, pk_un y, if_neg y]; exact hdi x (by omega)
    · exact br_t rfl (nm_r (nI_1 s) (big sb' hsb' (fun z => hV z.1)))
