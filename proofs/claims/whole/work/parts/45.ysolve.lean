/-! the reference's solve: the way in -/
theorem gr_sel_ms {b : Int64} {B : Nat} (hB : ce_rk b 64 = B) : (∀ j, j < B → ce_b b (gr_sel b 64 j) = true ∧ gr_sel b 64 j < 64) ∧ gr_ms (gr_sel b 64) B = b ∧ (∀ i j, i < B → j < B → i ≠ j → gr_sel b 64 i ≠ gr_sel b 64 j) := by
  have h1 : ∀ j, j < B → ce_b b (gr_sel b 64 j) = true ∧ ce_rk b (gr_sel b 64 j) = j := fun j hj => gr_sel_ok 64 (by rw [hB]; exact hj)
  have h2 : ∀ j, j < B → gr_sel b 64 j < 64 := fun j hj => ce_lt (h1 j hj).1
  refine ⟨fun j hj => ⟨(h1 j hj).1, h2 j hj⟩, ?_, fun i j hi hj hij e => ?_⟩
  · apply ce_ext
    intro c _
    have e : ce_b (gr_ms (gr_sel b 64) B) c = true ↔ ce_b b c = true := by
      rw [gr_msT B h2]
      constructor
      · rintro ⟨j, j1, j2⟩
        rw [← j2]; exact (h1 j j1).1
      · intro hc
        exact ⟨ce_rk b c, by rw [← hB]; exact ce_rk_lt hc (ce_lt hc), gr_sel_rk hc 64 (ce_lt hc)⟩
    cases z1 : ce_b (gr_ms (gr_sel b 64) B) c <;> cases z2 : ce_b b c <;> simp_all
  · have e1 := (h1 i hi).2
    have e2 := (h1 j hj).2
    rw [e, e2] at e1
    exact hij e1.symm
theorem ys_212 {post : Int32 → SY → Prop} {P B L p : Nat} {w g lv b : Int64} {yf_hs yf_started yf_moves yf_pushes yf_hn yf_solLen yf_curP yf_nextState : Int32} {ya_edit ya_hFrom ya_hBf ya_hBt ya_sol ya_reach ya_stack ya_liveMark ya_liveIdx ya_liveCell ya_dist ya_sb ya_ob : Nat → Int32} (hP1 : 1 ≤ P) (hP : P ≤ 40) (hH : ys_H w lv B L ya_liveMark ya_liveIdx ya_liveCell) (hb : ce_rk b 64 = B) (hbl : ∀ c, ce_b b c = true → ce_b lv c = true) (hp : p < 64) (hpw : ce_b w p = false) (hpb : ce_b b p = false)
    (hob : ∀ j, j < B → ya_ob j = nI (gr_sel b 64 j)) (hsb : ∀ j, j < B → ya_sb j = nI (gr_sel b 64 j))
    (hR : ys_R w g lv P (b, p) (∀ cp ns re sk ds sb, post (-7) (nI P, yf_hs, yf_started, nI p, yf_moves, yf_pushes, yf_hn, 0, nI B, nI L, cp, ns, ya_edit, ce_A w, ce_A g, ce_A b, ya_hFrom, ya_hBf, ya_hBt, ya_sol, re, sk, ya_liveMark, ya_liveIdx, ya_liveCell, ds, sb, ya_ob)) (fun D l => ∀ cp ns so re sk ds sb, (∀ i, i < D → so i = nI (l i)) → post (nI D) (nI P, yf_hs, yf_started, nI p, yf_moves, yf_pushes, yf_hn, nI D, nI B, nI L, cp, ns, ya_edit, ce_A w, ce_A g, ce_A b, ya_hFrom, ya_hBf, ya_hBt, so, re, sk, ya_liveMark, ya_liveIdx, ya_liveCell, ds, sb, ya_ob))) :
    ∀ q i, i + q = B → wY_solve_212 post (nI P) yf_hs yf_started (nI p) yf_moves yf_pushes yf_hn yf_solLen (nI B) (nI L) yf_curP yf_nextState ya_edit (ce_A w) (ce_A g) (ce_A b) ya_hFrom ya_hBf ya_hBt ya_sol ya_reach ya_stack ya_liveMark ya_liveIdx ya_liveCell ya_dist ya_sb ya_ob (q + 1) (nI (64 * L ^ i)) (nI i) := by
  have hH' := hH
  obtain ⟨a1, a2, a3, a4, a5, a6, a7, a8, a9⟩ := hH'
  obtain ⟨s1, s2, s3⟩ := gr_sel_ms hb
  intro q
  induction q with
  | zero =>
    intro i hi
    have e : i = B := by omega
    subst e
    refine br_t (nI_le (Nat.le_refl i) (by omega)) ?_
    have rp : ∀ j, j < i → gr_rp (gr_sel b 64) i 0 j = gr_sel b 64 j := fun j hj => if_neg (by omega)
    have lvj : ∀ j, j < i → ce_b lv (gr_rp (gr_sel b 64) i 0 j) = true := fun j hj => by rw [rp j hj]; exact hbl _ (s1 j hj).1
    refine ys_enc (lv := lv) (k := i) (a := 0) (cl := gr_sel b 64) a2 (fun j hj => ⟨fun z => ?_, fun z => by omega⟩) (fun z => by omega) (fun j hj => ⟨hsb j hj, (s1 j hj).2⟩) (fun j hj => a8 _ (lvj j hj)) ?_
    · have := nI_pos (n := j) (by omega)
      rw [z] at this
      exact absurd (by decide) this
    · obtain ⟨c1, c2, c3⟩ := ys_code (B := i) a3 lvj hp
      have em : gr_ms (ys_cl lv L i (gr_cd L (fun j => ce_rk lv (gr_rp (gr_sel b 64) i 0 j)) i * 64 + p)) i = b := by
        exact (gr_ms_congr i (fun j hj => (c2 j hj).trans (rp j hj))).trans s2
      have := ys_246 (post := post) (yf_solLen := yf_solLen) (yf_nextState := yf_nextState) (ya_reach := ya_reach) (ya_stack := ya_stack) (c0 := gr_sel b 64) (w := w) (g := g) (lv := lv) (rt := (b, p)) (L := L) (B := i) (st := gr_cd L (fun j => ce_rk lv (gr_rp (gr_sel b 64) i 0 j)) i * 64 + p) hP1 hP hH (fun j hj => ⟨hob j hj, (s1 j hj).2⟩) c1 ⟨fun x y hx hy hxy => by rw [c2 x hx, c2 y hy, rp x hx, rp y hy]; exact s3 x y hx hy hxy, by rw [c3]; exact hpw, by rw [em, c3]; exact hpb⟩ (by unfold ys_ab; rw [em, c3]) (by rw [s2]; exact hR) (64 * L ^ i) 0 yf_curP (gr_sel b 64) ya_dist ya_sb (fun _ => 0) (by omega) (fun x hx => by omega) (fun j hj => ⟨hsb j hj, (s1 j hj).2⟩)
      rw [s2] at this
      exact ⟨64 * L ^ i + 1, this⟩
  | succ q ih =>
    intro i hi
    have := ih (i + 1) (by omega)
    exact br_f (nI_ge (by omega) (by omega)) (nm_r (e' := nI (64 * L ^ (i + 1))) (by rw [pk_mul, Nat.pow_succ, Nat.mul_assoc]) (nm_r (nI_1 i) this))
theorem ys_181 {post : Int32 → SY → Prop} {P B L p : Nat} {w g lv b : Int64} {yf_hs yf_started yf_moves yf_pushes yf_hn yf_solLen yf_curP yf_nextState : Int32} {ya_edit ya_hFrom ya_hBf ya_hBt ya_sol ya_reach ya_stack ya_liveMark ya_liveIdx ya_liveCell ya_dist ya_ob : Nat → Int32} (hP1 : 1 ≤ P) (hP : P ≤ 40) (hH : ys_H w lv B L ya_liveMark ya_liveIdx ya_liveCell) (hb : ce_rk b 64 = B) (hbl : ∀ c, ce_b b c = true → ce_b lv c = true) (hp : p < 64) (hpw : ce_b w p = false) (hpb : ce_b b p = false)
    (hob : ∀ j, j < B → ya_ob j = nI (gr_sel b 64 j))
    (hR : ys_R w g lv P (b, p) (∀ cp ns re sk ds sb, post (-7) (nI P, yf_hs, yf_started, nI p, yf_moves, yf_pushes, yf_hn, 0, nI B, nI L, cp, ns, ya_edit, ce_A w, ce_A g, ce_A b, ya_hFrom, ya_hBf, ya_hBt, ya_sol, re, sk, ya_liveMark, ya_liveIdx, ya_liveCell, ds, sb, ya_ob)) (fun D l => ∀ cp ns so re sk ds sb, (∀ i, i < D → so i = nI (l i)) → post (nI D) (nI P, yf_hs, yf_started, nI p, yf_moves, yf_pushes, yf_hn, nI D, nI B, nI L, cp, ns, ya_edit, ce_A w, ce_A g, ce_A b, ya_hFrom, ya_hBf, ya_hBt, so, re, sk, ya_liveMark, ya_liveIdx, ya_liveCell, ds, sb, ya_ob))) :
    ∀ q i sb, i + q = B → (∀ j, j < i → sb j = nI (gr_sel b 64 j)) → wY_solve_181 post (nI P) yf_hs yf_started (nI p) yf_moves yf_pushes yf_hn yf_solLen (nI B) (nI L) yf_curP yf_nextState (q + 1) (nI i) ya_edit (ce_A w) (ce_A g) (ce_A b) ya_hFrom ya_hBf ya_hBt ya_sol ya_reach ya_stack ya_liveMark ya_liveIdx ya_liveCell ya_dist (sb) ya_ob := by
  have hB := hH.2.1
  intro q
  induction q with
  | zero =>
    intro i sb hi hsb
    have e : i = B := by omega
    subst e
    have := ys_212 (post := post) (yf_solLen := yf_solLen) (yf_curP := yf_curP) (yf_nextState := yf_nextState) (ya_reach := ya_reach) (ya_stack := ya_stack) (ya_dist := ya_dist) (ya_sb := sb) hP1 hP hH hb hbl hp hpw hpb hob hsb hR i 0 (by omega)
    rw [Nat.pow_zero, Nat.mul_one] at this
    exact br_t (nI_le (Nat.le_refl i) (by omega)) ⟨i + 1, this⟩
  | succ q ih =>
    intro i sb hi hsb
    have v : vp_in (nI i) 3 := vp_in_nI (by omega) (by decide)
    refine br_f (nI_ge (by omega) (by omega)) ⟨v, v, nm_r (e' := upd sb i (nI (gr_sel b 64 i))) (by rw [nI_clamp (n := i) (by omega), hob i (by omega)]) (nm_r (nI_1 i) (ih (i + 1) _ (by omega) (fun j hj => ?_)))⟩
    by_cases z : j = i
    · subst z; rw [pk_us]
    · rw [pk_un z]; exact hsb j (by omega)
theorem ys_143 {post : Int32 → SY → Prop} {P B L p : Nat} {w g lv b : Int64} {yf_hs yf_started yf_moves yf_pushes yf_hn yf_solLen yf_curP yf_nextState : Int32} {ya_edit ya_hFrom ya_hBf ya_hBt ya_sol ya_reach ya_stack ya_liveMark ya_liveIdx ya_liveCell ya_dist ya_sb ya_ob : Nat → Int32} (hP1 : 1 ≤ P) (hP : P ≤ 40) (hH : ys_H w lv B L ya_liveMark ya_liveIdx ya_liveCell) (hb : ce_rk b 64 = B) (hp : p < 64) (hpw : ce_b w p = false) (hpb : ce_b b p = false)
    (hob : ∀ j, j < B → ya_ob j = nI (gr_sel b 64 j))
    (hN : ¬ (∀ c, ce_b b c = true → ce_b lv c = true) → post (-7) (nI P, yf_hs, yf_started, nI p, yf_moves, yf_pushes, yf_hn, 0, nI B, nI L, yf_curP, yf_nextState, ya_edit, ce_A w, ce_A g, ce_A b, ya_hFrom, ya_hBf, ya_hBt, ya_sol, ya_reach, ya_stack, ya_liveMark, ya_liveIdx, ya_liveCell, ya_dist, ya_sb, ya_ob))
    (hR : (∀ c, ce_b b c = true → ce_b lv c = true) → ys_R w g lv P (b, p) (∀ cp ns re sk ds sb, post (-7) (nI P, yf_hs, yf_started, nI p, yf_moves, yf_pushes, yf_hn, 0, nI B, nI L, cp, ns, ya_edit, ce_A w, ce_A g, ce_A b, ya_hFrom, ya_hBf, ya_hBt, ya_sol, re, sk, ya_liveMark, ya_liveIdx, ya_liveCell, ds, sb, ya_ob)) (fun D l => ∀ cp ns so re sk ds sb, (∀ i, i < D → so i = nI (l i)) → post (nI D) (nI P, yf_hs, yf_started, nI p, yf_moves, yf_pushes, yf_hn, nI D, nI B, nI L, cp, ns, ya_edit, ce_A w, ce_A g, ce_A b, ya_hFrom, ya_hBf, ya_hBt, so, re, sk, ya_liveMark, ya_liveIdx, ya_liveCell, ds, sb, ya_ob))) :
    ∀ q i, i + q = B → (∀ j, j < i → ce_b lv (gr_sel b 64 j) = true) → wY_solve_143 post (nI P) yf_hs yf_started (nI p) yf_moves yf_pushes yf_hn yf_solLen (nI B) (nI L) yf_curP yf_nextState ya_edit (ce_A w) (ce_A g) (ce_A b) ya_hFrom ya_hBf ya_hBt ya_sol ya_reach ya_stack ya_liveMark ya_liveIdx ya_liveCell ya_dist ya_sb ya_ob (q + 1) (nI i) := by
  have hB := hH.2.1
  have hlm := hH.2.2.2.2.2.2.1
  obtain ⟨s1, s2, s3⟩ := gr_sel_ms hb
  intro q
  induction q with
  | zero =>
    intro i hi h
    have e : i = B := by omega
    subst e
    have hbl : ∀ c, ce_b b c = true → ce_b lv c = true := by
      intro c hc
      have := h (ce_rk b c) (by rw [← hb]; exact ce_rk_lt hc (ce_lt hc))
      rw [gr_sel_rk hc 64 (ce_lt hc)] at this
      exact this
    exact br_t (nI_le (Nat.le_refl i) (by omega)) ⟨i + 1, ys_181 hP1 hP hH hb hbl hp hpw hpb hob (hR hbl) i 0 _ (by omega) (fun j hj => by omega)⟩
  | succ q ih =>
    intro i hi h
    obtain ⟨t1, t2⟩ := s1 i (by omega)
    refine br_f (nI_ge (by omega) (by omega)) ⟨vp_in_nI (by omega) (by decide), ?_⟩
    rw [nI_clamp (n := i) (by omega), hob i (by omega)]
    refine ⟨vp_in_nI t2 (by decide), ?_⟩
    rw [nI_clamp (n := gr_sel b 64 i) (by omega), hlm _ t2]
    cases hl : ce_b lv (gr_sel b 64 i)
    · exact br_t (ce_Af hl) (hN (fun z => by rw [z _ t1] at hl; cases hl))
    · refine br_f (by rw [ce_At hl]; decide) (nm_r (nI_1 i) (ih (i + 1) (by omega) (fun j hj => ?_)))
      by_cases z : j = i
      · subst z; exact hl
      · exact h j (by omega)
theorem ys_30 {post : Int32 → SY → Prop} {P B p : Nat} {w g b : Int64} {yf_hs yf_started yf_moves yf_pushes yf_hn yf_solLen yf_nL yf_curP yf_nextState : Int32} {ya_edit ya_hFrom ya_hBf ya_hBt ya_sol ya_reach ya_stack ya_liveMark ya_liveIdx ya_liveCell ya_dist ya_sb : Nat → Int32} (hP1 : 1 ≤ P) (hP : P ≤ 40) (hB1 : 1 ≤ B) (hB3 : B ≤ 3) (hg : ce_rk g 64 = B) (hgw : ∀ c, ce_b g c = true → ce_b w c = false) (hV : rl_V w B b p)
    (h2 : ¬ gr_fit B (ce_rk (gr_live w g) 64) → ∀ lm li lc ob, post (-6) (nI P, yf_hs, yf_started, nI p, yf_moves, yf_pushes, yf_hn, yf_solLen, nI B, nI (ce_rk (gr_live w g) 64), yf_curP, yf_nextState, ya_edit, ce_A w, ce_A g, ce_A b, ya_hFrom, ya_hBf, ya_hBt, ya_sol, ya_reach, ya_stack, lm, li, lc, ya_dist, ya_sb, ob))
    (hN : gr_fit B (ce_rk (gr_live w g) 64) → ¬ (∀ c, ce_b b c = true → ce_b (gr_live w g) c = true) → ∀ lm li lc ob, post (-7) (nI P, yf_hs, yf_started, nI p, yf_moves, yf_pushes, yf_hn, 0, nI B, nI (ce_rk (gr_live w g) 64), yf_curP, yf_nextState, ya_edit, ce_A w, ce_A g, ce_A b, ya_hFrom, ya_hBf, ya_hBt, ya_sol, ya_reach, ya_stack, lm, li, lc, ya_dist, ya_sb, ob))
    (hR : gr_fit B (ce_rk (gr_live w g) 64) → (∀ c, ce_b b c = true → ce_b (gr_live w g) c = true) → ∀ lm li lc ob, ys_R w g (gr_live w g) P (b, p) (∀ cp ns re sk ds sb, post (-7) (nI P, yf_hs, yf_started, nI p, yf_moves, yf_pushes, yf_hn, 0, nI B, nI (ce_rk (gr_live w g) 64), cp, ns, ya_edit, ce_A w, ce_A g, ce_A b, ya_hFrom, ya_hBf, ya_hBt, ya_sol, re, sk, lm, li, lc, ds, sb, ob)) (fun D l => ∀ cp ns so re sk ds sb, (∀ i, i < D → so i = nI (l i)) → post (nI D) (nI P, yf_hs, yf_started, nI p, yf_moves, yf_pushes, yf_hn, nI D, nI B, nI (ce_rk (gr_live w g) 64), cp, ns, ya_edit, ce_A w, ce_A g, ce_A b, ya_hFrom, ya_hBf, ya_hBt, so, re, sk, lm, li, lc, ds, sb, ob))) :
    ∀ q i ob, i + q = 64 → (∀ c, c < i → ce_b b c = true → ob (ce_rk b c) = nI c) → wY_solve_30 post (nI P) yf_hs yf_started (nI p) yf_moves yf_pushes yf_hn yf_solLen yf_nL yf_curP yf_nextState (q + 1) (nI i) (nI (ce_rk b i)) ya_edit (ce_A w) (ce_A g) (ce_A b) ya_hFrom ya_hBf ya_hBt ya_sol ya_reach ya_stack ya_liveMark ya_liveIdx ya_liveCell ya_dist ya_sb (ob) := by
  obtain ⟨v1, v2, v3, v4, v5⟩ := hV
  intro q
  induction q with
  | zero =>
    intro i ob hi hob
    have e : i = 64 := by omega
    subst e
    rw [v5]
    refine br_t (nI_le (a := 64) (by omega) (by omega)) (ys_live (fun lm li lc l1 l2 l3 => ?_))
    have hL64 := ce_rk_le (gr_live w g) 64
    have hL1 : 1 ≤ ce_rk (gr_live w g) 64 := by
      have := ce_sub_le (x := g) (y := gr_live w g) (fun c hc => gr_live_goal hc) 64
      omega
    have hob' : ∀ j, j < B → ob j = nI (gr_sel b 64 j) := by
      intro j hj
      have := gr_sel_ok (lv := b) (j := j) 64 (by rw [v5]; exact hj)
      have h := hob _ (ce_lt this.1) this.1
      rw [this.2] at h
      exact h
    have hlc : ∀ j, j < ce_rk (gr_live w g) 64 → lc j = nI (gr_sel (gr_live w g) 64 j) := by
      intro j hj
      have := gr_sel_ok (lv := gr_live w g) (j := j) 64 hj
      have h := l3 _ this.1
      rw [this.2] at h
      exact h
    have go : gr_fit B (ce_rk (gr_live w g) 64) → ∃ n : Nat, wY_solve_143 post (nI P) yf_hs yf_started (nI p) yf_moves yf_pushes yf_hn yf_solLen (nI B) (nI (ce_rk (gr_live w g) 64)) yf_curP yf_nextState ya_edit (ce_A w) (ce_A g) (ce_A b) ya_hFrom ya_hBf ya_hBt ya_sol ya_reach ya_stack (lm) (li) (lc) ya_dist ya_sb (ob) n 0 := fun hf =>
      ⟨B + 1, ys_143 (L := ce_rk (gr_live w g) 64) hP1 hP ⟨hB1, hB3, rfl, hL1, hf, fun c hc => gr_live_wall hgw hc, l1, l2, hlc⟩ v5 v1 v2 v3 hob' (fun z => hN hf z lm li lc ob) (fun z => hR hf z lm li lc ob) B 0 (by omega) (fun j hj => by omega)⟩
    have no : ¬ gr_fit B (ce_rk (gr_live w g) 64) → wY_solve_121 post (nI P) yf_hs yf_started (nI p) yf_moves yf_pushes yf_hn yf_solLen (nI B) (nI (ce_rk (gr_live w g) 64)) yf_curP yf_nextState ya_edit (ce_A w) (ce_A g) (ce_A b) ya_hFrom ya_hBf ya_hBt ya_sol ya_reach ya_stack (lm) (li) (lc) ya_dist ya_sb (ob) := fun hf =>
      pk_eq B 3 (fun e => pk_le (ce_rk (gr_live w g) 64) 6 (fun z => absurd (by unfold gr_fit; omega) hf) (fun z => h2 hf lm li lc ob)) (fun e => h2 hf lm li lc ob)
    have s104 : ¬ (B = 1 ∧ ce_rk (gr_live w g) 64 ≤ 60) → wY_solve_104 post (nI P) yf_hs yf_started (nI p) yf_moves yf_pushes yf_hn yf_solLen (nI B) (nI (ce_rk (gr_live w g) 64)) yf_curP yf_nextState ya_edit (ce_A w) (ce_A g) (ce_A b) ya_hFrom ya_hBf ya_hBt ya_sol ya_reach ya_stack (lm) (li) (lc) ya_dist ya_sb (ob) := by
      intro h1
      have s121 : ¬ (B = 2 ∧ ce_rk (gr_live w g) 64 ≤ 8) → wY_solve_121 post (nI P) yf_hs yf_started (nI p) yf_moves yf_pushes yf_hn yf_solLen (nI B) (nI (ce_rk (gr_live w g) 64)) yf_curP yf_nextState ya_edit (ce_A w) (ce_A g) (ce_A b) ya_hFrom ya_hBf ya_hBt ya_sol ya_reach ya_stack (lm) (li) (lc) ya_dist ya_sb (ob) := by
        intro h2'
        by_cases hf : gr_fit B (ce_rk (gr_live w g) 64)
        · have h3 : B = 3 ∧ ce_rk (gr_live w g) 64 ≤ 6 := by unfold gr_fit at hf; omega
          exact pk_eq B 3 (fun e => pk_le (ce_rk (gr_live w g) 64) 6 (fun z => go hf) (fun z => absurd h3.2 (by omega))) (fun e => absurd h3.1 e)
        · exact no hf
      refine pk_eq B 2 (fun e => pk_le (ce_rk (gr_live w g) 64) 8 (fun z => go (by unfold gr_fit; omega)) (fun z => s121 (by omega))) (fun e => s121 (by omega))
    exact pk_eq B 1 (fun e => pk_le (ce_rk (gr_live w g) 64) 60 (fun z => go (by unfold gr_fit; omega)) (fun z => s104 (by omega))) (fun e => s104 (by omega))
  | succ q ih =>
    intro i ob hi hob
    have hr := ce_rk_mono b (a := i) (b := 64) (by omega)
    refine br_f (nI_ge (b := 64) (by omega) (by decide)) ⟨vp_in_nI (by omega) (by decide), ?_⟩
    rw [nI_clamp (n := i) (by omega)]
    cases hb : ce_b b i
    · refine br_t (ce_Af hb) (nm_r (nI_1 i) ?_)
      have := ih (i + 1) ob (by omega) (fun c hc hbc => ?_)
      · rw [ce_rk_n hb] at this; exact this
      · by_cases z : c = i
        · rw [z, hb] at hbc; cases hbc
        · exact hob c (by omega) hbc
    · have hlt : ce_rk b i < 3 := by
        have := ce_rk_lt hb (b := 64) (by omega)
        omega
      refine br_f (by rw [ce_At hb]; decide) (br_f (nI_ge (b := 3) hlt (by decide)) ⟨vp_in_nI hlt (by decide), nm_r (e' := upd ob (ce_rk b i) (nI i)) (by rw [nI_clamp (by omega)]) (nm_r (nI_1 _) (nm_r (nI_1 i) ?_))⟩)
      have := ih (i + 1) (upd ob (ce_rk b i) (nI i)) (by omega) (fun c hc hbc => ?_)
      · rw [ce_rk_s hb] at this; exact this
      · by_cases z : c = i
        · rw [z, pk_us]
        · rw [pk_un (fun y => z (ce_rk_inj hbc hb y))]; exact hob c (by omega) hbc
theorem ys_solve {post : Int32 → SY → Prop} {P B p : Nat} {w g b : Int64} {yf_hs yf_moves yf_pushes yf_hn yf_solLen yf_nB yf_nL yf_curP yf_nextState : Int32} {ya_edit ya_hFrom ya_hBf ya_hBt ya_sol ya_reach ya_stack ya_liveMark ya_liveIdx ya_liveCell ya_dist ya_sb ya_ob : Nat → Int32} (hP1 : 1 ≤ P) (hP : P ≤ 40) (hB1 : 1 ≤ B) (hB3 : B ≤ 3) (hg : ce_rk g 64 = B) (hgw : ∀ c, ce_b g c = true → ce_b w c = false) (hV : rl_V w B b p)
    (h1 : gr_so g (b, p) → post 0 (nI P, yf_hs, 1, nI p, yf_moves, yf_pushes, yf_hn, 0, yf_nB, yf_nL, yf_curP, yf_nextState, ya_edit, ce_A w, ce_A g, ce_A b, ya_hFrom, ya_hBf, ya_hBt, ya_sol, ya_reach, ya_stack, ya_liveMark, ya_liveIdx, ya_liveCell, ya_dist, ya_sb, ya_ob))
    (h2 : ¬ gr_so g (b, p) → ¬ gr_fit B (ce_rk (gr_live w g) 64) → ∀ y1 y2 lm li lc ob, post (-6) (nI P, yf_hs, 1, nI p, yf_moves, yf_pushes, yf_hn, yf_solLen, y1, y2, yf_curP, yf_nextState, ya_edit, ce_A w, ce_A g, ce_A b, ya_hFrom, ya_hBf, ya_hBt, ya_sol, ya_reach, ya_stack, lm, li, lc, ya_dist, ya_sb, ob))
    (hN : ¬ gr_so g (b, p) → gr_fit B (ce_rk (gr_live w g) 64) → ¬ (∀ c, ce_b b c = true → ce_b (gr_live w g) c = true) → ∀ y1 y2 lm li lc ob, post (-7) (nI P, yf_hs, 1, nI p, yf_moves, yf_pushes, yf_hn, 0, y1, y2, yf_curP, yf_nextState, ya_edit, ce_A w, ce_A g, ce_A b, ya_hFrom, ya_hBf, ya_hBt, ya_sol, ya_reach, ya_stack, lm, li, lc, ya_dist, ya_sb, ob))
    (hR : ¬ gr_so g (b, p) → gr_fit B (ce_rk (gr_live w g) 64) → (∀ c, ce_b b c = true → ce_b (gr_live w g) c = true) → ys_R w g (gr_live w g) P (b, p) (∀ y1 y2 lm li lc ob cp ns re sk ds sb, post (-7) (nI P, yf_hs, 1, nI p, yf_moves, yf_pushes, yf_hn, 0, y1, y2, cp, ns, ya_edit, ce_A w, ce_A g, ce_A b, ya_hFrom, ya_hBf, ya_hBt, ya_sol, re, sk, lm, li, lc, ds, sb, ob)) (fun D l => ∀ y1 y2 lm li lc ob cp ns so re sk ds sb, (∀ i, i < D → so i = nI (l i)) → post (nI D) (nI P, yf_hs, 1, nI p, yf_moves, yf_pushes, yf_hn, nI D, y1, y2, cp, ns, ya_edit, ce_A w, ce_A g, ce_A b, ya_hFrom, ya_hBf, ya_hBt, so, re, sk, lm, li, lc, ds, sb, ob))) :
    wpY_solve post (nI P, yf_hs, 1, nI p, yf_moves, yf_pushes, yf_hn, yf_solLen, yf_nB, yf_nL, yf_curP, yf_nextState, ya_edit, ce_A w, ce_A g, ce_A b, ya_hFrom, ya_hBf, ya_hBt, ya_sol, ya_reach, ya_stack, ya_liveMark, ya_liveIdx, ya_liveCell, ya_dist, ya_sb, ya_ob) := by
  refine br_f (by decide) (ys_solved ?_)
  by_cases so : b &&& (g ^^^ (-1)) = 0
  · rw [if_pos so]
    exact br_f (by decide) (h1 so)
  · rw [if_neg so]
    refine br_t rfl ⟨65, ys_30 hP1 hP hB1 hB3 hg hgw hV (fun hf lm li lc ob => h2 so hf _ _ lm li lc ob) (fun hf hz lm li lc ob => hN so hf hz _ _ lm li lc ob) (fun hf hz lm li lc ob => ?_) 64 0 _ (by omega) (fun c hc => by omega)⟩
    rcases hR so hf hz with ⟨r1, r2⟩ | ⟨D, l, r1, r2, r3, r4, r5⟩
    · exact Or.inl ⟨r1, fun cp ns re sk ds sb => r2 _ _ lm li lc ob cp ns re sk ds sb⟩
    · exact Or.inr ⟨D, l, r1, r2, r3, r4, fun cp ns so re sk ds sb hs => r5 _ _ lm li lc ob cp ns so re sk ds sb hs⟩
