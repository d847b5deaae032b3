/-! onGoals, slot, target, relax, bestPush -/
theorem ys_goals0 {post : Int32 → Prop} {g : Int64} {B : Nat} {cl : Nat → Nat} {yf_lim yf_hs yf_started yf_pu yf_moves yf_pushes yf_hn yf_solLen yf_nL yf_curP yf_nextState : Int32} {ya_edit ya_wall ya_box ya_hFrom ya_hBf ya_hBt ya_sol ya_reach ya_stack ya_liveMark ya_liveIdx ya_liveCell ya_dist ya_sb ya_ob : Nat → Int32} (hB : B ≤ 3) (hsb : ∀ j, j < B → ya_sb j = nI (cl j) ∧ cl j < 64) (ht : (∀ j, j < B → ce_b g (cl j) = true) → post 1) (hf : ¬ (∀ j, j < B → ce_b g (cl j) = true) → post 0) :
    ∀ q i, i + q = B → (∀ j, j < i → ce_b g (cl j) = true) → wY_onGoals_2 post yf_lim yf_hs yf_started yf_pu yf_moves yf_pushes yf_hn yf_solLen (nI B) yf_nL yf_curP yf_nextState ya_edit ya_wall (ce_A g) ya_box ya_hFrom ya_hBf ya_hBt ya_sol ya_reach ya_stack ya_liveMark ya_liveIdx ya_liveCell ya_dist ya_sb ya_ob (q + 1) (nI i) := by
  intro q
  induction q with
  | zero =>
    intro i hi h
    have e : i = B := by omega
    subst e
    exact br_t (nI_le (Nat.le_refl i) (by omega)) (ht h)
  | succ q ih =>
    intro i hi h
    obtain ⟨s1, s2⟩ := hsb i (by omega)
    refine br_f (nI_ge (by omega) (by omega)) ⟨vp_in_nI (by omega) (by decide), ?_⟩
    rw [nI_clamp (n := i) (by omega), s1]
    refine ⟨vp_in_nI s2 (by decide), ?_⟩
    rw [nI_clamp (n := cl i) (by omega)]
    cases hg : ce_b g (cl i)
    · exact br_t (ce_Af hg) (hf (fun z => by rw [z i (by omega)] at hg; cases hg))
    · refine br_f (by rw [ce_At hg]; decide) (nm_r (nI_1 i) (ih (i + 1) (by omega) (fun j hj => ?_)))
      by_cases e : j = i
      · subst e; exact hg
      · exact h j (by omega)
theorem ys_goals {post : Int32 → Prop} {g : Int64} {B : Nat} {cl : Nat → Nat} {p : Nat} {yf_lim yf_hs yf_started yf_pu yf_moves yf_pushes yf_hn yf_solLen yf_nL yf_curP yf_nextState : Int32} {ya_edit ya_wall ya_box ya_hFrom ya_hBf ya_hBt ya_sol ya_reach ya_stack ya_liveMark ya_liveIdx ya_liveCell ya_dist ya_sb ya_ob : Nat → Int32} (hB : B ≤ 3) (hsb : ∀ j, j < B → ya_sb j = nI (cl j) ∧ cl j < 64) (ht : gr_so g (gr_ms cl B, p) → post 1) (hf : ¬ gr_so g (gr_ms cl B, p) → post 0) : wpY_onGoals post (yf_lim, yf_hs, yf_started, yf_pu, yf_moves, yf_pushes, yf_hn, yf_solLen, nI B, yf_nL, yf_curP, yf_nextState, ya_edit, ya_wall, ce_A g, ya_box, ya_hFrom, ya_hBf, ya_hBt, ya_sol, ya_reach, ya_stack, ya_liveMark, ya_liveIdx, ya_liveCell, ya_dist, ya_sb, ya_ob) := by
  have e : gr_so g (gr_ms cl B, p) ↔ ∀ j, j < B → ce_b g (cl j) = true := by
    refine (gr_soI g (gr_ms cl B)).trans ⟨fun h j hj => h _ ((gr_msT B (fun j hj => (hsb j hj).2) _).mpr ⟨j, hj, rfl⟩), fun h c hc => ?_⟩
    obtain ⟨j, j1, j2⟩ := (gr_msT B (fun j hj => (hsb j hj).2) c).mp hc
    rw [← j2]
    exact h j j1
  exact ⟨B + 1, ys_goals0 hB hsb (fun z => ht (e.mpr z)) (fun z => hf (fun y => z (e.mp y))) B 0 (by omega) (fun j hj => by omega)⟩
theorem ys_slot0 {post : Int32 → Prop} {B x : Nat} {cl : Nat → Nat} {yf_lim yf_hs yf_started yf_pu yf_moves yf_pushes yf_hn yf_solLen yf_nL yf_curP yf_nextState : Int32} {ya_edit ya_wall ya_goal ya_box ya_hFrom ya_hBf ya_hBt ya_sol ya_reach ya_stack ya_liveMark ya_liveIdx ya_liveCell ya_dist ya_sb ya_ob : Nat → Int32} (hB : B ≤ 3) (hx : x < 64) (hsb : ∀ j, j < B → ya_sb j = nI (cl j) ∧ cl j < 64) (ht : ∀ k, k < B → cl k = x → post (nI k)) (hf : (∀ k, k < B → cl k ≠ x) → post (-1)) :
    ∀ q i, i + q = B → (∀ j, j < i → cl j ≠ x) → wY_slot_2 post (nI x) yf_lim yf_hs yf_started yf_pu yf_moves yf_pushes yf_hn yf_solLen (nI B) yf_nL yf_curP yf_nextState ya_edit ya_wall ya_goal ya_box ya_hFrom ya_hBf ya_hBt ya_sol ya_reach ya_stack ya_liveMark ya_liveIdx ya_liveCell ya_dist ya_sb ya_ob (q + 1) (nI i) := by
  intro q
  induction q with
  | zero =>
    intro i hi h
    have e : i = B := by omega
    subst e
    exact br_t (nI_le (Nat.le_refl i) (by omega)) (hf h)
  | succ q ih =>
    intro i hi h
    obtain ⟨s1, s2⟩ := hsb i (by omega)
    refine br_f (nI_ge (by omega) (by omega)) ⟨vp_in_nI (by omega) (by decide), ?_⟩
    rw [nI_clamp (n := i) (by omega), s1]
    refine pk_eq (cl i) x (fun e => ht i (by omega) e) (fun e => nm_r (nI_1 i) (ih (i + 1) (by omega) (fun j hj => ?_)))
    by_cases z : j = i
    · subst z; exact e
    · exact h j (by omega)
theorem ys_slot {post : Int32 → Prop} {B x : Nat} {cl : Nat → Nat} {yf_lim yf_hs yf_started yf_pu yf_moves yf_pushes yf_hn yf_solLen yf_nL yf_curP yf_nextState : Int32} {ya_edit ya_wall ya_goal ya_box ya_hFrom ya_hBf ya_hBt ya_sol ya_reach ya_stack ya_liveMark ya_liveIdx ya_liveCell ya_dist ya_sb ya_ob : Nat → Int32} (hB : B ≤ 3) (hx : x < 64) (hsb : ∀ j, j < B → ya_sb j = nI (cl j) ∧ cl j < 64) (ht : ∀ k, k < B → cl k = x → post (nI k)) (hf : (∀ k, k < B → cl k ≠ x) → post (-1)) : wpY_slot post (yf_lim, yf_hs, yf_started, yf_pu, yf_moves, yf_pushes, yf_hn, yf_solLen, nI B, yf_nL, yf_curP, yf_nextState, ya_edit, ya_wall, ya_goal, ya_box, ya_hFrom, ya_hBf, ya_hBt, ya_sol, ya_reach, ya_stack, ya_liveMark, ya_liveIdx, ya_liveCell, ya_dist, ya_sb, ya_ob) (nI x) :=
  ⟨B + 1, ys_slot0 hB hx hsb ht hf B 0 (by omega) (fun j hj => by omega)⟩
/-- the state that load has laid, with the flood done -/
def ys_S (w lv : Int64) (B L s : Nat) (lm li re sb : Nat → Int32) : Prop :=
  B ≤ 3 ∧ ce_rk lv 64 = L ∧ 1 ≤ L ∧ ys_V w lv L B s ∧ (∀ c, c < 64 → lm c = ce_A lv c) ∧ (∀ c, ce_b lv c = true → li c = nI (ce_rk lv c)) ∧ (∀ c, c < 64 → re c = ce_A (gr_area w (gr_ms (ys_cl lv L B s) B) (s % 64)) c) ∧ (∀ j, j < B → sb j = nI (ys_cl lv L B s j))
theorem ys_tgt {post : Int32 → Prop} {w lv : Int64} {B L s k d : Nat} {yf_lim yf_hs yf_started yf_pu yf_moves yf_pushes yf_hn yf_solLen yf_curP yf_nextState : Int32} {ya_edit ya_goal ya_hFrom ya_hBf ya_hBt ya_sol ya_reach ya_stack ya_liveMark ya_liveIdx ya_liveCell ya_dist ya_sb ya_ob : Nat → Int32} (hS : ys_S w lv B L s ya_liveMark ya_liveIdx ya_reach ya_sb) (hk : k < B) (hd : d < 4)
    (ht : ∀ t, gr_step w lv (ys_ab lv L B s) (ys_cl lv L B s k * 4 + d) = some t → post (nI (ys_en lv L B s (ys_cl lv L B s k * 4 + d)))) (hf : gr_step w lv (ys_ab lv L B s) (ys_cl lv L B s k * 4 + d) = none → post (-1)) :
    wpY_target post (yf_lim, yf_hs, yf_started, yf_pu, yf_moves, yf_pushes, yf_hn, yf_solLen, nI B, nI L, yf_curP, yf_nextState, ya_edit, ce_A w, ya_goal, ce_A (gr_ms (ys_cl lv L B s) B), ya_hFrom, ya_hBf, ya_hBt, ya_sol, ya_reach, ya_stack, ya_liveMark, ya_liveIdx, ya_liveCell, ya_dist, ya_sb, ya_ob) (nI k) (nI (ys_cl lv L B s k)) (nI d) := by
  obtain ⟨hB, hL, h1, hV, hlm, hli, hre, hsb⟩ := hS
  have hcl : ∀ j, j < B → ys_cl lv L B s j < 64 := fun j _ => (ys_cl_ok hL h1 B s j).2
  have hx := hcl k hk
  have eq4 : (ys_cl lv L B s k * 4 + d) / 4 = ys_cl lv L B s k := by omega
  have em4 : (ys_cl lv L B s k * 4 + d) % 4 = d := by omega
  have hbx : ce_b (gr_ms (ys_cl lv L B s) B) (ys_cl lv L B s k) = true := (gr_msT B hcl _).mpr ⟨k, hk, rfl⟩
  unfold wpY_target
  rw [ys_opp hd]
  refine ys_nbN hx hd (ys_nbN hx (by omega) (ys_free (ce_n_le _ _) ?_))
  have no : ¬ (ce_b (gr_ms (ys_cl lv L B s) B) (ys_cl lv L B s k) = true ∧ ce_n (ys_cl lv L B s k) d < 64 ∧ ce_b w (ce_n (ys_cl lv L B s k) d) = false ∧ ce_b (gr_ms (ys_cl lv L B s) B) (ce_n (ys_cl lv L B s k) d) = false ∧ ce_b (gr_area w (gr_ms (ys_cl lv L B s) B) (s % 64)) (ce_n (ys_cl lv L B s k) ((d + 2) % 4)) = true ∧ ce_b lv (ce_n (ys_cl lv L B s k) d) = true) → post (-1) := by
    intro z
    apply hf
    apply gr_step_n
    rw [eq4, em4]
    exact z
  refine br_c (fun z => no (fun y => gr_fn z ⟨y.2.1, y.2.2.1, y.2.2.2.1⟩)) (fun z => ys_free (ce_n_le _ _) ?_)
  have fa := gr_fz z
  refine br_c (fun y => no (fun q => ?_)) (fun y => ?_)
  · have hm : s % 64 < 64 := Nat.mod_lt _ (by decide)
    have := gr_area_free hm hV.2.1 hV.2.2 q.2.2.2.2.1
    exact gr_fn y ⟨ce_lt q.2.2.2.2.1, this.1, this.2⟩
  · have fb := gr_fz y
    refine ⟨ce_I_vp fb.1, ?_⟩
    rw [ce_I_cl fb.1, hre _ fb.1]
    cases ar : ce_b (gr_area w (gr_ms (ys_cl lv L B s) B) (s % 64)) (ce_n (ys_cl lv L B s k) ((d + 2) % 4))
    · exact br_t (ce_Af ar) (no (fun q => by rw [ar] at q; cases q.2.2.2.2.1))
    · refine br_f (by rw [ce_At ar]; decide) ⟨ce_I_vp fa.1, ?_⟩
      rw [ce_I_cl fa.1, hlm _ fa.1]
      cases hl : ce_b lv (ce_n (ys_cl lv L B s k) d)
      · exact br_t (ce_Af hl) (no (fun q => by rw [hl] at q; cases q.2.2.2.2.2))
      · have hst : gr_step w lv (ys_ab lv L B s) (ys_cl lv L B s k * 4 + d) = some (gr_mv (gr_ms (ys_cl lv L B s) B) (ys_cl lv L B s k) (ce_n (ys_cl lv L B s k) d), ys_cl lv L B s k) := by
          have := gr_step_s (w := w) (lv := lv) (s := ys_ab lv L B s) (c := ys_cl lv L B s k * 4 + d) (by rw [eq4, em4]; exact ⟨hbx, fa.1, fa.2.1, fa.2.2, ar, hl⟩)
          rw [eq4, em4] at this
          exact this
        refine br_f (by rw [ce_At hl]; decide) ?_
        rw [ce_I_in fa.1]
        refine ys_enc (lv := lv) (k := k) (a := ce_n (ys_cl lv L B s k) d) (cl := ys_cl lv L B s) hB (fun j hj => nI_eq (by omega) (by omega)) (fun _ => ⟨rfl, fa.1⟩) (fun j hj => ⟨hsb j hj, hcl j hj⟩) (fun j hj => ?_) ?_
        · apply hli
          unfold gr_rp
          split
          · exact hl
          · exact (ys_cl_ok hL h1 B s j).1
        · have := ht _ hst
          unfold ys_en at this
          rw [eq4] at this
          have e : gr_cd L (fun j => ce_rk lv (ys_tp lv L B s (ys_cl lv L B s k * 4 + d) j)) B = gr_cd L (fun j => ce_rk lv (gr_rp (ys_cl lv L B s) k (ce_n (ys_cl lv L B s k) d) j)) B := by
            refine gr_cd_congr B (fun j hj => ?_)
            rw [ys_tp_rp hV.1 hk eq4.symm j hj, eq4, em4]
          rw [e] at this
          exact this
/-! relax -/
def ys_RB (w g lv : Int64) (B L s : Nat) (di : Nat → Nat) (be k d : Nat) : Prop :=
  be ≤ di s ∧ (∀ i e, i < B → e < 4 → (i < k ∨ (i = k ∧ e < d)) → ∀ t, gr_step w lv (ys_ab lv L B s) (ys_cl lv L B s i * 4 + e) = some t → be ≤ di (ys_en lv L B s (ys_cl lv L B s i * 4 + e)) + 1) ∧
  (be = di s ∨ ∃ c t, c < 256 ∧ gr_step w lv (ys_ab lv L B s) c = some t ∧ be = di (ys_en lv L B s c) + 1)
theorem ys_28r {post : Int32 → SY → Prop} {J : Int32 → Int32 → Prop} {w g lv : Int64} {B L s k : Nat} {di : Nat → Nat} {yf_lim yf_hs yf_started yf_pu yf_moves yf_pushes yf_hn yf_solLen yf_curP yf_nextState : Int32} {ya_edit ya_goal ya_hFrom ya_hBf ya_hBt ya_sol ya_reach ya_stack ya_liveMark ya_liveIdx ya_liveCell ya_dist ya_sb ya_ob : Nat → Int32} (hfit : gr_fit B L) (hS : ys_S w lv B L s ya_liveMark ya_liveIdx ya_reach ya_sb) (hs : s < 64 * L ^ B) (hlw : ∀ c, ce_b lv c = true → ce_b w c = false) (hk : k < B) (hdi : ∀ x, x < 64 * L ^ B → ya_dist x = nI (di x) ∧ di x ≤ 1000)
    (hJ : ∀ be, ys_RB w g lv B L s di be (k + 1) 0 → J (nI be) (nI (k + 1))) :
    ∀ q d be, d + q = 4 → ys_RB w g lv B L s di be k d → wY_relax_28 post J (nI s) (nI k) yf_lim yf_hs yf_started yf_pu yf_moves yf_pushes yf_hn yf_solLen (nI B) (nI L) yf_curP yf_nextState ya_edit (ce_A w) ya_goal (ce_A (gr_ms (ys_cl lv L B s) B)) ya_hFrom ya_hBf ya_hBt ya_sol ya_reach ya_stack ya_liveMark ya_liveIdx ya_liveCell ya_dist ya_sb ya_ob (q + 1) (nI be) (nI d) := by
  have hpw := gr_pw hfit
  intro q
  induction q with
  | zero =>
    intro d be hd h
    refine br_t (nI_le (a := 4) (by omega) (by omega)) (nm_r (nI_1 k) (hJ be ⟨h.1, fun i e hi he hik => h.2.1 i e hi he (by omega), h.2.2⟩))
  | succ q ih =>
    intro d be hd h
    have hdi_s := hdi s hs
    have hbe := h.1
    refine br_f (nI_ge (b := 4) (by omega) (by decide)) ⟨vp_in_nI (by have := hS.1; omega) (by decide), ?_⟩
    rw [nI_clamp (n := k) (by have := hS.1; omega), hS.2.2.2.2.2.2.2 k hk]
    have nx : ∀ be', be' ≤ be → (∀ t, gr_step w lv (ys_ab lv L B s) (ys_cl lv L B s k * 4 + d) = some t → be' ≤ di (ys_en lv L B s (ys_cl lv L B s k * 4 + d)) + 1) → (be' = be ∨ ∃ c t, c < 256 ∧ gr_step w lv (ys_ab lv L B s) c = some t ∧ be' = di (ys_en lv L B s c) + 1) → wY_relax_28 post J (nI s) (nI k) yf_lim yf_hs yf_started yf_pu yf_moves yf_pushes yf_hn yf_solLen (nI B) (nI L) yf_curP yf_nextState ya_edit (ce_A w) ya_goal (ce_A (gr_ms (ys_cl lv L B s) B)) ya_hFrom ya_hBf ya_hBt ya_sol ya_reach ya_stack ya_liveMark ya_liveIdx ya_liveCell ya_dist ya_sb ya_ob (q + 1) (nI be') (nI (d + 1)) := by
      intro be' n1 n2 n3
      refine ih (d + 1) be' (by omega) ⟨by omega, fun i e hi he hik t hst => ?_, ?_⟩
      · by_cases z : i = k ∧ e = d
        · obtain ⟨rfl, rfl⟩ := z
          exact n2 t hst
        · exact Nat.le_trans n1 (h.2.1 i e hi he (by omega) t hst)
      · rcases n3 with z | z
        · rw [z]; exact h.2.2
        · exact Or.inr z
    refine ys_tgt hS hk (by omega) (fun t hst => ?_) (fun hst => ?_)
    · have hc : ys_cl lv L B s k * 4 + d < 256 := by have := (ys_cl_ok hS.2.1 hS.2.2.1 B s k).2; omega
      obtain ⟨e1, e2, e3⟩ := ys_hen hS.2.1 hS.2.2.1 hlw s _ t hs hS.2.2.2.1 hc hst
      obtain ⟨d1, d2⟩ := hdi _ e1
      have ev : vp_in (nI (ys_en lv L B s (ys_cl lv L B s k * 4 + d))) 13824 := vp_in_nI (by omega) (by decide)
      refine br_f (nI_pos (by omega)) ⟨ev, ?_⟩
      rw [nI_clamp (n := ys_en lv L B s (ys_cl lv L B s k * 4 + d)) (by omega), d1, nI_1]
      refine pk_le be (di (ys_en lv L B s (ys_cl lv L B s k * 4 + d)) + 1) (fun z => nm_r (nI_1 d) (nx be (Nat.le_refl _) (fun _ _ => z) (Or.inl rfl))) (fun z => ⟨ev, nm_e (nm_r (nI_1 d) (nx _ (by omega) (fun _ _ => Nat.le_refl _) (Or.inr ⟨_, t, hc, hst, rfl⟩)))⟩)
    · exact br_t (by decide) (nm_r (nI_1 d) (nx be (Nat.le_refl _) (fun t z => by rw [hst] at z; cases z) (Or.inl rfl)))
theorem ys_17r {post : Int32 → SY → Prop} {w g lv : Int64} {B L s : Nat} {di : Nat → Nat} {yf_lim yf_hs yf_started yf_pu yf_moves yf_pushes yf_hn yf_solLen yf_curP yf_nextState : Int32} {ya_edit ya_goal ya_hFrom ya_hBf ya_hBt ya_sol ya_reach ya_stack ya_liveMark ya_liveIdx ya_liveCell ya_dist ya_sb ya_ob : Nat → Int32} (hfit : gr_fit B L) (hS : ys_S w lv B L s ya_liveMark ya_liveIdx ya_reach ya_sb) (hs : s < 64 * L ^ B) (hlw : ∀ c, ce_b lv c = true → ce_b w c = false) (hdi : ∀ x, x < 64 * L ^ B → ya_dist x = nI (di x) ∧ di x ≤ 1000)
    (h0 : gr_RX (gr_step w lv) (ys_ab lv L B) (ys_en lv L B) di s (di s) → post 0 (yf_lim, yf_hs, yf_started, yf_pu, yf_moves, yf_pushes, yf_hn, yf_solLen, nI B, nI L, yf_curP, yf_nextState, ya_edit, ce_A w, ya_goal, ce_A (gr_ms (ys_cl lv L B s) B), ya_hFrom, ya_hBf, ya_hBt, ya_sol, ya_reach, ya_stack, ya_liveMark, ya_liveIdx, ya_liveCell, ya_dist, ya_sb, ya_ob))
    (h1 : ∀ be, gr_RX (gr_step w lv) (ys_ab lv L B) (ys_en lv L B) di s be → be < di s → post 1 (yf_lim, yf_hs, yf_started, yf_pu, yf_moves, yf_pushes, yf_hn, yf_solLen, nI B, nI L, yf_curP, yf_nextState, ya_edit, ce_A w, ya_goal, ce_A (gr_ms (ys_cl lv L B s) B), ya_hFrom, ya_hBf, ya_hBt, ya_sol, ya_reach, ya_stack, ya_liveMark, ya_liveIdx, ya_liveCell, upd ya_dist s (nI be), ya_sb, ya_ob)) :
    ∀ q k be, k + q = B → ys_RB w g lv B L s di be k 0 → wY_relax_17 post (nI s) yf_lim yf_hs yf_started yf_pu yf_moves yf_pushes yf_hn yf_solLen (nI B) (nI L) yf_curP yf_nextState ya_edit (ce_A w) ya_goal (ce_A (gr_ms (ys_cl lv L B s) B)) ya_hFrom ya_hBf ya_hBt ya_sol ya_reach ya_stack ya_liveMark ya_liveIdx ya_liveCell ya_dist ya_sb ya_ob (q + 1) (nI be) (nI k) := by
  have hpw := gr_pw hfit
  have hB := hS.1
  intro q
  induction q with
  | zero =>
    intro k be hk h
    have e : k = B := by omega
    subst e
    have hcl : ∀ j, j < k → ys_cl lv L k s j < 64 := fun j _ => (ys_cl_ok hS.2.1 hS.2.2.1 k s j).2
    have rx : gr_RX (gr_step w lv) (ys_ab lv L k) (ys_en lv L k) di s be := by
      refine ⟨h.1, fun c t hc hst => ?_, h.2.2⟩
      have hst' := hst
      unfold gr_step at hst'
      split at hst'
      · rename_i z
        obtain ⟨i, hi, ei⟩ := (gr_msT k hcl (c / 4)).mp z.1
        have ec : ys_cl lv L k s i * 4 + c % 4 = c := by rw [ei]; omega
        have := h.2.1 i (c % 4) hi (by omega) (Or.inl hi) t (by rw [ec]; exact hst)
        rw [ec] at this
        exact this
      · cases hst'
    have ev : vp_in (nI s) 13824 := vp_in_nI (by omega) (by decide)
    have hbe := h.1
    have hd := hdi s hs
    refine br_t (nI_le (Nat.le_refl k) (by omega)) ⟨ev, ?_⟩
    rw [nI_clamp (n := s) (by omega), hd.1]
    refine pk_le (di s) be (fun z => ?_) (fun z => ⟨ev, nm_r (e' := upd ya_dist s (nI be)) rfl (h1 be rx z)⟩)
    have e : be = di s := by omega
    rw [e] at rx
    exact h0 rx
  | succ q ih =>
    intro k be hk h
    exact br_f (nI_ge (by omega) (by omega)) ⟨5, ys_28r hfit hS hs hlw (by omega) hdi (fun be' h' => ih (k + 1) be' (by omega) h') 4 0 be (by omega) h⟩
theorem ys_relax {post : Int32 → SY → Prop} {w g lv : Int64} {B L s : Nat} {di : Nat → Nat} {yf_lim yf_hs yf_started yf_pu yf_moves yf_pushes yf_hn yf_solLen yf_nextState : Int32} {ya_edit ya_goal ya_hFrom ya_hBf ya_hBt ya_sol ya_reach ya_stack ya_liveMark ya_liveIdx ya_liveCell ya_dist ya_sb ya_ob : Nat → Int32} (hfit : gr_fit B L) (hH : ys_H w lv B L ya_liveMark ya_liveIdx ya_liveCell) (hV : ys_V w lv L B s) (hsb : ∀ j, j < B → ya_sb j = nI (ys_cl lv L B s j)) (hs : s < 64 * L ^ B) (hdi : ∀ x, x < 64 * L ^ B → ya_dist x = nI (di x) ∧ di x ≤ 1000)
    (h0 : ∀ re sk, gr_RX (gr_step w lv) (ys_ab lv L B) (ys_en lv L B) di s (di s) → post 0 (yf_lim, yf_hs, yf_started, yf_pu, yf_moves, yf_pushes, yf_hn, yf_solLen, nI B, nI L, nI (s % 64), yf_nextState, ya_edit, ce_A w, ya_goal, ce_A (gr_ms (ys_cl lv L B s) B), ya_hFrom, ya_hBf, ya_hBt, ya_sol, re, sk, ya_liveMark, ya_liveIdx, ya_liveCell, ya_dist, ya_sb, ya_ob))
    (h1 : ∀ re sk be, gr_RX (gr_step w lv) (ys_ab lv L B) (ys_en lv L B) di s be → be < di s → post 1 (yf_lim, yf_hs, yf_started, yf_pu, yf_moves, yf_pushes, yf_hn, yf_solLen, nI B, nI L, nI (s % 64), yf_nextState, ya_edit, ce_A w, ya_goal, ce_A (gr_ms (ys_cl lv L B s) B), ya_hFrom, ya_hBf, ya_hBt, ya_sol, re, sk, ya_liveMark, ya_liveIdx, ya_liveCell, upd ya_dist s (nI be), ya_sb, ya_ob)) :
    wpY_relax post (yf_lim, yf_hs, yf_started, yf_pu, yf_moves, yf_pushes, yf_hn, yf_solLen, nI B, nI L, nI (s % 64), yf_nextState, ya_edit, ce_A w, ya_goal, ce_A (gr_ms (ys_cl lv L B s) B), ya_hFrom, ya_hBf, ya_hBt, ya_sol, ya_reach, ya_stack, ya_liveMark, ya_liveIdx, ya_liveCell, ya_dist, ya_sb, ya_ob) (nI s) := by
  obtain ⟨a1, a2, a3, a4, a5, a6, a7, a8, a9⟩ := hH
  have hpw := gr_pw hfit
  have hd := hdi s hs
  unfold wpY_relax
  refine ys_flood (Nat.mod_lt s (by decide)) hV.2.1 hV.2.2 (fun re sk hre => ?_)
  refine ⟨vp_in_nI (by omega) (by decide), nm_r (e' := nI (di s)) (by rw [nI_clamp (n := s) (by omega)]; exact hd.1) ⟨B + 1, ?_⟩⟩
  exact ys_17r (g := g) hfit ⟨a2, a3, a4, hV, a7, a8, hre, hsb⟩ hs a6 hdi (h0 re sk) (h1 re sk) B 0 (di s) (by omega) ⟨Nat.le_refl _, fun i e hi he hik => by omega, Or.inl rfl⟩
