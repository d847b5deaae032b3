/-! load -/
def gr_cr (m : Int64) (cl : Nat → Nat) : Nat → Int64
  | 0 => m
  | i + 1 => gr_cr m cl i &&& (ce_bit (cl i) ^^^ (-1))
theorem gr_crT {m : Int64} {cl : Nat → Nat} : ∀ B, (∀ j, j < B → cl j < 64) → ∀ c, ce_b (gr_cr m cl B) c = true ↔ ce_b m c = true ∧ ∀ j, j < B → cl j ≠ c := by
  intro B
  induction B with
  | zero => intro _ c; exact ⟨fun h => ⟨h, fun j hj => by omega⟩, fun h => h.1⟩
  | succ B ih =>
    intro h c
    rcases Nat.lt_or_ge c 64 with z | z
    · rw [gr_cr, ce_clrB (h B (by omega)) z, Bool.and_eq_true, ih (fun j hj => h j (by omega)), Bool.not_eq_true', decide_eq_false_iff_not]
      constructor
      · rintro ⟨⟨h1, h2⟩, h3⟩
        refine ⟨h1, fun j hj => ?_⟩
        by_cases q : j = B
        · subst q; exact h3
        · exact h2 j (by omega)
      · rintro ⟨h1, h2⟩
        exact ⟨⟨h1, fun j hj => h2 j (by omega)⟩, h2 B (by omega)⟩
    · rw [ce_big z, ce_big z]
      exact ⟨fun q => (by cases q), fun q => (by cases q.1)⟩
theorem gr_cr0 {cl : Nat → Nat} {B : Nat} (h : ∀ j, j < B → cl j < 64) : gr_cr (gr_ms cl B) cl B = 0 := by
  apply ce_ext
  intro c _
  rw [ce_0]
  apply ts_nt
  intro z
  obtain ⟨z1, z2⟩ := (gr_crT B h c).mp z
  obtain ⟨j, j1, j2⟩ := (gr_msT B h c).mp z1
  exact z2 j j1 j2
theorem ys_185 {post : Int32 → SY → Prop} {w m : Int64} {p : Nat} {yf_lim yf_hs yf_started yf_pu yf_moves yf_pushes yf_hn yf_solLen yf_nB yf_nL yf_nextState : Int32} {ya_edit ya_goal ya_hFrom ya_hBf ya_hBt ya_sol ya_reach ya_stack ya_liveMark ya_liveIdx ya_liveCell ya_dist ya_sb ya_ob : Nat → Int32} (hp : p < 64) (ht : ce_b w p = false ∧ ce_b m p = false → post 1 (yf_lim, yf_hs, yf_started, yf_pu, yf_moves, yf_pushes, yf_hn, yf_solLen, yf_nB, yf_nL, nI p, yf_nextState, ya_edit, ce_A w, ya_goal, ce_A m, ya_hFrom, ya_hBf, ya_hBt, ya_sol, ya_reach, ya_stack, ya_liveMark, ya_liveIdx, ya_liveCell, ya_dist, ya_sb, ya_ob)) (hf : ¬ (ce_b w p = false ∧ ce_b m p = false) → post 0 (yf_lim, yf_hs, yf_started, yf_pu, yf_moves, yf_pushes, yf_hn, yf_solLen, yf_nB, yf_nL, nI p, yf_nextState, ya_edit, ce_A w, ya_goal, ce_A m, ya_hFrom, ya_hBf, ya_hBt, ya_sol, ya_reach, ya_stack, ya_liveMark, ya_liveIdx, ya_liveCell, ya_dist, ya_sb, ya_ob)) : wY_load_185 post yf_lim yf_hs yf_started yf_pu yf_moves yf_pushes yf_hn yf_solLen yf_nB yf_nL (nI p) yf_nextState ya_edit (ce_A w) ya_goal (ce_A m) ya_hFrom ya_hBf ya_hBt ya_sol ya_reach ya_stack ya_liveMark ya_liveIdx ya_liveCell ya_dist ya_sb ya_ob := by
  have e : (nI p).toNatClampNeg = p := nI_clamp (by omega)
  have v : vp_in (nI p) 64 := vp_in_nI hp (by decide)
  refine ⟨v, ?_⟩
  rw [e]
  cases hw : ce_b w p
  · refine br_t (ce_Af hw) ⟨v, ?_⟩
    cases hm : ce_b m p
    · exact br_t (ce_Af hm) (ht ⟨hw, hm⟩)
    · exact br_f (by rw [ce_At hm]; decide) (hf (fun z => by rw [hm] at z; cases z.2))
  · exact br_f (by rw [ce_At hw]; decide) (hf (fun z => by rw [hw] at z; cases z.1))
theorem ys_94 {post : Int32 → SY → Prop} {w : Int64} {B p : Nat} {cl : Nat → Nat} {yf_lim yf_hs yf_started yf_pu yf_moves yf_pushes yf_hn yf_solLen yf_nL yf_nextState : Int32} {ya_edit ya_goal ya_hFrom ya_hBf ya_hBt ya_sol ya_reach ya_stack ya_liveMark ya_liveIdx ya_liveCell ya_dist ya_sb ya_ob : Nat → Int32} (hB1 : 1 ≤ B) (hB : B ≤ 3) (hp : p < 64) (hsb : ∀ j, j < B → ya_sb j = nI (cl j) ∧ cl j < 64)
    (ht : (∀ i j, i < B → j < B → i ≠ j → cl i ≠ cl j) ∧ ce_b w p = false ∧ ce_b (gr_ms cl B) p = false → post 1 (yf_lim, yf_hs, yf_started, yf_pu, yf_moves, yf_pushes, yf_hn, yf_solLen, nI B, yf_nL, nI p, yf_nextState, ya_edit, ce_A w, ya_goal, ce_A (gr_ms cl B), ya_hFrom, ya_hBf, ya_hBt, ya_sol, ya_reach, ya_stack, ya_liveMark, ya_liveIdx, ya_liveCell, ya_dist, ya_sb, ya_ob))
    (hf : ¬ ((∀ i j, i < B → j < B → i ≠ j → cl i ≠ cl j) ∧ ce_b w p = false ∧ ce_b (gr_ms cl B) p = false) → post 0 (yf_lim, yf_hs, yf_started, yf_pu, yf_moves, yf_pushes, yf_hn, yf_solLen, nI B, yf_nL, nI p, yf_nextState, ya_edit, ce_A w, ya_goal, ce_A (gr_ms cl B), ya_hFrom, ya_hBf, ya_hBt, ya_sol, ya_reach, ya_stack, ya_liveMark, ya_liveIdx, ya_liveCell, ya_dist, ya_sb, ya_ob)) :
    ∀ q i, i + q = B → wY_load_94 post yf_lim yf_hs yf_started yf_pu yf_moves yf_pushes yf_hn yf_solLen (nI B) yf_nL (nI p) yf_nextState (q + 1) (nI i) ya_edit (ce_A w) ya_goal (ce_A (gr_ms cl i)) ya_hFrom ya_hBf ya_hBt ya_sol ya_reach ya_stack ya_liveMark ya_liveIdx ya_liveCell ya_dist ya_sb ya_ob := by
  intro q
  induction q with
  | zero =>
    intro i hi
    have e : i = B := by omega
    subst e
    refine br_t (nI_le (Nat.le_refl i) (by omega)) ?_
    have last : (∀ a b, a < i → b < i → a ≠ b → cl a ≠ cl b) → wY_load_185 post yf_lim yf_hs yf_started yf_pu yf_moves yf_pushes yf_hn yf_solLen (nI i) yf_nL (nI p) yf_nextState ya_edit (ce_A w) ya_goal (ce_A (gr_ms cl i)) ya_hFrom ya_hBf ya_hBt ya_sol ya_reach ya_stack ya_liveMark ya_liveIdx ya_liveCell ya_dist ya_sb ya_ob := fun hd => ys_185 hp (fun z => ht ⟨hd, z⟩) (fun z => hf (fun y => z y.2))
    have sbe : ∀ a b, a < i → b < i → (ya_sb a = ya_sb b ↔ cl a = cl b) := by
      intro a b ha hb
      rw [(hsb a ha).1, (hsb b hb).1]
      exact nI_eq (by have := (hsb a ha).2; omega) (by have := (hsb b hb).2; omega)
    refine pk_le i 1 (fun z => ?_) (fun z => ?_)
    · exact br_t (nI_le (b := 2) (by omega) (by decide)) (last (fun a b ha hb hab => by omega))
    · refine br_c (fun e => hf (fun y => y.1 0 1 (by omega) (by omega) (by omega) ((sbe 0 1 (by omega) (by omega)).mp e))) (fun e01 => ?_)
      refine pk_le i 2 (fun z2 => ?_) (fun z2 => ?_)
      · refine last (fun a b ha hb hab => ?_)
        have n01 : cl 0 ≠ cl 1 := fun e => e01 ((sbe 0 1 (by omega) (by omega)).mpr e)
        have : (a = 0 ∧ b = 1) ∨ (a = 1 ∧ b = 0) := by omega
        rcases this with ⟨rfl, rfl⟩ | ⟨rfl, rfl⟩
        · exact n01
        · exact n01.symm
      · refine br_c (fun e => hf (fun y => y.1 0 2 (by omega) (by omega) (by omega) ((sbe 0 2 (by omega) (by omega)).mp e))) (fun e02 => ?_)
        refine br_c (fun e => hf (fun y => y.1 1 2 (by omega) (by omega) (by omega) ((sbe 1 2 (by omega) (by omega)).mp e))) (fun e12 => ?_)
        refine last (fun a b ha hb hab => ?_)
        have n01 : cl 0 ≠ cl 1 := fun e => e01 ((sbe 0 1 (by omega) (by omega)).mpr e)
        have n02 : cl 0 ≠ cl 2 := fun e => e02 ((sbe 0 2 (by omega) (by omega)).mpr e)
        have n12 : cl 1 ≠ cl 2 := fun e => e12 ((sbe 1 2 (by omega) (by omega)).mpr e)
        have : (a = 0 ∧ b = 1) ∨ (a = 1 ∧ b = 0) ∨ (a = 0 ∧ b = 2) ∨ (a = 2 ∧ b = 0) ∨ (a = 1 ∧ b = 2) ∨ (a = 2 ∧ b = 1) := by omega
        rcases this with ⟨rfl, rfl⟩ | ⟨rfl, rfl⟩ | ⟨rfl, rfl⟩ | ⟨rfl, rfl⟩ | ⟨rfl, rfl⟩ | ⟨rfl, rfl⟩
        · exact n01
        · exact n01.symm
        · exact n02
        · exact n02.symm
        · exact n12
        · exact n12.symm
  | succ q ih =>
    intro i hi
    have := ih (i + 1) (by omega)
    obtain ⟨s1, s2⟩ := hsb i (by omega)
    refine br_f (nI_ge (by omega) (by omega)) ⟨vp_in_nI (by omega) (by decide), ?_⟩
    rw [nI_clamp (n := i) (by omega), s1]
    exact ⟨vp_in_nI s2 (by decide), nm_r (e' := ce_A (gr_ms cl (i + 1))) (by rw [rl_b1, nI_clamp (n := cl i) (by omega), ce_A_set s2]; rfl) (nm_r (nI_1 i) this)⟩
theorem ys_58 {post : Int32 → SY → Prop} {w lv : Int64} {B L s : Nat} {yf_lim yf_hs yf_started yf_pu yf_moves yf_pushes yf_hn yf_solLen yf_nextState : Int32} {ya_edit ya_goal ya_hFrom ya_hBf ya_hBt ya_sol ya_reach ya_stack ya_liveMark ya_liveIdx ya_liveCell ya_dist ya_ob : Nat → Int32} (hB1 : 1 ≤ B) (hB : B ≤ 3) (hL : ce_rk lv 64 = L) (h1 : 1 ≤ L) (hs : s < 2 ^ 31) (hlc : ∀ j, j < L → ya_liveCell j = nI (gr_sel lv 64 j))
    (ht : ∀ sb, (∀ j, j < B → sb j = nI (ys_cl lv L B s j)) → ys_V w lv L B s → post 1 (yf_lim, yf_hs, yf_started, yf_pu, yf_moves, yf_pushes, yf_hn, yf_solLen, nI B, nI L, nI (s % 64), yf_nextState, ya_edit, ce_A w, ya_goal, ce_A (gr_ms (ys_cl lv L B s) B), ya_hFrom, ya_hBf, ya_hBt, ya_sol, ya_reach, ya_stack, ya_liveMark, ya_liveIdx, ya_liveCell, ya_dist, sb, ya_ob))
    (hf : ∀ sb, (∀ j, j < B → sb j = nI (ys_cl lv L B s j)) → ¬ ys_V w lv L B s → post 0 (yf_lim, yf_hs, yf_started, yf_pu, yf_moves, yf_pushes, yf_hn, yf_solLen, nI B, nI L, nI (s % 64), yf_nextState, ya_edit, ce_A w, ya_goal, ce_A (gr_ms (ys_cl lv L B s) B), ya_hFrom, ya_hBf, ya_hBt, ya_sol, ya_reach, ya_stack, ya_liveMark, ya_liveIdx, ya_liveCell, ya_dist, sb, ya_ob)) :
    ∀ r t sb x3, r + t = B → (r = 0 → x3 = -1) → (∀ q, r = q + 1 → x3 = nI q) → (∀ j, r ≤ j → j < B → sb j = nI (ys_cl lv L B s j)) → wY_load_58 post yf_lim yf_hs yf_started yf_pu yf_moves yf_pushes yf_hn yf_solLen (nI B) (nI L) (nI (s % 64)) yf_nextState (r + 1) (nI (s / 64 / L ^ t)) x3 ya_edit (ce_A w) ya_goal (ce_A 0) ya_hFrom ya_hBf ya_hBt ya_sol ya_reach ya_stack ya_liveMark ya_liveIdx ya_liveCell ya_dist (sb) ya_ob := by
  have hL64 : L ≤ 64 := by rw [← hL]; exact ce_rk_le _ _
  intro r
  induction r with
  | zero =>
    intro t sb x3 ht' h2 h3 h4
    rw [h2 rfl]
    refine br_t (by decide) ⟨B + 1, ?_⟩
    have := ys_94 (post := post) (w := w) (cl := ys_cl lv L B s) (ya_sb := sb) hB1 hB (Nat.mod_lt s (by decide)) (fun j hj => ⟨h4 j (by omega) hj, (ys_cl_ok hL h1 B s j).2⟩) (ht sb (fun j hj => h4 j (by omega) hj)) (hf sb (fun j hj => h4 j (by omega) hj)) B 0 (by omega)
    exact this
  | succ r ih =>
    intro t sb x3 ht' h2 h3 h4
    rw [h3 r rfl]
    have hv : s / 64 / L ^ t < 2 ^ 31 := Nat.lt_of_le_of_lt (Nat.le_trans (Nat.div_le_self _ _) (Nat.div_le_self _ _)) hs
    have hL31 : L < 2 ^ 31 := by omega
    have er : nI (s / 64 / L ^ t) - nI (s / 64 / L ^ t) / nI L * nI L = nI (s / 64 / L ^ t % L) := pk_rem hv h1 hL31
    have ed : nI (s / 64 / L ^ t) / nI L = nI (s / 64 / L ^ (t + 1)) := by
      rw [pk_div hv h1 hL31, Nat.pow_succ, Nat.div_div_eq_div_mul (s / 64)]
    have hm : s / 64 / L ^ t % L < L := Nat.mod_lt _ h1
    have nz : ¬ nI L = 0 := nI_ne0 h1 hL31
    refine br_f (nI_pos (by omega)) ⟨nz, ?_⟩
    rw [er]
    refine ⟨vp_in_nI (by omega) (by decide), vp_in_nI (by omega) (by decide), nm_r (e' := upd sb r (nI (ys_cl lv L B s r))) ?_ ⟨nz, nm_r ed (nm_e ?_)⟩⟩
    · rw [nI_clamp (n := r) (by omega), nI_clamp (n := s / 64 / L ^ t % L) (by omega), hlc _ hm]
      unfold ys_cl gr_dg
      rw [show B - 1 - r = t by omega]
    · refine ih (t + 1) _ _ (by omega) (fun e => ?_) (fun q e => ?_) (fun j hj hjB => ?_)
      · subst e; exact rl_m1
      · subst e; exact pk_m1 q
      · by_cases e : j = r
        · subst e; rw [pk_us]
        · rw [pk_un e]; exact h4 j (by omega) hjB
theorem ys_load {post : Int32 → SY → Prop} {w lv : Int64} {B L s : Nat} {cl : Nat → Nat} {yf_lim yf_hs yf_started yf_pu yf_moves yf_pushes yf_hn yf_solLen yf_curP yf_nextState : Int32} {ya_edit ya_goal ya_hFrom ya_hBf ya_hBt ya_sol ya_reach ya_stack ya_liveMark ya_liveIdx ya_liveCell ya_dist ya_sb ya_ob : Nat → Int32} (hB1 : 1 ≤ B) (hB : B ≤ 3) (hL : ce_rk lv 64 = L) (h1 : 1 ≤ L) (hs : s < 2 ^ 31) (hlc : ∀ j, j < L → ya_liveCell j = nI (gr_sel lv 64 j)) (hsb : ∀ j, j < B → ya_sb j = nI (cl j) ∧ cl j < 64)
    (ht : ∀ sb, (∀ j, j < B → sb j = nI (ys_cl lv L B s j)) → ys_V w lv L B s → post 1 (yf_lim, yf_hs, yf_started, yf_pu, yf_moves, yf_pushes, yf_hn, yf_solLen, nI B, nI L, nI (s % 64), yf_nextState, ya_edit, ce_A w, ya_goal, ce_A (gr_ms (ys_cl lv L B s) B), ya_hFrom, ya_hBf, ya_hBt, ya_sol, ya_reach, ya_stack, ya_liveMark, ya_liveIdx, ya_liveCell, ya_dist, sb, ya_ob))
    (hf : ∀ sb, (∀ j, j < B → sb j = nI (ys_cl lv L B s j)) → ¬ ys_V w lv L B s → post 0 (yf_lim, yf_hs, yf_started, yf_pu, yf_moves, yf_pushes, yf_hn, yf_solLen, nI B, nI L, nI (s % 64), yf_nextState, ya_edit, ce_A w, ya_goal, ce_A (gr_ms (ys_cl lv L B s) B), ya_hFrom, ya_hBf, ya_hBt, ya_sol, ya_reach, ya_stack, ya_liveMark, ya_liveIdx, ya_liveCell, ya_dist, sb, ya_ob)) :
    wpY_load post (yf_lim, yf_hs, yf_started, yf_pu, yf_moves, yf_pushes, yf_hn, yf_solLen, nI B, nI L, yf_curP, yf_nextState, ya_edit, ce_A w, ya_goal, ce_A (gr_ms cl B), ya_hFrom, ya_hBf, ya_hBt, ya_sol, ya_reach, ya_stack, ya_liveMark, ya_liveIdx, ya_liveCell, ya_dist, ya_sb, ya_ob) (nI s) := by
  have hL64 : L ≤ 64 := by rw [← hL]; exact ce_rk_le _ _
  have key : ∀ q i, i + q = B → wY_load_12 post (nI s) yf_lim yf_hs yf_started yf_pu yf_moves yf_pushes yf_hn yf_solLen (nI B) (nI L) yf_curP yf_nextState (q + 1) (nI i) ya_edit (ce_A w) ya_goal (ce_A (gr_cr (gr_ms cl B) cl i)) ya_hFrom ya_hBf ya_hBt ya_sol ya_reach ya_stack ya_liveMark ya_liveIdx ya_liveCell ya_dist ya_sb ya_ob := by
    intro q
    induction q with
    | zero =>
      intro i hi
      have e : i = B := by omega
      subst e
      rw [gr_cr0 (fun j hj => (hsb j hj).2)]
      have e1 : nI s &&& 63 = nI (s % 64) := pk_andN (by omega) 6 (by decide)
      have e2 : nI s >>> ((6 : Int32) &&& 31) = nI (s / 64) := pk_shrN hs _ 6 (by decide)
      refine br_t (nI_le (Nat.le_refl i) (by omega)) (nm_r e1 (nm_r e2 (nm_r (pk_sub (b := 1) hB1) ⟨i + 1, ?_⟩)))
      have := ys_58 (post := post) (w := w) hB1 hB hL h1 hs hlc ht hf i 0 ya_sb (nI (i - 1)) (by omega) (fun e => by omega) (fun q e => by rw [e]; rfl) (fun j h1 h2 => by omega)
      rw [Nat.pow_zero, Nat.div_one] at this
      exact this
    | succ q ih =>
      intro i hi
      have := ih (i + 1) (by omega)
      obtain ⟨s1, s2⟩ := hsb i (by omega)
      refine br_f (nI_ge (by omega) (by omega)) ⟨vp_in_nI (by omega) (by decide), ?_⟩
      rw [nI_clamp (n := i) (by omega), s1]
      exact ⟨vp_in_nI s2 (by decide), nm_r (e' := ce_A (gr_cr (gr_ms cl B) cl (i + 1))) (by rw [rl_b0, nI_clamp (n := cl i) (by omega), ce_A_clr s2]; rfl) (nm_r (nI_1 i) this)⟩
  exact br_t (nI_le (a := 1) h1 (by omega)) ⟨B + 1, key B 0 (by omega)⟩
