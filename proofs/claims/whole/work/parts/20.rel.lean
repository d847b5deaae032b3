/-! the relation -/
def rl_A (P H : Nat) (pl hl st : Int32) (w g b : Int64) (ed : Nat → Int32) (yl yh ys : Int32) (ye yw yg yb : Nat → Int32) : Prop :=
  1 ≤ P ∧ P ≤ 40 ∧ 8 ≤ H ∧ H ≤ 64 ∧ nI P = pl ∧ nI P = yl ∧ nI H = hl ∧ nI H = yh ∧ ed = ye ∧ st = ys ∧ ce_A w = yw ∧ ce_A g = yg ∧ ce_A b = yb
def rl_N (st mo pu so : Int32) : Prop := 0 = st ∧ 0 = mo ∧ 0 = pu ∧ 0 = so
def rl_P (H : Nat) (st : Int32) (w g b lv : Int64) (lt bt pc mo pu hn ht so : Int32) (lr : Nat → Int32) (hb : Nat → Int64) (hp sp : Nat → Int32) (yp ym yq yn yo : Int32) (yF yf yt yS : Nat → Int32) (B p n nx S : Nat) : Prop :=
  1 = st ∧ mo = ym ∧ pu = yq ∧ 1 ≤ B ∧ B ≤ 3 ∧ nI B = bt ∧ nI p = pc ∧ nI p = yp ∧ gr_live w g = lv ∧ nI (ce_rk lv 64) = lt ∧ (∀ c, c < 64 → lr c = nI (ce_rk lv c)) ∧ (∀ c, ce_b g c = true → ce_b w c = false) ∧ ce_rk g 64 = B ∧
  nx < H ∧ n ≤ H ∧ nI nx = hn ∧ nI n = ht ∧ nI n = yn ∧ rl_H w B H n nx hb hp yF yf yt b p ∧ S ≤ 40 ∧ nI S = so ∧ nI S = yo ∧ ∀ i, i < S → yS i = sp i
def i_Rel (k : Nat) (u : SX) (v : SY) : Prop :=
  match u with
  | (f_pushLimit, f_historyLimit, f_started, f_walls, f_goals, f_boxes, f_liveCells, f_liveTotal, f_boxTotal, f_pusherCell, f_moves, f_pushes, f_historyNext, f_historyTotal, f_storedTotal, f_nodeTotal, a_editGrid, a_liveRank, a_historyBoxes, a_historyPusher, a_storedPushes, a_nodeBoxes, a_nodePusher, a_nodeParent, a_nodeCode, a_nodeDepth, a_nodeMet) => match v with
    | (yf_lim, yf_hs, yf_started, yf_pu, yf_moves, yf_pushes, yf_hn, yf_solLen, yf_nB, yf_nL, yf_curP, yf_nextState, ya_edit, ya_wall, ya_goal, ya_box, ya_hFrom, ya_hBf, ya_hBt, ya_sol, ya_reach, ya_stack, ya_liveMark, ya_liveIdx, ya_liveCell, ya_dist, ya_sb, ya_ob) => ∃ P H, rl_A P H f_pushLimit f_historyLimit f_started f_walls f_goals f_boxes a_editGrid yf_lim yf_hs yf_started ya_edit ya_wall ya_goal ya_box ∧
      (rl_N f_started f_moves f_pushes f_storedTotal ∨ ∃ B p n nx S, rl_P H f_started f_walls f_goals f_boxes f_liveCells f_liveTotal f_boxTotal f_pusherCell f_moves f_pushes f_historyNext f_historyTotal f_storedTotal a_liveRank a_historyBoxes a_historyPusher a_storedPushes yf_pu yf_moves yf_pushes yf_hn yf_solLen ya_hFrom ya_hBf ya_hBt ya_sol B p n nx S)
theorem i_up {k : Nat} {u : SX} {v : SY} (h : i_Rel k u v) : i_Rel (k + 4) u v := h
/-! the constructors -/
def rl_cl (x lo hi : Int32) : Int32 := if lo ≤ x then (if x ≤ hi then x else hi) else lo
theorem xs_clamp {post : Int32 → Prop} {x lo hi : Int32} (h : post (rl_cl x lo hi)) : wpX_clamp post x lo hi := by
  unfold rl_cl at h
  refine br_c (fun z => br_c (fun y => ?_) (fun y => ?_)) (fun z => ?_)
  · rw [if_pos z, if_pos y] at h; exact h
  · rw [if_pos z, if_neg y] at h; exact h
  · rw [if_neg z] at h; exact h
theorem rl_clN (x : Int32) {a b : Nat} (hab : a ≤ b) (hb : b < 2 ^ 31) : ∃ P, a ≤ P ∧ P ≤ b ∧ rl_cl x (nI a) (nI b) = nI P := by
  unfold rl_cl
  by_cases z : nI a ≤ x
  · have h0 : ¬ x < 0 := by
      intro q
      have := nI_pos' (n := a) (by omega)
      exact absurd (Int32.lt_of_le_of_lt (Int32.le_trans this z) q) (by decide)
    obtain ⟨j, hj, rfl⟩ := nI_of h0
    rw [if_pos z]
    rw [nI_leI (by omega) hj] at z
    by_cases y : nI j ≤ nI b
    · rw [if_pos y]
      rw [nI_leI hj hb] at y
      exact ⟨j, z, y, rfl⟩
    · rw [if_neg y]; exact ⟨b, hab, Nat.le_refl b, rfl⟩
  · rw [if_neg z]; exact ⟨a, Nat.le_refl a, hab, rfl⟩
def rl_e : Nat → (Nat → Int32)
  | 0 => fun _ => 0
  | i + 1 => upd (rl_e i) i 35
theorem xs_init0 {post : SX → Prop} {f_pushLimit f_historyLimit f_started : Int32} {f_walls f_goals f_boxes f_liveCells : Int64} {f_liveTotal f_boxTotal f_pusherCell f_moves f_pushes f_historyNext f_historyTotal f_storedTotal f_nodeTotal : Int32} {a_liveRank : Nat → Int32} {a_historyBoxes : Nat → Int64} {a_historyPusher a_storedPushes : Nat → Int32} {a_nodeBoxes : Nat → Int64} {a_nodePusher a_nodeParent a_nodeCode a_nodeDepth a_nodeMet : Nat → Int32} (h : post (f_pushLimit, f_historyLimit, f_started, f_walls, f_goals, f_boxes, f_liveCells, f_liveTotal, f_boxTotal, f_pusherCell, f_moves, f_pushes, f_historyNext, f_historyTotal, f_storedTotal, f_nodeTotal, rl_e 64, a_liveRank, a_historyBoxes, a_historyPusher, a_storedPushes, a_nodeBoxes, a_nodePusher, a_nodeParent, a_nodeCode, a_nodeDepth, a_nodeMet)) : ∀ k i, i + k = 64 → wX_init_123 post f_pushLimit f_historyLimit f_started f_walls f_goals f_boxes f_liveCells f_liveTotal f_boxTotal f_pusherCell f_moves f_pushes f_historyNext f_historyTotal f_storedTotal f_nodeTotal (k + 1) (nI i) (rl_e i) a_liveRank a_historyBoxes a_historyPusher a_storedPushes a_nodeBoxes a_nodePusher a_nodeParent a_nodeCode a_nodeDepth a_nodeMet := by
  intro k
  induction k with
  | zero =>
    intro i hi
    have e : i = 64 := by omega
    subst e
    exact br_t (nI_le (a := 64) (by omega) (by omega)) h
  | succ k ih =>
    intro i hi
    exact br_f (nI_ge (b := 64) (by omega) (by decide)) ⟨vp_in_nI (by omega) (by decide), nm_r (e' := rl_e (i + 1)) (by rw [nI_clamp (by omega)]; rfl) (nm_r (nI_1 i) (ih (i + 1) (by omega)))⟩
theorem ys_init0 {post : SY → Prop} {yf_lim yf_hs yf_started yf_pu yf_moves yf_pushes yf_hn yf_solLen yf_nB yf_nL yf_curP yf_nextState : Int32} {ya_wall ya_goal ya_box ya_hFrom ya_hBf ya_hBt ya_sol ya_reach ya_stack ya_liveMark ya_liveIdx ya_liveCell ya_dist ya_sb ya_ob : Nat → Int32} (h : post (yf_lim, yf_hs, yf_started, yf_pu, yf_moves, yf_pushes, yf_hn, yf_solLen, yf_nB, yf_nL, yf_curP, yf_nextState, rl_e 64, ya_wall, ya_goal, ya_box, ya_hFrom, ya_hBf, ya_hBt, ya_sol, ya_reach, ya_stack, ya_liveMark, ya_liveIdx, ya_liveCell, ya_dist, ya_sb, ya_ob)) : ∀ k i, i + k = 64 → wY_init_185 post yf_lim yf_hs yf_started yf_pu yf_moves yf_pushes yf_hn yf_solLen yf_nB yf_nL yf_curP yf_nextState (k + 1) (nI i) (rl_e i) ya_wall ya_goal ya_box ya_hFrom ya_hBf ya_hBt ya_sol ya_reach ya_stack ya_liveMark ya_liveIdx ya_liveCell ya_dist ya_sb ya_ob := by
  intro k
  induction k with
  | zero =>
    intro i hi
    have e : i = 64 := by omega
    subst e
    exact br_t (nI_le (a := 64) (by omega) (by omega)) h
  | succ k ih =>
    intro i hi
    exact br_f (nI_ge (b := 64) (by omega) (by decide)) ⟨vp_in_nI (by omega) (by decide), nm_r (e' := rl_e (i + 1)) (by rw [nI_clamp (by omega)]; rfl) (nm_r (nI_1 i) (ih (i + 1) (by omega)))⟩
theorem ys_153 {post : SY → Prop} {yf_lim yf_hs yf_started yf_pu yf_moves yf_pushes yf_hn yf_solLen yf_nB yf_nL yf_curP yf_nextState : Int32} {ya_wall ya_goal ya_box ya_hFrom ya_hBf ya_hBt ya_sol ya_reach ya_stack ya_liveMark ya_liveIdx ya_liveCell ya_dist ya_sb ya_ob : Nat → Int32} {x z : Int32} (h : post (z, rl_cl x 8 64, yf_started, yf_pu, yf_moves, yf_pushes, yf_hn, yf_solLen, yf_nB, yf_nL, yf_curP, yf_nextState, rl_e 64, ya_wall, ya_goal, ya_box, ya_hFrom, ya_hBf, ya_hBt, ya_sol, ya_reach, ya_stack, ya_liveMark, ya_liveIdx, ya_liveCell, ya_dist, ya_sb, ya_ob)) : wY_init_153 post x z yf_lim yf_hs yf_started yf_pu yf_moves yf_pushes yf_hn yf_solLen yf_nB yf_nL yf_curP yf_nextState (fun _ => 0) ya_wall ya_goal ya_box ya_hFrom ya_hBf ya_hBt ya_sol ya_reach ya_stack ya_liveMark ya_liveIdx ya_liveCell ya_dist ya_sb ya_ob := by
  unfold rl_cl at h
  refine br_c (fun z => br_c (fun y => ?_) (fun y => ?_)) (fun z => ?_)
  · rw [if_pos z, if_pos y] at h; exact ⟨65, ys_init0 h 64 0 (by omega)⟩
  · rw [if_pos z, if_neg y] at h; exact ⟨65, ys_init0 h 64 0 (by omega)⟩
  · rw [if_neg z] at h; exact ⟨65, ys_init0 h 64 0 (by omega)⟩
theorem i_vc0 (k0 : Int32) (k1 : Int32) : wpX_init (fun u => wpY_init (fun v => i_Rel 2 u v) k0 k1) k0 k1 := by
  obtain ⟨P, p1, p2, p3⟩ := rl_clN k0 (a := 1) (b := 40) (by decide) (by decide)
  obtain ⟨H, h1, h2, h3⟩ := rl_clN k1 (a := 8) (b := 64) (by decide) (by decide)
  have p3 : rl_cl k0 1 40 = nI P := p3
  have h3 : rl_cl k1 8 64 = nI H := h3
  refine xs_clamp (xs_clamp ⟨65, xs_init0 ?_ 64 0 (by omega)⟩)
  have fin : ∀ z : Int32, rl_cl k0 1 40 = z → wY_init_153 (fun v => i_Rel 2 (rl_cl k0 1 40, rl_cl k1 8 64, 0, 0, 0, 0, 0, 0, 0, 0, 0, 0, 0, 0, 0, 0, rl_e 64, fun _ => 0, fun _ => 0, fun _ => 0, fun _ => 0, fun _ => 0, fun _ => 0, fun _ => 0, fun _ => 0, fun _ => 0, fun _ => 0) v) k1 z (0) (0) (0) (0) (0) (0) (0) (0) (0) (0) (0) (0) (fun _ => 0) (fun _ => 0) (fun _ => 0) (fun _ => 0) (fun _ => 0) (fun _ => 0) (fun _ => 0) (fun _ => 0) (fun _ => 0) (fun _ => 0) (fun _ => 0) (fun _ => 0) (fun _ => 0) (fun _ => 0) (fun _ => 0) (fun _ => 0) := by
    intro z hz
    refine ys_153 ?_
    exact ⟨P, H, ⟨p1, p2, h1, h2, p3.symm, by rw [← hz]; exact p3.symm, h3.symm, h3.symm, rfl, rfl, ce_A0, ce_A0, ce_A0⟩, Or.inl ⟨rfl, rfl, rfl, rfl⟩⟩
  refine br_c (fun z => br_c (fun y => ?_) (fun y => ?_)) (fun z => ?_)
  · exact fin k0 (by unfold rl_cl; rw [if_pos z, if_pos y])
  · exact fin 40 (by unfold rl_cl; rw [if_pos z, if_neg y])
  · exact fin 1 (by unfold rl_cl; rw [if_neg z])
/-! characters -/
theorem xs_isP {post : Int32 → Prop} {x : Int32} (h1 : x = 64 ∨ x = 43 → post 1) (h0 : ¬ (x = 64 ∨ x = 43) → post 0) : wpX_isPusherCharacter post x :=
  br_c (fun e => h1 (Or.inl e)) (fun a => br_c (fun e => h1 (Or.inr e)) (fun b => h0 (fun z => z.elim a b)))
theorem xs_isB {post : Int32 → Prop} {x : Int32} (h1 : x = 36 ∨ x = 42 → post 1) (h0 : ¬ (x = 36 ∨ x = 42) → post 0) : wpX_isBoxCharacter post x :=
  br_c (fun e => h1 (Or.inl e)) (fun a => br_c (fun e => h1 (Or.inr e)) (fun b => h0 (fun z => z.elim a b)))
theorem xs_isG {post : Int32 → Prop} {x : Int32} (h1 : x = 46 ∨ x = 42 ∨ x = 43 → post 1) (h0 : ¬ (x = 46 ∨ x = 42 ∨ x = 43) → post 0) : wpX_isGoalCharacter post x :=
  br_c (fun e => h1 (Or.inl e)) (fun a => br_c (fun e => h1 (Or.inr (Or.inl e))) (fun b => br_c (fun e => h1 (Or.inr (Or.inr e))) (fun c => h0 (fun z => z.elim a (fun y => y.elim b c)))))
def rl_lv (x : Int32) : Prop := x = 32 ∨ x = 35 ∨ (x = 64 ∨ x = 43) ∨ (x = 36 ∨ x = 42) ∨ (x = 46 ∨ x = 42 ∨ x = 43)
theorem xs_lvl {post : Int32 → Prop} {x : Int32} (h1 : rl_lv x → post 1) (h0 : ¬ rl_lv x → post 0) : wpX_isLevelCharacter post x := by
  refine br_c (fun e => h1 (Or.inl e)) (fun a => br_c (fun e => h1 (Or.inr (Or.inl e))) (fun b => ?_))
  refine xs_isP (fun e => br_f (by decide) (h1 (Or.inr (Or.inr (Or.inl e))))) (fun c => br_t rfl ?_)
  refine xs_isB (fun e => br_f (by decide) (h1 (Or.inr (Or.inr (Or.inr (Or.inl e)))))) (fun d => br_t rfl ?_)
  refine xs_isG (fun e => br_f (by decide) (h1 (Or.inr (Or.inr (Or.inr (Or.inr e)))))) (fun e => br_t rfl (h0 ?_))
  rintro (z | z | z | z | z)
  · exact a z
  · exact b z
  · exact c z
  · exact d z
  · exact e z
theorem ys_isCh {post : Int32 → Prop} {v : SY} {x : Int32} (h1 : rl_lv x → post 1) (h0 : ¬ rl_lv x → post 0) : wpY_isCh post v x := by
  obtain ⟨yf_lim, yf_hs, yf_started, yf_pu, yf_moves, yf_pushes, yf_hn, yf_solLen, yf_nB, yf_nL, yf_curP, yf_nextState, ya_edit, ya_wall, ya_goal, ya_box, ya_hFrom, ya_hBf, ya_hBt, ya_sol, ya_reach, ya_stack, ya_liveMark, ya_liveIdx, ya_liveCell, ya_dist, ya_sb, ya_ob⟩ := v
  refine br_c (fun e => h1 (Or.inl e)) (fun a1 => br_c (fun e => h1 (Or.inr (Or.inr (Or.inr (Or.inl (Or.inl e)))))) (fun a2 => br_c (fun e => h1 (Or.inr (Or.inl e))) (fun a3 => br_c (fun e => h1 (Or.inr (Or.inr (Or.inr (Or.inl (Or.inr e)))))) (fun a4 => br_c (fun e => h1 (Or.inr (Or.inr (Or.inl (Or.inr e))))) (fun a5 => br_c (fun e => h1 (Or.inr (Or.inr (Or.inr (Or.inr (Or.inl e)))))) (fun a6 => br_c (fun e => h1 (Or.inr (Or.inr (Or.inl (Or.inl e))))) (fun a7 => h0 ?_)))))))
  rintro (z | z | (z | z) | (z | z) | (z | z | z))
  · exact a1 z
  · exact a3 z
  · exact a7 z
  · exact a5 z
  · exact a2 z
  · exact a4 z
  · exact a6 z
  · exact a4 z
  · exact a5 z
/-- what the relation doesn't speak of may change (never compare two states that differ: the kernel runs away) -/
theorem rl_keep {k k' : Nat} {f_pushLimit f_historyLimit f_started : Int32} {f_walls f_goals f_boxes f_liveCells : Int64} {f_liveTotal f_boxTotal f_pusherCell f_moves f_pushes f_historyNext f_historyTotal f_storedTotal f_nodeTotal : Int32} {a_editGrid a_liveRank : Nat → Int32} {a_historyBoxes : Nat → Int64} {a_historyPusher a_storedPushes : Nat → Int32} {a_nodeBoxes : Nat → Int64} {a_nodePusher a_nodeParent a_nodeCode a_nodeDepth a_nodeMet : Nat → Int32} {yf_lim yf_hs yf_started yf_pu yf_moves yf_pushes yf_hn yf_solLen yf_nB yf_nL yf_curP yf_nextState : Int32} {ya_edit ya_wall ya_goal ya_box ya_hFrom ya_hBf ya_hBt ya_sol ya_reach ya_stack ya_liveMark ya_liveIdx ya_liveCell ya_dist ya_sb ya_ob : Nat → Int32} {xN : Int32} {xB : Nat → Int64} {xP xQ xC xD xM : Nat → Int32} {y1 y2 y3 y4 : Int32} {z1 z2 z3 z4 z5 z6 z7 z8 : Nat → Int32} (h : i_Rel k (f_pushLimit, f_historyLimit, f_started, f_walls, f_goals, f_boxes, f_liveCells, f_liveTotal, f_boxTotal, f_pusherCell, f_moves, f_pushes, f_historyNext, f_historyTotal, f_storedTotal, f_nodeTotal, a_editGrid, a_liveRank, a_historyBoxes, a_historyPusher, a_storedPushes, a_nodeBoxes, a_nodePusher, a_nodeParent, a_nodeCode, a_nodeDepth, a_nodeMet) (yf_lim, yf_hs, yf_started, yf_pu, yf_moves, yf_pushes, yf_hn, yf_solLen, yf_nB, yf_nL, yf_curP, yf_nextState, ya_edit, ya_wall, ya_goal, ya_box, ya_hFrom, ya_hBf, ya_hBt, ya_sol, ya_reach, ya_stack, ya_liveMark, ya_liveIdx, ya_liveCell, ya_dist, ya_sb, ya_ob)) : i_Rel k' (f_pushLimit, f_historyLimit, f_started, f_walls, f_goals, f_boxes, f_liveCells, f_liveTotal, f_boxTotal, f_pusherCell, f_moves, f_pushes, f_historyNext, f_historyTotal, f_storedTotal, xN, a_editGrid, a_liveRank, a_historyBoxes, a_historyPusher, a_storedPushes, xB, xP, xQ, xC, xD, xM) (yf_lim, yf_hs, yf_started, yf_pu, yf_moves, yf_pushes, yf_hn, yf_solLen, y1, y2, y3, y4, ya_edit, ya_wall, ya_goal, ya_box, ya_hFrom, ya_hBf, ya_hBt, ya_sol, z1, z2, z3, z4, z5, z6, z7, z8) := by
  obtain ⟨P, H, hA, hS⟩ := h
  exact ⟨P, H, hA, hS⟩
