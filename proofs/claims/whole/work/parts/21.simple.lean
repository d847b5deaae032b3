/-! the methods that only read, and setCell -/
theorem i_vc_setCell {k : Nat} {u : SX} {v : SY} (I : i_Rel k u v) (hk : k + 4 ≤ 2050) (v1 : Int32) (v2 : Int32) (v3 : Int32) : wpX_setCell (fun r u' => wpY_setCell (fun r' v' => r' = r ∧ i_Rel (k + 4) u' v') v v1 v2 v3) u v1 v2 v3 := by
  obtain ⟨f_pushLimit, f_historyLimit, f_started, f_walls, f_goals, f_boxes, f_liveCells, f_liveTotal, f_boxTotal, f_pusherCell, f_moves, f_pushes, f_historyNext, f_historyTotal, f_storedTotal, f_nodeTotal, a_editGrid, a_liveRank, a_historyBoxes, a_historyPusher, a_storedPushes, a_nodeBoxes, a_nodePusher, a_nodeParent, a_nodeCode, a_nodeDepth, a_nodeMet⟩ := u
  obtain ⟨yf_lim, yf_hs, yf_started, yf_pu, yf_moves, yf_pushes, yf_hn, yf_solLen, yf_nB, yf_nL, yf_curP, yf_nextState, ya_edit, ya_wall, ya_goal, ya_box, ya_hFrom, ya_hBf, ya_hBt, ya_sol, ya_reach, ya_stack, ya_liveMark, ya_liveIdx, ya_liveCell, ya_dist, ya_sb, ya_ob⟩ := v
  have I0 := I
  obtain ⟨P, H, ⟨p1, p2, p3, p4, rfl, rfl, rfl, rfl, rfl, rfl, rfl, rfl, rfl⟩, hS⟩ := I
  rcases rl_rc v1 v2 with ho | ⟨r, c, hr, hc, rfl, rfl⟩
  · unfold wpX_setCell
    refine xs_in_f ho (br_t rfl ?_)
    unfold wpY_setCell
    exact ys_in_f ho (br_t rfl ⟨rfl, I0⟩)
  · unfold wpX_setCell
    refine xs_in_t hr hc (br_f (by decide) (xs_lvl (fun l => br_f (by decide) ?_) (fun l => br_t rfl ?_)))
    · rw [rl_ix]
      refine ⟨vp_in_nI (by omega) (by decide), nm_r (e' := upd a_editGrid (r * 8 + c) v3) (by rw [nI_clamp (by omega)]) ?_⟩
      unfold wpY_setCell
      refine ys_in_t hr hc (br_f (by decide) (ys_isCh (fun _ => br_f (by decide) ?_) (fun z => absurd l z)))
      rw [rl_ix]
      refine ⟨vp_in_nI (by omega) (by decide), nm_r (e' := upd a_editGrid (r * 8 + c) v3) (by rw [nI_clamp (by omega)]) ⟨rfl, ?_⟩⟩
      exact ⟨P, H, ⟨p1, p2, p3, p4, rfl, rfl, rfl, rfl, rfl, rfl, rfl, rfl, rfl⟩, hS⟩
    · unfold wpY_setCell
      exact ys_in_t hr hc (br_f (by decide) (ys_isCh (fun z => absurd z l) (fun _ => br_t rfl ⟨rfl, I0⟩)))
theorem i_vc_getCell {k : Nat} {u : SX} {v : SY} (I : i_Rel k u v) (hk : k + 4 ≤ 2050) (v1 : Int32) (v2 : Int32) : wpX_getCell (fun r => wpY_getCell (fun r' => r' = r ∧ i_Rel (k + 4) u v) v v1 v2) u v1 v2 := by
  obtain ⟨f_pushLimit, f_historyLimit, f_started, f_walls, f_goals, f_boxes, f_liveCells, f_liveTotal, f_boxTotal, f_pusherCell, f_moves, f_pushes, f_historyNext, f_historyTotal, f_storedTotal, f_nodeTotal, a_editGrid, a_liveRank, a_historyBoxes, a_historyPusher, a_storedPushes, a_nodeBoxes, a_nodePusher, a_nodeParent, a_nodeCode, a_nodeDepth, a_nodeMet⟩ := u
  obtain ⟨yf_lim, yf_hs, yf_started, yf_pu, yf_moves, yf_pushes, yf_hn, yf_solLen, yf_nB, yf_nL, yf_curP, yf_nextState, ya_edit, ya_wall, ya_goal, ya_box, ya_hFrom, ya_hBf, ya_hBt, ya_sol, ya_reach, ya_stack, ya_liveMark, ya_liveIdx, ya_liveCell, ya_dist, ya_sb, ya_ob⟩ := v
  have I0 := I
  obtain ⟨P, H, ⟨p1, p2, p3, p4, rfl, rfl, rfl, rfl, rfl, rfl, rfl, rfl, rfl⟩, hS⟩ := I
  rcases rl_rc v1 v2 with ho | ⟨r, c, hr, hc, rfl, rfl⟩
  · unfold wpX_getCell
    refine xs_in_f ho (br_t rfl ?_)
    unfold wpY_getCell
    exact ys_in_f ho (br_t rfl ⟨rfl, I0⟩)
  · unfold wpX_getCell
    refine xs_in_t hr hc (br_f (by decide) ?_)
    rw [rl_ix]
    refine ⟨vp_in_nI (by omega) (by decide), ?_⟩
    unfold wpY_getCell
    refine ys_in_t hr hc (br_f (by decide) ?_)
    rw [rl_ix]
    exact ⟨vp_in_nI (by omega) (by decide), rfl, I0⟩
theorem i_vc_pusher {k : Nat} {u : SX} {v : SY} (I : i_Rel k u v) (hk : k + 4 ≤ 2050) : wpX_pusher (fun r => wpY_pusher (fun r' => r' = r ∧ i_Rel (k + 4) u v) v) u := by
  obtain ⟨f_pushLimit, f_historyLimit, f_started, f_walls, f_goals, f_boxes, f_liveCells, f_liveTotal, f_boxTotal, f_pusherCell, f_moves, f_pushes, f_historyNext, f_historyTotal, f_storedTotal, f_nodeTotal, a_editGrid, a_liveRank, a_historyBoxes, a_historyPusher, a_storedPushes, a_nodeBoxes, a_nodePusher, a_nodeParent, a_nodeCode, a_nodeDepth, a_nodeMet⟩ := u
  obtain ⟨yf_lim, yf_hs, yf_started, yf_pu, yf_moves, yf_pushes, yf_hn, yf_solLen, yf_nB, yf_nL, yf_curP, yf_nextState, ya_edit, ya_wall, ya_goal, ya_box, ya_hFrom, ya_hBf, ya_hBt, ya_sol, ya_reach, ya_stack, ya_liveMark, ya_liveIdx, ya_liveCell, ya_dist, ya_sb, ya_ob⟩ := v
  have I0 := I
  obtain ⟨P, H, ⟨p1, p2, p3, p4, rfl, rfl, rfl, rfl, rfl, rfl, rfl, rfl, rfl⟩, hS⟩ := I
  rcases hS with ⟨rfl, rfl, rfl, rfl⟩ | ⟨B, p, n, nx, S, rfl, rfl, rfl, b1, b2, rfl, rfl, rfl, rfl, rfl, hlr, hgw, hgB, q1, q2, rfl, rfl, rfl, hH, s1, rfl, rfl, hsol⟩
  · exact br_t rfl (br_t rfl ⟨rfl, I0⟩)
  · exact br_f (by decide) (br_f (by decide) ⟨rfl, I0⟩)
theorem i_vc_boxAt {k : Nat} {u : SX} {v : SY} (I : i_Rel k u v) (hk : k + 4 ≤ 2050) (v1 : Int32) (v2 : Int32) : wpX_boxAt (fun r => wpY_boxAt (fun r' => r' = r ∧ i_Rel (k + 4) u v) v v1 v2) u v1 v2 := by
  obtain ⟨f_pushLimit, f_historyLimit, f_started, f_walls, f_goals, f_boxes, f_liveCells, f_liveTotal, f_boxTotal, f_pusherCell, f_moves, f_pushes, f_historyNext, f_historyTotal, f_storedTotal, f_nodeTotal, a_editGrid, a_liveRank, a_historyBoxes, a_historyPusher, a_storedPushes, a_nodeBoxes, a_nodePusher, a_nodeParent, a_nodeCode, a_nodeDepth, a_nodeMet⟩ := u
  obtain ⟨yf_lim, yf_hs, yf_started, yf_pu, yf_moves, yf_pushes, yf_hn, yf_solLen, yf_nB, yf_nL, yf_curP, yf_nextState, ya_edit, ya_wall, ya_goal, ya_box, ya_hFrom, ya_hBf, ya_hBt, ya_sol, ya_reach, ya_stack, ya_liveMark, ya_liveIdx, ya_liveCell, ya_dist, ya_sb, ya_ob⟩ := v
  have I0 := I
  obtain ⟨P, H, ⟨p1, p2, p3, p4, rfl, rfl, rfl, rfl, rfl, rfl, rfl, rfl, rfl⟩, hS⟩ := I
  rcases hS with ⟨rfl, rfl, rfl, rfl⟩ | ⟨B, p, n, nx, S, rfl, rfl, rfl, b1, b2, rfl, rfl, rfl, rfl, rfl, hlr, hgw, hgB, q1, q2, rfl, rfl, rfl, hH, s1, rfl, rfl, hsol⟩
  · exact br_t rfl (br_t rfl ⟨rfl, I0⟩)
  · refine br_f (by decide) ?_
    rcases rl_rc v1 v2 with ho | ⟨r, c, hr, hc, rfl, rfl⟩
    · exact xs_in_f ho (br_t rfl (br_f (by decide) (ys_in_f ho (br_t rfl ⟨rfl, I0⟩))))
    · refine xs_in_t hr hc (br_f (by decide) ?_)
      rw [rl_ix]
      refine xs_hasN (by omega) ?_
      have e : (nI (r * 8 + c)).toNatClampNeg = r * 8 + c := nI_clamp (by omega)
      refine br_c (fun z => ?_) (fun z => ?_)
      · refine br_f (by decide) (ys_in_t hr hc (br_f (by decide) ?_))
        rw [rl_ix]
        refine ⟨vp_in_nI (by omega) (by decide), ?_⟩
        rw [e]
        exact br_t z ⟨rfl, I0⟩
      · refine br_f (by decide) (ys_in_t hr hc (br_f (by decide) ?_))
        rw [rl_ix]
        refine ⟨vp_in_nI (by omega) (by decide), ?_⟩
        rw [e]
        exact br_f z ⟨rfl, I0⟩
theorem i_vc_reachable {k : Nat} {u : SX} {v : SY} (I : i_Rel k u v) (hk : k + 4 ≤ 2050) (v1 : Int32) (v2 : Int32) : wpX_reachable (fun r => wpY_reachable (fun r' v' => r' = r ∧ i_Rel (k + 4) u v') v v1 v2) u v1 v2 := by
  obtain ⟨f_pushLimit, f_historyLimit, f_started, f_walls, f_goals, f_boxes, f_liveCells, f_liveTotal, f_boxTotal, f_pusherCell, f_moves, f_pushes, f_historyNext, f_historyTotal, f_storedTotal, f_nodeTotal, a_editGrid, a_liveRank, a_historyBoxes, a_historyPusher, a_storedPushes, a_nodeBoxes, a_nodePusher, a_nodeParent, a_nodeCode, a_nodeDepth, a_nodeMet⟩ := u
  obtain ⟨yf_lim, yf_hs, yf_started, yf_pu, yf_moves, yf_pushes, yf_hn, yf_solLen, yf_nB, yf_nL, yf_curP, yf_nextState, ya_edit, ya_wall, ya_goal, ya_box, ya_hFrom, ya_hBf, ya_hBt, ya_sol, ya_reach, ya_stack, ya_liveMark, ya_liveIdx, ya_liveCell, ya_dist, ya_sb, ya_ob⟩ := v
  have I0 := I
  obtain ⟨P, H, ⟨p1, p2, p3, p4, rfl, rfl, rfl, rfl, rfl, rfl, rfl, rfl, rfl⟩, hS⟩ := I
  rcases hS with ⟨rfl, rfl, rfl, rfl⟩ | ⟨B, p, n, nx, S, rfl, rfl, rfl, b1, b2, rfl, rfl, rfl, rfl, rfl, hlr, hgw, hgB, q1, q2, rfl, rfl, rfl, hH, s1, rfl, rfl, hsol⟩
  · exact br_t rfl (br_t rfl ⟨rfl, I0⟩)
  · refine br_f (by decide) ?_
    obtain ⟨w1, w2, w3, w4, w5⟩ := rl_Hv hH
    rcases rl_rc v1 v2 with ho | ⟨r, c, hr, hc, rfl, rfl⟩
    · exact xs_in_f ho (br_t rfl (br_f (by decide) (ys_in_f ho (br_t rfl ⟨rfl, I0⟩))))
    · refine xs_in_t hr hc (br_f (by decide) (xs_area ?_))
      rw [rl_ix]
      refine xs_hasN (by omega) ⟨rl_ne01 (ce_A01 _ _), ?_⟩
      have e : (nI (r * 8 + c)).toNatClampNeg = r * 8 + c := nI_clamp (by omega)
      refine br_f (by decide) (ys_in_t hr hc (br_f (by decide) (ys_flood w1 w2 w3 (fun re sk hre => ?_))))
      show vp_in (nI r * 8 + nI c) 64 ∧ _
      rw [rl_ix, e, hre _ (by omega)]
      exact ⟨vp_in_nI (by omega) (by decide), rl_ne01 (ce_A01 _ _), rfl, rl_keep I0⟩
theorem i_vc_live {k : Nat} {u : SX} {v : SY} (I : i_Rel k u v) (hk : k + 4 ≤ 2050) (v1 : Int32) (v2 : Int32) : wpX_live (fun r => wpY_live (fun r' v' => r' = r ∧ i_Rel (k + 4) u v') v v1 v2) u v1 v2 := by
  obtain ⟨f_pushLimit, f_historyLimit, f_started, f_walls, f_goals, f_boxes, f_liveCells, f_liveTotal, f_boxTotal, f_pusherCell, f_moves, f_pushes, f_historyNext, f_historyTotal, f_storedTotal, f_nodeTotal, a_editGrid, a_liveRank, a_historyBoxes, a_historyPusher, a_storedPushes, a_nodeBoxes, a_nodePusher, a_nodeParent, a_nodeCode, a_nodeDepth, a_nodeMet⟩ := u
  obtain ⟨yf_lim, yf_hs, yf_started, yf_pu, yf_moves, yf_pushes, yf_hn, yf_solLen, yf_nB, yf_nL, yf_curP, yf_nextState, ya_edit, ya_wall, ya_goal, ya_box, ya_hFrom, ya_hBf, ya_hBt, ya_sol, ya_reach, ya_stack, ya_liveMark, ya_liveIdx, ya_liveCell, ya_dist, ya_sb, ya_ob⟩ := v
  have I0 := I
  obtain ⟨P, H, ⟨p1, p2, p3, p4, rfl, rfl, rfl, rfl, rfl, rfl, rfl, rfl, rfl⟩, hS⟩ := I
  rcases hS with ⟨rfl, rfl, rfl, rfl⟩ | ⟨B, p, n, nx, S, rfl, rfl, rfl, b1, b2, rfl, rfl, rfl, rfl, rfl, hlr, hgw, hgB, q1, q2, rfl, rfl, rfl, hH, s1, rfl, rfl, hsol⟩
  · exact br_t rfl (br_t rfl ⟨rfl, I0⟩)
  · refine br_f (by decide) ?_
    rcases rl_rc v1 v2 with ho | ⟨r, c, hr, hc, rfl, rfl⟩
    · exact xs_in_f ho (br_t rfl (br_f (by decide) (ys_in_f ho (br_t rfl ⟨rfl, I0⟩))))
    · refine xs_in_t hr hc (br_f (by decide) ?_)
      rw [rl_ix]
      refine xs_hasN (by omega) ?_
      have e : (nI (r * 8 + c)).toNatClampNeg = r * 8 + c := nI_clamp (by omega)
      refine br_c (fun z => ?_) (fun z => ?_)
      · refine br_f (by decide) (ys_in_t hr hc (br_f (by decide) (ys_live (fun lm li lc h1 h2 h3 => ?_))))
        show vp_in (nI r * 8 + nI c) 64 ∧ _
        rw [rl_ix, e, h1 _ (by omega), z]
        exact ⟨vp_in_nI (by omega) (by decide), by decide, rfl, rl_keep I0⟩
      · refine br_f (by decide) (ys_in_t hr hc (br_f (by decide) (ys_live (fun lm li lc h1 h2 h3 => ?_))))
        have z1 := (ce_A01 (gr_live f_walls f_goals) (r * 8 + c)).resolve_left z
        show vp_in (nI r * 8 + nI c) 64 ∧ _
        rw [rl_ix, e, h1 _ (by omega), z1]
        exact ⟨vp_in_nI (by omega) (by decide), by decide, rfl, rl_keep I0⟩
theorem ys_solved0 {post : Int32 → Prop} {g b : Int64} {yf_lim yf_hs yf_started yf_pu yf_moves yf_pushes yf_hn yf_solLen yf_nB yf_nL yf_curP yf_nextState : Int32} {ya_edit ya_wall ya_hFrom ya_hBf ya_hBt ya_sol ya_reach ya_stack ya_liveMark ya_liveIdx ya_liveCell ya_dist ya_sb ya_ob : Nat → Int32} (h1 : (∀ c, ce_b b c = true → ce_b g c = true) → post 1) (h0 : ¬ (∀ c, ce_b b c = true → ce_b g c = true) → post 0) :
    ∀ k i, i + k = 64 → (∀ c, c < i → ce_b b c = true → ce_b g c = true) → wY_solved_11 post yf_lim yf_hs yf_started yf_pu yf_moves yf_pushes yf_hn yf_solLen yf_nB yf_nL yf_curP yf_nextState ya_edit ya_wall (ce_A g) (ce_A b) ya_hFrom ya_hBf ya_hBt ya_sol ya_reach ya_stack ya_liveMark ya_liveIdx ya_liveCell ya_dist ya_sb ya_ob (k + 1) (nI i) := by
  intro k
  induction k with
  | zero =>
    intro i hi h
    exact br_t (nI_le (a := 64) (by omega) (by omega)) (h1 (fun c hc => h c (by have := ce_lt hc; omega) hc))
  | succ k ih =>
    intro i hi h
    refine br_f (nI_ge (b := 64) (by omega) (by decide)) ⟨vp_in_nI (by omega) (by decide), ?_⟩
    rw [nI_clamp (n := i) (by omega)]
    cases hb : ce_b b i
    · refine br_t (ce_Af hb) (nm_r (nI_1 i) (ih (i + 1) (by omega) (fun c hc hbc => ?_)))
      by_cases q : c = i
      · rw [q, hb] at hbc; cases hbc
      · exact h c (by omega) hbc
    · refine br_f (by rw [ce_At hb]; decide) ⟨vp_in_nI (by omega) (by decide), ?_⟩
      cases hg : ce_b g i
      · refine br_t (ce_Af hg) (h0 (fun z => ?_))
        rw [z i hb] at hg; cases hg
      · refine br_f (by rw [ce_At hg]; decide) (nm_r (nI_1 i) (ih (i + 1) (by omega) (fun c hc hbc => ?_)))
        by_cases q : c = i
        · rw [q]; exact hg
        · exact h c (by omega) hbc
theorem ys_solved {post : Int32 → Prop} {g b : Int64} {yf_lim yf_hs yf_pu yf_moves yf_pushes yf_hn yf_solLen yf_nB yf_nL yf_curP yf_nextState : Int32} {ya_edit ya_wall ya_hFrom ya_hBf ya_hBt ya_sol ya_reach ya_stack ya_liveMark ya_liveIdx ya_liveCell ya_dist ya_sb ya_ob : Nat → Int32} (h : post (if b &&& (g ^^^ (-1)) = 0 then 1 else 0)) : wpY_solved post (yf_lim, yf_hs, 1, yf_pu, yf_moves, yf_pushes, yf_hn, yf_solLen, yf_nB, yf_nL, yf_curP, yf_nextState, ya_edit, ya_wall, ce_A g, ce_A b, ya_hFrom, ya_hBf, ya_hBt, ya_sol, ya_reach, ya_stack, ya_liveMark, ya_liveIdx, ya_liveCell, ya_dist, ya_sb, ya_ob) := by
  refine br_f (by decide) ⟨65, ys_solved0 (fun z => ?_) (fun z => ?_) 64 0 (by omega) (fun c hc => by omega)⟩
  · rw [if_pos ((gr_soI g b).mpr z)] at h; exact h
  · rw [if_neg (fun q => z ((gr_soI g b).mp q))] at h; exact h
theorem i_vc_solved {k : Nat} {u : SX} {v : SY} (I : i_Rel k u v) (hk : k + 4 ≤ 2050) : wpX_solved (fun r => wpY_solved (fun r' => r' = r ∧ i_Rel (k + 4) u v) v) u := by
  obtain ⟨f_pushLimit, f_historyLimit, f_started, f_walls, f_goals, f_boxes, f_liveCells, f_liveTotal, f_boxTotal, f_pusherCell, f_moves, f_pushes, f_historyNext, f_historyTotal, f_storedTotal, f_nodeTotal, a_editGrid, a_liveRank, a_historyBoxes, a_historyPusher, a_storedPushes, a_nodeBoxes, a_nodePusher, a_nodeParent, a_nodeCode, a_nodeDepth, a_nodeMet⟩ := u
  obtain ⟨yf_lim, yf_hs, yf_started, yf_pu, yf_moves, yf_pushes, yf_hn, yf_solLen, yf_nB, yf_nL, yf_curP, yf_nextState, ya_edit, ya_wall, ya_goal, ya_box, ya_hFrom, ya_hBf, ya_hBt, ya_sol, ya_reach, ya_stack, ya_liveMark, ya_liveIdx, ya_liveCell, ya_dist, ya_sb, ya_ob⟩ := v
  have I0 := I
  obtain ⟨P, H, ⟨p1, p2, p3, p4, rfl, rfl, rfl, rfl, rfl, rfl, rfl, rfl, rfl⟩, hS⟩ := I
  rcases hS with ⟨rfl, rfl, rfl, rfl⟩ | ⟨B, p, n, nx, S, rfl, rfl, rfl, b1, b2, rfl, rfl, rfl, rfl, rfl, hlr, hgw, hgB, q1, q2, rfl, rfl, rfl, hH, s1, rfl, rfl, hsol⟩
  · exact br_t rfl (br_t rfl ⟨rfl, I0⟩)
  · refine br_f (by decide) (xs_goals ?_)
    by_cases z : f_boxes &&& (f_goals ^^^ (-1)) = 0
    · rw [if_pos z]
      refine br_f (by decide) (ys_solved ?_)
      rw [if_pos z]
      exact ⟨rfl, I0⟩
    · rw [if_neg z]
      refine br_t rfl (ys_solved ?_)
      rw [if_neg z]
      exact ⟨rfl, I0⟩
theorem i_vc_moveCount {k : Nat} {u : SX} {v : SY} (I : i_Rel k u v) (hk : k + 4 ≤ 2050) : wpX_moveCount (fun r => wpY_moveCount (fun r' => r' = r ∧ i_Rel (k + 4) u v) v) u := by
  obtain ⟨f_pushLimit, f_historyLimit, f_started, f_walls, f_goals, f_boxes, f_liveCells, f_liveTotal, f_boxTotal, f_pusherCell, f_moves, f_pushes, f_historyNext, f_historyTotal, f_storedTotal, f_nodeTotal, a_editGrid, a_liveRank, a_historyBoxes, a_historyPusher, a_storedPushes, a_nodeBoxes, a_nodePusher, a_nodeParent, a_nodeCode, a_nodeDepth, a_nodeMet⟩ := u
  obtain ⟨yf_lim, yf_hs, yf_started, yf_pu, yf_moves, yf_pushes, yf_hn, yf_solLen, yf_nB, yf_nL, yf_curP, yf_nextState, ya_edit, ya_wall, ya_goal, ya_box, ya_hFrom, ya_hBf, ya_hBt, ya_sol, ya_reach, ya_stack, ya_liveMark, ya_liveIdx, ya_liveCell, ya_dist, ya_sb, ya_ob⟩ := v
  have I0 := I
  obtain ⟨P, H, ⟨p1, p2, p3, p4, rfl, rfl, rfl, rfl, rfl, rfl, rfl, rfl, rfl⟩, hS⟩ := I
  rcases hS with ⟨rfl, rfl, rfl, rfl⟩ | ⟨B, p, n, nx, S, rfl, rfl, rfl, b1, b2, rfl, rfl, rfl, rfl, rfl, hlr, hgw, hgB, q1, q2, rfl, rfl, rfl, hH, s1, rfl, rfl, hsol⟩
  · exact br_t rfl ⟨rfl, I0⟩
  · exact br_f (by decide) ⟨rfl, I0⟩
theorem i_vc_pushCount {k : Nat} {u : SX} {v : SY} (I : i_Rel k u v) (hk : k + 4 ≤ 2050) : wpX_pushCount (fun r => wpY_pushCount (fun r' => r' = r ∧ i_Rel (k + 4) u v) v) u := by
  obtain ⟨f_pushLimit, f_historyLimit, f_started, f_walls, f_goals, f_boxes, f_liveCells, f_liveTotal, f_boxTotal, f_pusherCell, f_moves, f_pushes, f_historyNext, f_historyTotal, f_storedTotal, f_nodeTotal, a_editGrid, a_liveRank, a_historyBoxes, a_historyPusher, a_storedPushes, a_nodeBoxes, a_nodePusher, a_nodeParent, a_nodeCode, a_nodeDepth, a_nodeMet⟩ := u
  obtain ⟨yf_lim, yf_hs, yf_started, yf_pu, yf_moves, yf_pushes, yf_hn, yf_solLen, yf_nB, yf_nL, yf_curP, yf_nextState, ya_edit, ya_wall, ya_goal, ya_box, ya_hFrom, ya_hBf, ya_hBt, ya_sol, ya_reach, ya_stack, ya_liveMark, ya_liveIdx, ya_liveCell, ya_dist, ya_sb, ya_ob⟩ := v
  have I0 := I
  obtain ⟨P, H, ⟨p1, p2, p3, p4, rfl, rfl, rfl, rfl, rfl, rfl, rfl, rfl, rfl⟩, hS⟩ := I
  rcases hS with ⟨rfl, rfl, rfl, rfl⟩ | ⟨B, p, n, nx, S, rfl, rfl, rfl, b1, b2, rfl, rfl, rfl, rfl, rfl, hlr, hgw, hgB, q1, q2, rfl, rfl, rfl, hH, s1, rfl, rfl, hsol⟩
  · exact br_t rfl ⟨rfl, I0⟩
  · exact br_f (by decide) ⟨rfl, I0⟩
theorem i_vc_solutionLength {k : Nat} {u : SX} {v : SY} (I : i_Rel k u v) (hk : k + 4 ≤ 2050) : wpX_solutionLength (fun r => wpY_solutionLength (fun r' => r' = r ∧ i_Rel (k + 4) u v) v) u := by
  obtain ⟨f_pushLimit, f_historyLimit, f_started, f_walls, f_goals, f_boxes, f_liveCells, f_liveTotal, f_boxTotal, f_pusherCell, f_moves, f_pushes, f_historyNext, f_historyTotal, f_storedTotal, f_nodeTotal, a_editGrid, a_liveRank, a_historyBoxes, a_historyPusher, a_storedPushes, a_nodeBoxes, a_nodePusher, a_nodeParent, a_nodeCode, a_nodeDepth, a_nodeMet⟩ := u
  obtain ⟨yf_lim, yf_hs, yf_started, yf_pu, yf_moves, yf_pushes, yf_hn, yf_solLen, yf_nB, yf_nL, yf_curP, yf_nextState, ya_edit, ya_wall, ya_goal, ya_box, ya_hFrom, ya_hBf, ya_hBt, ya_sol, ya_reach, ya_stack, ya_liveMark, ya_liveIdx, ya_liveCell, ya_dist, ya_sb, ya_ob⟩ := v
  have I0 := I
  obtain ⟨P, H, ⟨p1, p2, p3, p4, rfl, rfl, rfl, rfl, rfl, rfl, rfl, rfl, rfl⟩, hS⟩ := I
  rcases hS with ⟨rfl, rfl, rfl, rfl⟩ | ⟨B, p, n, nx, S, rfl, rfl, rfl, b1, b2, rfl, rfl, rfl, rfl, rfl, hlr, hgw, hgB, q1, q2, rfl, rfl, rfl, hH, s1, rfl, rfl, hsol⟩
  · exact br_t rfl ⟨rfl, I0⟩
  · exact br_f (by decide) ⟨rfl, I0⟩
theorem i_vc_solutionPush {k : Nat} {u : SX} {v : SY} (I : i_Rel k u v) (hk : k + 4 ≤ 2050) (v1 : Int32) : wpX_solutionPush (fun r => wpY_solutionPush (fun r' => r' = r ∧ i_Rel (k + 4) u v) v v1) u v1 := by
  obtain ⟨f_pushLimit, f_historyLimit, f_started, f_walls, f_goals, f_boxes, f_liveCells, f_liveTotal, f_boxTotal, f_pusherCell, f_moves, f_pushes, f_historyNext, f_historyTotal, f_storedTotal, f_nodeTotal, a_editGrid, a_liveRank, a_historyBoxes, a_historyPusher, a_storedPushes, a_nodeBoxes, a_nodePusher, a_nodeParent, a_nodeCode, a_nodeDepth, a_nodeMet⟩ := u
  obtain ⟨yf_lim, yf_hs, yf_started, yf_pu, yf_moves, yf_pushes, yf_hn, yf_solLen, yf_nB, yf_nL, yf_curP, yf_nextState, ya_edit, ya_wall, ya_goal, ya_box, ya_hFrom, ya_hBf, ya_hBt, ya_sol, ya_reach, ya_stack, ya_liveMark, ya_liveIdx, ya_liveCell, ya_dist, ya_sb, ya_ob⟩ := v
  have I0 := I
  obtain ⟨P, H, ⟨p1, p2, p3, p4, rfl, rfl, rfl, rfl, rfl, rfl, rfl, rfl, rfl⟩, hS⟩ := I
  rcases hS with ⟨rfl, rfl, rfl, rfl⟩ | ⟨B, p, n, nx, S, rfl, rfl, rfl, b1, b2, rfl, rfl, rfl, rfl, rfl, hlr, hgw, hgB, q1, q2, rfl, rfl, rfl, hH, s1, rfl, rfl, hsol⟩
  · refine br_c (fun z => br_t rfl ⟨rfl, I0⟩) (fun z => br_f z (br_t rfl ⟨rfl, I0⟩))
  · refine br_c (fun z => br_f (by decide) (br_t z ⟨rfl, I0⟩)) (fun z => ?_)
    obtain ⟨i, hi, rfl⟩ := nI_of z
    refine pk_lt i S (fun y => ?_) (fun y => ?_)
    · refine ⟨vp_in_nI (by omega) (by decide), br_f (by decide) (br_f z (br_t (nI_lt y (by omega)) ⟨vp_in_nI (by omega) (by decide), ?_, I0⟩))⟩
      rw [nI_clamp hi]
      exact hsol i y
    · exact br_f (by decide) (br_f z (br_f (nI_nlt y hi) ⟨rfl, I0⟩))
