/-! solve -/
theorem i_vc_solve {k : Nat} {u : SX} {v : SY} (I : i_Rel k u v) (hk : k + 4 ≤ 2050) : wpX_solve (fun r u' => wpY_solve (fun r' v' => r' = r ∧ i_Rel (k + 4) u' v') v) u := by
  obtain ⟨f_pushLimit, f_historyLimit, f_started, f_walls, f_goals, f_boxes, f_liveCells, f_liveTotal, f_boxTotal, f_pusherCell, f_moves, f_pushes, f_historyNext, f_historyTotal, f_storedTotal, f_nodeTotal, a_editGrid, a_liveRank, a_historyBoxes, a_historyPusher, a_storedPushes, a_nodeBoxes, a_nodePusher, a_nodeParent, a_nodeCode, a_nodeDepth, a_nodeMet⟩ := u
  obtain ⟨yf_lim, yf_hs, yf_started, yf_pu, yf_moves, yf_pushes, yf_hn, yf_solLen, yf_nB, yf_nL, yf_curP, yf_nextState, ya_edit, ya_wall, ya_goal, ya_box, ya_hFrom, ya_hBf, ya_hBt, ya_sol, ya_reach, ya_stack, ya_liveMark, ya_liveIdx, ya_liveCell, ya_dist, ya_sb, ya_ob⟩ := v
  have I0 := I
  obtain ⟨P, H, ⟨p1, p2, p3, p4, rfl, rfl, rfl, rfl, rfl, rfl, rfl, rfl, rfl⟩, hS⟩ := I
  rcases hS with ⟨rfl, rfl, rfl, rfl⟩ | ⟨B, p, n, nx, S, rfl, rfl, rfl, b1, b2, rfl, rfl, rfl, rfl, rfl, hlr, hgw, hgB, q1, q2, rfl, rfl, rfl, hH, s1, rfl, rfl, hsol⟩
  · exact br_t rfl (br_t rfl ⟨rfl, I0⟩)
  · have hV := rl_Hv hH
    have hlw : ∀ c, ce_b (gr_live f_walls f_goals) c = true → ce_b f_walls c = false := fun c hc => gr_live_wall hgw hc
    refine xs_solve p2 b1 b2 rfl hlr hlw hV (fun x1 => ?_) (fun x1 x2 => ?_) (fun x1 x2 x3 => ?_) (fun x1 x2 x3 x4 xN nb np pr cd dp me => ?_) (fun x1 x2 x3 D l sp x4 x5 x6 x7 x8 xN nb np pr cd dp me => ?_)
    · refine ys_solve p1 p2 b1 b2 hgB hgw hV (fun _ => ⟨rfl, ?_⟩) (fun z => absurd x1 z) (fun z => absurd x1 z) (fun z => absurd x1 z)
      exact ⟨P, H, ⟨p1, p2, p3, p4, rfl, rfl, rfl, rfl, rfl, rfl, rfl, rfl, rfl⟩, Or.inr ⟨B, p, n, nx, 0, rfl, rfl, rfl, b1, b2, rfl, rfl, rfl, rfl, rfl, hlr, hgw, hgB, q1, q2, rfl, rfl, rfl, hH, by omega, rfl, rfl, fun i hi => by omega⟩⟩
    · exact ys_solve p1 p2 b1 b2 hgB hgw hV (fun z => absurd z x1) (fun _ _ y1 y2 lm li lc ob => ⟨rfl, rl_keep I0⟩) (fun _ z => absurd z x2) (fun _ z => absurd z x2)
    · refine ys_solve p1 p2 b1 b2 hgB hgw hV (fun z => absurd z x1) (fun _ z => absurd x2 z) (fun _ _ _ y1 y2 lm li lc ob => ⟨rfl, ?_⟩) (fun _ _ z => absurd z x3)
      exact ⟨P, H, ⟨p1, p2, p3, p4, rfl, rfl, rfl, rfl, rfl, rfl, rfl, rfl, rfl⟩, Or.inr ⟨B, p, n, nx, 0, rfl, rfl, rfl, b1, b2, rfl, rfl, rfl, rfl, rfl, hlr, hgw, hgB, q1, q2, rfl, rfl, rfl, hH, by omega, rfl, rfl, fun i hi => by omega⟩⟩
    · refine ys_solve p1 p2 b1 b2 hgB hgw hV (fun z => absurd z x1) (fun _ z => absurd x2 z) (fun _ _ z => absurd x3 z) (fun _ _ _ => Or.inl ⟨x4, fun y1 y2 lm li lc ob cp ns re sk ds sb => ⟨rfl, ?_⟩⟩)
      exact ⟨P, H, ⟨p1, p2, p3, p4, rfl, rfl, rfl, rfl, rfl, rfl, rfl, rfl, rfl⟩, Or.inr ⟨B, p, n, nx, 0, rfl, rfl, rfl, b1, b2, rfl, rfl, rfl, rfl, rfl, hlr, hgw, hgB, q1, q2, rfl, rfl, rfl, hH, by omega, rfl, rfl, fun i hi => by omega⟩⟩
    · refine ys_solve p1 p2 b1 b2 hgB hgw hV (fun z => absurd z x1) (fun _ z => absurd x2 z) (fun _ _ z => absurd x3 z) (fun _ _ _ => Or.inr ⟨D, l, x4, x5, x6, x7, fun y1 y2 lm li lc ob cp ns so re sk ds sb hso => ⟨rfl, ?_⟩⟩)
      exact ⟨P, H, ⟨p1, p2, p3, p4, rfl, rfl, rfl, rfl, rfl, rfl, rfl, rfl, rfl⟩, Or.inr ⟨B, p, n, nx, D, rfl, rfl, rfl, b1, b2, rfl, rfl, rfl, rfl, rfl, hlr, hgw, hgB, q1, q2, rfl, rfl, rfl, hH, by omega, rfl, rfl, fun i hi => (hso i hi).trans (x8 i hi).symm⟩⟩
