/-! push, undo -/
theorem i_vc_push {k : Nat} {u : SX} {v : SY} (I : i_Rel k u v) (hk : k + 4 ≤ 2050) (v1 : Int32) (v2 : Int32) (v3 : Int32) : wpX_push (fun r u' => wpY_push (fun r' v' => r' = r ∧ i_Rel (k + 4) u' v') v v1 v2 v3) u v1 v2 v3 := by
  obtain ⟨f_pushLimit, f_historyLimit, f_started, f_walls, f_goals, f_boxes, f_liveCells, f_liveTotal, f_boxTotal, f_pusherCell, f_moves, f_pushes, f_historyNext, f_historyTotal, f_storedTotal, f_nodeTotal, a_editGrid, a_liveRank, a_historyBoxes, a_historyPusher, a_storedPushes, a_nodeBoxes, a_nodePusher, a_nodeParent, a_nodeCode, a_nodeDepth, a_nodeMet⟩ := u
  obtain ⟨yf_lim, yf_hs, yf_started, yf_pu, yf_moves, yf_pushes, yf_hn, yf_solLen, yf_nB, yf_nL, yf_curP, yf_nextState, ya_edit, ya_wall, ya_goal, ya_box, ya_hFrom, ya_hBf, ya_hBt, ya_sol, ya_reach, ya_stack, ya_liveMark, ya_liveIdx, ya_liveCell, ya_dist, ya_sb, ya_ob⟩ := v
  have I0 := I
  obtain ⟨P, H, ⟨p1, p2, p3, p4, rfl, rfl, rfl, rfl, rfl, rfl, rfl, rfl, rfl⟩, hS⟩ := I
  rcases hS with ⟨rfl, rfl, rfl, rfl⟩ | ⟨B, p, n, nx, S, rfl, rfl, rfl, b1, b2, rfl, rfl, rfl, rfl, rfl, hlr, hgw, hgB, q1, q2, rfl, rfl, rfl, hH, s1, rfl, rfl, hsol⟩
  · exact br_t rfl (br_t rfl ⟨rfl, I0⟩)
  · have hV := rl_Hv hH
    obtain ⟨w1, w2, w3, w4, w5⟩ := hV
    refine br_f (by decide) ?_
    rcases rl_rc v1 v2 with ho | ⟨r, c, hr, hc, rfl, rfl⟩
    · exact xs_in_f ho (br_t rfl (br_f (by decide) (ys_in_f ho (br_t rfl ⟨rfl, I0⟩))))
    · refine xs_in_t hr hc (br_f (by decide) ?_)
      rcases rl_dir v3 with ho | ⟨d, hd, rfl⟩
      · refine xs_dir_f ho (br_t rfl (br_f (by decide) (ys_in_t hr hc (br_f (by decide) ?_))))
        refine br_c (fun _ => ⟨rfl, I0⟩) (fun z => br_f (fun q => ?_) ⟨rfl, I0⟩)
        rcases ho with y | y
        · exact z y
        · exact (rl_le3 v3).mp q y
      · have d0 : ¬ nI d < 0 := nI_pos (by omega)
        have d3 : nI d ≤ 3 := nI_le (b := 3) (by omega) (by decide)
        have hx : r * 8 + c < 64 := by omega
        have hi := rl_ix r c
        generalize r * 8 + c = x at hx hi
        have xc : (nI x).toNatClampNeg = x := nI_clamp (by omega)
        have xv : vp_in (nI x) 64 := vp_in_nI hx (by decide)
        refine xs_dir_t hd (br_f (by decide) (nm_r hi (xs_hasN hx ?_)))
        cases xb : ce_b f_boxes x
        · refine br_t (ce_Af xb) (br_f (by decide) (ys_in_t hr hc (br_f (by decide) (br_f d0 (br_t d3 (nm_r hi ⟨xv, ?_⟩))))))
          rw [xc]
          exact br_t (ce_Af xb) ⟨rfl, I0⟩
        · refine br_f (by rw [ce_At xb]; decide) (xs_nb hx hd (xs_behind hx hd (xs_free (ce_n_le _ _) ?_)))
          refine br_c (fun z => ?_) (fun z => ?_)
          · refine br_f (by decide) (ys_in_t hr hc (br_f (by decide) (br_f d0 (br_t d3 (nm_r hi ⟨xv, ?_⟩)))))
            rw [xc]
            exact br_f (by rw [ce_At xb]; decide) (ys_nbN hx hd (ys_free (ce_n_le _ _) (br_t z ⟨rfl, I0⟩)))
          · have hf := gr_fz z
            refine xs_free (ce_n_le _ _) ?_
            refine br_c (fun y => ?_) (fun y => ?_)
            · refine br_f (by decide) (ys_in_t hr hc (br_f (by decide) (br_f d0 (br_t d3 (nm_r hi ⟨xv, ?_⟩)))))
              rw [xc, ys_opp hd]
              exact br_f (by rw [ce_At xb]; decide) (ys_nbN hx hd (ys_free (ce_n_le _ _) (br_f z (ys_nbN hx (by omega) (ys_free (ce_n_le _ _) (br_t y ⟨rfl, I0⟩))))))
            · have hg := gr_fz y
              have ac : (nI (ce_n x d)).toNatClampNeg = ce_n x d := nI_clamp (by omega)
              have bc : (nI (ce_n x ((d + 2) % 4))).toNatClampNeg = ce_n x ((d + 2) % 4) := nI_clamp (by omega)
              rw [ce_I_in hf.1, ce_I_in hg.1]
              refine xs_area (xs_hasN hg.1 ?_)
              cases ar : ce_b (gr_area f_walls f_boxes p) (ce_n x ((d + 2) % 4))
              · refine br_t (ce_Af ar) (br_f (by decide) (ys_in_t hr hc (br_f (by decide) (br_f d0 (br_t d3 (nm_r hi ⟨xv, ?_⟩))))))
                rw [xc, ys_opp hd]
                refine br_f (by rw [ce_At xb]; decide) (ys_nbN hx hd (ys_free (ce_n_le _ _) (br_f z (ys_nbN hx (by omega) (ys_free (ce_n_le _ _) (br_f y ?_))))))
                refine ys_flood w1 w2 w3 (fun re sk hre => ?_)
                rw [ce_I_in hg.1]
                refine ⟨vp_in_nI hg.1 (by decide), ?_⟩
                rw [bc, hre _ hg.1]
                exact br_t (ce_Af ar) ⟨rfl, rl_keep I0⟩
              · refine br_f (by rw [ce_At ar]; decide) (xs_pushBox q1 q2 p3 p4 ?_)
                refine br_f (by decide) (ys_in_t hr hc (br_f (by decide) (br_f d0 (br_t d3 (nm_r hi ⟨xv, ?_⟩)))))
                rw [xc, ys_opp hd]
                refine br_f (by rw [ce_At xb]; decide) (ys_nbN hx hd (ys_free (ce_n_le _ _) (br_f z (ys_nbN hx (by omega) (ys_free (ce_n_le _ _) (br_f y ?_))))))
                refine ys_flood w1 w2 w3 (fun re sk hre => ?_)
                rw [ce_I_in hg.1, ce_I_in hf.1]
                refine ⟨vp_in_nI hg.1 (by decide), ?_⟩
                rw [bc, hre _ hg.1]
                refine br_f (by rw [ce_At ar]; decide) ⟨xv, nm_r (e' := upd (ce_A f_boxes) x 0) (by rw [rl_b0]) ⟨vp_in_nI hf.1 (by decide), nm_r (e' := ce_A (gr_mv f_boxes x (ce_n x d))) (by rw [rl_b1, ac, ce_A_mv hx hf.1]) ?_⟩⟩
                refine ys_rec q1 q2 p3 p4 hH (rl_Vmv ⟨w1, w2, w3, w4, w5⟩ xb hf.1 hf.2.2 hf.2.1) (Or.inr ⟨_, _, hx, hf.1, rfl, rfl, xb, hf.2.2, rfl⟩) (fun F f t hn => nm_e (nm_e ⟨rfl, ?_⟩))
                exact ⟨P, H, ⟨p1, p2, p3, p4, rfl, rfl, rfl, rfl, rfl, rfl, rfl, rfl, rfl⟩, Or.inr ⟨B, x, if n < H then n + 1 else n, if nx = H - 1 then 0 else nx + 1, S, rfl, rfl, rfl, b1, b2, rfl, rfl, rfl, rfl, rfl, hlr, hgw, hgB, by split <;> omega, by split <;> omega, rfl, rfl, rfl, hn, s1, rfl, rfl, hsol⟩⟩
theorem i_vc_undo {k : Nat} {u : SX} {v : SY} (I : i_Rel k u v) (hk : k + 4 ≤ 2050) : wpX_undo (fun r u' => wpY_undo (fun r' v' => r' = r ∧ i_Rel (k + 4) u' v') v) u := by
  obtain ⟨f_pushLimit, f_historyLimit, f_started, f_walls, f_goals, f_boxes, f_liveCells, f_liveTotal, f_boxTotal, f_pusherCell, f_moves, f_pushes, f_historyNext, f_historyTotal, f_storedTotal, f_nodeTotal, a_editGrid, a_liveRank, a_historyBoxes, a_historyPusher, a_storedPushes, a_nodeBoxes, a_nodePusher, a_nodeParent, a_nodeCode, a_nodeDepth, a_nodeMet⟩ := u
  obtain ⟨yf_lim, yf_hs, yf_started, yf_pu, yf_moves, yf_pushes, yf_hn, yf_solLen, yf_nB, yf_nL, yf_curP, yf_nextState, ya_edit, ya_wall, ya_goal, ya_box, ya_hFrom, ya_hBf, ya_hBt, ya_sol, ya_reach, ya_stack, ya_liveMark, ya_liveIdx, ya_liveCell, ya_dist, ya_sb, ya_ob⟩ := v
  have I0 := I
  obtain ⟨P, H, ⟨p1, p2, p3, p4, rfl, rfl, rfl, rfl, rfl, rfl, rfl, rfl, rfl⟩, hS⟩ := I
  rcases hS with ⟨rfl, rfl, rfl, rfl⟩ | ⟨B, p, n, nx, S, rfl, rfl, rfl, b1, b2, rfl, rfl, rfl, rfl, rfl, hlr, hgw, hgB, q1, q2, rfl, rfl, rfl, hH, s1, rfl, rfl, hsol⟩
  · exact br_t rfl (br_t rfl ⟨rfl, I0⟩)
  · refine br_f (by decide) ?_
    cases n with
    | zero => exact br_t rfl (br_f (by decide) (br_t rfl ⟨rfl, I0⟩))
    | succ n =>
      have hV := rl_Hv hH
      obtain ⟨w1, w2, w3, w4, w5⟩ := hV
      obtain ⟨c1, c2, e1, e2, e3, hT, hN⟩ := rl_Hpop hH q1 (by omega)
      have n0 : ¬ nI (n + 1) = 0 := nI_ne0 (by omega) (by omega)
      refine br_f n0 ?_
      have nc : (nI n).toNatClampNeg = n := nI_clamp (by omega)
      have nv : vp_in (nI n) 64 := vp_in_nI (by omega) (by decide)
      have hm : nI (n + 1) - 1 = nI n := nI_pred n
      have key : ∀ z, z = nI (if nx = 0 then H - 1 else nx - 1) → wX_undo_39 (fun r u' => wpY_undo (fun r' v' => r' = r ∧ i_Rel (k + 4) u' v') (nI P, nI H, 1, nI p, f_moves, f_pushes, nI (n + 1), nI S, yf_nB, yf_nL, yf_curP, yf_nextState, a_editGrid, ce_A f_walls, ce_A f_goals, ce_A f_boxes, ya_hFrom, ya_hBf, ya_hBt, ya_sol, ya_reach, ya_stack, ya_liveMark, ya_liveIdx, ya_liveCell, ya_dist, ya_sb, ya_ob)) z (nI P) (nI H) (1) f_walls f_goals f_boxes (gr_live f_walls f_goals) (nI (ce_rk (gr_live f_walls f_goals) 64)) (nI B) (nI p) f_moves f_pushes (nI nx) (nI (n + 1)) (nI S) f_nodeTotal a_editGrid a_liveRank a_historyBoxes a_historyPusher a_storedPushes a_nodeBoxes a_nodePusher a_nodeParent a_nodeCode a_nodeDepth a_nodeMet := by
        intro z hz
        subst hz
        have hpos : (if nx = 0 then H - 1 else nx - 1) < H := by split <;> omega
        generalize (if nx = 0 then H - 1 else nx - 1) = y at e1 e2 hN hpos
        have yc : (nI y).toNatClampNeg = y := nI_clamp (by omega)
        have yv : vp_in (nI y) 64 := vp_in_nI (by omega) (by decide)
        refine nm_r hm ⟨yv, ?_⟩
        rw [yc, e1]
        rcases hT with ⟨t1, t2⟩ | ⟨x, a, t1, t2, t3, t4, t5, t6, t7⟩
        · subst t1
          refine br_t rfl (nm_e ⟨yv, nm_r (e' := c1) (by rw [yc, e1]) ⟨yv, nm_r (e' := nI c2) (by rw [yc, e2]) ?_⟩⟩)
          refine br_f (by decide) (br_f n0 (nm_r hm ⟨nv, nm_r (e' := nI c2) (by rw [nc, e3]) ⟨nv, ?_⟩⟩))
          rw [nc, t2]
          refine br_t (by decide) (nm_e ⟨rfl, ?_⟩)
          exact ⟨P, H, ⟨p1, p2, p3, p4, rfl, rfl, rfl, rfl, rfl, rfl, rfl, rfl, rfl⟩, Or.inr ⟨B, c2, n, y, S, rfl, rfl, rfl, b1, b2, rfl, rfl, rfl, rfl, rfl, hlr, hgw, hgB, hpos, by omega, rfl, rfl, rfl, hN, s1, rfl, rfl, hsol⟩⟩
        · have ne : ¬ f_boxes = c1 := by rw [t7]; exact gr_mv_ne t5 t2 t6
          refine br_f ne (nm_e (nm_e ⟨yv, nm_r (e' := c1) (by rw [yc, e1]) ⟨yv, nm_r (e' := nI c2) (by rw [yc, e2]) ?_⟩⟩))
          refine br_f (by decide) (br_f n0 (nm_r hm ⟨nv, nm_r (e' := nI c2) (by rw [nc, e3]) ⟨nv, ?_⟩⟩))
          rw [nc, t3, t4]
          refine br_f (nI_pos (by omega)) ⟨nv, vp_in_nI t2 (by decide), nm_r (e' := upd (ce_A f_boxes) a 0) (by rw [rl_b0, nI_clamp (by omega)]) ⟨nv, vp_in_nI t1 (by decide), nm_r (e' := ce_A c1) (by rw [rl_b1, nI_clamp (by omega), ce_A_mv t2 t1, t7, gr_mv_back t5 t2 t6]) (nm_e (nm_e ⟨rfl, ?_⟩))⟩⟩
          exact ⟨P, H, ⟨p1, p2, p3, p4, rfl, rfl, rfl, rfl, rfl, rfl, rfl, rfl, rfl⟩, Or.inr ⟨B, c2, n, y, S, rfl, rfl, rfl, b1, b2, rfl, rfl, rfl, rfl, rfl, hlr, hgw, hgB, hpos, by omega, rfl, rfl, rfl, hN, s1, rfl, rfl, hsol⟩⟩
      refine pk_eq nx 0 (fun q => key _ ?_) (fun q => key _ ?_)
      · rw [if_pos q]; exact pk_sub (b := 1) (by omega)
      · rw [if_neg q]; exact pk_sub (b := 1) (by omega)
