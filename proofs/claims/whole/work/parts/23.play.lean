/-! move, push, undo -/
theorem i_vc_move {k : Nat} {u : SX} {v : SY} (I : i_Rel k u v) (hk : k + 4 ≤ 2050) (v1 : Int32) : wpX_move (fun r u' => wpY_move (fun r' v' => r' = r ∧ i_Rel (k + 4) u' v') v v1) u v1 := by
  obtain ⟨f_pushLimit, f_historyLimit, f_started, f_walls, f_goals, f_boxes, f_liveCells, f_liveTotal, f_boxTotal, f_pusherCell, f_moves, f_pushes, f_historyNext, f_historyTotal, f_storedTotal, f_nodeTotal, a_editGrid, a_liveRank, a_historyBoxes, a_historyPusher, a_storedPushes, a_nodeBoxes, a_nodePusher, a_nodeParent, a_nodeCode, a_nodeDepth, a_nodeMet⟩ := u
  obtain ⟨yf_lim, yf_hs, yf_started, yf_pu, yf_moves, yf_pushes, yf_hn, yf_solLen, yf_nB, yf_nL, yf_curP, yf_nextState, ya_edit, ya_wall, ya_goal, ya_box, ya_hFrom, ya_hBf, ya_hBt, ya_sol, ya_reach, ya_stack, ya_liveMark, ya_liveIdx, ya_liveCell, ya_dist, ya_sb, ya_ob⟩ := v
  have I0 := I
  obtain ⟨P, H, ⟨p1, p2, p3, p4, rfl, rfl, rfl, rfl, rfl, rfl, rfl, rfl, rfl⟩, hS⟩ := I
  rcases hS with ⟨rfl, rfl, rfl, rfl⟩ | ⟨B, p, n, nx, S, rfl, rfl, rfl, b1, b2, rfl, rfl, rfl, rfl, rfl, hlr, hgw, hgB, q1, q2, rfl, rfl, rfl, hH, s1, rfl, rfl, hsol⟩
  · exact br_t rfl (br_t rfl ⟨rfl, I0⟩)
  · have hV := rl_Hv hH
    obtain ⟨w1, w2, w3, w4, w5⟩ := hV
    refine br_f (by decide) ?_
    rcases rl_dir v1 with ho | ⟨d, hd, rfl⟩
    · refine xs_dir_f ho (br_t rfl (br_f (by decide) ?_))
      refine br_c (fun _ => ⟨rfl, I0⟩) (fun z => br_f (fun q => ?_) ⟨rfl, I0⟩)
      rcases ho with y | y
      · exact z y
      · exact (rl_le3 v1).mp q y
    · refine xs_dir_t hd (br_f (by decide) (xs_nb w1 hd ?_))
      have d0 : ¬ nI d < 0 := nI_pos (by omega)
      have d3 : nI d ≤ 3 := nI_le (b := 3) (by omega) (by decide)
      have ht := ce_n_le p d
      rcases ce_le64 ht with t1 | t1
      · rw [ce_I_in t1]
        have ti : ¬ nI (ce_n p d) = -1 := by have := ce_I_ne t1; rw [ce_I_in t1] at this; exact this
        have tc : (nI (ce_n p d)).toNatClampNeg = ce_n p d := nI_clamp (by omega)
        have tv : vp_in (nI (ce_n p d)) 64 := vp_in_nI t1 (by decide)
        refine br_f ti (xs_hasN t1 ?_)
        cases tw : ce_b f_walls (ce_n p d)
        · refine br_t (ce_Af tw) (xs_hasN t1 ?_)
          cases tb : ce_b f_boxes (ce_n p d)
          · refine br_t (ce_Af tb) (xs_rec q1 q2 p3 p4 (nm_e ?_))
            refine br_f (by decide) (br_f d0 (br_t d3 (ys_nbN w1 hd ?_)))
            rw [ce_I_in t1]
            refine br_f (nI_pos (by omega)) ⟨tv, ?_⟩
            rw [tc]
            refine br_t (ce_Af tw) ⟨tv, br_t (ce_Af tb) (ys_rec q1 q2 p3 p4 hH ⟨t1, tw, tb, w4, w5⟩ (Or.inl ⟨rfl, rfl⟩) (fun F f t hn => nm_e ⟨rfl, ?_⟩))⟩
            exact ⟨P, H, ⟨p1, p2, p3, p4, rfl, rfl, rfl, rfl, rfl, rfl, rfl, rfl, rfl⟩, Or.inr ⟨B, ce_n p d, if n < H then n + 1 else n, if nx = H - 1 then 0 else nx + 1, S, rfl, rfl, rfl, b1, b2, rfl, rfl, rfl, rfl, rfl, hlr, hgw, hgB, by split <;> omega, by split <;> omega, rfl, rfl, rfl, hn, s1, rfl, rfl, hsol⟩⟩
          · refine br_f (by rw [ce_At tb]; decide) (xs_nb t1 hd (xs_free (ce_n_le _ _) ?_))
            refine br_c (fun z => ?_) (fun z => ?_)
            · refine br_f (by decide) (br_f d0 (br_t d3 (ys_nbN w1 hd ?_)))
              rw [ce_I_in t1]
              refine br_f (nI_pos (by omega)) ⟨tv, ?_⟩
              rw [tc]
              exact br_t (ce_Af tw) ⟨tv, br_f (by rw [ce_At tb]; decide) (ys_nbN t1 hd (ys_free (ce_n_le _ _) (br_t z ⟨rfl, I0⟩)))⟩
            · have hf := gr_fz z
              have uc : (nI (ce_n (ce_n p d) d)).toNatClampNeg = ce_n (ce_n p d) d := nI_clamp (by omega)
              rw [ce_I_in hf.1]
              refine xs_pushBox q1 q2 p3 p4 ?_
              refine br_f (by decide) (br_f d0 (br_t d3 (ys_nbN w1 hd ?_)))
              rw [ce_I_in t1]
              refine br_f (nI_pos (by omega)) ⟨tv, ?_⟩
              rw [tc]
              refine br_t (ce_Af tw) ⟨tv, br_f (by rw [ce_At tb]; decide) (ys_nbN t1 hd (ys_free (ce_n_le _ _) (br_f z ?_)))⟩
              rw [ce_I_in hf.1]
              refine ⟨tv, nm_r (e' := upd (ce_A f_boxes) (ce_n p d) 0) (by rw [rl_b0]) ⟨vp_in_nI hf.1 (by decide), nm_r (e' := ce_A (gr_mv f_boxes (ce_n p d) (ce_n (ce_n p d) d))) (by rw [rl_b1, uc, ce_A_mv t1 hf.1]) ?_⟩⟩
              refine ys_rec q1 q2 p3 p4 hH (rl_Vmv ⟨w1, w2, w3, w4, w5⟩ tb hf.1 hf.2.2 hf.2.1) (Or.inr ⟨_, _, t1, hf.1, rfl, rfl, tb, hf.2.2, rfl⟩) (fun F f t hn => nm_e (nm_e ⟨rfl, ?_⟩))
              exact ⟨P, H, ⟨p1, p2, p3, p4, rfl, rfl, rfl, rfl, rfl, rfl, rfl, rfl, rfl⟩, Or.inr ⟨B, ce_n p d, if n < H then n + 1 else n, if nx = H - 1 then 0 else nx + 1, S, rfl, rfl, rfl, b1, b2, rfl, rfl, rfl, rfl, rfl, hlr, hgw, hgB, by split <;> omega, by split <;> omega, rfl, rfl, rfl, hn, s1, rfl, rfl, hsol⟩⟩
        · refine br_f (by rw [ce_At tw]; decide) ?_
          refine br_f (by decide) (br_f d0 (br_t d3 (ys_nbN w1 hd ?_)))
          rw [ce_I_in t1]
          refine br_f (nI_pos (by omega)) ⟨tv, ?_⟩
          rw [tc]
          exact br_f (by rw [ce_At tw]; decide) ⟨rfl, I0⟩
      · rw [t1]
        refine br_t rfl (br_f (by decide) (br_f d0 (br_t d3 (ys_nbN w1 hd ?_))))
        rw [t1]
        exact br_t (by decide) ⟨rfl, I0⟩
