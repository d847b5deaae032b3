/-! the class's solve -/
theorem xs_store19 {post : SX → Prop} {D F : Nat} {pa co : Nat → Nat} {f_pushLimit f_historyLimit f_started : Int32} {f_walls f_goals f_boxes f_liveCells : Int64} {f_liveTotal f_boxTotal f_pusherCell f_moves f_pushes f_historyNext f_historyTotal f_storedTotal f_nodeTotal : Int32} {a_editGrid a_liveRank : Nat → Int32} {a_historyBoxes : Nat → Int64} {a_historyPusher : Nat → Int32} {a_nodeBoxes : Nat → Int64} {a_nodePusher a_nodeParent a_nodeCode a_nodeDepth a_nodeMet : Nat → Int32} (hD : D ≤ 40) (hup : ∀ t, t < D → gr_up pa t F < 3840 ∧ a_nodeParent (gr_up pa t F) = nI (gr_up pa (t + 1) F) ∧ a_nodeCode (gr_up pa t F) = nI (co (gr_up pa t F)))
    (h : ∀ sp, (∀ i, i < D → sp i = nI (co (gr_up pa (D - 1 - i) F))) → post (f_pushLimit, f_historyLimit, f_started, f_walls, f_goals, f_boxes, f_liveCells, f_liveTotal, f_boxTotal, f_pusherCell, f_moves, f_pushes, f_historyNext, f_historyTotal, f_storedTotal, f_nodeTotal, a_editGrid, a_liveRank, a_historyBoxes, a_historyPusher, sp, a_nodeBoxes, a_nodePusher, a_nodeParent, a_nodeCode, a_nodeDepth, a_nodeMet)) :
    ∀ r t sp x2 x3, r + t = D → (0 < r → x2 = nI (gr_up pa t F)) → (r = 0 → x3 = -1) → (∀ q, r = q + 1 → x3 = nI q) → (∀ i, r ≤ i → i < D → sp i = nI (co (gr_up pa (D - 1 - i) F))) → wX_storePushesTo_19 post f_pushLimit f_historyLimit f_started f_walls f_goals f_boxes f_liveCells f_liveTotal f_boxTotal f_pusherCell f_moves f_pushes f_historyNext f_historyTotal f_storedTotal f_nodeTotal (r + 1) x2 x3 a_editGrid a_liveRank a_historyBoxes a_historyPusher (sp) a_nodeBoxes a_nodePusher a_nodeParent a_nodeCode a_nodeDepth a_nodeMet := by
  intro r
  induction r with
  | zero =>
    intro t sp x2 x3 ht h1 h2 h3 h4
    rw [h2 rfl]
    exact br_t (by decide) (h sp (fun i hi => h4 i (by omega) hi))
  | succ r ih =>
    intro t sp x2 x3 ht h1 h2 h3 h4
    rw [h1 (by omega), h3 r rfl]
    obtain ⟨u1, u2, u3⟩ := hup t (by omega)
    have ec : (nI (gr_up pa t F)).toNatClampNeg = gr_up pa t F := nI_clamp (by omega)
    refine br_f (nI_pos (by omega)) ⟨vp_in_nI u1 (by decide), vp_in_nI (by omega) (by decide), nm_r (e' := upd sp r (nI (co (gr_up pa t F)))) (by rw [ec, u3, nI_clamp (n := r) (by omega)]) ⟨vp_in_nI u1 (by decide), nm_r (e' := nI (gr_up pa (t + 1) F)) (by rw [ec, u2]) (nm_e ?_)⟩⟩
    refine ih (t + 1) _ _ _ (by omega) (fun _ => rfl) (fun e => ?_) (fun q e => ?_) (fun i hi hiD => ?_)
    · subst e; exact rl_m1
    · subst e; exact pk_m1 q
    · by_cases e : i = r
      · subst e
        rw [pk_us, show D - 1 - i = t by omega]
      · rw [pk_un e]; exact h4 i (by omega) hiD
theorem xs_store {post : SX → Prop} {F P : Nat} {w g lv : Int64} {rt : Int64 × Nat} {f_pushLimit f_historyLimit f_started : Int32} {f_walls f_goals f_boxes f_liveCells : Int64} {f_liveTotal f_boxTotal f_pusherCell f_moves f_pushes f_historyNext f_historyTotal f_storedTotal f_nodeTotal : Int32} {a_editGrid a_liveRank : Nat → Int32} {a_historyBoxes : Nat → Int64} {a_historyPusher a_storedPushes : Nat → Int32} {a_nodeBoxes : Nat → Int64} {a_nodePusher a_nodeParent a_nodeCode a_nodeDepth a_nodeMet : Nat → Int32} (hP : P ≤ 40) (hF : xs_Fd w g lv P rt F a_nodeParent a_nodeCode a_nodeDepth)
    (h : ∀ D l sp, 1 ≤ D → D ≤ P → gr_G (gr_step w lv) (gr_so g) D rt l → (∀ m, m < D → ¬ gr_can (gr_step w lv) (gr_so g) m rt) → (∀ i, i < D → sp i = nI (l i)) → post (f_pushLimit, f_historyLimit, f_started, f_walls, f_goals, f_boxes, f_liveCells, f_liveTotal, f_boxTotal, f_pusherCell, f_moves, f_pushes, f_historyNext, f_historyTotal, nI D, f_nodeTotal, a_editGrid, a_liveRank, a_historyBoxes, a_historyPusher, sp, a_nodeBoxes, a_nodePusher, a_nodeParent, a_nodeCode, a_nodeDepth, a_nodeMet)) : wpX_storePushesTo post (f_pushLimit, f_historyLimit, f_started, f_walls, f_goals, f_boxes, f_liveCells, f_liveTotal, f_boxTotal, f_pusherCell, f_moves, f_pushes, f_historyNext, f_historyTotal, f_storedTotal, f_nodeTotal, a_editGrid, a_liveRank, a_historyBoxes, a_historyPusher, a_storedPushes, a_nodeBoxes, a_nodePusher, a_nodeParent, a_nodeCode, a_nodeDepth, a_nodeMet) (nI F) := by
  obtain ⟨nd, pa, co, de, f1, f2, f3, f4, f5⟩ := hF
  have hup := gr_upF _ _ f1
  have g4 := f1.2.2.2.1
  have g3 := f1.2.2.1
  have hD1 : 1 ≤ de F := by
    have := (g4 F f1.1 (Nat.le_refl F)).2.2.2
    omega
  have hnode : ∀ t, t < de F → 0 < gr_up pa t F := by
    intro t ht
    apply Nat.pos_of_ne_zero
    intro z
    have := (hup t (by omega)).2
    rw [z, g3] at this
    omega
  refine ⟨vp_in_nI f2 (by decide), nm_r (e' := nI (de F)) (by rw [nI_clamp (by omega), f4]) (nm_r (e' := nI (de F - 1)) (pk_sub (b := 1) hD1) ⟨de F + 1, ?_⟩)⟩
  refine xs_store19 (D := de F) (F := F) (pa := pa) (co := co) (by omega) (fun t ht => ?_) (fun sp hsp => ?_) (de F) 0 _ _ _ (by omega) (fun _ => rfl) (fun e => by omega) (fun q e => by rw [e]; rfl) (fun i h1 h2 => by omega)
  · have a := (hup t (by omega)).1
    have b := f5 _ (hnode t ht) a
    exact ⟨by omega, b.1, b.2⟩
  · have dn := gr_done _ _ f1 (sp := fun i => co (gr_up pa (de F - 1 - i) F)) (fun i hi => rfl)
    exact h (de F) _ sp hD1 f3 dn.1 dn.2 hsp
theorem xs_size {post : Int32 → Prop} {B L : Nat} {f_pushLimit f_historyLimit f_started : Int32} {f_walls f_goals f_boxes f_liveCells : Int64} {f_pusherCell f_moves f_pushes f_historyNext f_historyTotal f_storedTotal f_nodeTotal : Int32} {a_editGrid a_liveRank : Nat → Int32} {a_historyBoxes : Nat → Int64} {a_historyPusher a_storedPushes : Nat → Int32} {a_nodeBoxes : Nat → Int64} {a_nodePusher a_nodeParent a_nodeCode a_nodeDepth a_nodeMet : Nat → Int32} (h1 : 1 ≤ B) (h2 : B ≤ 3) (hL : L ≤ 64) (ht : gr_fit B L → post 1) (hf : ¬ gr_fit B L → post 0) : wpX_isWithinSizeLimit post (f_pushLimit, f_historyLimit, f_started, f_walls, f_goals, f_boxes, f_liveCells, nI L, nI B, f_pusherCell, f_moves, f_pushes, f_historyNext, f_historyTotal, f_storedTotal, f_nodeTotal, a_editGrid, a_liveRank, a_historyBoxes, a_historyPusher, a_storedPushes, a_nodeBoxes, a_nodePusher, a_nodeParent, a_nodeCode, a_nodeDepth, a_nodeMet) := by
  refine pk_eq B 1 (fun e => ?_) (fun e => pk_eq B 2 (fun e' => ?_) (fun e' => ?_))
  · exact pk_lt 60 L (fun z => hf (by unfold gr_fit; omega)) (fun z => ht (by unfold gr_fit; omega))
  · exact pk_lt 8 L (fun z => hf (by unfold gr_fit; omega)) (fun z => ht (by unfold gr_fit; omega))
  · exact pk_lt 6 L (fun z => hf (by unfold gr_fit; omega)) (fun z => ht (by unfold gr_fit; omega))
theorem xs_solve {post : Int32 → SX → Prop} {P B p L : Nat} {f_historyLimit : Int32} {f_walls f_goals f_boxes f_liveCells : Int64} {f_moves f_pushes f_historyNext f_historyTotal f_storedTotal f_nodeTotal : Int32} {a_editGrid a_liveRank : Nat → Int32} {a_historyBoxes : Nat → Int64} {a_historyPusher a_storedPushes : Nat → Int32} {a_nodeBoxes : Nat → Int64} {a_nodePusher a_nodeParent a_nodeCode a_nodeDepth a_nodeMet : Nat → Int32} (hP : P ≤ 40) (hB1 : 1 ≤ B) (hB3 : B ≤ 3) (hL : ce_rk f_liveCells 64 = L) (hlr : ∀ c, c < 64 → a_liveRank c = nI (ce_rk f_liveCells c)) (hlw : ∀ c, ce_b f_liveCells c = true → ce_b f_walls c = false) (hV : rl_V f_walls B f_boxes p)
    (h1 : gr_so f_goals (f_boxes, p) → post 0 (nI P, f_historyLimit, 1, f_walls, f_goals, f_boxes, f_liveCells, nI L, nI B, nI p, f_moves, f_pushes, f_historyNext, f_historyTotal, 0, f_nodeTotal, a_editGrid, a_liveRank, a_historyBoxes, a_historyPusher, a_storedPushes, a_nodeBoxes, a_nodePusher, a_nodeParent, a_nodeCode, a_nodeDepth, a_nodeMet))
    (h2 : ¬ gr_so f_goals (f_boxes, p) → ¬ gr_fit B L → post (-6) (nI P, f_historyLimit, 1, f_walls, f_goals, f_boxes, f_liveCells, nI L, nI B, nI p, f_moves, f_pushes, f_historyNext, f_historyTotal, f_storedTotal, f_nodeTotal, a_editGrid, a_liveRank, a_historyBoxes, a_historyPusher, a_storedPushes, a_nodeBoxes, a_nodePusher, a_nodeParent, a_nodeCode, a_nodeDepth, a_nodeMet))
    (h3 : ¬ gr_so f_goals (f_boxes, p) → gr_fit B L → ¬ (∀ c, ce_b f_boxes c = true → ce_b f_liveCells c = true) → post (-7) (nI P, f_historyLimit, 1, f_walls, f_goals, f_boxes, f_liveCells, nI L, nI B, nI p, f_moves, f_pushes, f_historyNext, f_historyTotal, 0, f_nodeTotal, a_editGrid, a_liveRank, a_historyBoxes, a_historyPusher, a_storedPushes, a_nodeBoxes, a_nodePusher, a_nodeParent, a_nodeCode, a_nodeDepth, a_nodeMet))
    (h4 : ¬ gr_so f_goals (f_boxes, p) → gr_fit B L → (∀ c, ce_b f_boxes c = true → ce_b f_liveCells c = true) → (∀ m, m ≤ P → ¬ gr_can (gr_step f_walls f_liveCells) (gr_so f_goals) m (f_boxes, p)) → ∀ xN nb np pr cd dp me, post (-7) (nI P, f_historyLimit, 1, f_walls, f_goals, f_boxes, f_liveCells, nI L, nI B, nI p, f_moves, f_pushes, f_historyNext, f_historyTotal, 0, xN, a_editGrid, a_liveRank, a_historyBoxes, a_historyPusher, a_storedPushes, nb, np, pr, cd, dp, me))
    (h5 : ¬ gr_so f_goals (f_boxes, p) → gr_fit B L → (∀ c, ce_b f_boxes c = true → ce_b f_liveCells c = true) → ∀ D l sp, 1 ≤ D → D ≤ P → gr_G (gr_step f_walls f_liveCells) (gr_so f_goals) D (f_boxes, p) l → (∀ m, m < D → ¬ gr_can (gr_step f_walls f_liveCells) (gr_so f_goals) m (f_boxes, p)) → (∀ i, i < D → sp i = nI (l i)) → ∀ xN nb np pr cd dp me, post (nI D) (nI P, f_historyLimit, 1, f_walls, f_goals, f_boxes, f_liveCells, nI L, nI B, nI p, f_moves, f_pushes, f_historyNext, f_historyTotal, nI D, xN, a_editGrid, a_liveRank, a_historyBoxes, a_historyPusher, sp, nb, np, pr, cd, dp, me)) :
    wpX_solve post (nI P, f_historyLimit, 1, f_walls, f_goals, f_boxes, f_liveCells, nI L, nI B, nI p, f_moves, f_pushes, f_historyNext, f_historyTotal, f_storedTotal, f_nodeTotal, a_editGrid, a_liveRank, a_historyBoxes, a_historyPusher, a_storedPushes, a_nodeBoxes, a_nodePusher, a_nodeParent, a_nodeCode, a_nodeDepth, a_nodeMet) := by
  obtain ⟨v1, v2, v3, v4, v5⟩ := hV
  have hL64 : L ≤ 64 := by rw [← hL]; exact ce_rk_le _ _
  refine br_f (by decide) (xs_goals ?_)
  by_cases so : f_boxes &&& (f_goals ^^^ (-1)) = 0
  · rw [if_pos so]
    exact br_f (by decide) (h1 so)
  · rw [if_neg so]
    refine br_t rfl (xs_size hB1 hB3 hL64 (fun hf => ?_) (fun hf => br_t rfl (h2 so hf)))
    refine br_f (by decide) ?_
    by_cases bl : f_boxes &&& (f_liveCells ^^^ (-1)) = 0
    · have bl' := (gr_soI f_liveCells f_boxes).mp bl
      refine br_t bl ⟨13825, xs_find22 hL hf hlw hlr hP ⟨v1, v2, v3, bl', v5⟩ so (fun xN nb np pr cd dp me hn => ?_) (fun F xN nb np pr cd dp me hF => ?_) 13824 0 _ (by omega) (fun x hx => by omega)⟩
      · exact br_t rfl (h4 so hf bl' hn xN nb np pr cd dp me)
      · have hF3 : F < 3840 := by
          obtain ⟨_, _, _, _, _, h3, _⟩ := hF
          exact h3
        refine br_f (fun e => ?_) (xs_store hP hF (fun D l sp d1 d2 d3 d4 d5 => h5 so hf bl' D l sp d1 d2 d3 d4 d5 xN nb np pr cd dp me))
        have := nI_pos (n := F) (by omega)
        rw [e] at this
        exact this (by decide)
    · exact br_f bl (br_t rfl (h3 so hf (fun z => bl ((gr_soI f_liveCells f_boxes).mpr z))))
