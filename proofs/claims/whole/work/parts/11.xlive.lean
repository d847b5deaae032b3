/-! the class's live cells and their ranks -/
theorem xs_live0 {post : SX → Prop} {w : Int64} {f_pushLimit f_historyLimit f_started : Int32} {f_walls f_goals f_boxes f_liveCells : Int64} {f_liveTotal f_boxTotal f_pusherCell f_moves f_pushes f_historyNext f_historyTotal f_storedTotal f_nodeTotal : Int32} {a_editGrid a_liveRank : Nat → Int32} {a_historyBoxes : Nat → Int64} {a_historyPusher a_storedPushes : Nat → Int32} {a_nodeBoxes : Nat → Int64} {a_nodePusher a_nodeParent a_nodeCode a_nodeDepth a_nodeMet : Nat → Int32} : ∀ k i m, i + k = 64 → post (f_pushLimit, f_historyLimit, f_started, f_walls, f_goals, f_boxes, ce_it (gr_lf w) k m, f_liveTotal, f_boxTotal, f_pusherCell, f_moves, f_pushes, f_historyNext, f_historyTotal, f_storedTotal, f_nodeTotal, a_editGrid, a_liveRank, a_historyBoxes, a_historyPusher, a_storedPushes, a_nodeBoxes, a_nodePusher, a_nodeParent, a_nodeCode, a_nodeDepth, a_nodeMet) →
    wX_findLiveCells_49 post ((w ^^^ (-1)) &&& ce_up (w ^^^ (-1))) ((w ^^^ (-1)) &&& ce_dn (w ^^^ (-1))) ((w ^^^ (-1)) &&& ce_rt (w ^^^ (-1))) ((w ^^^ (-1)) &&& ce_lf (w ^^^ (-1))) f_pushLimit f_historyLimit f_started f_walls f_goals f_boxes f_liveCells f_liveTotal f_boxTotal f_pusherCell f_moves f_pushes f_historyNext f_historyTotal f_storedTotal f_nodeTotal a_editGrid a_liveRank a_historyBoxes a_historyPusher a_storedPushes a_nodeBoxes a_nodePusher a_nodeParent a_nodeCode a_nodeDepth a_nodeMet (k + 1) m (nI i) := by
  intro k
  induction k with
  | zero =>
    intro i m hi h
    exact br_t (nI_le (a := 64) (by omega) (by omega)) h
  | succ k ih =>
    intro i m hi h
    refine br_f (nI_ge (b := 64) (by omega) (by decide)) ?_
    refine nm_r (e' := m ||| (ce_dn m &&& ((w ^^^ (-1)) &&& ce_up (w ^^^ (-1))))) rfl ?_
    refine nm_r (e' := (m ||| (ce_dn m &&& ((w ^^^ (-1)) &&& ce_up (w ^^^ (-1))))) ||| (ce_up m &&& ((w ^^^ (-1)) &&& ce_dn (w ^^^ (-1))))) rfl ?_
    refine nm_r (e' := ((m ||| (ce_dn m &&& ((w ^^^ (-1)) &&& ce_up (w ^^^ (-1))))) ||| (ce_up m &&& ((w ^^^ (-1)) &&& ce_dn (w ^^^ (-1))))) ||| (ce_lf m &&& ((w ^^^ (-1)) &&& ce_rt (w ^^^ (-1))))) rfl ?_
    refine nm_r (e' := gr_lf w m) rfl ?_
    refine br_c (fun e => ?_) (fun e => nm_r (nI_1 i) (ih (i + 1) _ (by omega) h))
    rw [ce_it_fix e] at h
    rw [e]
    exact h
theorem xs_live {post : SX → Prop} {f_pushLimit f_historyLimit f_started : Int32} {f_walls f_goals f_boxes f_liveCells : Int64} {f_liveTotal f_boxTotal f_pusherCell f_moves f_pushes f_historyNext f_historyTotal f_storedTotal f_nodeTotal : Int32} {a_editGrid a_liveRank : Nat → Int32} {a_historyBoxes : Nat → Int64} {a_historyPusher a_storedPushes : Nat → Int32} {a_nodeBoxes : Nat → Int64} {a_nodePusher a_nodeParent a_nodeCode a_nodeDepth a_nodeMet : Nat → Int32} (h : post (f_pushLimit, f_historyLimit, f_started, f_walls, f_goals, f_boxes, gr_live f_walls f_goals, f_liveTotal, f_boxTotal, f_pusherCell, f_moves, f_pushes, f_historyNext, f_historyTotal, f_storedTotal, f_nodeTotal, a_editGrid, a_liveRank, a_historyBoxes, a_historyPusher, a_storedPushes, a_nodeBoxes, a_nodePusher, a_nodeParent, a_nodeCode, a_nodeDepth, a_nodeMet)) : wpX_findLiveCells post (f_pushLimit, f_historyLimit, f_started, f_walls, f_goals, f_boxes, f_liveCells, f_liveTotal, f_boxTotal, f_pusherCell, f_moves, f_pushes, f_historyNext, f_historyTotal, f_storedTotal, f_nodeTotal, a_editGrid, a_liveRank, a_historyBoxes, a_historyPusher, a_storedPushes, a_nodeBoxes, a_nodePusher, a_nodeParent, a_nodeCode, a_nodeDepth, a_nodeMet) := by
  refine nm_e ?_
  refine nm_r (e' := (f_walls ^^^ (-1)) &&& ce_up (f_walls ^^^ (-1))) rfl ?_
  refine nm_r (e' := (f_walls ^^^ (-1)) &&& ce_dn (f_walls ^^^ (-1))) rfl ?_
  refine nm_r (e' := (f_walls ^^^ (-1)) &&& ce_rt (f_walls ^^^ (-1))) rfl ?_
  refine nm_r (e' := (f_walls ^^^ (-1)) &&& ce_lf (f_walls ^^^ (-1))) rfl ?_
  exact ⟨65, xs_live0 64 0 f_goals (by omega) h⟩
theorem xs_rank0 {post : SX → Prop} {f_pushLimit f_historyLimit f_started : Int32} {f_walls f_goals f_boxes f_liveCells : Int64} {f_boxTotal f_pusherCell f_moves f_pushes f_historyNext f_historyTotal f_storedTotal f_nodeTotal : Int32} {a_editGrid : Nat → Int32} {a_historyBoxes : Nat → Int64} {a_historyPusher a_storedPushes : Nat → Int32} {a_nodeBoxes : Nat → Int64} {a_nodePusher a_nodeParent a_nodeCode a_nodeDepth a_nodeMet : Nat → Int32} (hpost : ∀ lr, (∀ c, c < 64 → lr c = nI (ce_rk f_liveCells c)) → post (f_pushLimit, f_historyLimit, f_started, f_walls, f_goals, f_boxes, f_liveCells, nI (ce_rk f_liveCells 64), f_boxTotal, f_pusherCell, f_moves, f_pushes, f_historyNext, f_historyTotal, f_storedTotal, f_nodeTotal, a_editGrid, lr, a_historyBoxes, a_historyPusher, a_storedPushes, a_nodeBoxes, a_nodePusher, a_nodeParent, a_nodeCode, a_nodeDepth, a_nodeMet)) :
    ∀ k i lr, i + k = 64 → (∀ c, c < i → lr c = nI (ce_rk f_liveCells c)) → wX_rankLiveCells_7 post f_pushLimit f_historyLimit f_started f_walls f_goals f_boxes f_liveCells f_boxTotal f_pusherCell f_moves f_pushes f_historyNext f_historyTotal f_storedTotal f_nodeTotal (k + 1) (nI i) (nI (ce_rk f_liveCells i)) a_editGrid (lr) a_historyBoxes a_historyPusher a_storedPushes a_nodeBoxes a_nodePusher a_nodeParent a_nodeCode a_nodeDepth a_nodeMet := by
  intro k
  induction k with
  | zero =>
    intro i lr hi h
    have e : i = 64 := by omega
    subst e
    exact br_t (nI_le (a := 64) (by omega) (by omega)) (hpost lr h)
  | succ k ih =>
    intro i lr hi h
    refine br_f (nI_ge (b := 64) (by omega) (by decide)) ⟨vp_in_nI (by omega) (by decide), nm_r (e' := upd lr i (nI (ce_rk f_liveCells i))) (by rw [nI_clamp (by omega)]) (xs_hasN (by omega) ?_)⟩
    have hk : ∀ c, c < i + 1 → upd lr i (nI (ce_rk f_liveCells i)) c = nI (ce_rk f_liveCells c) := by
      intro c hc
      by_cases q : c = i
      · rw [q, pk_us]
      · rw [pk_un q]; exact h c (by omega)
    have := ih (i + 1) _ (by omega) hk
    cases hb : ce_b f_liveCells i
    · rw [ce_rk_n hb] at this
      exact br_t (ce_Af hb) (nm_r (nI_1 i) this)
    · rw [ce_rk_s hb] at this
      exact br_f (by rw [ce_At hb]; decide) (nm_r (nI_1 _) (nm_r (nI_1 i) this))
theorem xs_rank {post : SX → Prop} {f_pushLimit f_historyLimit f_started : Int32} {f_walls f_goals f_boxes f_liveCells : Int64} {f_liveTotal f_boxTotal f_pusherCell f_moves f_pushes f_historyNext f_historyTotal f_storedTotal f_nodeTotal : Int32} {a_editGrid a_liveRank : Nat → Int32} {a_historyBoxes : Nat → Int64} {a_historyPusher a_storedPushes : Nat → Int32} {a_nodeBoxes : Nat → Int64} {a_nodePusher a_nodeParent a_nodeCode a_nodeDepth a_nodeMet : Nat → Int32} (hpost : ∀ lr, (∀ c, c < 64 → lr c = nI (ce_rk f_liveCells c)) → post (f_pushLimit, f_historyLimit, f_started, f_walls, f_goals, f_boxes, f_liveCells, nI (ce_rk f_liveCells 64), f_boxTotal, f_pusherCell, f_moves, f_pushes, f_historyNext, f_historyTotal, f_storedTotal, f_nodeTotal, a_editGrid, lr, a_historyBoxes, a_historyPusher, a_storedPushes, a_nodeBoxes, a_nodePusher, a_nodeParent, a_nodeCode, a_nodeDepth, a_nodeMet)) : wpX_rankLiveCells post (f_pushLimit, f_historyLimit, f_started, f_walls, f_goals, f_boxes, f_liveCells, f_liveTotal, f_boxTotal, f_pusherCell, f_moves, f_pushes, f_historyNext, f_historyTotal, f_storedTotal, f_nodeTotal, a_editGrid, a_liveRank, a_historyBoxes, a_historyPusher, a_storedPushes, a_nodeBoxes, a_nodePusher, a_nodeParent, a_nodeCode, a_nodeDepth, a_nodeMet) :=
  ⟨65, xs_rank0 hpost 64 0 _ (by omega) (fun c hc => by omega)⟩
