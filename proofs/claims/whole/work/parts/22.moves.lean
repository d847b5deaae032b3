/-! records, move, push, undo -/
theorem xs_rec {post : SX → Prop} {f_pushLimit f_started : Int32} {f_walls f_goals f_boxes f_liveCells : Int64} {f_liveTotal f_boxTotal f_pusherCell f_moves f_pushes f_storedTotal f_nodeTotal : Int32} {a_editGrid a_liveRank : Nat → Int32} {a_historyBoxes : Nat → Int64} {a_historyPusher a_storedPushes : Nat → Int32} {a_nodeBoxes : Nat → Int64} {a_nodePusher a_nodeParent a_nodeCode a_nodeDepth a_nodeMet : Nat → Int32} {H n nx : Nat} (h1 : nx < H) (h2 : n ≤ H) (h3 : 8 ≤ H) (h4 : H ≤ 64)
    (h : post (f_pushLimit, nI H, f_started, f_walls, f_goals, f_boxes, f_liveCells, f_liveTotal, f_boxTotal, f_pusherCell, f_moves, f_pushes, nI (if nx = H - 1 then 0 else nx + 1), nI (if n < H then n + 1 else n), f_storedTotal, f_nodeTotal, a_editGrid, a_liveRank, vp_updL a_historyBoxes nx f_boxes, upd a_historyPusher nx f_pusherCell, a_storedPushes, a_nodeBoxes, a_nodePusher, a_nodeParent, a_nodeCode, a_nodeDepth, a_nodeMet)) : wpX_addRecord post (f_pushLimit, nI H, f_started, f_walls, f_goals, f_boxes, f_liveCells, f_liveTotal, f_boxTotal, f_pusherCell, f_moves, f_pushes, nI nx, nI n, f_storedTotal, f_nodeTotal, a_editGrid, a_liveRank, a_historyBoxes, a_historyPusher, a_storedPushes, a_nodeBoxes, a_nodePusher, a_nodeParent, a_nodeCode, a_nodeDepth, a_nodeMet) := by
  have e : nI H - 1 = nI (H - 1) := pk_sub (b := 1) (by omega)
  have key : ∀ z, z = nI (if nx = H - 1 then 0 else nx + 1) → wX_addRecord_50 post z f_pushLimit (nI H) f_started f_walls f_goals f_boxes f_liveCells f_liveTotal f_boxTotal f_pusherCell f_moves f_pushes (nI nx) (nI n) f_storedTotal f_nodeTotal a_editGrid a_liveRank (vp_updL a_historyBoxes nx f_boxes) (upd a_historyPusher nx f_pusherCell) a_storedPushes a_nodeBoxes a_nodePusher a_nodeParent a_nodeCode a_nodeDepth a_nodeMet := by
    intro z hz
    subst hz
    refine pk_le H n (fun q => ?_) (fun q => nm_r (nI_1 n) ?_)
    · rw [if_neg (show ¬ n < H by omega)] at h; exact h
    · rw [if_pos q] at h; exact h
  refine ⟨vp_in_nI (by omega) (by decide), nm_r (e' := vp_updL a_historyBoxes nx f_boxes) (by rw [nI_clamp (by omega)]) ⟨vp_in_nI (by omega) (by decide), nm_r (e' := upd a_historyPusher nx f_pusherCell) (by rw [nI_clamp (by omega)]) ?_⟩⟩
  refine pk_eq nx (H - 1) (fun q => key 0 ?_) (fun q => key _ ?_) rfl e
  · rw [if_pos q]; rfl
  · rw [if_neg q, nI_1]
theorem xs_pushBox {post : SX → Prop} {f_pushLimit f_started : Int32} {f_walls f_goals f_boxes f_liveCells : Int64} {f_liveTotal f_boxTotal f_pusherCell f_moves f_pushes f_storedTotal f_nodeTotal : Int32} {a_editGrid a_liveRank : Nat → Int32} {a_historyBoxes : Nat → Int64} {a_historyPusher a_storedPushes : Nat → Int32} {a_nodeBoxes : Nat → Int64} {a_nodePusher a_nodeParent a_nodeCode a_nodeDepth a_nodeMet : Nat → Int32} {H n nx x y : Nat} (h1 : nx < H) (h2 : n ≤ H) (h3 : 8 ≤ H) (h4 : H ≤ 64)
    (h : post (f_pushLimit, nI H, f_started, f_walls, f_goals, gr_mv f_boxes x y, f_liveCells, f_liveTotal, f_boxTotal, nI x, f_moves + 1, f_pushes + 1, nI (if nx = H - 1 then 0 else nx + 1), nI (if n < H then n + 1 else n), f_storedTotal, f_nodeTotal, a_editGrid, a_liveRank, vp_updL a_historyBoxes nx f_boxes, upd a_historyPusher nx f_pusherCell, a_storedPushes, a_nodeBoxes, a_nodePusher, a_nodeParent, a_nodeCode, a_nodeDepth, a_nodeMet)) : wpX_pushBox post (f_pushLimit, nI H, f_started, f_walls, f_goals, f_boxes, f_liveCells, f_liveTotal, f_boxTotal, f_pusherCell, f_moves, f_pushes, nI nx, nI n, f_storedTotal, f_nodeTotal, a_editGrid, a_liveRank, a_historyBoxes, a_historyPusher, a_storedPushes, a_nodeBoxes, a_nodePusher, a_nodeParent, a_nodeCode, a_nodeDepth, a_nodeMet) (nI x) (nI y) := by
  unfold wpX_pushBox
  refine xs_rec h1 h2 h3 h4 ?_
  refine xs_bit (xs_bit ?_)
  exact nm_r (e' := gr_mv f_boxes x y) rfl (nm_e (nm_e h))
theorem ys_87 {post : SY → Prop} {yf_lim yf_hs yf_started yf_pu yf_moves yf_pushes yf_solLen yf_nB yf_nL yf_curP yf_nextState : Int32} {ya_edit ya_wall ya_goal ya_box ya_hFrom ya_hBf ya_hBt ya_sol ya_reach ya_stack ya_liveMark ya_liveIdx ya_liveCell ya_dist ya_sb ya_ob : Nat → Int32} {n : Nat} {x1 x2 x3 : Int32} (hn : n < 64) (h : post (yf_lim, yf_hs, yf_started, yf_pu, yf_moves, yf_pushes, nI (n + 1), yf_solLen, yf_nB, yf_nL, yf_curP, yf_nextState, ya_edit, ya_wall, ya_goal, ya_box, upd ya_hFrom n x1, upd ya_hBf n x2, upd ya_hBt n x3, ya_sol, ya_reach, ya_stack, ya_liveMark, ya_liveIdx, ya_liveCell, ya_dist, ya_sb, ya_ob)) : wY_record_87 post x1 x2 x3 yf_lim yf_hs yf_started yf_pu yf_moves yf_pushes (nI n) yf_solLen yf_nB yf_nL yf_curP yf_nextState ya_edit ya_wall ya_goal ya_box ya_hFrom ya_hBf ya_hBt ya_sol ya_reach ya_stack ya_liveMark ya_liveIdx ya_liveCell ya_dist ya_sb ya_ob :=
  ⟨vp_in_nI hn (by decide), nm_r (e' := upd ya_hFrom n x1) (by rw [nI_clamp (by omega)]) ⟨vp_in_nI hn (by decide), nm_r (e' := upd ya_hBf n x2) (by rw [nI_clamp (by omega)]) ⟨vp_in_nI hn (by decide), nm_r (e' := upd ya_hBt n x3) (by rw [nI_clamp (by omega)]) (nm_r (nI_1 n) h)⟩⟩⟩
theorem rl_shift {a a' : Nat → Int32} {i : Nat} (h1 : 1 ≤ i) (hl : ∀ j, j + 1 < i → a' j = a (j + 1)) (hh : ∀ j, i ≤ j + 1 → a' j = a j) : (∀ j, j + 1 < i + 1 → upd a' (i - 1) (a' i) j = a (j + 1)) ∧ (∀ j, i + 1 ≤ j + 1 → upd a' (i - 1) (a' i) j = a j) := by
  constructor
  · intro j hj
    by_cases q : j = i - 1
    · subst q
      rw [pk_us, hh i (by omega), show i - 1 + 1 = i by omega]
    · rw [pk_un q]; exact hl j (by omega)
  · intro j hj
    rw [pk_un (by omega)]
    exact hh j (by omega)
theorem ys_14 {post : SY → Prop} {yf_lim yf_hs yf_started yf_pu yf_moves yf_pushes yf_solLen yf_nB yf_nL yf_curP yf_nextState : Int32} {ya_edit ya_wall ya_goal ya_box ya_sol ya_reach ya_stack ya_liveMark ya_liveIdx ya_liveCell ya_dist ya_sb ya_ob : Nat → Int32} {H : Nat} {x1 x2 x3 : Int32} {F f t : Nat → Int32} (h3 : 8 ≤ H) (h4 : H ≤ 64)
    (h : ∀ F' f' t', (∀ i, i < H - 1 → F' i = F (i + 1)) → (∀ i, i < H - 1 → f' i = f (i + 1)) → (∀ i, i < H - 1 → t' i = t (i + 1)) → post (yf_lim, yf_hs, yf_started, yf_pu, yf_moves, yf_pushes, nI H, yf_solLen, yf_nB, yf_nL, yf_curP, yf_nextState, ya_edit, ya_wall, ya_goal, ya_box, upd F' (H - 1) x1, upd f' (H - 1) x2, upd t' (H - 1) x3, ya_sol, ya_reach, ya_stack, ya_liveMark, ya_liveIdx, ya_liveCell, ya_dist, ya_sb, ya_ob)) :
    ∀ k i F' f' t', i + k = H → 1 ≤ i → (∀ j, j + 1 < i → F' j = F (j + 1)) → (∀ j, i ≤ j + 1 → F' j = F j) → (∀ j, j + 1 < i → f' j = f (j + 1)) → (∀ j, i ≤ j + 1 → f' j = f j) → (∀ j, j + 1 < i → t' j = t (j + 1)) → (∀ j, i ≤ j + 1 → t' j = t j) →
      wY_record_14 post x1 x2 x3 yf_lim yf_hs yf_started yf_pu yf_moves yf_pushes (nI H) yf_solLen yf_nB yf_nL yf_curP yf_nextState (k + 1) (nI i) ya_edit ya_wall ya_goal ya_box (F') (f') (t') ya_sol ya_reach ya_stack ya_liveMark ya_liveIdx ya_liveCell ya_dist ya_sb ya_ob := by
  intro k
  induction k with
  | zero =>
    intro i F' f' t' hi h1 a1 a2 a3 a4 a5 a6
    have e : i = H := by omega
    subst e
    refine br_t (nI_le (Nat.le_refl i) (by omega)) (nm_r (pk_sub (b := 1) (by omega)) (ys_87 (by omega) ?_))
    rw [show i - 1 + 1 = i by omega]
    exact h F' f' t' (fun j hj => a1 j (by omega)) (fun j hj => a3 j (by omega)) (fun j hj => a5 j (by omega))
  | succ k ih =>
    intro i F' f' t' hi h1 a1 a2 a3 a4 a5 a6
    have e : nI i - 1 = nI (i - 1) := pk_sub (b := 1) (by omega)
    have c1 : (nI i).toNatClampNeg = i := nI_clamp (by omega)
    have c2 : (nI i - 1).toNatClampNeg = i - 1 := by rw [e]; exact nI_clamp (by omega)
    have v1 : vp_in (nI i) 64 := vp_in_nI (by omega) (by decide)
    have v2 : vp_in (nI i - 1) 64 := by rw [e]; exact vp_in_nI (by omega) (by decide)
    have s1 := rl_shift h1 a1 a2
    have s2 := rl_shift h1 a3 a4
    have s3 := rl_shift h1 a5 a6
    exact br_f (nI_ge (by omega) (by omega)) ⟨v1, v2, nm_r (e' := upd F' (i - 1) (F' i)) (by rw [c1, c2]) ⟨v1, v2, nm_r (e' := upd f' (i - 1) (f' i)) (by rw [c1, c2]) ⟨v1, v2, nm_r (e' := upd t' (i - 1) (t' i)) (by rw [c1, c2]) (nm_r (nI_1 i) (ih (i + 1) _ _ _ (by omega) (by omega) s1.1 s1.2 s2.1 s2.2 s3.1 s3.2))⟩⟩⟩
theorem ys_rec {post : SY → Prop} {yf_lim yf_started yf_pu yf_moves yf_pushes yf_solLen yf_nB yf_nL yf_curP yf_nextState : Int32} {ya_edit ya_wall ya_goal ya_box ya_hFrom ya_hBf ya_hBt ya_sol ya_reach ya_stack ya_liveMark ya_liveIdx ya_liveCell ya_dist ya_sb ya_ob : Nat → Int32} {w b b2 : Int64} {B H n nx p p2 : Nat} {hb : Nat → Int64} {hp : Nat → Int32} {x2 x3 : Int32} (h1 : nx < H) (h2 : n ≤ H) (h3 : 8 ≤ H) (h4 : H ≤ 64)
    (hH : rl_H w B H n nx hb hp ya_hFrom ya_hBf ya_hBt b p) (hv : rl_V w B b2 p2) (hT : rl_T b2 b x2 x3)
    (h : ∀ F f t, rl_H w B H (if n < H then n + 1 else n) (if nx = H - 1 then 0 else nx + 1) (vp_updL hb nx b) (upd hp nx (nI p)) F f t b2 p2 → post (yf_lim, nI H, yf_started, yf_pu, yf_moves, yf_pushes, nI (if n < H then n + 1 else n), yf_solLen, yf_nB, yf_nL, yf_curP, yf_nextState, ya_edit, ya_wall, ya_goal, ya_box, F, f, t, ya_sol, ya_reach, ya_stack, ya_liveMark, ya_liveIdx, ya_liveCell, ya_dist, ya_sb, ya_ob)) : wpY_record post (yf_lim, nI H, yf_started, yf_pu, yf_moves, yf_pushes, nI n, yf_solLen, yf_nB, yf_nL, yf_curP, yf_nextState, ya_edit, ya_wall, ya_goal, ya_box, ya_hFrom, ya_hBf, ya_hBt, ya_sol, ya_reach, ya_stack, ya_liveMark, ya_liveIdx, ya_liveCell, ya_dist, ya_sb, ya_ob) (nI p) x2 x3 := by
  refine pk_lt n H (fun z => ?_) (fun z => ?_)
  · rw [if_pos z] at h
    exact ys_87 (by omega) (h _ _ _ (rl_Hpush hH h1 z hv hT))
  · have e : n = H := by omega
    subst e
    rw [if_neg (by omega)] at h
    refine ⟨n - 1 + 1, ys_14 h3 h4 (fun F' f' t' e1 e2 e3 => h _ _ _ ?_) (n - 1) 1 _ _ _ (by omega) (by omega) (fun j hj => by omega) (fun _ _ => rfl) (fun j hj => by omega) (fun _ _ => rfl) (fun j hj => by omega) (fun _ _ => rfl)⟩
    obtain ⟨n', rfl⟩ : ∃ n', n = n' + 1 := ⟨n - 1, by omega⟩
    have := rl_Hpush (rl_Hdrop hH e1 e2 e3) h1 (by omega) hv hT
    exact this
theorem rl_Vmv {w b : Int64} {B p x y : Nat} (hv : rl_V w B b p) (hx : ce_b b x = true) (hy : y < 64) (hb : ce_b b y = false) (hw : ce_b w y = false) : rl_V w B (gr_mv b x y) x := by
  obtain ⟨v1, v2, v3, v4, v5⟩ := hv
  have hx64 := ce_lt hx
  refine ⟨hx64, v4 x hx, ?_, fun c hc => ?_, by rw [gr_mv_rk hx hy hb]; exact v5⟩
  · rw [gr_mvB hx64 hy hx64]
    have : y ≠ x := fun z => by subst z; rw [hx] at hb; cases hb
    simp [this]
  · rcases (gr_mvT hx64 hy).mp hc with ⟨q, _⟩ | q
    · exact v4 c q
    · subst q; exact hw
theorem ce_A_mv {b : Int64} {x y : Nat} (hx : x < 64) (hy : y < 64) : upd (upd (ce_A b) x 0) y 1 = ce_A (gr_mv b x y) := by
  rw [ce_A_clr hx, ce_A_set hy]; rfl
