/-! start -/
def rl_fW (x : Int32) : Bool := decide (x = 35)
def rl_fP (x : Int32) : Bool := decide (x = 64 ∨ x = 43)
def rl_fB (x : Int32) : Bool := decide (x = 36 ∨ x = 42)
def rl_fG (x : Int32) : Bool := decide (x = 46 ∨ x = 42 ∨ x = 43)
def rl_1 (b : Bool) : Int32 := if b then 1 else 0
theorem rl_1n (b : Bool) : vp_nar .boolean (rl_1 b) = rl_1 b := by cases b <;> decide
def rl_mk (f : Int32 → Bool) (ed : Nat → Int32) : Nat → Int64
  | 0 => 0
  | n + 1 => if f (ed n) then rl_mk f ed n ||| ce_bit n else rl_mk f ed n
theorem rl_mkB (f : Int32 → Bool) (ed : Nat → Int32) : ∀ n, n ≤ 64 → ∀ c, ce_b (rl_mk f ed n) c = (decide (c < n) && f (ed c)) := by
  intro n
  induction n with
  | zero => intro _ c; rw [rl_mk, ce_0]; rfl
  | succ n ih =>
    intro hn c
    rw [rl_mk]
    cases hf : f (ed n)
    · rw [if_neg (by decide), ih (by omega)]
      by_cases q : c = n
      · subst q; rw [hf]; simp
      · have : decide (c < n + 1) = decide (c < n) := by
          rw [decide_eq_decide]; omega
        rw [this]
    · rw [if_pos rfl, ce_setB (by omega), ih (by omega)]
      by_cases q : c = n
      · subst q; rw [hf]; simp
      · have : decide (c < n + 1) = decide (c < n) := by
          rw [decide_eq_decide]; omega
        rw [this]
        simp [Ne.symm q]
theorem rl_mk64 (f : Int32 → Bool) (ed : Nat → Int32) {c : Nat} (hc : c < 64) : ce_b (rl_mk f ed 64) c = f (ed c) := by
  rw [rl_mkB f ed 64 (Nat.le_refl 64), decide_eq_true hc, Bool.true_and]
theorem rl_rkct {m : Int64} {g : Nat → Bool} : ∀ n, (∀ i, i < n → ce_b m i = g i) → ce_rk m n = gr_ct g n := by
  intro n
  induction n with
  | zero => intro _; rfl
  | succ n ih =>
    intro h
    rw [ce_rk, gr_ct, ih (fun i hi => h i (by omega)), h n (by omega)]
theorem rl_mkrk (f : Int32 → Bool) (ed : Nat → Int32) : ce_rk (rl_mk f ed 64) 64 = gr_ct (fun c => f (ed c)) 64 := rl_rkct 64 (fun i hi => rl_mk64 f ed hi)
def rl_pc (ed : Nat → Int32) (x : Int32) : Nat → Int32
  | 0 => x
  | n + 1 => if rl_fP (ed n) then nI n else rl_pc ed x n
theorem rl_pc1 {ed : Nat → Int32} : ∀ n, 1 ≤ gr_ct (fun c => rl_fP (ed c)) n → ∃ c, c < n ∧ rl_fP (ed c) = true ∧ ∀ x, rl_pc ed x n = nI c := by
  intro n
  induction n with
  | zero => intro h; exact absurd h (by show ¬ 1 ≤ 0; decide)
  | succ n ih =>
    intro h
    cases hf : rl_fP (ed n)
    · rw [gr_ct] at h
      simp only [hf] at h
      obtain ⟨c, c1, c2, c3⟩ := ih (by simpa using h)
      exact ⟨c, by omega, c2, fun x => by rw [rl_pc, hf]; exact c3 x⟩
    · exact ⟨n, by omega, hf, fun x => by rw [rl_pc, hf]; rfl⟩
theorem rl_ctI (g : Nat → Bool) (i : Nat) : nI (gr_ct g i) + rl_1 (g i) = nI (gr_ct g (i + 1)) := by
  rw [gr_ct]
  cases g i
  · show nI (gr_ct g i) + nI 0 = _
    rw [nI_add]; rfl
  · show nI (gr_ct g i) + nI 1 = _
    rw [nI_add]; rfl
/-! the class's loops -/
theorem xs_fP {post : Int32 → Prop} {x : Int32} (h : post (rl_1 (rl_fP x))) : wpX_isPusherCharacter post x :=
  xs_isP (fun z => by rw [rl_fP, decide_eq_true z] at h; exact h) (fun z => by rw [rl_fP, decide_eq_false z] at h; exact h)
theorem xs_fB {post : Int32 → Prop} {x : Int32} (h : post (rl_1 (rl_fB x))) : wpX_isBoxCharacter post x :=
  xs_isB (fun z => by rw [rl_fB, decide_eq_true z] at h; exact h) (fun z => by rw [rl_fB, decide_eq_false z] at h; exact h)
theorem xs_fG {post : Int32 → Prop} {x : Int32} (h : post (rl_1 (rl_fG x))) : wpX_isGoalCharacter post x :=
  xs_isG (fun z => by rw [rl_fG, decide_eq_true z] at h; exact h) (fun z => by rw [rl_fG, decide_eq_false z] at h; exact h)
theorem rl_br {b : Bool} {A B : Prop} (h0 : b = false → A) (h1 : b = true → B) : (rl_1 b = 0 → A) ∧ (¬ rl_1 b = 0 → B) := by
  cases b
  · exact br_t rfl (h0 rfl)
  · exact br_f (by decide) (h1 rfl)
theorem xs_55 {post : Int32 → SX → Prop} {J : Int32 → Int32 → Int32 → Int32 → Prop} {f_pushLimit f_historyLimit f_started : Int32} {f_walls f_goals f_boxes f_liveCells : Int64} {f_liveTotal f_boxTotal f_pusherCell f_moves f_pushes f_historyNext f_historyTotal f_storedTotal f_nodeTotal : Int32} {a_editGrid a_liveRank : Nat → Int32} {a_historyBoxes : Nat → Int64} {a_historyPusher a_storedPushes : Nat → Int32} {a_nodeBoxes : Nat → Int64} {a_nodePusher a_nodeParent a_nodeCode a_nodeDepth a_nodeMet : Nat → Int32} {x1 x3 x4 x z0 z1 : Int32} (h : J x1 (z1 + z0) (x3 + rl_1 (rl_fG x)) (x4 + 1)) : wX_start_55 post J x1 x3 x4 x z0 z1 f_pushLimit f_historyLimit f_started f_walls f_goals f_boxes f_liveCells f_liveTotal f_boxTotal f_pusherCell f_moves f_pushes f_historyNext f_historyTotal f_storedTotal f_nodeTotal a_editGrid a_liveRank a_historyBoxes a_historyPusher a_storedPushes a_nodeBoxes a_nodePusher a_nodeParent a_nodeCode a_nodeDepth a_nodeMet := by
  refine nm_e (xs_fG (rl_br (fun e => ?_) (fun e => ?_)))
  · rw [e] at h; exact nm_e (nm_e h)
  · rw [e] at h; exact nm_e (nm_e h)
theorem xs_39 {post : Int32 → SX → Prop} {J : Int32 → Int32 → Int32 → Int32 → Prop} {f_pushLimit f_historyLimit f_started : Int32} {f_walls f_goals f_boxes f_liveCells : Int64} {f_liveTotal f_boxTotal f_pusherCell f_moves f_pushes f_historyNext f_historyTotal f_storedTotal f_nodeTotal : Int32} {a_editGrid a_liveRank : Nat → Int32} {a_historyBoxes : Nat → Int64} {a_historyPusher a_storedPushes : Nat → Int32} {a_nodeBoxes : Nat → Int64} {a_nodePusher a_nodeParent a_nodeCode a_nodeDepth a_nodeMet : Nat → Int32} {x2 x3 x4 x z0 z1 : Int32} (h : J (z1 + z0) (x2 + rl_1 (rl_fB x)) (x3 + rl_1 (rl_fG x)) (x4 + 1)) : wX_start_39 post J x2 x3 x4 x z0 z1 f_pushLimit f_historyLimit f_started f_walls f_goals f_boxes f_liveCells f_liveTotal f_boxTotal f_pusherCell f_moves f_pushes f_historyNext f_historyTotal f_storedTotal f_nodeTotal a_editGrid a_liveRank a_historyBoxes a_historyPusher a_storedPushes a_nodeBoxes a_nodePusher a_nodeParent a_nodeCode a_nodeDepth a_nodeMet := by
  refine nm_e (xs_fB (rl_br (fun e => ?_) (fun e => ?_)))
  · rw [e] at h; exact xs_55 h
  · rw [e] at h; exact xs_55 h
theorem xs_89 {post : SX → Prop} {J : Int32 → Int64 → Int64 → Int64 → Int32 → Prop} {f_pushLimit f_historyLimit f_started : Int32} {f_walls f_goals f_boxes f_liveCells : Int64} {f_liveTotal f_boxTotal f_pusherCell f_moves f_pushes f_historyNext f_historyTotal f_storedTotal f_nodeTotal : Int32} {a_editGrid a_liveRank : Nat → Int32} {a_historyBoxes : Nat → Int64} {a_historyPusher a_storedPushes : Nat → Int32} {a_nodeBoxes : Nat → Int64} {a_nodePusher a_nodeParent a_nodeCode a_nodeDepth a_nodeMet : Nat → Int32} {i : Nat} {x : Int32} (h : J (nI (i + 1)) f_walls f_goals f_boxes (if rl_fP x then nI i else f_pusherCell)) : wX_copyEditGrid_89 post J (nI i) x f_pushLimit f_historyLimit f_started f_walls f_goals f_boxes f_liveCells f_liveTotal f_boxTotal f_pusherCell f_moves f_pushes f_historyNext f_historyTotal f_storedTotal f_nodeTotal a_editGrid a_liveRank a_historyBoxes a_historyPusher a_storedPushes a_nodeBoxes a_nodePusher a_nodeParent a_nodeCode a_nodeDepth a_nodeMet := by
  refine xs_fP (rl_br (fun e => ?_) (fun e => ?_))
  · rw [e] at h; exact nm_r (nI_1 i) h
  · rw [e] at h; exact nm_r (nI_1 i) h
theorem xs_69 {post : SX → Prop} {J : Int32 → Int64 → Int64 → Int64 → Int32 → Prop} {f_pushLimit f_historyLimit f_started : Int32} {f_walls f_goals f_boxes f_liveCells : Int64} {f_liveTotal f_boxTotal f_pusherCell f_moves f_pushes f_historyNext f_historyTotal f_storedTotal f_nodeTotal : Int32} {a_editGrid a_liveRank : Nat → Int32} {a_historyBoxes : Nat → Int64} {a_historyPusher a_storedPushes : Nat → Int32} {a_nodeBoxes : Nat → Int64} {a_nodePusher a_nodeParent a_nodeCode a_nodeDepth a_nodeMet : Nat → Int32} {i : Nat} {x : Int32} (h : J (nI (i + 1)) f_walls f_goals (if rl_fB x then f_boxes ||| ce_bit i else f_boxes) (if rl_fP x then nI i else f_pusherCell)) : wX_copyEditGrid_69 post J (nI i) x f_pushLimit f_historyLimit f_started f_walls f_goals f_boxes f_liveCells f_liveTotal f_boxTotal f_pusherCell f_moves f_pushes f_historyNext f_historyTotal f_storedTotal f_nodeTotal a_editGrid a_liveRank a_historyBoxes a_historyPusher a_storedPushes a_nodeBoxes a_nodePusher a_nodeParent a_nodeCode a_nodeDepth a_nodeMet := by
  refine xs_fB (rl_br (fun e => ?_) (fun e => ?_))
  · rw [e] at h; exact xs_89 h
  · rw [e] at h; exact xs_bit (nm_e (xs_89 h))
theorem xs_49 {post : SX → Prop} {J : Int32 → Int64 → Int64 → Int64 → Int32 → Prop} {f_pushLimit f_historyLimit f_started : Int32} {f_walls f_goals f_boxes f_liveCells : Int64} {f_liveTotal f_boxTotal f_pusherCell f_moves f_pushes f_historyNext f_historyTotal f_storedTotal f_nodeTotal : Int32} {a_editGrid a_liveRank : Nat → Int32} {a_historyBoxes : Nat → Int64} {a_historyPusher a_storedPushes : Nat → Int32} {a_nodeBoxes : Nat → Int64} {a_nodePusher a_nodeParent a_nodeCode a_nodeDepth a_nodeMet : Nat → Int32} {i : Nat} {x : Int32} (h : J (nI (i + 1)) f_walls (if rl_fG x then f_goals ||| ce_bit i else f_goals) (if rl_fB x then f_boxes ||| ce_bit i else f_boxes) (if rl_fP x then nI i else f_pusherCell)) : wX_copyEditGrid_49 post J (nI i) x f_pushLimit f_historyLimit f_started f_walls f_goals f_boxes f_liveCells f_liveTotal f_boxTotal f_pusherCell f_moves f_pushes f_historyNext f_historyTotal f_storedTotal f_nodeTotal a_editGrid a_liveRank a_historyBoxes a_historyPusher a_storedPushes a_nodeBoxes a_nodePusher a_nodeParent a_nodeCode a_nodeDepth a_nodeMet := by
  refine xs_fG (rl_br (fun e => ?_) (fun e => ?_))
  · rw [e] at h; exact xs_69 h
  · rw [e] at h; exact xs_bit (nm_e (xs_69 h))
theorem xs_copy0 {post : SX → Prop} {f_pushLimit f_historyLimit f_started : Int32} {f_liveCells : Int64} {f_liveTotal f_boxTotal f_moves f_pushes f_historyNext f_historyTotal f_storedTotal f_nodeTotal : Int32} {a_editGrid a_liveRank : Nat → Int32} {a_historyBoxes : Nat → Int64} {a_historyPusher a_storedPushes : Nat → Int32} {a_nodeBoxes : Nat → Int64} {a_nodePusher a_nodeParent a_nodeCode a_nodeDepth a_nodeMet : Nat → Int32} {x : Int32} (h : post (f_pushLimit, f_historyLimit, f_started, rl_mk rl_fW a_editGrid 64, rl_mk rl_fG a_editGrid 64, rl_mk rl_fB a_editGrid 64, f_liveCells, f_liveTotal, f_boxTotal, rl_pc a_editGrid x 64, f_moves, f_pushes, f_historyNext, f_historyTotal, f_storedTotal, f_nodeTotal, a_editGrid, a_liveRank, a_historyBoxes, a_historyPusher, a_storedPushes, a_nodeBoxes, a_nodePusher, a_nodeParent, a_nodeCode, a_nodeDepth, a_nodeMet)) :
    ∀ k i, i + k = 64 → wX_copyEditGrid_17 post f_pushLimit f_historyLimit f_started f_liveCells f_liveTotal f_boxTotal f_moves f_pushes f_historyNext f_historyTotal f_storedTotal f_nodeTotal a_editGrid a_liveRank a_historyBoxes a_historyPusher a_storedPushes a_nodeBoxes a_nodePusher a_nodeParent a_nodeCode a_nodeDepth a_nodeMet (k + 1) (nI i) (rl_mk rl_fW a_editGrid i) (rl_mk rl_fG a_editGrid i) (rl_mk rl_fB a_editGrid i) (rl_pc a_editGrid x i) := by
  intro k
  induction k with
  | zero =>
    intro i hi
    have e : i = 64 := by omega
    subst e
    exact br_t (nI_le (a := 64) (by omega) (by omega)) h
  | succ k ih =>
    intro i hi
    have := ih (i + 1) (by omega)
    refine br_f (nI_ge (b := 64) (by omega) (by decide)) ⟨vp_in_nI (by omega) (by decide), nm_r (e' := a_editGrid i) (by rw [nI_clamp (by omega)]) ?_⟩
    refine br_c (fun e => xs_bit (nm_e (xs_49 ?_))) (fun e => xs_49 ?_)
    · have ew : rl_mk rl_fW a_editGrid (i + 1) = rl_mk rl_fW a_editGrid i ||| ce_bit i := by rw [rl_mk, rl_fW, decide_eq_true e]; rfl
      rw [ew] at this
      exact this
    · have ew : rl_mk rl_fW a_editGrid (i + 1) = rl_mk rl_fW a_editGrid i := by rw [rl_mk, rl_fW, decide_eq_false e]; rfl
      rw [ew] at this
      exact this
theorem xs_copy {post : SX → Prop} {f_pushLimit f_historyLimit f_started : Int32} {f_walls f_goals f_boxes f_liveCells : Int64} {f_liveTotal f_boxTotal f_pusherCell f_moves f_pushes f_historyNext f_historyTotal f_storedTotal f_nodeTotal : Int32} {a_editGrid a_liveRank : Nat → Int32} {a_historyBoxes : Nat → Int64} {a_historyPusher a_storedPushes : Nat → Int32} {a_nodeBoxes : Nat → Int64} {a_nodePusher a_nodeParent a_nodeCode a_nodeDepth a_nodeMet : Nat → Int32} (h : post (f_pushLimit, f_historyLimit, f_started, rl_mk rl_fW a_editGrid 64, rl_mk rl_fG a_editGrid 64, rl_mk rl_fB a_editGrid 64, f_liveCells, f_liveTotal, f_boxTotal, rl_pc a_editGrid f_pusherCell 64, f_moves, f_pushes, f_historyNext, f_historyTotal, f_storedTotal, f_nodeTotal, a_editGrid, a_liveRank, a_historyBoxes, a_historyPusher, a_storedPushes, a_nodeBoxes, a_nodePusher, a_nodeParent, a_nodeCode, a_nodeDepth, a_nodeMet)) : wpX_copyEditGrid post (f_pushLimit, f_historyLimit, f_started, f_walls, f_goals, f_boxes, f_liveCells, f_liveTotal, f_boxTotal, f_pusherCell, f_moves, f_pushes, f_historyNext, f_historyTotal, f_storedTotal, f_nodeTotal, a_editGrid, a_liveRank, a_historyBoxes, a_historyPusher, a_storedPushes, a_nodeBoxes, a_nodePusher, a_nodeParent, a_nodeCode, a_nodeDepth, a_nodeMet) :=
  ⟨65, xs_copy0 h 64 0 (by omega)⟩
theorem xs_start0 {post : Int32 → SX → Prop} {f_pushLimit f_historyLimit f_started : Int32} {f_walls f_goals f_boxes f_liveCells : Int64} {f_liveTotal f_boxTotal f_pusherCell f_moves f_pushes f_historyNext f_historyTotal f_storedTotal f_nodeTotal : Int32} {a_editGrid a_liveRank : Nat → Int32} {a_historyBoxes : Nat → Int64} {a_historyPusher a_storedPushes : Nat → Int32} {a_nodeBoxes : Nat → Int64} {a_nodePusher a_nodeParent a_nodeCode a_nodeDepth a_nodeMet : Nat → Int32} (hP : gr_ct (fun c => rl_fP (a_editGrid c)) 64 ≠ 1 → post (-8) (f_pushLimit, f_historyLimit, f_started, f_walls, f_goals, f_boxes, f_liveCells, f_liveTotal, f_boxTotal, f_pusherCell, f_moves, f_pushes, f_historyNext, f_historyTotal, f_storedTotal, f_nodeTotal, a_editGrid, a_liveRank, a_historyBoxes, a_historyPusher, a_storedPushes, a_nodeBoxes, a_nodePusher, a_nodeParent, a_nodeCode, a_nodeDepth, a_nodeMet)) (hB : gr_ct (fun c => rl_fP (a_editGrid c)) 64 = 1 → ¬ (1 ≤ gr_ct (fun c => rl_fB (a_editGrid c)) 64 ∧ gr_ct (fun c => rl_fB (a_editGrid c)) 64 ≤ 3) → post (-9) (f_pushLimit, f_historyLimit, f_started, f_walls, f_goals, f_boxes, f_liveCells, f_liveTotal, f_boxTotal, f_pusherCell, f_moves, f_pushes, f_historyNext, f_historyTotal, f_storedTotal, f_nodeTotal, a_editGrid, a_liveRank, a_historyBoxes, a_historyPusher, a_storedPushes, a_nodeBoxes, a_nodePusher, a_nodeParent, a_nodeCode, a_nodeDepth, a_nodeMet))
    (hG : gr_ct (fun c => rl_fP (a_editGrid c)) 64 = 1 → (1 ≤ gr_ct (fun c => rl_fB (a_editGrid c)) 64 ∧ gr_ct (fun c => rl_fB (a_editGrid c)) 64 ≤ 3) → gr_ct (fun c => rl_fG (a_editGrid c)) 64 ≠ gr_ct (fun c => rl_fB (a_editGrid c)) 64 → post (-10) (f_pushLimit, f_historyLimit, f_started, f_walls, f_goals, f_boxes, f_liveCells, f_liveTotal, f_boxTotal, f_pusherCell, f_moves, f_pushes, f_historyNext, f_historyTotal, f_storedTotal, f_nodeTotal, a_editGrid, a_liveRank, a_historyBoxes, a_historyPusher, a_storedPushes, a_nodeBoxes, a_nodePusher, a_nodeParent, a_nodeCode, a_nodeDepth, a_nodeMet))
    (hO : gr_ct (fun c => rl_fP (a_editGrid c)) 64 = 1 → (1 ≤ gr_ct (fun c => rl_fB (a_editGrid c)) 64 ∧ gr_ct (fun c => rl_fB (a_editGrid c)) 64 ≤ 3) → gr_ct (fun c => rl_fG (a_editGrid c)) 64 = gr_ct (fun c => rl_fB (a_editGrid c)) 64 → ∀ lr, (∀ c, c < 64 → lr c = nI (ce_rk (gr_live (rl_mk rl_fW a_editGrid 64) (rl_mk rl_fG a_editGrid 64)) c)) → post 0 (f_pushLimit, f_historyLimit, 1, rl_mk rl_fW a_editGrid 64, rl_mk rl_fG a_editGrid 64, rl_mk rl_fB a_editGrid 64, gr_live (rl_mk rl_fW a_editGrid 64) (rl_mk rl_fG a_editGrid 64), nI (ce_rk (gr_live (rl_mk rl_fW a_editGrid 64) (rl_mk rl_fG a_editGrid 64)) 64), nI (gr_ct (fun c => rl_fB (a_editGrid c)) 64), rl_pc a_editGrid f_pusherCell 64, 0, 0, 0, 0, 0, f_nodeTotal, a_editGrid, lr, a_historyBoxes, a_historyPusher, a_storedPushes, a_nodeBoxes, a_nodePusher, a_nodeParent, a_nodeCode, a_nodeDepth, a_nodeMet)) :
    ∀ k i, i + k = 64 → wX_start_9 post f_pushLimit f_historyLimit f_started f_walls f_goals f_boxes f_liveCells f_liveTotal f_boxTotal f_pusherCell f_moves f_pushes f_historyNext f_historyTotal f_storedTotal f_nodeTotal a_editGrid a_liveRank a_historyBoxes a_historyPusher a_storedPushes a_nodeBoxes a_nodePusher a_nodeParent a_nodeCode a_nodeDepth a_nodeMet (k + 1) (nI (gr_ct (fun c => rl_fP (a_editGrid c)) i)) (nI (gr_ct (fun c => rl_fB (a_editGrid c)) i)) (nI (gr_ct (fun c => rl_fG (a_editGrid c)) i)) (nI i) := by
  intro k
  induction k with
  | zero =>
    intro i hi
    have e : i = 64 := by omega
    subst e
    have l1 := gr_ct_len (fun c => rl_fP (a_editGrid c)) 64
    have l2 := gr_ct_len (fun c => rl_fB (a_editGrid c)) 64
    have l3 := gr_ct_len (fun c => rl_fG (a_editGrid c)) 64
    refine br_t (nI_le (a := 64) (by omega) (by omega)) (pk_eq (gr_ct (fun c => rl_fP (a_editGrid c)) 64) 1 (fun a => ?_) hP)
    refine pk_lt (gr_ct (fun c => rl_fB (a_editGrid c)) 64) 1 (fun b => hB a (by omega)) (fun b => pk_le (gr_ct (fun c => rl_fB (a_editGrid c)) 64) 3 (fun c => ?_) (fun c => hB a (by omega)))
    refine pk_eq (gr_ct (fun c => rl_fG (a_editGrid c)) 64) (gr_ct (fun c => rl_fB (a_editGrid c)) 64) (fun d => ?_) (fun d => hG a ⟨b, c⟩ d)
    exact xs_copy (xs_live (xs_rank (hO a ⟨b, c⟩ d)))
  | succ k ih =>
    intro i hi
    have := ih (i + 1) (by omega)
    rw [← rl_ctI, ← rl_ctI, ← rl_ctI, ← nI_1] at this
    refine br_f (nI_ge (b := 64) (by omega) (by decide)) ⟨vp_in_nI (by omega) (by decide), nm_r (e' := a_editGrid i) (by rw [nI_clamp (by omega)]) (xs_fP (rl_br (fun e => ?_) (fun e => ?_)))⟩
    · simp only [e] at this
      exact xs_39 this
    · simp only [e] at this
      exact xs_39 this
/-! the reference's loops -/
theorem ys_59 {post : Int32 → SY → Prop} {J : Int32 → Int32 → Int32 → Int32 → Prop} {yf_lim yf_hs yf_started yf_pu yf_moves yf_pushes yf_hn yf_solLen yf_nB yf_nL yf_curP yf_nextState : Int32} {ya_edit ya_wall ya_goal ya_box ya_hFrom ya_hBf ya_hBt ya_sol ya_reach ya_stack ya_liveMark ya_liveIdx ya_liveCell ya_dist ya_sb ya_ob : Nat → Int32} {x1 x2 x3 x4 x : Int32} (h : J x1 x2 (x3 + rl_1 (rl_fG x)) (x4 + 1)) : wY_start_59 post J x1 x2 x3 x4 x yf_lim yf_hs yf_started yf_pu yf_moves yf_pushes yf_hn yf_solLen yf_nB yf_nL yf_curP yf_nextState ya_edit ya_wall ya_goal ya_box ya_hFrom ya_hBf ya_hBt ya_sol ya_reach ya_stack ya_liveMark ya_liveIdx ya_liveCell ya_dist ya_sb ya_ob := by
  have t : x = 46 ∨ x = 42 ∨ x = 43 → J x1 x2 (x3 + 1) (x4 + 1) := fun z => by rw [rl_fG, decide_eq_true z] at h; exact h
  refine br_c (fun e => nm_e (nm_e (t (Or.inl e)))) (fun a => br_c (fun e => nm_e (nm_e (t (Or.inr (Or.inl e))))) (fun b => br_c (fun e => nm_e (nm_e (t (Or.inr (Or.inr e))))) (fun c => nm_e ?_)))
  rw [rl_fG, decide_eq_false (fun z => z.elim a (fun y => y.elim b c))] at h
  have e : x3 + rl_1 false = x3 := Int32.add_zero x3
  rw [e] at h
  exact h
theorem ys_42 {post : Int32 → SY → Prop} {J : Int32 → Int32 → Int32 → Int32 → Prop} {yf_lim yf_hs yf_started yf_pu yf_moves yf_pushes yf_hn yf_solLen yf_nB yf_nL yf_curP yf_nextState : Int32} {ya_edit ya_wall ya_goal ya_box ya_hFrom ya_hBf ya_hBt ya_sol ya_reach ya_stack ya_liveMark ya_liveIdx ya_liveCell ya_dist ya_sb ya_ob : Nat → Int32} {x1 x2 x3 x4 x : Int32} (h : J x1 (x2 + rl_1 (rl_fB x)) (x3 + rl_1 (rl_fG x)) (x4 + 1)) : wY_start_42 post J x1 x2 x3 x4 x yf_lim yf_hs yf_started yf_pu yf_moves yf_pushes yf_hn yf_solLen yf_nB yf_nL yf_curP yf_nextState ya_edit ya_wall ya_goal ya_box ya_hFrom ya_hBf ya_hBt ya_sol ya_reach ya_stack ya_liveMark ya_liveIdx ya_liveCell ya_dist ya_sb ya_ob := by
  have t : x = 36 ∨ x = 42 → J x1 (x2 + 1) (x3 + rl_1 (rl_fG x)) (x4 + 1) := fun z => by rw [rl_fB, decide_eq_true z] at h; exact h
  refine br_c (fun e => nm_e (ys_59 (t (Or.inl e)))) (fun a => br_c (fun e => nm_e (ys_59 (t (Or.inr e)))) (fun b => ys_59 ?_))
  rw [rl_fB, decide_eq_false (fun z => z.elim a b)] at h
  have e : x2 + rl_1 false = x2 := Int32.add_zero x2
  rw [e] at h
  exact h
theorem ys_c {post : Int32 → SY → Prop} {J : Int32 → Int32 → Int32 → Int32 → Prop} {yf_lim yf_hs yf_started yf_pu yf_moves yf_pushes yf_hn yf_solLen yf_nB yf_nL yf_curP yf_nextState : Int32} {ya_edit ya_wall ya_goal ya_box ya_hFrom ya_hBf ya_hBt ya_sol ya_reach ya_stack ya_liveMark ya_liveIdx ya_liveCell ya_dist ya_sb ya_ob : Nat → Int32} {x1 x2 x3 x4 x : Int32} (h : J (x1 + rl_1 (rl_fP x)) (x2 + rl_1 (rl_fB x)) (x3 + rl_1 (rl_fG x)) (x4 + 1)) : ((x = 64 → wY_start_39 post J x1 x2 x3 x4 x yf_lim yf_hs yf_started yf_pu yf_moves yf_pushes yf_hn yf_solLen yf_nB yf_nL yf_curP yf_nextState ya_edit ya_wall ya_goal ya_box ya_hFrom ya_hBf ya_hBt ya_sol ya_reach ya_stack ya_liveMark ya_liveIdx ya_liveCell ya_dist ya_sb ya_ob) ∧ (¬ x = 64 → ((x = 43 → wY_start_39 post J x1 x2 x3 x4 x yf_lim yf_hs yf_started yf_pu yf_moves yf_pushes yf_hn yf_solLen yf_nB yf_nL yf_curP yf_nextState ya_edit ya_wall ya_goal ya_box ya_hFrom ya_hBf ya_hBt ya_sol ya_reach ya_stack ya_liveMark ya_liveIdx ya_liveCell ya_dist ya_sb ya_ob) ∧ (¬ x = 43 → wY_start_42 post J x1 x2 x3 x4 x yf_lim yf_hs yf_started yf_pu yf_moves yf_pushes yf_hn yf_solLen yf_nB yf_nL yf_curP yf_nextState ya_edit ya_wall ya_goal ya_box ya_hFrom ya_hBf ya_hBt ya_sol ya_reach ya_stack ya_liveMark ya_liveIdx ya_liveCell ya_dist ya_sb ya_ob)))) := by
  have t : x = 64 ∨ x = 43 → J (x1 + 1) (x2 + rl_1 (rl_fB x)) (x3 + rl_1 (rl_fG x)) (x4 + 1) := fun z => by rw [rl_fP, decide_eq_true z] at h; exact h
  refine br_c (fun e => nm_e (ys_42 (t (Or.inl e)))) (fun a => br_c (fun e => nm_e (ys_42 (t (Or.inr e)))) (fun b => ys_42 ?_))
  rw [rl_fP, decide_eq_false (fun z => z.elim a b)] at h
  have e : x1 + rl_1 false = x1 := Int32.add_zero x1
  rw [e] at h
  exact h
theorem ys_214 {post : Int32 → SY → Prop} {J : Int32 → Int32 → (Nat → Int32) → (Nat → Int32) → (Nat → Int32) → (Nat → Int32) → (Nat → Int32) → (Nat → Int32) → (Nat → Int32) → (Nat → Int32) → (Nat → Int32) → (Nat → Int32) → (Nat → Int32) → (Nat → Int32) → (Nat → Int32) → (Nat → Int32) → (Nat → Int32) → (Nat → Int32) → Prop} {yf_lim yf_hs yf_started yf_pu yf_moves yf_pushes yf_hn yf_solLen yf_nB yf_nL yf_curP yf_nextState : Int32} {ya_edit ya_wall ya_goal ya_box ya_hFrom ya_hBf ya_hBt ya_sol ya_reach ya_stack ya_liveMark ya_liveIdx ya_liveCell ya_dist ya_sb ya_ob : Nat → Int32} {i : Nat} {x : Int32} {z : Bool} (hi : i < 64) (h : J (nI (i + 1)) (if rl_fP x then nI i else yf_pu) ya_edit ya_wall ya_goal (upd ya_box i (rl_1 z)) ya_hFrom ya_hBf ya_hBt ya_sol ya_reach ya_stack ya_liveMark ya_liveIdx ya_liveCell ya_dist ya_sb ya_ob) : wY_start_214 post J (nI i) x (rl_1 z) (nI i) yf_lim yf_hs yf_started yf_pu yf_moves yf_pushes yf_hn yf_solLen yf_nB yf_nL yf_curP yf_nextState ya_edit ya_wall ya_goal ya_box ya_hFrom ya_hBf ya_hBt ya_sol ya_reach ya_stack ya_liveMark ya_liveIdx ya_liveCell ya_dist ya_sb ya_ob := by
  refine ⟨vp_in_nI hi (by decide), nm_r (e' := upd ya_box i (rl_1 z)) (by rw [rl_1n, nI_clamp (by omega)]) ?_⟩
  have t : x = 64 ∨ x = 43 → J (nI (i + 1)) (nI i) ya_edit ya_wall ya_goal (upd ya_box i (rl_1 z)) ya_hFrom ya_hBf ya_hBt ya_sol ya_reach ya_stack ya_liveMark ya_liveIdx ya_liveCell ya_dist ya_sb ya_ob := fun q => by rw [rl_fP, decide_eq_true q] at h; exact h
  refine br_c (fun e => nm_r (nI_1 i) (t (Or.inl e))) (fun a => br_c (fun e => nm_r (nI_1 i) (t (Or.inr e))) (fun b => nm_r (nI_1 i) ?_))
  rw [rl_fP, decide_eq_false (fun q => q.elim a b)] at h
  exact h
theorem ys_188 {post : Int32 → SY → Prop} {J : Int32 → Int32 → (Nat → Int32) → (Nat → Int32) → (Nat → Int32) → (Nat → Int32) → (Nat → Int32) → (Nat → Int32) → (Nat → Int32) → (Nat → Int32) → (Nat → Int32) → (Nat → Int32) → (Nat → Int32) → (Nat → Int32) → (Nat → Int32) → (Nat → Int32) → (Nat → Int32) → (Nat → Int32) → Prop} {yf_lim yf_hs yf_started yf_pu yf_moves yf_pushes yf_hn yf_solLen yf_nB yf_nL yf_curP yf_nextState : Int32} {ya_edit ya_wall ya_goal ya_box ya_hFrom ya_hBf ya_hBt ya_sol ya_reach ya_stack ya_liveMark ya_liveIdx ya_liveCell ya_dist ya_sb ya_ob : Nat → Int32} {i : Nat} {x : Int32} {z : Bool} (hi : i < 64) (h : J (nI (i + 1)) (if rl_fP x then nI i else yf_pu) ya_edit ya_wall (upd ya_goal i (rl_1 z)) (upd ya_box i (rl_1 (rl_fB x))) ya_hFrom ya_hBf ya_hBt ya_sol ya_reach ya_stack ya_liveMark ya_liveIdx ya_liveCell ya_dist ya_sb ya_ob) : wY_start_188 post J (nI i) x (rl_1 z) (nI i) yf_lim yf_hs yf_started yf_pu yf_moves yf_pushes yf_hn yf_solLen yf_nB yf_nL yf_curP yf_nextState ya_edit ya_wall ya_goal ya_box ya_hFrom ya_hBf ya_hBt ya_sol ya_reach ya_stack ya_liveMark ya_liveIdx ya_liveCell ya_dist ya_sb ya_ob := by
  refine ⟨vp_in_nI hi (by decide), nm_r (e' := upd ya_goal i (rl_1 z)) (by rw [rl_1n, nI_clamp (by omega)]) ?_⟩
  have t : x = 36 ∨ x = 42 → wY_start_209 post J (nI i) x (nI i) yf_lim yf_hs yf_started yf_pu yf_moves yf_pushes yf_hn yf_solLen yf_nB yf_nL yf_curP yf_nextState ya_edit ya_wall (upd ya_goal i (rl_1 z)) ya_box ya_hFrom ya_hBf ya_hBt ya_sol ya_reach ya_stack ya_liveMark ya_liveIdx ya_liveCell ya_dist ya_sb ya_ob := fun q => by
    rw [show rl_fB x = true from decide_eq_true q] at h
    exact ys_214 (z := true) hi h
  refine br_c (fun e => t (Or.inl e)) (fun a => br_c (fun e => t (Or.inr e)) (fun b => ?_))
  rw [show rl_fB x = false from decide_eq_false (fun q => q.elim a b)] at h
  exact ys_214 (z := false) hi h
theorem ys_155 {post : Int32 → SY → Prop} {J : Int32 → Int32 → (Nat → Int32) → (Nat → Int32) → (Nat → Int32) → (Nat → Int32) → (Nat → Int32) → (Nat → Int32) → (Nat → Int32) → (Nat → Int32) → (Nat → Int32) → (Nat → Int32) → (Nat → Int32) → (Nat → Int32) → (Nat → Int32) → (Nat → Int32) → (Nat → Int32) → (Nat → Int32) → Prop} {yf_lim yf_hs yf_started yf_pu yf_moves yf_pushes yf_hn yf_solLen yf_nB yf_nL yf_curP yf_nextState : Int32} {ya_edit ya_wall ya_goal ya_box ya_hFrom ya_hBf ya_hBt ya_sol ya_reach ya_stack ya_liveMark ya_liveIdx ya_liveCell ya_dist ya_sb ya_ob : Nat → Int32} {i : Nat} {x : Int32} {z : Bool} (hi : i < 64) (h : J (nI (i + 1)) (if rl_fP x then nI i else yf_pu) ya_edit (upd ya_wall i (rl_1 z)) (upd ya_goal i (rl_1 (rl_fG x))) (upd ya_box i (rl_1 (rl_fB x))) ya_hFrom ya_hBf ya_hBt ya_sol ya_reach ya_stack ya_liveMark ya_liveIdx ya_liveCell ya_dist ya_sb ya_ob) : wY_start_155 post J (nI i) x (rl_1 z) (nI i) yf_lim yf_hs yf_started yf_pu yf_moves yf_pushes yf_hn yf_solLen yf_nB yf_nL yf_curP yf_nextState ya_edit ya_wall ya_goal ya_box ya_hFrom ya_hBf ya_hBt ya_sol ya_reach ya_stack ya_liveMark ya_liveIdx ya_liveCell ya_dist ya_sb ya_ob := by
  refine ⟨vp_in_nI hi (by decide), nm_r (e' := upd ya_wall i (rl_1 z)) (by rw [rl_1n, nI_clamp (by omega)]) ?_⟩
  have t : x = 46 ∨ x = 42 ∨ x = 43 → wY_start_183 post J (nI i) x (nI i) yf_lim yf_hs yf_started yf_pu yf_moves yf_pushes yf_hn yf_solLen yf_nB yf_nL yf_curP yf_nextState ya_edit (upd ya_wall i (rl_1 z)) ya_goal ya_box ya_hFrom ya_hBf ya_hBt ya_sol ya_reach ya_stack ya_liveMark ya_liveIdx ya_liveCell ya_dist ya_sb ya_ob := fun q => by
    rw [show rl_fG x = true from decide_eq_true q] at h
    exact ys_188 (z := true) hi h
  refine br_c (fun e => t (Or.inl e)) (fun a => br_c (fun e => t (Or.inr (Or.inl e))) (fun b => br_c (fun e => t (Or.inr (Or.inr e))) (fun c => ?_)))
  rw [show rl_fG x = false from decide_eq_false (fun q => q.elim a (fun y => y.elim b c))] at h
  exact ys_188 (z := false) hi h
def rl_cp (m o : Int64) (i : Nat) : Nat → Int32 := fun c => if c < i then ce_A m c else ce_A o c
theorem rl_cp0 (m o : Int64) : rl_cp m o 0 = ce_A o := by
  funext c; unfold rl_cp; rw [if_neg (by omega)]
theorem rl_cp64 (m o : Int64) : rl_cp m o 64 = ce_A m := by
  funext c
  unfold rl_cp
  split
  · rfl
  · rw [ce_Af (ce_big (by omega)), ce_Af (ce_big (by omega))]
theorem rl_cpS (f : Int32 → Bool) (ed : Nat → Int32) (o : Int64) {i : Nat} (hi : i < 64) : upd (rl_cp (rl_mk f ed 64) o i) i (rl_1 (f (ed i))) = rl_cp (rl_mk f ed 64) o (i + 1) := by
  funext c
  by_cases q : c = i
  · subst q
    rw [pk_us]
    unfold rl_cp
    rw [if_pos (by omega), ce_A, rl_mk64 f ed hi]
    rfl
  · rw [pk_un q]
    unfold rl_cp
    by_cases z : c < i
    · rw [if_pos z, if_pos (by omega)]
    · rw [if_neg z, if_neg (by omega)]
theorem ys_121 {post : Int32 → SY → Prop} {yf_lim yf_hs yf_started yf_moves yf_pushes yf_hn yf_solLen yf_nB yf_nL yf_curP yf_nextState : Int32} {ya_edit ya_hFrom ya_hBf ya_hBt ya_sol ya_reach ya_stack ya_liveMark ya_liveIdx ya_liveCell ya_dist ya_sb ya_ob : Nat → Int32} {x : Int32} {w g b : Int64} (h : post 0 (yf_lim, yf_hs, 1, rl_pc ya_edit x 64, 0, 0, 0, 0, yf_nB, yf_nL, yf_curP, yf_nextState, ya_edit, ce_A (rl_mk rl_fW ya_edit 64), ce_A (rl_mk rl_fG ya_edit 64), ce_A (rl_mk rl_fB ya_edit 64), ya_hFrom, ya_hBf, ya_hBt, ya_sol, ya_reach, ya_stack, ya_liveMark, ya_liveIdx, ya_liveCell, ya_dist, ya_sb, ya_ob)) :
    ∀ k i, i + k = 64 → wY_start_121 post yf_lim yf_hs yf_started yf_moves yf_pushes yf_hn yf_solLen yf_nB yf_nL yf_curP yf_nextState (k + 1) (nI i) (rl_pc ya_edit x i) ya_edit (rl_cp (rl_mk rl_fW ya_edit 64) w i) (rl_cp (rl_mk rl_fG ya_edit 64) g i) (rl_cp (rl_mk rl_fB ya_edit 64) b i) ya_hFrom ya_hBf ya_hBt ya_sol ya_reach ya_stack ya_liveMark ya_liveIdx ya_liveCell ya_dist ya_sb ya_ob := by
  intro k
  induction k with
  | zero =>
    intro i hi
    have e : i = 64 := by omega
    subst e
    rw [rl_cp64, rl_cp64, rl_cp64]
    exact br_t (nI_le (a := 64) (by omega) (by omega)) h
  | succ k ih =>
    intro i hi
    have := ih (i + 1) (by omega)
    rw [← rl_cpS rl_fW ya_edit w (by omega), ← rl_cpS rl_fG ya_edit g (by omega), ← rl_cpS rl_fB ya_edit b (by omega)] at this
    refine br_f (nI_ge (b := 64) (by omega) (by decide)) ⟨vp_in_nI (by omega) (by decide), nm_r (e' := ya_edit i) (by rw [nI_clamp (by omega)]) ?_⟩
    refine br_c (fun e => ?_) (fun e => ?_)
    · rw [show rl_fW (ya_edit i) = true from decide_eq_true e] at this
      exact ys_155 (z := true) (by omega) this
    · rw [show rl_fW (ya_edit i) = false from decide_eq_false e] at this
      exact ys_155 (z := false) (by omega) this
theorem ys_start0 {post : Int32 → SY → Prop} {yf_lim yf_hs yf_started yf_pu yf_moves yf_pushes yf_hn yf_solLen yf_nB yf_nL yf_curP yf_nextState : Int32} {ya_edit ya_hFrom ya_hBf ya_hBt ya_sol ya_reach ya_stack ya_liveMark ya_liveIdx ya_liveCell ya_dist ya_sb ya_ob : Nat → Int32} {w g b : Int64} (hP : gr_ct (fun c => rl_fP (ya_edit c)) 64 ≠ 1 → post (-8) (yf_lim, yf_hs, yf_started, yf_pu, yf_moves, yf_pushes, yf_hn, yf_solLen, yf_nB, yf_nL, yf_curP, yf_nextState, ya_edit, ce_A w, ce_A g, ce_A b, ya_hFrom, ya_hBf, ya_hBt, ya_sol, ya_reach, ya_stack, ya_liveMark, ya_liveIdx, ya_liveCell, ya_dist, ya_sb, ya_ob)) (hB : gr_ct (fun c => rl_fP (ya_edit c)) 64 = 1 → ¬ (1 ≤ gr_ct (fun c => rl_fB (ya_edit c)) 64 ∧ gr_ct (fun c => rl_fB (ya_edit c)) 64 ≤ 3) → post (-9) (yf_lim, yf_hs, yf_started, yf_pu, yf_moves, yf_pushes, yf_hn, yf_solLen, yf_nB, yf_nL, yf_curP, yf_nextState, ya_edit, ce_A w, ce_A g, ce_A b, ya_hFrom, ya_hBf, ya_hBt, ya_sol, ya_reach, ya_stack, ya_liveMark, ya_liveIdx, ya_liveCell, ya_dist, ya_sb, ya_ob))
    (hG : gr_ct (fun c => rl_fP (ya_edit c)) 64 = 1 → (1 ≤ gr_ct (fun c => rl_fB (ya_edit c)) 64 ∧ gr_ct (fun c => rl_fB (ya_edit c)) 64 ≤ 3) → gr_ct (fun c => rl_fG (ya_edit c)) 64 ≠ gr_ct (fun c => rl_fB (ya_edit c)) 64 → post (-10) (yf_lim, yf_hs, yf_started, yf_pu, yf_moves, yf_pushes, yf_hn, yf_solLen, yf_nB, yf_nL, yf_curP, yf_nextState, ya_edit, ce_A w, ce_A g, ce_A b, ya_hFrom, ya_hBf, ya_hBt, ya_sol, ya_reach, ya_stack, ya_liveMark, ya_liveIdx, ya_liveCell, ya_dist, ya_sb, ya_ob))
    (hO : gr_ct (fun c => rl_fP (ya_edit c)) 64 = 1 → (1 ≤ gr_ct (fun c => rl_fB (ya_edit c)) 64 ∧ gr_ct (fun c => rl_fB (ya_edit c)) 64 ≤ 3) → gr_ct (fun c => rl_fG (ya_edit c)) 64 = gr_ct (fun c => rl_fB (ya_edit c)) 64 → post 0 (yf_lim, yf_hs, 1, rl_pc ya_edit yf_pu 64, 0, 0, 0, 0, yf_nB, yf_nL, yf_curP, yf_nextState, ya_edit, ce_A (rl_mk rl_fW ya_edit 64), ce_A (rl_mk rl_fG ya_edit 64), ce_A (rl_mk rl_fB ya_edit 64), ya_hFrom, ya_hBf, ya_hBt, ya_sol, ya_reach, ya_stack, ya_liveMark, ya_liveIdx, ya_liveCell, ya_dist, ya_sb, ya_ob)) :
    ∀ k i, i + k = 64 → wY_start_9 post yf_lim yf_hs yf_started yf_pu yf_moves yf_pushes yf_hn yf_solLen yf_nB yf_nL yf_curP yf_nextState ya_edit (ce_A w) (ce_A g) (ce_A b) ya_hFrom ya_hBf ya_hBt ya_sol ya_reach ya_stack ya_liveMark ya_liveIdx ya_liveCell ya_dist ya_sb ya_ob (k + 1) (nI (gr_ct (fun c => rl_fP (ya_edit c)) i)) (nI (gr_ct (fun c => rl_fB (ya_edit c)) i)) (nI (gr_ct (fun c => rl_fG (ya_edit c)) i)) (nI i) := by
  intro k
  induction k with
  | zero =>
    intro i hi
    have e : i = 64 := by omega
    subst e
    have l1 := gr_ct_len (fun c => rl_fP (ya_edit c)) 64
    have l2 := gr_ct_len (fun c => rl_fB (ya_edit c)) 64
    have l3 := gr_ct_len (fun c => rl_fG (ya_edit c)) 64
    refine br_t (nI_le (a := 64) (by omega) (by omega)) (pk_eq (gr_ct (fun c => rl_fP (ya_edit c)) 64) 1 (fun a => ?_) hP)
    refine pk_lt (gr_ct (fun c => rl_fB (ya_edit c)) 64) 1 (fun q => hB a (by omega)) (fun q => pk_le (gr_ct (fun c => rl_fB (ya_edit c)) 64) 3 (fun c => ?_) (fun c => hB a (by omega)))
    refine pk_eq (gr_ct (fun c => rl_fG (ya_edit c)) 64) (gr_ct (fun c => rl_fB (ya_edit c)) 64) (fun d => ?_) (fun d => hG a ⟨q, c⟩ d)
    have := ys_121 (yf_started := yf_started) (yf_moves := yf_moves) (yf_pushes := yf_pushes) (yf_hn := yf_hn) (yf_solLen := yf_solLen) (w := w) (g := g) (b := b) (hO a ⟨q, c⟩ d) 64 0 (by omega)
    rw [rl_cp0, rl_cp0, rl_cp0] at this
    exact ⟨65, this⟩
  | succ k ih =>
    intro i hi
    have := ih (i + 1) (by omega)
    rw [← rl_ctI, ← rl_ctI, ← rl_ctI, ← nI_1] at this
    exact br_f (nI_ge (b := 64) (by omega) (by decide)) ⟨vp_in_nI (by omega) (by decide), nm_r (e' := ya_edit i) (by rw [nI_clamp (by omega)]) (ys_c this)⟩
theorem i_vc_start {k : Nat} {u : SX} {v : SY} (I : i_Rel k u v) (hk : k + 4 ≤ 2050) : wpX_start (fun r u' => wpY_start (fun r' v' => r' = r ∧ i_Rel (k + 4) u' v') v) u := by
  obtain ⟨f_pushLimit, f_historyLimit, f_started, f_walls, f_goals, f_boxes, f_liveCells, f_liveTotal, f_boxTotal, f_pusherCell, f_moves, f_pushes, f_historyNext, f_historyTotal, f_storedTotal, f_nodeTotal, a_editGrid, a_liveRank, a_historyBoxes, a_historyPusher, a_storedPushes, a_nodeBoxes, a_nodePusher, a_nodeParent, a_nodeCode, a_nodeDepth, a_nodeMet⟩ := u
  obtain ⟨yf_lim, yf_hs, yf_started, yf_pu, yf_moves, yf_pushes, yf_hn, yf_solLen, yf_nB, yf_nL, yf_curP, yf_nextState, ya_edit, ya_wall, ya_goal, ya_box, ya_hFrom, ya_hBf, ya_hBt, ya_sol, ya_reach, ya_stack, ya_liveMark, ya_liveIdx, ya_liveCell, ya_dist, ya_sb, ya_ob⟩ := v
  have I0 := I
  obtain ⟨P, H, ⟨p1, p2, p3, p4, rfl, rfl, rfl, rfl, rfl, rfl, rfl, rfl, rfl⟩, hS⟩ := I
  refine ⟨65, xs_start0 (fun a => ?_) (fun a b => ?_) (fun a b c => ?_) (fun a b c lr hlr => ?_) 64 0 (by omega)⟩
  · exact ⟨65, ys_start0 (fun _ => ⟨rfl, I0⟩) (fun a' => absurd a' a) (fun a' => absurd a' a) (fun a' => absurd a' a) 64 0 (by omega)⟩
  · exact ⟨65, ys_start0 (fun a' => absurd a a') (fun _ _ => ⟨rfl, I0⟩) (fun _ b' => absurd b' b) (fun _ b' => absurd b' b) 64 0 (by omega)⟩
  · exact ⟨65, ys_start0 (fun a' => absurd a a') (fun _ b' => absurd b b') (fun _ _ _ => ⟨rfl, I0⟩) (fun _ _ c' => absurd c' c) 64 0 (by omega)⟩
  · refine ⟨65, ys_start0 (fun a' => absurd a a') (fun _ b' => absurd b b') (fun _ _ c' => absurd c c') (fun _ _ _ => ⟨rfl, ?_⟩) 64 0 (by omega)⟩
    obtain ⟨p, hp, hpf, hpc⟩ := rl_pc1 64 (Nat.le_of_eq a.symm)
    have hW : ∀ c, c < 64 → ce_b (rl_mk rl_fW a_editGrid 64) c = true → a_editGrid c = 35 := fun c hc h => by rw [rl_mk64 _ _ hc] at h; exact of_decide_eq_true h
    refine ⟨P, H, ⟨p1, p2, p3, p4, rfl, rfl, rfl, rfl, rfl, rfl, rfl, rfl, rfl⟩, Or.inr ⟨gr_ct (fun c => rl_fB (a_editGrid c)) 64, p, 0, 0, 0, rfl, rfl, rfl, b.1, b.2, rfl, (hpc _).symm, (hpc _).symm, rfl, rfl, hlr, fun c hc => ?_, by rw [rl_mkrk]; exact c, by omega, by omega, rfl, rfl, rfl, rl_H0 ⟨hp, ?_, ?_, fun c hc => ?_, rl_mkrk _ _⟩, by omega, rfl, rfl, fun i hi => by omega⟩⟩
    · apply ts_nt
      intro z
      have h64 := ce_lt hc
      rw [rl_mk64 _ _ h64] at hc
      have := hW c h64 z
      rw [this] at hc
      exact absurd hc (by decide)
    · apply ts_nt
      intro z
      have := hW p hp z
      rw [this] at hpf
      exact absurd hpf (by decide)
    · apply ts_nt
      intro z
      rw [rl_mk64 _ _ hp] at z
      have z := of_decide_eq_true z
      have hpf := of_decide_eq_true hpf
      rcases z with z | z <;> rcases hpf with q | q <;> rw [z] at q <;> exact absurd q (by decide)
    · apply ts_nt
      intro z
      have h64 := ce_lt hc
      rw [rl_mk64 _ _ h64] at hc
      have := hW c h64 z
      rw [this] at hc
      exact absurd hc (by decide)
