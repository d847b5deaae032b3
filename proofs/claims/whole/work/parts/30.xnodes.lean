/-! the class's search: nodes -/
theorem xs_num0 {post : Int32 → Prop} {L p : Nat} {lv b : Int64} {f_pushLimit f_historyLimit f_started : Int32} {f_walls f_goals f_boxes f_liveCells : Int64} {f_boxTotal f_pusherCell f_moves f_pushes f_historyNext f_historyTotal f_storedTotal f_nodeTotal : Int32} {a_editGrid a_liveRank : Nat → Int32} {a_historyBoxes : Nat → Int64} {a_historyPusher a_storedPushes : Nat → Int32} {a_nodeBoxes : Nat → Int64} {a_nodePusher a_nodeParent a_nodeCode a_nodeDepth a_nodeMet : Nat → Int32} (hlr : ∀ c, c < 64 → a_liveRank c = nI (ce_rk lv c)) (h : post (nI (gr_no L lv (b, p)))) :
    ∀ k i, i + k = 64 → wX_nodeNumber_6 post b (nI p) f_pushLimit f_historyLimit f_started f_walls f_goals f_boxes f_liveCells (nI L) f_boxTotal f_pusherCell f_moves f_pushes f_historyNext f_historyTotal f_storedTotal f_nodeTotal a_editGrid a_liveRank a_historyBoxes a_historyPusher a_storedPushes a_nodeBoxes a_nodePusher a_nodeParent a_nodeCode a_nodeDepth a_nodeMet (k + 1) (nI (gr_nm L lv b i)) (nI i) := by
  intro k
  induction k with
  | zero =>
    intro i hi
    have e : i = 64 := by omega
    subst e
    refine br_t (nI_le (a := 64) (by omega) (by omega)) ?_
    show post (nI (gr_nm L lv b 64) * nI 64 + nI p)
    rw [pk_mul, nI_add]
    exact h
  | succ k ih =>
    intro i hi
    have := ih (i + 1) (by omega)
    refine br_f (nI_ge (b := 64) (by omega) (by decide)) ?_
    cases hb : ce_b b i
    · rw [gr_nm, hb] at this
      exact br_t ((ce_has b (by omega)).mpr hb) (nm_r (nI_1 i) this)
    · rw [gr_nm, hb] at this
      refine br_f (fun q => by rw [(ce_has b (by omega)).mp q] at hb; cases hb) ⟨vp_in_nI (by omega) (by decide), nm_r (e' := nI (gr_nm L lv b i * L + ce_rk lv i)) (by rw [nI_clamp (n := i) (by omega), hlr i (by omega), pk_mul, nI_add]) (nm_r (nI_1 i) this)⟩
theorem xs_num {post : Int32 → Prop} {L p : Nat} {lv b : Int64} {f_pushLimit f_historyLimit f_started : Int32} {f_walls f_goals f_boxes f_liveCells : Int64} {f_boxTotal f_pusherCell f_moves f_pushes f_historyNext f_historyTotal f_storedTotal f_nodeTotal : Int32} {a_editGrid a_liveRank : Nat → Int32} {a_historyBoxes : Nat → Int64} {a_historyPusher a_storedPushes : Nat → Int32} {a_nodeBoxes : Nat → Int64} {a_nodePusher a_nodeParent a_nodeCode a_nodeDepth a_nodeMet : Nat → Int32} (hlr : ∀ c, c < 64 → a_liveRank c = nI (ce_rk lv c)) (h : post (nI (gr_no L lv (b, p)))) : wpX_nodeNumber post (f_pushLimit, f_historyLimit, f_started, f_walls, f_goals, f_boxes, f_liveCells, nI L, f_boxTotal, f_pusherCell, f_moves, f_pushes, f_historyNext, f_historyTotal, f_storedTotal, f_nodeTotal, a_editGrid, a_liveRank, a_historyBoxes, a_historyPusher, a_storedPushes, a_nodeBoxes, a_nodePusher, a_nodeParent, a_nodeCode, a_nodeDepth, a_nodeMet) b (nI p) :=
  ⟨65, xs_num0 hlr h 64 0 (by omega)⟩
theorem xs_107 {post : Int32 → SX → Prop} {f_pushLimit f_historyLimit f_started : Int32} {f_walls f_goals f_boxes f_liveCells : Int64} {f_liveTotal f_boxTotal f_pusherCell f_moves f_pushes f_historyNext f_historyTotal f_storedTotal : Int32} {a_editGrid a_liveRank : Nat → Int32} {a_historyBoxes : Nat → Int64} {a_historyPusher a_storedPushes : Nat → Int32} {a_nodeBoxes : Nat → Int64} {a_nodePusher a_nodeParent a_nodeCode a_nodeDepth a_nodeMet : Nat → Int32} {N : Nat} {z0 : Int32} (hN : N < 3840) (h : post 1 (f_pushLimit, f_historyLimit, f_started, f_walls, f_goals, f_boxes, f_liveCells, f_liveTotal, f_boxTotal, f_pusherCell, f_moves, f_pushes, f_historyNext, f_historyTotal, f_storedTotal, nI (N + 1), a_editGrid, a_liveRank, a_historyBoxes, a_historyPusher, a_storedPushes, a_nodeBoxes, a_nodePusher, a_nodeParent, a_nodeCode, upd a_nodeDepth N z0, a_nodeMet)) : wX_addNode_107 post z0 (nI N) f_pushLimit f_historyLimit f_started f_walls f_goals f_boxes f_liveCells f_liveTotal f_boxTotal f_pusherCell f_moves f_pushes f_historyNext f_historyTotal f_storedTotal (nI N) a_editGrid a_liveRank a_historyBoxes a_historyPusher a_storedPushes a_nodeBoxes a_nodePusher a_nodeParent a_nodeCode a_nodeDepth a_nodeMet :=
  ⟨vp_in_nI hN (by decide), nm_r (e' := upd a_nodeDepth N z0) (by rw [nI_clamp (by omega)]) (nm_r (nI_1 N) h)⟩
theorem xs_add {post : Int32 → SX → Prop} {L p N : Nat} {lv b : Int64} {mt : Nat → Bool} {par cod dep : Int32} {f_pushLimit f_historyLimit f_started : Int32} {f_walls f_goals f_boxes f_liveCells : Int64} {f_boxTotal f_pusherCell f_moves f_pushes f_historyNext f_historyTotal f_storedTotal : Int32} {a_editGrid a_liveRank : Nat → Int32} {a_historyBoxes : Nat → Int64} {a_historyPusher a_storedPushes : Nat → Int32} {a_nodeBoxes : Nat → Int64} {a_nodePusher a_nodeParent a_nodeCode a_nodeDepth a_nodeMet : Nat → Int32} (hlr : ∀ c, c < 64 → a_liveRank c = nI (ce_rk lv c)) (hno : gr_no L lv (b, p) < 13824) (hmt : ∀ x, x < 13824 → a_nodeMet x = rl_1 (mt x)) (hN : mt (gr_no L lv (b, p)) = false → N < 3840)
    (hdep : (par = -1 ∧ dep = 0) ∨ ∃ j, j < 3840 ∧ par = nI j ∧ dep = a_nodeDepth j + 1)
    (h0 : mt (gr_no L lv (b, p)) = true → post 0 (f_pushLimit, f_historyLimit, f_started, f_walls, f_goals, f_boxes, f_liveCells, nI L, f_boxTotal, f_pusherCell, f_moves, f_pushes, f_historyNext, f_historyTotal, f_storedTotal, nI N, a_editGrid, a_liveRank, a_historyBoxes, a_historyPusher, a_storedPushes, a_nodeBoxes, a_nodePusher, a_nodeParent, a_nodeCode, a_nodeDepth, a_nodeMet))
    (h1 : mt (gr_no L lv (b, p)) = false → post 1 (f_pushLimit, f_historyLimit, f_started, f_walls, f_goals, f_boxes, f_liveCells, nI L, f_boxTotal, f_pusherCell, f_moves, f_pushes, f_historyNext, f_historyTotal, f_storedTotal, nI (N + 1), a_editGrid, a_liveRank, a_historyBoxes, a_historyPusher, a_storedPushes, vp_updL a_nodeBoxes N b, upd a_nodePusher N (nI p), upd a_nodeParent N par, upd a_nodeCode N cod, upd a_nodeDepth N dep, upd a_nodeMet (gr_no L lv (b, p)) 1)) :
    wpX_addNode post (f_pushLimit, f_historyLimit, f_started, f_walls, f_goals, f_boxes, f_liveCells, nI L, f_boxTotal, f_pusherCell, f_moves, f_pushes, f_historyNext, f_historyTotal, f_storedTotal, nI N, a_editGrid, a_liveRank, a_historyBoxes, a_historyPusher, a_storedPushes, a_nodeBoxes, a_nodePusher, a_nodeParent, a_nodeCode, a_nodeDepth, a_nodeMet) b (nI p) par cod := by
  unfold wpX_addNode
  refine xs_num hlr ⟨vp_in_nI hno (by decide), ?_⟩
  have ec : (nI (gr_no L lv (b, p))).toNatClampNeg = gr_no L lv (b, p) := nI_clamp (by omega)
  rw [ec, hmt _ hno]
  refine rl_br (fun e => ?_) (fun e => h0 e)
  have hN := hN e
  have eN : (nI N).toNatClampNeg = N := nI_clamp (by omega)
  have vN : vp_in (nI N) 3840 := vp_in_nI hN (by decide)
  refine br_t (nI_lt (b := 3840) hN (by decide)) ⟨vp_in_nI hno (by decide), nm_r (e' := upd a_nodeMet (gr_no L lv (b, p)) 1) (by rw [rl_b1]) ⟨vN, nm_r (e' := vp_updL a_nodeBoxes N b) (by rw [eN]) ⟨vN, nm_r (e' := upd a_nodePusher N (nI p)) (by rw [eN]) ⟨vN, nm_r (e' := upd a_nodeParent N par) (by rw [eN]) ⟨vN, nm_r (e' := upd a_nodeCode N cod) (by rw [eN]) ?_⟩⟩⟩⟩⟩
  rcases hdep with ⟨e1, e2⟩ | ⟨j, hj, e1, e2⟩
  · subst e2
    exact br_t e1 (xs_107 hN (h1 e))
  · subst e1
    subst e2
    refine br_f (fun q => ?_) ⟨vp_in_nI hj (by decide), ?_⟩
    · have := nI_pos (n := j) (by omega)
      rw [q] at this
      exact this (by decide)
    · rw [nI_clamp (n := j) (by omega)]
      exact xs_107 hN (h1 e)
/-- what the arrays of the search hold -/
def xs_K (w g lv : Int64) (k L : Nat) (rt : Int64 × Nat) (N : Nat) (nb : Nat → Int64) (np pr cd dp me : Nat → Int32) (j c : Nat) (nd : Nat → Int64 × Nat) (pa co de : Nat → Nat) (mt : Nat → Bool) : Prop :=
  gr_B (gr_step w lv) (gr_so g) rt nd pa co de N j c ∧ (∀ i, i < N → nb i = (nd i).1 ∧ np i = nI (nd i).2 ∧ dp i = nI (de i) ∧ (0 < i → pr i = nI (pa i) ∧ cd i = nI (co i))) ∧ (∀ i, i < N → gr_ok w lv k (nd i)) ∧
  (∀ x, x < 13824 → me x = rl_1 (mt x)) ∧ (∀ x, mt x = true ↔ ∃ q, q < N ∧ gr_no L lv (nd q) = x) ∧ gr_ct mt (64 * L ^ k) = N
def xs_Fd (w g lv : Int64) (P : Nat) (rt : Int64 × Nat) (F : Nat) (pr cd dp : Nat → Int32) : Prop :=
  ∃ (nd : Nat → Int64 × Nat) (pa co de : Nat → Nat), gr_F (gr_step w lv) (gr_so g) rt nd pa co de F ∧ F < 3840 ∧ de F ≤ P ∧ dp F = nI (de F) ∧ ∀ i, 0 < i → i ≤ F → pr i = nI (pa i) ∧ cd i = nI (co i)
theorem xs_Kroom {w g lv : Int64} {k L : Nat} {rt : Int64 × Nat} {N : Nat} {nb : Nat → Int64} {np pr cd dp me : Nat → Int32} {j c : Nat} {nd : Nat → Int64 × Nat} {pa co de : Nat → Nat} {mt : Nat → Bool} (hL : ce_rk lv 64 = L) (hf : gr_fit k L) (h : xs_K w g lv k L rt N nb np pr cd dp me j c nd pa co de mt) : N ≤ 3840 ∧ ∀ t, gr_ok w lv k t → mt (gr_no L lv t) = false → N < 3840 := by
  obtain ⟨h1, h2, h3, h4, h5, h6⟩ := h
  have hm : ∀ i, mt i = true → gr_v L k (i / 64) = true ∧ i < 64 * L ^ k := by
    intro i hi
    obtain ⟨q, q1, q2⟩ := (h5 i).mp hi
    subst q2
    have := gr_no_v hL hf (h3 q q1)
    exact ⟨this.1, this.2.1⟩
  refine ⟨(gr_room (x := 0) hf hm h6).1, fun t ht hmt => ?_⟩
  have := gr_no_v hL hf ht
  exact (gr_room hf hm h6).2 this.1 this.2.1 hmt
theorem xs_Knext {w g lv : Int64} {k L : Nat} {rt : Int64 × Nat} {N : Nat} {nb : Nat → Int64} {np pr cd dp me : Nat → Int32} {j : Nat} {nd : Nat → Int64 × Nat} {pa co de : Nat → Nat} {mt : Nat → Bool} (h : xs_K w g lv k L rt N nb np pr cd dp me j 256 nd pa co de mt) : xs_K w g lv k L rt N nb np pr cd dp me (j + 1) 0 nd pa co de mt :=
  ⟨gr_Bnext _ _ h.1, h.2⟩
theorem xs_Knone {w g lv : Int64} {k L : Nat} {rt : Int64 × Nat} {N : Nat} {nb : Nat → Int64} {np pr cd dp me : Nat → Int32} {j c : Nat} {nd : Nat → Int64 × Nat} {pa co de : Nat → Nat} {mt : Nat → Bool} (h : xs_K w g lv k L rt N nb np pr cd dp me j c nd pa co de mt) (hs : gr_step w lv (nd j) c = none) : xs_K w g lv k L rt N nb np pr cd dp me j (c + 1) nd pa co de mt :=
  ⟨gr_Bnone _ _ h.1 hs, h.2⟩
theorem xs_Kmet {w g lv : Int64} {k L : Nat} {rt : Int64 × Nat} {N : Nat} {nb : Nat → Int64} {np pr cd dp me : Nat → Int32} {j c : Nat} {nd : Nat → Int64 × Nat} {pa co de : Nat → Nat} {mt : Nat → Bool} {t : Int64 × Nat} (hL : ce_rk lv 64 = L) (h : xs_K w g lv k L rt N nb np pr cd dp me j c nd pa co de mt) (hs : gr_step w lv (nd j) c = some t) (ht : gr_ok w lv k t) (hm : mt (gr_no L lv t) = true) : xs_K w g lv k L rt N nb np pr cd dp me j (c + 1) nd pa co de mt := by
  obtain ⟨q, q1, q2⟩ := (h.2.2.2.2.1 _).mp hm
  have e : nd q = t := gr_no_inj hL (h.2.2.1 q q1) ht q2
  rw [← e] at hs
  exact ⟨gr_Bmet _ _ h.1 q1 hs, h.2⟩
theorem xs_Kadd {w g lv : Int64} {k L : Nat} {rt : Int64 × Nat} {N : Nat} {nb : Nat → Int64} {np pr cd dp me : Nat → Int32} {j c : Nat} {nd : Nat → Int64 × Nat} {pa co de : Nat → Nat} {mt : Nat → Bool} {t : Int64 × Nat} (hL : ce_rk lv 64 = L) (hf : gr_fit k L) (h : xs_K w g lv k L rt N nb np pr cd dp me j c nd pa co de mt) (hj : j < N) (hc : c < 256) (hs : gr_step w lv (nd j) c = some t) (ht : gr_ok w lv k t) (hm : mt (gr_no L lv t) = false) :
    (gr_so g t → xs_Fd w g lv (de j + 1) rt N (upd pr N (nI j)) (upd cd N (nI c)) (upd dp N (nI (de j) + 1))) ∧
    (¬ gr_so g t → ∃ nd' pa' co' de' mt', xs_K w g lv k L rt (N + 1) (vp_updL nb N t.1) (upd np N (nI t.2)) (upd pr N (nI j)) (upd cd N (nI c)) (upd dp N (nI (de j) + 1)) (upd me (gr_no L lv t) 1) j (c + 1) nd' pa' co' de' mt' ∧ nd' j = nd j ∧ de' j = de j) := by
  obtain ⟨hN1, hN2⟩ := xs_Kroom hL hf h
  have hN := hN2 t ht hm
  obtain ⟨h1, h2, h3, h4, h5, h6⟩ := h
  have hv := gr_no_v hL hf ht
  have hk : ∀ i, i < N → (fun i => if i = N then t else nd i) i = nd i ∧ (fun i => if i = N then j else pa i) i = pa i ∧ (fun i => if i = N then c else co i) i = co i ∧ (fun i => if i = N then de j + 1 else de i) i = de i := by
    intro i hi
    have : ¬ i = N := by omega
    simp only [this, if_false, and_self]
  constructor
  · intro hso
    refine ⟨fun i => if i = N then t else nd i, fun i => if i = N then j else pa i, fun i => if i = N then c else co i, fun i => if i = N then de j + 1 else de i, gr_Bfound _ _ h1 hj hc hs hso hk (if_pos rfl) (if_pos rfl) (if_pos rfl) (if_pos rfl), hN, ?_, ?_, fun i hi0 hi => ?_⟩
    · show (if N = N then de j + 1 else de N) ≤ de j + 1
      rw [if_pos rfl]; exact Nat.le_refl _
    · show upd dp N (nI (de j) + 1) N = nI (if N = N then de j + 1 else de N)
      rw [pk_us, if_pos rfl, nI_1]
    · show upd pr N (nI j) i = nI (if i = N then j else pa i) ∧ upd cd N (nI c) i = nI (if i = N then c else co i)
      by_cases q : i = N
      · subst q; rw [pk_us, pk_us, if_pos rfl, if_pos rfl]; exact ⟨rfl, rfl⟩
      · rw [pk_un q, pk_un q, if_neg q, if_neg q]; exact (h2 i (by omega)).2.2.2 hi0
  · intro hso
    refine ⟨fun i => if i = N then t else nd i, fun i => if i = N then j else pa i, fun i => if i = N then c else co i, fun i => if i = N then de j + 1 else de i, fun x => decide (x = gr_no L lv t) || mt x, ⟨gr_Badd _ _ h1 hj hc hs hso hk (if_pos rfl) (if_pos rfl) (if_pos rfl) (if_pos rfl), fun i hi => ?_, fun i hi => ?_, fun x hx => ?_, fun x => ?_, ?_⟩, (hk j hj).1, (hk j hj).2.2.2⟩
    · show vp_updL nb N t.1 i = (if i = N then t else nd i).1 ∧ upd np N (nI t.2) i = nI (if i = N then t else nd i).2 ∧ upd dp N (nI (de j) + 1) i = nI (if i = N then de j + 1 else de i) ∧ (0 < i → upd pr N (nI j) i = nI (if i = N then j else pa i) ∧ upd cd N (nI c) i = nI (if i = N then c else co i))
      by_cases q : i = N
      · subst q
        simp only [pk_uLs, pk_us, if_true, nI_1]
        exact ⟨trivial, trivial, trivial, fun _ => ⟨trivial, trivial⟩⟩
      · rw [pk_uLn q, pk_un q, pk_un q, pk_un q, pk_un q, if_neg q, if_neg q, if_neg q, if_neg q]
        exact h2 i (by omega)
    · show gr_ok w lv k (if i = N then t else nd i)
      by_cases q : i = N
      · rw [if_pos q]; exact ht
      · rw [if_neg q]; exact h3 i (by omega)
    · show upd me (gr_no L lv t) 1 x = rl_1 (decide (x = gr_no L lv t) || mt x)
      by_cases q : x = gr_no L lv t
      · rw [q, pk_us, decide_eq_true rfl]; rfl
      · rw [pk_un q, decide_eq_false q]; exact h4 x hx
    · show (decide (x = gr_no L lv t) || mt x) = true ↔ ∃ q, q < N + 1 ∧ gr_no L lv (if q = N then t else nd q) = x
      rw [Bool.or_eq_true, decide_eq_true_eq, h5]
      constructor
      · rintro (q | ⟨q, q1, q2⟩)
        · exact ⟨N, by omega, by rw [if_pos rfl]; exact q.symm⟩
        · exact ⟨q, by omega, by rw [if_neg (by omega)]; exact q2⟩
      · rintro ⟨q, q1, q2⟩
        by_cases e : q = N
        · rw [if_pos e] at q2; exact Or.inl q2.symm
        · rw [if_neg e] at q2; exact Or.inr ⟨q, by omega, q2⟩
    · have := gr_ct_set (f := mt) (g := fun x => decide (x = gr_no L lv t) || mt x) (x := gr_no L lv t) hm (by simp) (fun i hi => by simp [hi]) (64 * L ^ k)
      rw [this, if_pos hv.2.1, h6]
