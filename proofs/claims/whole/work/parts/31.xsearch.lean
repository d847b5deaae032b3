/-! the class's search: expanding, finding, storing -/
theorem gr_step_n {w lv : Int64} {s : Int64 × Nat} {c : Nat} (h : ¬ (ce_b s.1 (c / 4) = true ∧ ce_n (c / 4) (c % 4) < 64 ∧ ce_b w (ce_n (c / 4) (c % 4)) = false ∧ ce_b s.1 (ce_n (c / 4) (c % 4)) = false ∧ ce_b (gr_area w s.1 s.2) (ce_n (c / 4) ((c % 4 + 2) % 4)) = true ∧ ce_b lv (ce_n (c / 4) (c % 4)) = true)) : gr_step w lv s c = none := if_neg h
theorem gr_step_s {w lv : Int64} {s : Int64 × Nat} {c : Nat} (h : ce_b s.1 (c / 4) = true ∧ ce_n (c / 4) (c % 4) < 64 ∧ ce_b w (ce_n (c / 4) (c % 4)) = false ∧ ce_b s.1 (ce_n (c / 4) (c % 4)) = false ∧ ce_b (gr_area w s.1 s.2) (ce_n (c / 4) ((c % 4 + 2) % 4)) = true ∧ ce_b lv (ce_n (c / 4) (c % 4)) = true) : gr_step w lv s c = some (gr_mv s.1 (c / 4) (ce_n (c / 4) (c % 4)), c / 4) := if_pos h
def xs_E (w g lv : Int64) (k L : Nat) (rt : Int64 × Nat) (N : Nat) (nb : Nat → Int64) (np pr cd dp me : Nat → Int32) (j c : Nat) (b0 : Int64) (p0 D0 : Nat) : Prop :=
  ∃ nd pa co de mt, xs_K w g lv k L rt N nb np pr cd dp me j c nd pa co de mt ∧ j < N ∧ nd j = (b0, p0) ∧ de j = D0
theorem xs_exp0 {post : Int32 → SX → Prop} {k L P j p0 D0 : Nat} {b0 : Int64} {rt : Int64 × Nat} {f_pushLimit f_historyLimit f_started : Int32} {f_walls f_goals f_boxes f_liveCells : Int64} {f_boxTotal f_pusherCell f_moves f_pushes f_historyNext f_historyTotal f_storedTotal : Int32} {a_editGrid a_liveRank : Nat → Int32} {a_historyBoxes : Nat → Int64} {a_historyPusher a_storedPushes : Nat → Int32} (hL : ce_rk f_liveCells 64 = L) (hf : gr_fit k L) (hlw : ∀ c, ce_b f_liveCells c = true → ce_b f_walls c = false) (hlr : ∀ c, c < 64 → a_liveRank c = nI (ce_rk f_liveCells c)) (hj : j < 3840) (hD : D0 < P)
    (hnone : ∀ N nb np pr cd dp me, xs_E f_walls f_goals f_liveCells k L rt N nb np pr cd dp me j 256 b0 p0 D0 → post (-1) (f_pushLimit, f_historyLimit, f_started, f_walls, f_goals, f_boxes, f_liveCells, nI L, f_boxTotal, f_pusherCell, f_moves, f_pushes, f_historyNext, f_historyTotal, f_storedTotal, nI N, a_editGrid, a_liveRank, a_historyBoxes, a_historyPusher, a_storedPushes, nb, np, pr, cd, dp, me))
    (hfound : ∀ F xN nb np pr cd dp me, xs_Fd f_walls f_goals f_liveCells P rt F pr cd dp → post (nI F) (f_pushLimit, f_historyLimit, f_started, f_walls, f_goals, f_boxes, f_liveCells, nI L, f_boxTotal, f_pusherCell, f_moves, f_pushes, f_historyNext, f_historyTotal, f_storedTotal, xN, a_editGrid, a_liveRank, a_historyBoxes, a_historyPusher, a_storedPushes, nb, np, pr, cd, dp, me)) :
    ∀ q c N nb np pr cd dp me, c + q = 256 → xs_E f_walls f_goals f_liveCells k L rt N nb np pr cd dp me j c b0 p0 D0 → wX_expandNode_23 post (nI j) b0 (gr_area f_walls b0 p0) (q + 1) (nI c) f_pushLimit f_historyLimit f_started f_walls f_goals f_boxes f_liveCells (nI L) f_boxTotal f_pusherCell f_moves f_pushes f_historyNext f_historyTotal f_storedTotal (nI N) a_editGrid a_liveRank a_historyBoxes a_historyPusher a_storedPushes (nb) (np) (pr) (cd) (dp) (me) := by
  intro q
  induction q with
  | zero =>
    intro c N nb np pr cd dp me hc h
    have e : c = 256 := by omega
    subst e
    exact br_t (nI_le (a := 256) (by omega) (by omega)) (hnone N nb np pr cd dp me h)
  | succ q ih =>
    intro c N nb np pr cd dp me hc h
    obtain ⟨nd, pa, co, de, mt, hK, hjN, hnd, hde⟩ := h
    have hok := hK.2.2.1 j hjN
    rw [hnd] at hok
    have e1 : nI c / 4 = nI (c / 4) := pk_div (d := 4) (by omega) (by decide) (by decide)
    have e2 : nI c - nI c / 4 * 4 = nI (c % 4) := pk_rem (d := 4) (by omega) (by decide) (by decide)
    have hx : c / 4 < 64 := by omega
    have hd : c % 4 < 4 := by omega
    have skip : gr_step f_walls f_liveCells (b0, p0) c = none → wX_expandNode_23 post (nI j) b0 (gr_area f_walls b0 p0) (q + 1) (nI (c + 1)) f_pushLimit f_historyLimit f_started f_walls f_goals f_boxes f_liveCells (nI L) f_boxTotal f_pusherCell f_moves f_pushes f_historyNext f_historyTotal f_storedTotal (nI N) a_editGrid a_liveRank a_historyBoxes a_historyPusher a_storedPushes (nb) (np) (pr) (cd) (dp) (me) := fun hs =>
      ih (c + 1) N nb np pr cd dp me (by omega) ⟨nd, pa, co, de, mt, xs_Knone hK (by rw [hnd]; exact hs), hjN, hnd, hde⟩
    refine br_f (nI_ge (b := 256) (by omega) (by decide)) ⟨by decide, nm_r e1 ⟨by decide, nm_r e2 (xs_hasN hx ?_)⟩⟩
    cases xb : ce_b b0 (c / 4)
    · exact br_t (ce_Af xb) (nm_r (nI_1 c) (skip (gr_step_n (fun z => by rw [xb] at z; cases z.1))))
    · refine br_f (by rw [ce_At xb]; decide) (xs_nb hx hd (xs_behind hx hd (xs_free (ce_n_le _ _) ?_)))
      have no97 : gr_step f_walls f_liveCells (b0, p0) c = none → wX_expandNode_97 post (wX_expandNode_23 post (nI j) b0 (gr_area f_walls b0 p0) (q + 1)) (nI j) b0 (gr_area f_walls b0 p0) (nI c) (nI (c / 4)) (ce_I (ce_n (c / 4) (c % 4))) f_pushLimit f_historyLimit f_started f_walls f_goals f_boxes f_liveCells (nI L) f_boxTotal f_pusherCell f_moves f_pushes f_historyNext f_historyTotal f_storedTotal (nI N) a_editGrid a_liveRank a_historyBoxes a_historyPusher a_storedPushes (nb) (np) (pr) (cd) (dp) (me) := fun hs => br_t rfl (nm_r (nI_1 c) (skip hs))
      refine br_c (fun z => no97 (gr_step_n (fun y => gr_fn z ⟨y.2.1, y.2.2.1, y.2.2.2.1⟩))) (fun z => xs_has (ce_n_le _ _) ?_)
      have hfr := gr_fz z
      cases ar : ce_b (gr_area f_walls b0 p0) (ce_n (c / 4) ((c % 4 + 2) % 4))
      · exact br_t (ce_Af ar) (no97 (gr_step_n (fun y => by rw [ar] at y; cases y.2.2.2.2.1)))
      · refine br_f (by rw [ce_At ar]; decide) (br_f (by decide) ?_)
        rw [ce_I_in hfr.1]
        refine xs_hasN hfr.1 ?_
        cases lv : ce_b f_liveCells (ce_n (c / 4) (c % 4))
        · exact br_t (ce_Af lv) (nm_r (nI_1 c) (skip (gr_step_n (fun y => by rw [lv] at y; cases y.2.2.2.2.2))))
        · have hs : gr_step f_walls f_liveCells (b0, p0) c = some (gr_mv b0 (c / 4) (ce_n (c / 4) (c % 4)), c / 4) := gr_step_s ⟨xb, hfr.1, hfr.2.1, hfr.2.2, ar, lv⟩
          have ht := gr_step_ok hlw hok hs
          have hs' := hs
          rw [← hnd] at hs'
          have hv := gr_no_v hL hf ht
          refine br_f (by rw [ce_At lv]; decide) (xs_bit (xs_bit (nm_r (e' := gr_mv b0 (c / 4) (ce_n (c / 4) (c % 4))) rfl ?_)))
          refine xs_add (mt := mt) (dep := dp j + 1) hlr hv.2.2 hK.2.2.2.1 (fun z => (xs_Kroom hL hf hK).2 _ ht z) (Or.inr ⟨j, hj, rfl, rfl⟩) (fun hm => ?_) (fun hm => ?_)
          · exact br_t rfl (nm_r (nI_1 c) (ih (c + 1) N nb np pr cd dp me (by omega) ⟨nd, pa, co, de, mt, xs_Kmet hL hK hs' ht hm, hjN, hnd, hde⟩))
          · have hA := xs_Kadd hL hf hK hjN (by omega) hs' ht hm
            rw [(hK.2.1 j hjN).2.2.1]
            refine br_f (by decide) (xs_goals ?_)
            by_cases so : gr_mv b0 (c / 4) (ce_n (c / 4) (c % 4)) &&& (f_goals ^^^ (-1)) = 0
            · rw [if_pos so]
              refine br_f (by decide) ?_
              obtain ⟨a1, a2, a3, a4, a5, a6, a7, a8, a9⟩ := hA.1 so
              rw [nI_pred N]
              exact hfound N _ _ _ _ _ _ _ ⟨a1, a2, a3, a4, a5, a6, by omega, a8, a9⟩
            · rw [if_neg so]
              obtain ⟨nd', pa', co', de', mt', k1, k2, k3⟩ := hA.2 so
              exact br_t rfl (nm_r (nI_1 c) (ih (c + 1) (N + 1) _ _ _ _ _ _ (by omega) ⟨nd', pa', co', de', mt', k1, by omega, by rw [k2]; exact hnd, by rw [k3]; exact hde⟩))
theorem gr_de_le {σ : Type} {st : σ → Nat → Option σ} {so : σ → Prop} {rt : σ} {nd : Nat → σ} {pa co de : Nat → Nat} {N j c : Nat} (h : gr_B st so rt nd pa co de N j c) : ∀ i, i < N → de i ≤ i := by
  obtain ⟨h1, h2, h3, h4, h5, h6, h7⟩ := h
  intro i
  induction i using Nat.strongRecOn with
  | ind i ih =>
    intro hi
    by_cases i0 : i = 0
    · subst i0; rw [h3]; exact Nat.le_refl 0
    · obtain ⟨a1, _, _, _, a5⟩ := h4 i (by omega) hi
      have := ih (pa i) a1 (by omega)
      omega
theorem xs_find64 {post : Int32 → SX → Prop} {k L P : Nat} {rt : Int64 × Nat} {f_historyLimit f_started : Int32} {f_walls f_goals f_boxes f_liveCells : Int64} {f_boxTotal f_pusherCell f_moves f_pushes f_historyNext f_historyTotal f_storedTotal : Int32} {a_editGrid a_liveRank : Nat → Int32} {a_historyBoxes : Nat → Int64} {a_historyPusher a_storedPushes : Nat → Int32} (hL : ce_rk f_liveCells 64 = L) (hf : gr_fit k L) (hlw : ∀ c, ce_b f_liveCells c = true → ce_b f_walls c = false) (hlr : ∀ c, c < 64 → a_liveRank c = nI (ce_rk f_liveCells c)) (hP : P ≤ 40)
    (hnone : ∀ xN nb np pr cd dp me, (∀ m, m ≤ P → ¬ gr_can (gr_step f_walls f_liveCells) (gr_so f_goals) m rt) → post (-1) (nI P, f_historyLimit, f_started, f_walls, f_goals, f_boxes, f_liveCells, nI L, f_boxTotal, f_pusherCell, f_moves, f_pushes, f_historyNext, f_historyTotal, f_storedTotal, xN, a_editGrid, a_liveRank, a_historyBoxes, a_historyPusher, a_storedPushes, nb, np, pr, cd, dp, me))
    (hfound : ∀ F xN nb np pr cd dp me, xs_Fd f_walls f_goals f_liveCells P rt F pr cd dp → post (nI F) (nI P, f_historyLimit, f_started, f_walls, f_goals, f_boxes, f_liveCells, nI L, f_boxTotal, f_pusherCell, f_moves, f_pushes, f_historyNext, f_historyTotal, f_storedTotal, xN, a_editGrid, a_liveRank, a_historyBoxes, a_historyPusher, a_storedPushes, nb, np, pr, cd, dp, me)) :
    ∀ q j N nb np pr cd dp me nd pa co de mt, j + q = 3840 → j ≤ N → xs_K f_walls f_goals f_liveCells k L rt N nb np pr cd dp me j 0 nd pa co de mt → wX_findSolvingNode_64 post (q + 1) (nI j) (nI P) f_historyLimit f_started f_walls f_goals f_boxes f_liveCells (nI L) f_boxTotal f_pusherCell f_moves f_pushes f_historyNext f_historyTotal f_storedTotal (nI N) a_editGrid a_liveRank a_historyBoxes a_historyPusher a_storedPushes (nb) (np) (pr) (cd) (dp) (me) := by
  intro q
  induction q with
  | zero =>
    intro j N nb np pr cd dp me nd pa co de mt hq hjN hK
    have hN := (xs_Kroom hL hf hK).1
    exact br_t (nI_le (a := 3840) (by omega) (by omega)) (hnone _ _ _ _ _ _ _ (gr_fail _ _ hK.1 (Or.inl (by omega))))
  | succ q ih =>
    intro j N nb np pr cd dp me nd pa co de mt hq hjN hK
    have hN := (xs_Kroom hL hf hK).1
    refine br_f (nI_ge (b := 3840) (by omega) (by decide)) (pk_le N j (fun z => ?_) (fun z => ⟨vp_in_nI (by omega) (by decide), ?_⟩))
    · exact hnone _ _ _ _ _ _ _ (gr_fail _ _ hK.1 (Or.inl (by omega)))
    · have hdj := gr_de_le hK.1 j z
      have hA := hK.2.1 j z
      rw [nI_clamp (n := j) (by omega), hA.2.2.1]
      refine pk_lt (de j) P (fun y => ?_) (fun y => hnone _ _ _ _ _ _ _ (gr_fail _ _ hK.1 (Or.inr ⟨z, y⟩)))
      have hok := hK.2.2.1 j z
      refine ⟨vp_in_nI (by omega) (by decide), nm_r (e' := (nd j).1) (by rw [nI_clamp (n := j) (by omega), hA.1]) ⟨vp_in_nI (by omega) (by decide), ?_⟩⟩
      rw [nI_clamp (n := j) (by omega), hA.2.1]
      refine xs_area ⟨257, xs_exp0 (P := P) hL hf hlw hlr (by omega) y (fun N' nb' np' pr' cd' dp' me' hE => ?_) (fun F xN nb' np' pr' cd' dp' me' hF => ?_) 256 0 N nb np pr cd dp me (by omega) ⟨nd, pa, co, de, mt, hK, z, rfl, rfl⟩⟩
      · obtain ⟨nd', pa', co', de', mt', hK', hj', _, _⟩ := hE
        exact br_t rfl (nm_r (nI_1 j) (ih (j + 1) N' nb' np' pr' cd' dp' me' nd' pa' co' de' mt' (by omega) (by omega) (xs_Knext hK')))
      · have hF3 : F < 3840 := by
          obtain ⟨_, _, _, _, _, h3, _⟩ := hF
          exact h3
        refine br_f (fun e => ?_) (hfound F xN nb' np' pr' cd' dp' me' hF)
        have := nI_pos (n := F) (by omega)
        rw [e] at this
        exact this (by decide)
theorem xs_find22 {post : Int32 → SX → Prop} {k L P p : Nat} {f_historyLimit f_started : Int32} {f_walls f_goals f_boxes f_liveCells : Int64} {f_boxTotal f_moves f_pushes f_historyNext f_historyTotal f_storedTotal : Int32} {a_editGrid a_liveRank : Nat → Int32} {a_historyBoxes : Nat → Int64} {a_historyPusher a_storedPushes : Nat → Int32} (hL : ce_rk f_liveCells 64 = L) (hf : gr_fit k L) (hlw : ∀ c, ce_b f_liveCells c = true → ce_b f_walls c = false) (hlr : ∀ c, c < 64 → a_liveRank c = nI (ce_rk f_liveCells c)) (hP : P ≤ 40) (hok : gr_ok f_walls f_liveCells k (f_boxes, p)) (hso : ¬ gr_so f_goals (f_boxes, p))
    (hnone : ∀ xN nb np pr cd dp me, (∀ m, m ≤ P → ¬ gr_can (gr_step f_walls f_liveCells) (gr_so f_goals) m (f_boxes, p)) → post (-1) (nI P, f_historyLimit, f_started, f_walls, f_goals, f_boxes, f_liveCells, nI L, f_boxTotal, nI p, f_moves, f_pushes, f_historyNext, f_historyTotal, f_storedTotal, xN, a_editGrid, a_liveRank, a_historyBoxes, a_historyPusher, a_storedPushes, nb, np, pr, cd, dp, me))
    (hfound : ∀ F xN nb np pr cd dp me, xs_Fd f_walls f_goals f_liveCells P (f_boxes, p) F pr cd dp → post (nI F) (nI P, f_historyLimit, f_started, f_walls, f_goals, f_boxes, f_liveCells, nI L, f_boxTotal, nI p, f_moves, f_pushes, f_historyNext, f_historyTotal, f_storedTotal, xN, a_editGrid, a_liveRank, a_historyBoxes, a_historyPusher, a_storedPushes, nb, np, pr, cd, dp, me))
    {xN : Int32} {nb : Nat → Int64} {np pr cd dp : Nat → Int32} :
    ∀ q i me, i + q = 13824 → (∀ x, x < i → me x = 0) → wX_findSolvingNode_22 post (nI P) f_historyLimit f_started f_walls f_goals f_boxes f_liveCells (nI L) f_boxTotal (nI p) f_moves f_pushes f_historyNext f_historyTotal f_storedTotal (xN) (q + 1) (nI i) a_editGrid a_liveRank a_historyBoxes a_historyPusher a_storedPushes (nb) (np) (pr) (cd) (dp) (me) := by
  intro q
  induction q with
  | zero =>
    intro i me hi hme
    refine br_t (nI_le (a := 13824) (by omega) (by omega)) ?_
    have hv := gr_no_v hL hf hok
    refine xs_add (N := 0) (mt := fun _ => false) (dep := 0) hlr hv.2.2 (fun x hx => hme x (by omega)) (fun _ => by decide) (Or.inl ⟨rfl, rfl⟩) (fun h => by cases h) (fun _ => ?_)
    refine ⟨3841, xs_find64 hL hf hlw hlr hP hnone hfound 3840 0 1 _ _ _ _ _ _ (fun _ => (f_boxes, p)) (fun _ => 0) (fun _ => 0) (fun _ => 0) (fun x => decide (x = gr_no L f_liveCells (f_boxes, p))) (by omega) (by omega) ⟨gr_B0 _ _ rfl rfl hso, fun i hi => ?_, fun i hi => hok, fun x hx => ?_, fun x => ?_, ?_⟩⟩
    · have : i = 0 := by omega
      subst this
      rw [pk_uLs, pk_us, pk_us]
      exact ⟨rfl, rfl, rfl, fun h => by omega⟩
    · show upd me (gr_no L f_liveCells (f_boxes, p)) 1 x = rl_1 (decide (x = gr_no L f_liveCells (f_boxes, p)))
      by_cases e : x = gr_no L f_liveCells (f_boxes, p)
      · rw [e, pk_us, decide_eq_true rfl]; rfl
      · rw [pk_un e, decide_eq_false e, hme x (by omega)]; rfl
    · rw [decide_eq_true_eq]
      exact ⟨fun e => ⟨0, by omega, e.symm⟩, fun ⟨_, _, e⟩ => e.symm⟩
    · have := gr_ct_set (f := fun _ => false) (g := fun x => decide (x = gr_no L f_liveCells (f_boxes, p))) (x := gr_no L f_liveCells (f_boxes, p)) rfl (by simp) (fun i hi => by simp [hi]) (64 * L ^ k)
      rw [this, if_pos hv.2.1, gr_ct_no]
  | succ q ih =>
    intro i me hi hme
    refine br_f (nI_ge (b := 13824) (by omega) (by decide)) ⟨vp_in_nI (by omega) (by decide), nm_r (e' := upd me i 0) (by rw [rl_b0, nI_clamp (by omega)]) (nm_r (nI_1 i) (ih (i + 1) _ (by omega) (fun x hx => ?_)))⟩
    by_cases e : x = i
    · rw [e, pk_us]
    · rw [pk_un e]; exact hme x (by omega)
