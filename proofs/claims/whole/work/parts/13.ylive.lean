/-! the reference's live cells -/
def ys_L (w g m : Int64) (lm : Nat → Int32) : Prop := (∀ c, c < 64 → lm c = ce_A m c) ∧ (∀ c, ce_b g c = true → ce_b m c = true) ∧ (∀ c, ce_b m c = true → ce_b (gr_live w g) c = true)
def ys_ed (w : Int64) (t e : Nat) : Prop := ce_n t e < 64 ∧ ce_n (ce_n t e) e < 64 ∧ ce_b w (ce_n t e) = false ∧ ce_b w (ce_n (ce_n t e) e) = false
theorem ys_Lend {w g m : Int64} {lm : Nat → Int32} (h : ys_L w g m lm) (hc : ∀ t, ce_b m t = true → ∀ e, e < 4 → ys_ed w t e → ce_b m (ce_n t e) = true) : ∀ c, c < 64 → lm c = ce_A (gr_live w g) c := by
  obtain ⟨h1, h2, h3⟩ := h
  have e : m = gr_live w g := by
    apply ce_ext
    intro c hc64
    have i : ce_b m c = true ↔ ce_b (gr_live w g) c = true := by
      refine ⟨h3 c, fun z => ?_⟩
      refine (gr_liveI w g c).mp z (fun c => ce_b m c = true) h2 ?_
      rintro a c ha ⟨e, he, rfl, q1, q2, q3, q4⟩
      exact hc a ha e he ⟨q1, q2, q3, q4⟩
    cases z1 : ce_b m c <;> cases z2 : ce_b (gr_live w g) c <;> simp_all
  rw [← e]
  exact h1
theorem ys_Ladd {w g m : Int64} {lm : Nat → Int32} {t e : Nat} (h : ys_L w g m lm) (ht : ce_b m t = true) (he : e < 4) (hd : ys_ed w t e) : ys_L w g (m ||| ce_bit (ce_n t e)) (upd lm (ce_n t e) 1) := by
  obtain ⟨h1, h2, h3⟩ := h
  refine ⟨fun c hc => ?_, fun c hc => ?_, fun c hc => ?_⟩
  · rw [← ce_A_set hd.1]
    by_cases q : c = ce_n t e
    · rw [q, pk_us, pk_us]
    · rw [pk_un q, pk_un q]; exact h1 c hc
  · rw [ce_setB hd.1, h2 c hc]; rfl
  · rw [ce_setB hd.1, Bool.or_eq_true, decide_eq_true_eq] at hc
    rcases hc with q | q
    · exact h3 c q
    · subst q
      have := h3 t ht
      rw [gr_liveI] at this ⊢
      exact gr_lc_s this ⟨e, he, rfl, hd.1, hd.2.1, hd.2.2.1, hd.2.2.2⟩
def ys_bI (a : Bool) : Int32 := if a then 1 else 0
theorem ys_g4 {post : Int32 → SY → Prop} {w g m : Int64} {t : Nat} {yf_lim yf_hs yf_started yf_pu yf_moves yf_pushes yf_hn yf_solLen yf_nB yf_nL yf_curP yf_nextState : Int32} {ya_edit ya_goal ya_box ya_hFrom ya_hBf ya_hBt ya_sol ya_reach ya_stack ya_liveIdx ya_liveCell ya_dist ya_sb ya_ob : Nat → Int32} (ht : ce_b m t = true)
    (hpost : ∀ (a : Bool) (m' : Int64) (lm' : Nat → Int32), ys_L w g m' lm' → (∀ c, ce_b m c = true → ce_b m' c = true) → (∀ e, e < 4 → ys_ed w t e → ce_b m' (ce_n t e) = true) → (a = false → m' = m) → (a = true → ce_rk m 64 < ce_rk m' 64) → post (ys_bI a) (yf_lim, yf_hs, yf_started, yf_pu, yf_moves, yf_pushes, yf_hn, yf_solLen, yf_nB, yf_nL, yf_curP, yf_nextState, ya_edit, ce_A w, ya_goal, ya_box, ya_hFrom, ya_hBf, ya_hBt, ya_sol, ya_reach, ya_stack, lm', ya_liveIdx, ya_liveCell, ya_dist, ya_sb, ya_ob)) :
    ∀ k e (a : Bool) (m' : Int64) (lm' : Nat → Int32), e + k = 4 → ys_L w g m' lm' → (∀ c, ce_b m c = true → ce_b m' c = true) → (∀ f, f < e → ys_ed w t f → ce_b m' (ce_n t f) = true) → (a = false → m' = m) → (a = true → ce_rk m 64 < ce_rk m' 64) →
      wY_grow_4 post (nI t) yf_lim yf_hs yf_started yf_pu yf_moves yf_pushes yf_hn yf_solLen yf_nB yf_nL yf_curP yf_nextState (k + 1) (ys_bI a) (nI e) ya_edit (ce_A w) ya_goal ya_box ya_hFrom ya_hBf ya_hBt ya_sol ya_reach ya_stack (lm') ya_liveIdx ya_liveCell ya_dist ya_sb ya_ob := by
  have ht64 := ce_lt ht
  intro k
  induction k with
  | zero =>
    intro e a m' lm' he h1 h2 h3 h4 h5
    refine br_t (nI_le (a := 4) (by omega) (by omega)) ⟨?_, hpost a m' lm' h1 h2 (fun f hf => h3 f (by omega)) h4 h5⟩
    cases a <;> decide
  | succ k ih =>
    intro e a m' lm' he h1 h2 h3 h4 h5
    have go : (ys_ed w t e → ce_b m' (ce_n t e) = true) → wY_grow_4 post (nI t) yf_lim yf_hs yf_started yf_pu yf_moves yf_pushes yf_hn yf_solLen yf_nB yf_nL yf_curP yf_nextState (k + 1) (ys_bI a) (nI (e + 1)) ya_edit (ce_A w) ya_goal ya_box ya_hFrom ya_hBf ya_hBt ya_sol ya_reach ya_stack (lm') ya_liveIdx ya_liveCell ya_dist ya_sb ya_ob := by
      intro hq
      refine ih (e + 1) a m' lm' (by omega) h1 h2 (fun f hf hd => ?_) h4 h5
      by_cases q : f = e
      · subst q; exact hq hd
      · exact h3 f (by omega) hd
    refine br_f (nI_ge (b := 4) (by omega) (by decide)) (ys_nbN ht64 (by omega) (ys_nb (ce_n_le t e) (by omega) ?_))
    rcases ce_le64 (ce_n_le t e) with s1 | s1
    · refine br_f (ce_I_neg s1) ?_
      rcases ce_le64 (ce_n_le (ce_n t e) e) with s2 | s2
      · refine br_f (ce_I_neg s2) ⟨ce_I_vp s1, ?_⟩
        rw [ce_I_cl s1, ce_I_cl s2]
        cases w1 : ce_b w (ce_n t e)
        · refine br_t (ce_Af w1) ⟨ce_I_vp s2, ?_⟩
          cases w2 : ce_b w (ce_n (ce_n t e) e)
          · refine br_t (ce_Af w2) ⟨ce_I_vp s1, ?_⟩
            have hd : ys_ed w t e := ⟨s1, s2, w1, w2⟩
            refine br_c (fun z => ?_) (fun z => nm_r (nI_1 e) (go (fun _ => ?_)))
            · refine ⟨ce_I_vp s1, nm_r (e' := upd lm' (ce_n t e) 1) (by rw [rl_b1]) (nm_r (nI_1 e) ?_)⟩
              rw [h1.1 _ s1] at z
              have z' := ce_Az.mp z
              have hk := ce_rk_set s1 z' 64
              rw [if_pos s1] at hk
              have hm := ce_sub_le h2 64
              refine ih (e + 1) true (m' ||| ce_bit (ce_n t e)) _ (by omega) (ys_Ladd h1 (h2 t ht) (by omega) hd) (fun c hc => by rw [ce_setB s1, h2 c hc]; rfl) (fun f hf hdf => ?_) (fun q => by cases q) (fun _ => by omega)
              by_cases q : f = e
              · subst q; rw [ce_setB s1]; simp
              · rw [ce_setB s1, h3 f (by omega) hdf]; rfl
            · rw [h1.1 _ s1] at z
              exact ts_nf (fun q => z (ce_Az.mpr q))
          · refine br_f (by rw [ce_At w2]; decide) (nm_r (nI_1 e) (go (fun q => ?_)))
            rw [q.2.2.2] at w2; cases w2
        · refine br_f (by rw [ce_At w1]; decide) (nm_r (nI_1 e) (go (fun q => ?_)))
          rw [q.2.2.1] at w1; cases w1
      · refine br_t (by rw [s2]; decide) (nm_r (nI_1 e) (go (fun q => ?_)))
        have := q.2.1
        omega
    · refine br_t (by rw [s1]; decide) (nm_r (nI_1 e) (go (fun q => ?_)))
      have := q.1
      omega
theorem ys_grow {post : Int32 → SY → Prop} {w g m : Int64} {t : Nat} {yf_lim yf_hs yf_started yf_pu yf_moves yf_pushes yf_hn yf_solLen yf_nB yf_nL yf_curP yf_nextState : Int32} {ya_edit ya_goal ya_box ya_hFrom ya_hBf ya_hBt ya_sol ya_reach ya_stack ya_liveMark ya_liveIdx ya_liveCell ya_dist ya_sb ya_ob : Nat → Int32} (ht : ce_b m t = true) (hL : ys_L w g m ya_liveMark)
    (hpost : ∀ (a : Bool) (m' : Int64) (lm' : Nat → Int32), ys_L w g m' lm' → (∀ c, ce_b m c = true → ce_b m' c = true) → (∀ e, e < 4 → ys_ed w t e → ce_b m' (ce_n t e) = true) → (a = false → m' = m) → (a = true → ce_rk m 64 < ce_rk m' 64) → post (ys_bI a) (yf_lim, yf_hs, yf_started, yf_pu, yf_moves, yf_pushes, yf_hn, yf_solLen, yf_nB, yf_nL, yf_curP, yf_nextState, ya_edit, ce_A w, ya_goal, ya_box, ya_hFrom, ya_hBf, ya_hBt, ya_sol, ya_reach, ya_stack, lm', ya_liveIdx, ya_liveCell, ya_dist, ya_sb, ya_ob)) : wpY_grow post (yf_lim, yf_hs, yf_started, yf_pu, yf_moves, yf_pushes, yf_hn, yf_solLen, yf_nB, yf_nL, yf_curP, yf_nextState, ya_edit, ce_A w, ya_goal, ya_box, ya_hFrom, ya_hBf, ya_hBt, ya_sol, ya_reach, ya_stack, ya_liveMark, ya_liveIdx, ya_liveCell, ya_dist, ya_sb, ya_ob) (nI t) :=
  ⟨5, ys_g4 ht hpost 4 0 false m ya_liveMark (by omega) hL (fun _ h => h) (fun f hf => by omega) (fun _ => rfl) (fun h => by cases h)⟩
/-- the numbering at the end -/
theorem ys_86 {post : Int32 → SY → Prop} {lv : Int64} {yf_lim yf_hs yf_started yf_pu yf_moves yf_pushes yf_hn yf_solLen yf_nB yf_nL yf_curP yf_nextState : Int32} {ya_edit ya_wall ya_goal ya_box ya_hFrom ya_hBf ya_hBt ya_sol ya_reach ya_stack ya_dist ya_sb ya_ob : Nat → Int32} {lm : Nat → Int32} (hm : ∀ c, c < 64 → lm c = ce_A lv c)
    (hpost : ∀ li lc, (∀ c, ce_b lv c = true → li c = nI (ce_rk lv c)) → (∀ c, ce_b lv c = true → lc (ce_rk lv c) = nI c) → post (nI (ce_rk lv 64)) (yf_lim, yf_hs, yf_started, yf_pu, yf_moves, yf_pushes, yf_hn, yf_solLen, yf_nB, yf_nL, yf_curP, yf_nextState, ya_edit, ya_wall, ya_goal, ya_box, ya_hFrom, ya_hBf, ya_hBt, ya_sol, ya_reach, ya_stack, lm, li, lc, ya_dist, ya_sb, ya_ob)) :
    ∀ k i li lc, i + k = 64 → (∀ c, c < i → ce_b lv c = true → li c = nI (ce_rk lv c)) → (∀ c, c < i → ce_b lv c = true → lc (ce_rk lv c) = nI c) →
      wY_computeLive_86 post yf_lim yf_hs yf_started yf_pu yf_moves yf_pushes yf_hn yf_solLen yf_nB yf_nL yf_curP yf_nextState (k + 1) (nI (ce_rk lv i)) (nI i) ya_edit ya_wall ya_goal ya_box ya_hFrom ya_hBf ya_hBt ya_sol ya_reach ya_stack (lm) (li) (lc) ya_dist ya_sb ya_ob := by
  intro k
  induction k with
  | zero =>
    intro i li lc hi h1 h2
    have e : i = 64 := by omega
    subst e
    exact br_t (nI_le (a := 64) (by omega) (by omega)) (hpost li lc (fun c hc => h1 c (ce_lt hc) hc) (fun c hc => h2 c (ce_lt hc) hc))
  | succ k ih =>
    intro i li lc hi h1 h2
    have hr := ce_rk_le lv i
    refine br_f (nI_ge (b := 64) (by omega) (by decide)) ⟨vp_in_nI (by omega) (by decide), nm_r (e' := upd li i (-1)) (by rw [nI_clamp (by omega)]) ⟨vp_in_nI (by omega) (by decide), ?_⟩⟩
    rw [nI_clamp (n := i) (by omega), hm i (by omega)]
    cases hb : ce_b lv i
    · refine br_t (ce_Af hb) (nm_r (nI_1 i) ?_)
      have := ih (i + 1) (upd li i (-1)) lc (by omega) (fun c hc hl => ?_) (fun c hc hl => ?_)
      · rw [ce_rk_n hb] at this; exact this
      · by_cases q : c = i
        · rw [q, hb] at hl; cases hl
        · rw [pk_un q]; exact h1 c (by omega) hl
      · by_cases q : c = i
        · rw [q, hb] at hl; cases hl
        · exact h2 c (by omega) hl
    · refine br_f (by rw [ce_At hb]; decide) ⟨vp_in_nI (by omega) (by decide), nm_r (e' := upd (upd li i (-1)) i (nI (ce_rk lv i))) rfl ⟨vp_in_nI (by omega) (by decide), nm_r (e' := upd lc (ce_rk lv i) (nI i)) (by rw [nI_clamp (by omega)]) (nm_r (nI_1 _) (nm_r (nI_1 i) ?_))⟩⟩
      have := ih (i + 1) (upd (upd li i (-1)) i (nI (ce_rk lv i))) (upd lc (ce_rk lv i) (nI i)) (by omega) (fun c hc hl => ?_) (fun c hc hl => ?_)
      · rw [ce_rk_s hb] at this; exact this
      · by_cases q : c = i
        · rw [q, pk_us]
        · rw [pk_un q, pk_un q]; exact h1 c (by omega) hl
      · by_cases q : c = i
        · rw [q, pk_us]
        · have : ce_rk lv c ≠ ce_rk lv i := fun z => q (ce_rk_inj hl hb z)
          rw [pk_un this]; exact h2 c (by omega) hl
theorem ys_38 {post : Int32 → SY → Prop} {J : Int32 → Int32 → Int32 → Int32 → Int32 → Int32 → Int32 → Int32 → Int32 → Int32 → Int32 → Int32 → Int32 → (Nat → Int32) → (Nat → Int32) → (Nat → Int32) → (Nat → Int32) → (Nat → Int32) → (Nat → Int32) → (Nat → Int32) → (Nat → Int32) → (Nat → Int32) → (Nat → Int32) → (Nat → Int32) → (Nat → Int32) → (Nat → Int32) → (Nat → Int32) → (Nat → Int32) → (Nat → Int32) → Prop} {w g m0 : Int64} {i : Nat} {yf_lim yf_hs yf_started yf_pu yf_moves yf_pushes yf_hn yf_solLen yf_nB yf_nL yf_curP yf_nextState : Int32} {ya_edit ya_box ya_hFrom ya_hBf ya_hBt ya_sol ya_reach ya_stack ya_liveIdx ya_liveCell ya_dist ya_sb ya_ob : Nat → Int32}
    (hdone : ∀ m lm, ys_L w g m lm → (∀ t, ce_b m t = true → ∀ e, e < 4 → ys_ed w t e → ce_b m (ce_n t e) = true) → ∃ n : Nat, wY_computeLive_86 post yf_lim yf_hs yf_started yf_pu yf_moves yf_pushes yf_hn yf_solLen yf_nB yf_nL yf_curP yf_nextState n 0 0 ya_edit (ce_A w) (ce_A g) ya_box ya_hFrom ya_hBf ya_hBt ya_sol ya_reach ya_stack (lm) ya_liveIdx ya_liveCell ya_dist ya_sb ya_ob)
    (hJ : ∀ m lm, ys_L w g m lm → ce_rk m0 64 < ce_rk m 64 → J (nI (i + 1)) yf_lim yf_hs yf_started yf_pu yf_moves yf_pushes yf_hn yf_solLen yf_nB yf_nL yf_curP yf_nextState ya_edit (ce_A w) (ce_A g) ya_box ya_hFrom ya_hBf ya_hBt ya_sol ya_reach ya_stack (lm) ya_liveIdx ya_liveCell ya_dist ya_sb ya_ob) :
    ∀ k t (a : Bool) (m : Int64) (lm : Nat → Int32), t + k = 64 → ys_L w g m lm → (a = false → m = m0 ∧ ∀ s, s < t → ce_b m0 s = true → ∀ e, e < 4 → ys_ed w s e → ce_b m0 (ce_n s e) = true) → (a = true → ce_rk m0 64 < ce_rk m 64) →
      wY_computeLive_38 post J (nI i) (k + 1) (ys_bI a) (nI t) yf_lim yf_hs yf_started yf_pu yf_moves yf_pushes yf_hn yf_solLen yf_nB yf_nL yf_curP yf_nextState ya_edit (ce_A w) (ce_A g) ya_box ya_hFrom ya_hBf ya_hBt ya_sol ya_reach ya_stack (lm) ya_liveIdx ya_liveCell ya_dist ya_sb ya_ob := by
  intro k
  induction k with
  | zero =>
    intro t a m lm ht h1 h2 h3
    refine br_t (nI_le (a := 64) (by omega) (by omega)) ?_
    cases a with
    | false =>
      obtain ⟨e, h4⟩ := h2 rfl
      subst e
      exact br_t rfl (hdone m lm h1 (fun s hs => h4 s (by have := ce_lt hs; omega) hs))
    | true => exact br_f (by decide) (nm_r (nI_1 i) (hJ m lm h1 (h3 rfl)))
  | succ k ih =>
    intro t a m lm ht h1 h2 h3
    refine br_f (nI_ge (b := 64) (by omega) (by decide)) ⟨vp_in_nI (by omega) (by decide), ?_⟩
    rw [nI_clamp (n := t) (by omega), h1.1 t (by omega)]
    cases hb : ce_b m t
    · refine br_t (ce_Af hb) (nm_r (nI_1 t) (ih (t + 1) a m lm (by omega) h1 (fun ha => ⟨(h2 ha).1, fun s hs hm => ?_⟩) h3))
      by_cases q : s = t
      · rw [q, ← (h2 ha).1, hb] at hm; cases hm
      · exact (h2 ha).2 s (by omega) hm
    · refine br_f (by rw [ce_At hb]; decide) (ys_grow (g := g) hb h1 (fun a' m' lm' g1 g2 g3 g4 g5 => ?_))
      have hle := ce_sub_le g2 64
      cases a' with
      | false =>
        have em := g4 rfl
        subst em
        refine br_t rfl (nm_r (nI_1 t) (ih (t + 1) a m' lm' (by omega) g1 (fun ha => ⟨(h2 ha).1, fun s hs hm => ?_⟩) h3))
        by_cases q : s = t
        · subst q; rw [← (h2 ha).1]; exact g3
        · exact (h2 ha).2 s (by omega) hm
      | true =>
        refine br_f (by decide) (nm_r (nI_1 t) (ih (t + 1) true m' lm' (by omega) g1 (fun ha => by cases ha) (fun _ => ?_)))
        have := g5 rfl
        cases a with
        | false => rw [← (h2 rfl).1]; exact this
        | true => have := h3 rfl; omega
theorem ys_28 {post : Int32 → SY → Prop} {w g : Int64} {yf_lim yf_hs yf_started yf_pu yf_moves yf_pushes yf_hn yf_solLen yf_nB yf_nL yf_curP yf_nextState : Int32} {ya_edit ya_box ya_hFrom ya_hBf ya_hBt ya_sol ya_reach ya_stack ya_liveIdx ya_liveCell ya_dist ya_sb ya_ob : Nat → Int32}
    (hdone : ∀ m lm, ys_L w g m lm → (∀ t, ce_b m t = true → ∀ e, e < 4 → ys_ed w t e → ce_b m (ce_n t e) = true) → ∃ n : Nat, wY_computeLive_86 post yf_lim yf_hs yf_started yf_pu yf_moves yf_pushes yf_hn yf_solLen yf_nB yf_nL yf_curP yf_nextState n 0 0 ya_edit (ce_A w) (ce_A g) ya_box ya_hFrom ya_hBf ya_hBt ya_sol ya_reach ya_stack (lm) ya_liveIdx ya_liveCell ya_dist ya_sb ya_ob) :
    ∀ k i (m : Int64) (lm : Nat → Int32), i + k = 65 → ys_L w g m lm → i ≤ ce_rk m 64 → wY_computeLive_28 post (k + 1) (nI i) yf_lim yf_hs yf_started yf_pu yf_moves yf_pushes yf_hn yf_solLen yf_nB yf_nL yf_curP yf_nextState ya_edit (ce_A w) (ce_A g) ya_box ya_hFrom ya_hBf ya_hBt ya_sol ya_reach ya_stack (lm) ya_liveIdx ya_liveCell ya_dist ya_sb ya_ob := by
  intro k
  induction k with
  | zero =>
    intro i m lm hi h1 h2
    have := ce_rk_le m 64
    omega
  | succ k ih =>
    intro i m lm hi h1 h2
    exact br_f (nI_ge (b := 65) (by omega) (by decide)) ⟨65, ys_38 (m0 := m) hdone (fun m' lm' g1 g2 => ih (i + 1) m' lm' (by omega) g1 (by omega)) 64 0 false m lm (by omega) h1 (fun _ => ⟨rfl, fun s hs => by omega⟩) (fun h => by cases h)⟩
theorem ys_2L {post : Int32 → SY → Prop} {w g : Int64} {yf_lim yf_hs yf_started yf_pu yf_moves yf_pushes yf_hn yf_solLen yf_nB yf_nL yf_curP yf_nextState : Int32} {ya_edit ya_box ya_hFrom ya_hBf ya_hBt ya_sol ya_reach ya_stack ya_liveIdx ya_liveCell ya_dist ya_sb ya_ob : Nat → Int32}
    (hdone : ∀ m lm, ys_L w g m lm → (∀ t, ce_b m t = true → ∀ e, e < 4 → ys_ed w t e → ce_b m (ce_n t e) = true) → ∃ n : Nat, wY_computeLive_86 post yf_lim yf_hs yf_started yf_pu yf_moves yf_pushes yf_hn yf_solLen yf_nB yf_nL yf_curP yf_nextState n 0 0 ya_edit (ce_A w) (ce_A g) ya_box ya_hFrom ya_hBf ya_hBt ya_sol ya_reach ya_stack (lm) ya_liveIdx ya_liveCell ya_dist ya_sb ya_ob) :
    ∀ k i (lm : Nat → Int32), i + k = 64 → (∀ c, c < i → lm c = ce_A g c) → wY_computeLive_2 post yf_lim yf_hs yf_started yf_pu yf_moves yf_pushes yf_hn yf_solLen yf_nB yf_nL yf_curP yf_nextState (k + 1) (nI i) ya_edit (ce_A w) (ce_A g) ya_box ya_hFrom ya_hBf ya_hBt ya_sol ya_reach ya_stack (lm) ya_liveIdx ya_liveCell ya_dist ya_sb ya_ob := by
  intro k
  induction k with
  | zero =>
    intro i lm hi h
    refine br_t (nI_le (a := 64) (by omega) (by omega)) ⟨66, ys_28 hdone 65 0 g lm (by omega) ⟨fun c hc => h c (by omega), fun c hc => hc, fun c hc => gr_live_goal hc⟩ (by omega)⟩
  | succ k ih =>
    intro i lm hi h
    refine br_f (nI_ge (b := 64) (by omega) (by decide)) ⟨vp_in_nI (by omega) (by decide), vp_in_nI (by omega) (by decide), nm_r (e' := upd lm i (ce_A g i)) (by rw [nI_clamp (by omega), ce_An]) (nm_r (nI_1 i) (ih (i + 1) _ (by omega) (fun c hc => ?_)))⟩
    by_cases q : c = i
    · rw [q, pk_us]
    · rw [pk_un q]; exact h c (by omega)
theorem ys_live {post : Int32 → SY → Prop} {w g : Int64} {yf_lim yf_hs yf_started yf_pu yf_moves yf_pushes yf_hn yf_solLen yf_nB yf_nL yf_curP yf_nextState : Int32} {ya_edit ya_box ya_hFrom ya_hBf ya_hBt ya_sol ya_reach ya_stack ya_liveMark ya_liveIdx ya_liveCell ya_dist ya_sb ya_ob : Nat → Int32}
    (hpost : ∀ lm li lc, (∀ c, c < 64 → lm c = ce_A (gr_live w g) c) → (∀ c, ce_b (gr_live w g) c = true → li c = nI (ce_rk (gr_live w g) c)) → (∀ c, ce_b (gr_live w g) c = true → lc (ce_rk (gr_live w g) c) = nI c) → post (nI (ce_rk (gr_live w g) 64)) (yf_lim, yf_hs, yf_started, yf_pu, yf_moves, yf_pushes, yf_hn, yf_solLen, yf_nB, yf_nL, yf_curP, yf_nextState, ya_edit, ce_A w, ce_A g, ya_box, ya_hFrom, ya_hBf, ya_hBt, ya_sol, ya_reach, ya_stack, lm, li, lc, ya_dist, ya_sb, ya_ob)) : wpY_computeLive post (yf_lim, yf_hs, yf_started, yf_pu, yf_moves, yf_pushes, yf_hn, yf_solLen, yf_nB, yf_nL, yf_curP, yf_nextState, ya_edit, ce_A w, ce_A g, ya_box, ya_hFrom, ya_hBf, ya_hBt, ya_sol, ya_reach, ya_stack, ya_liveMark, ya_liveIdx, ya_liveCell, ya_dist, ya_sb, ya_ob) :=
  ⟨65, ys_2L (fun m lm h1 h2 => ⟨65, ys_86 (ys_Lend h1 h2) (fun li lc => hpost lm li lc (ys_Lend h1 h2)) 64 0 _ _ (by omega) (fun c hc => by omega) (fun c hc => by omega)⟩) 64 0 _ (by omega) (fun c hc => by omega)⟩
