/-! the reference's flood -/
def ys_Q (w b : Int64) (p g n : Nat) (ex : Nat → Nat → Prop) (r sk : Nat → Int32) : Prop :=
  ∃ m : Int64, ∃ ks : Nat → Nat, (∀ c, c < 64 → r c = ce_A m c) ∧ (∀ i, i < n → sk i = nI (ks i) ∧ ce_b m (ks i) = true) ∧ g + n = ce_rk m 64 ∧
    (∀ c, ce_b m c = true → ce_b (gr_area w b p) c = true) ∧ ce_b m p = true ∧
    (∀ a d, ce_b m a = true → d < 4 → (ce_n a d < 64 ∧ ce_b w (ce_n a d) = false ∧ ce_b b (ce_n a d) = false) → ce_b m (ce_n a d) = true ∨ (∃ i, i < n ∧ ks i = a) ∨ ex a d)
theorem ys_Qend {w b : Int64} {p g n : Nat} {r sk : Nat → Int32} (hp : p < 64) (h : ys_Q w b p g n (fun _ _ => False) r sk) (hn : n = 0 ∨ g = 64) : ∀ c, c < 64 → r c = ce_A (gr_area w b p) c := by
  obtain ⟨m, ks, h1, h2, h3, h4, h5, h6⟩ := h
  have h0 : n = 0 := by
    rcases hn with z | z
    · exact z
    · have := ce_rk_le m 64
      omega
  subst h0
  have e : m = gr_area w b p := by
    apply ce_ext
    intro c hc
    have i : ce_b m c = true ↔ ce_b (gr_area w b p) c = true := by
      refine ⟨h4 c, fun z => ?_⟩
      refine (gr_areaI w b hp c).mp z (fun c => ce_b m c = true) ?_ ?_
      · intro a e; subst e; exact h5
      · rintro a c ha ⟨hf, d, hd, e⟩
        subst e
        rcases h6 a d ha hd ((gr_fr w b _).mp hf) with q | ⟨i, q, _⟩ | q
        · exact q
        · omega
        · exact q.elim
    cases z1 : ce_b m c <;> cases z2 : ce_b (gr_area w b p) c <;> simp_all
  rw [← e]
  exact h1
theorem ys_Qpop {w b : Int64} {p g n : Nat} {r sk : Nat → Int32} (h : ys_Q w b p g (n + 1) (fun _ _ => False) r sk) : ∃ x, x < 64 ∧ sk n = nI x ∧ ce_b (gr_area w b p) x = true ∧ ys_Q w b p (g + 1) n (fun a d => a = x ∧ 0 ≤ d) r sk ∧ (∀ m : Int64, (∀ c, c < 64 → r c = ce_A m c) → ce_b m x = true) := by
  obtain ⟨m, ks, h1, h2, h3, h4, h5, h6⟩ := h
  obtain ⟨k1, k2⟩ := h2 n (by omega)
  refine ⟨ks n, ce_lt k2, k1, h4 _ k2, ⟨m, ks, h1, fun i hi => h2 i (by omega), by omega, h4, h5, fun a d ha hd hf => ?_⟩, fun m' hm => ?_⟩
  · rcases h6 a d ha hd hf with q | ⟨i, q1, q2⟩ | q
    · exact Or.inl q
    · by_cases e : i = n
      · subst e; exact Or.inr (Or.inr ⟨q2.symm, Nat.zero_le _⟩)
      · exact Or.inr (Or.inl ⟨i, by omega, q2⟩)
    · exact q.elim
  · have := hm (ks n) (ce_lt k2)
    rw [h1 (ks n) (ce_lt k2), ce_At k2] at this
    exact ce_A1.mp this.symm
theorem ys_Qskip {w b : Int64} {p g n x d : Nat} {r sk : Nat → Int32} (h : ys_Q w b p g n (fun a e => a = x ∧ d ≤ e) r sk) (hs : ¬ (ce_n x d < 64 ∧ ce_b w (ce_n x d) = false ∧ ce_b b (ce_n x d) = false) ∨ (ce_n x d < 64 ∧ ¬ r (ce_n x d) = 0)) : ys_Q w b p g n (fun a e => a = x ∧ d + 1 ≤ e) r sk := by
  obtain ⟨m, ks, h1, h2, h3, h4, h5, h6⟩ := h
  refine ⟨m, ks, h1, h2, h3, h4, h5, fun a e ha he hf => ?_⟩
  rcases h6 a e ha he hf with q | q | ⟨q1, q2⟩
  · exact Or.inl q
  · exact Or.inr (Or.inl q)
  · by_cases z : d + 1 ≤ e
    · exact Or.inr (Or.inr ⟨q1, z⟩)
    · have : e = d := by omega
      subst this
      subst q1
      rcases hs with s | ⟨s1, s2⟩
      · exact absurd hf s
      · rw [h1 _ s1] at s2
        exact Or.inl (ts_nf (fun z => s2 (ce_Az.mpr z)))
theorem ys_Qadd {w b : Int64} {p g n x d : Nat} {r sk : Nat → Int32} (hp : p < 64) (hd : d < 4) (hx : ce_b (gr_area w b p) x = true) (h : ys_Q w b p (g + 1) n (fun a e => a = x ∧ d ≤ e) r sk) (hf : ce_n x d < 64 ∧ ce_b w (ce_n x d) = false ∧ ce_b b (ce_n x d) = false) (hr : r (ce_n x d) = 0) : n < 64 ∧ ys_Q w b p (g + 1) (n + 1) (fun a e => a = x ∧ d + 1 ≤ e) (upd r (ce_n x d) 1) (upd sk n (nI (ce_n x d))) := by
  obtain ⟨m, ks, h1, h2, h3, h4, h5, h6⟩ := h
  have hm : ce_b m (ce_n x d) = false := ce_Az.mp (by rw [← h1 _ hf.1]; exact hr)
  have hk := ce_rk_set hf.1 hm 64
  rw [if_pos hf.1] at hk
  have hle := ce_rk_le (m ||| ce_bit (ce_n x d)) 64
  have up : ∀ c, ce_b m c = true → ce_b (m ||| ce_bit (ce_n x d)) c = true := fun c hc => by rw [ce_setB hf.1, hc]; rfl
  refine ⟨by omega, m ||| ce_bit (ce_n x d), fun i => if i = n then ce_n x d else ks i, fun c hc => ?_, fun i hi => ?_, by omega, fun c hc => ?_, up p h5, fun a e ha he hfa => ?_⟩
  · rw [← ce_A_set hf.1]
    by_cases q : c = ce_n x d
    · rw [q, pk_us, pk_us]
    · rw [pk_un q, pk_un q]; exact h1 c hc
  · by_cases q : i = n
    · subst q
      dsimp only
      rw [pk_us, if_pos rfl]
      exact ⟨rfl, by rw [ce_setB hf.1]; simp⟩
    · dsimp only
      rw [pk_un q, if_neg q]
      obtain ⟨a1, a2⟩ := h2 i (by omega)
      exact ⟨a1, up _ a2⟩
  · rw [ce_setB hf.1, Bool.or_eq_true, decide_eq_true_eq] at hc
    rcases hc with q | q
    · exact h4 c q
    · subst q
      rw [gr_areaI w b hp] at hx ⊢
      exact gr_lc_s hx ⟨(gr_fr w b _).mpr hf, d, hd, rfl⟩
  · rw [ce_setB hf.1, Bool.or_eq_true, decide_eq_true_eq] at ha
    rcases ha with q | q
    · rcases h6 a e q he hfa with s | ⟨i, s1, s2⟩ | ⟨s1, s2⟩
      · exact Or.inl (up _ s)
      · refine Or.inr (Or.inl ⟨i, by omega, ?_⟩)
        show (if i = n then ce_n x d else ks i) = a
        rw [if_neg (by omega)]; exact s2
      · by_cases z : d + 1 ≤ e
        · exact Or.inr (Or.inr ⟨s1, z⟩)
        · have : e = d := by omega
          subst this
          subst s1
          left
          rw [ce_setB hf.1]; simp
    · refine Or.inr (Or.inl ⟨n, by omega, ?_⟩)
      show (if n = n then ce_n x d else ks n) = a
      rw [if_pos rfl]; exact q
theorem ys_72 {post : SY → Prop} {J : Int32 → Int32 → (Nat → Int32) → (Nat → Int32) → (Nat → Int32) → (Nat → Int32) → (Nat → Int32) → (Nat → Int32) → (Nat → Int32) → (Nat → Int32) → (Nat → Int32) → (Nat → Int32) → (Nat → Int32) → (Nat → Int32) → (Nat → Int32) → (Nat → Int32) → (Nat → Int32) → (Nat → Int32) → Prop} {w b : Int64} {p g x : Nat} {yf_lim yf_hs yf_started yf_pu yf_moves yf_pushes yf_hn yf_solLen yf_nB yf_nL yf_curP yf_nextState : Int32} {ya_edit ya_goal ya_hFrom ya_hBf ya_hBt ya_sol ya_liveMark ya_liveIdx ya_liveCell ya_dist ya_sb ya_ob : Nat → Int32} (hp : p < 64) (hx : ce_b (gr_area w b p) x = true)
    (hJ : ∀ n r sk, ys_Q w b p (g + 1) n (fun _ _ => False) r sk → J (nI n) (nI (g + 1)) ya_edit (ce_A w) ya_goal (ce_A b) ya_hFrom ya_hBf ya_hBt ya_sol (r) (sk) ya_liveMark ya_liveIdx ya_liveCell ya_dist ya_sb ya_ob) :
    ∀ k d n r sk, d + k = 4 → n < 2 ^ 30 → ys_Q w b p (g + 1) n (fun a e => a = x ∧ d ≤ e) r sk → wY_flood_72 post J (nI g) (nI x) yf_lim yf_hs yf_started yf_pu yf_moves yf_pushes yf_hn yf_solLen yf_nB yf_nL yf_curP yf_nextState (k + 1) (nI n) (nI d) ya_edit (ce_A w) ya_goal (ce_A b) ya_hFrom ya_hBf ya_hBt ya_sol (r) (sk) ya_liveMark ya_liveIdx ya_liveCell ya_dist ya_sb ya_ob := by
  have hx64 := ce_lt hx
  intro k
  induction k with
  | zero =>
    intro d n r sk hd hn h
    refine br_t (nI_le (a := 4) (by omega) (by omega)) (nm_r (nI_1 g) (hJ n r sk ?_))
    obtain ⟨m, ks, h1, h2, h3, h4, h5, h6⟩ := h
    refine ⟨m, ks, h1, h2, h3, h4, h5, fun a e ha he hf => ?_⟩
    rcases h6 a e ha he hf with q | q | ⟨_, q⟩
    · exact Or.inl q
    · exact Or.inr (Or.inl q)
    · omega
  | succ k ih =>
    intro d n r sk hd hn h
    refine br_f (nI_ge (b := 4) (by omega) (by decide)) (ys_nbN hx64 (by omega) (ys_free (ce_n_le x d) ?_))
    refine br_c (fun z => nm_r (nI_1 d) (ih (d + 1) n r sk (by omega) hn (ys_Qskip h (Or.inl (gr_fn z))))) (fun z => ?_)
    have hf := gr_fz z
    refine ⟨ce_I_vp hf.1, ?_⟩
    rw [ce_I_in hf.1, nI_clamp (by omega)]
    refine br_c (fun q => ?_) (fun q => nm_r (nI_1 d) (ih (d + 1) n r sk (by omega) hn (ys_Qskip h (Or.inr ⟨hf.1, q⟩))))
    obtain ⟨hn64, hQ⟩ := ys_Qadd hp (by omega) hx h hf q
    refine br_f (nI_ge (b := 64) hn64 (by decide)) ⟨vp_in_nI hf.1 (by decide), nm_r (e' := upd r (ce_n x d) 1) (by rw [rl_b1]) ⟨vp_in_nI hn64 (by decide), nm_r (e' := upd sk n (nI (ce_n x d))) (by rw [nI_clamp (by omega)]) (nm_r (nI_1 n) (nm_r (nI_1 d) (ih (d + 1) (n + 1) _ _ (by omega) (by omega) hQ)))⟩⟩
theorem ys_48 {post : SY → Prop} {w b : Int64} {p : Nat} {yf_lim yf_hs yf_started yf_pu yf_moves yf_pushes yf_hn yf_solLen yf_nB yf_nL yf_curP yf_nextState : Int32} {ya_edit ya_goal ya_hFrom ya_hBf ya_hBt ya_sol ya_liveMark ya_liveIdx ya_liveCell ya_dist ya_sb ya_ob : Nat → Int32} (hp : p < 64)
    (hpost : ∀ r sk, (∀ c, c < 64 → r c = ce_A (gr_area w b p) c) → post (yf_lim, yf_hs, yf_started, yf_pu, yf_moves, yf_pushes, yf_hn, yf_solLen, yf_nB, yf_nL, yf_curP, yf_nextState, ya_edit, ce_A w, ya_goal, ce_A b, ya_hFrom, ya_hBf, ya_hBt, ya_sol, r, sk, ya_liveMark, ya_liveIdx, ya_liveCell, ya_dist, ya_sb, ya_ob)) :
    ∀ k g n r sk, g + k = 64 → ys_Q w b p g n (fun _ _ => False) r sk → wY_flood_48 post yf_lim yf_hs yf_started yf_pu yf_moves yf_pushes yf_hn yf_solLen yf_nB yf_nL yf_curP yf_nextState (k + 1) (nI n) (nI g) ya_edit (ce_A w) ya_goal (ce_A b) ya_hFrom ya_hBf ya_hBt ya_sol (r) (sk) ya_liveMark ya_liveIdx ya_liveCell ya_dist ya_sb ya_ob := by
  intro k
  induction k with
  | zero =>
    intro g n r sk hg h
    exact br_t (nI_le (a := 64) (by omega) (by omega)) (hpost r sk (ys_Qend hp h (Or.inr (by omega))))
  | succ k ih =>
    intro g n r sk hg h
    refine br_f (nI_ge (b := 64) (by omega) (by decide)) ?_
    cases n with
    | zero => exact br_t (by decide) (hpost r sk (ys_Qend hp h (Or.inl rfl)))
    | succ n =>
      have hn : n < 64 := by
        obtain ⟨m, ks, h1, h2, h3, h4, h5, h6⟩ := h
        have := ce_rk_le m 64
        omega
      obtain ⟨x, hx, hs, hxa, hQ, _⟩ := ys_Qpop h
      refine br_f (nI_nle (by omega) (by omega)) (nm_r (pk_m1 n) ⟨vp_in_nI hn (by decide), nm_r (e' := nI x) (by rw [nI_clamp (by omega)]; exact hs) ⟨5, ?_⟩⟩)
      exact ys_72 hp hxa (fun n r sk hq => ih (g + 1) n r sk (by omega) hq) 4 0 n r sk (by omega) (by omega) hQ
theorem ys_2 {post : SY → Prop} {w b : Int64} {p : Nat} {yf_lim yf_hs yf_started yf_pu yf_moves yf_pushes yf_hn yf_solLen yf_nB yf_nL yf_curP yf_nextState : Int32} {ya_edit ya_goal ya_hFrom ya_hBf ya_hBt ya_sol ya_liveMark ya_liveIdx ya_liveCell ya_dist ya_sb ya_ob : Nat → Int32} (hp : p < 64) (hw : ce_b w p = false) (hb : ce_b b p = false)
    (hpost : ∀ r sk, (∀ c, c < 64 → r c = ce_A (gr_area w b p) c) → post (yf_lim, yf_hs, yf_started, yf_pu, yf_moves, yf_pushes, yf_hn, yf_solLen, yf_nB, yf_nL, yf_curP, yf_nextState, ya_edit, ce_A w, ya_goal, ce_A b, ya_hFrom, ya_hBf, ya_hBt, ya_sol, r, sk, ya_liveMark, ya_liveIdx, ya_liveCell, ya_dist, ya_sb, ya_ob)) {sk : Nat → Int32} :
    ∀ k i r, i + k = 64 → (∀ c, c < i → r c = 0) → wY_flood_2 post (nI p) yf_lim yf_hs yf_started yf_pu yf_moves yf_pushes yf_hn yf_solLen yf_nB yf_nL yf_curP yf_nextState (k + 1) (nI i) ya_edit (ce_A w) ya_goal (ce_A b) ya_hFrom ya_hBf ya_hBt ya_sol (r) (sk) ya_liveMark ya_liveIdx ya_liveCell ya_dist ya_sb ya_ob := by
  intro k
  induction k with
  | zero =>
    intro i r hi h
    refine br_t (nI_le (a := 64) (by omega) (by omega)) ?_
    rw [← ce_I_in hp]
    refine ys_free (by omega) ?_
    rw [gr_f1 ⟨hp, hw, hb⟩]
    refine br_f (by decide) ⟨ce_I_vp hp, nm_r (e' := upd r p 1) (by rw [rl_b1, ce_I_cl hp]) (nm_r (e' := upd sk 0 (nI p)) (by rw [ce_I_in hp]) ⟨65, ys_48 hp hpost 64 0 1 _ _ (by omega) ?_⟩)⟩
    have e0 : ce_rk (0 : Int64) 64 = 0 := by decide +kernel
    have hk := ce_rk_set hp (ce_0 p) 64
    rw [if_pos hp, e0] at hk
    refine ⟨(0 : Int64) ||| ce_bit p, fun _ => p, fun c hc => ?_, fun i hi => ?_, by omega, fun c hc => ?_, ?_, fun a d ha hd hf => ?_⟩
    · rw [← ce_A_set hp]
      by_cases q : c = p
      · rw [q, pk_us, pk_us]
      · rw [pk_un q, pk_un q, h c (by omega), ce_Af (ce_0 c)]
    · have : i = 0 := by omega
      subst this
      rw [pk_us]
      exact ⟨rfl, by rw [ce_setB hp]; simp⟩
    · rw [ce_setB hp, ce_0, Bool.false_or, decide_eq_true_eq] at hc
      subst hc
      exact (gr_areaI w b hp p).mpr (gr_lc_i rfl)
    · rw [ce_setB hp]; simp
    · rw [ce_setB hp, ce_0, Bool.false_or, decide_eq_true_eq] at ha
      exact Or.inr (Or.inl ⟨0, by omega, ha⟩)
  | succ k ih =>
    intro i r hi h
    refine br_f (nI_ge (b := 64) (by omega) (by decide)) ⟨vp_in_nI (by omega) (by decide), nm_r (e' := upd r i 0) (by rw [rl_b0, nI_clamp (by omega)]) (nm_r (nI_1 i) (ih (i + 1) _ (by omega) (fun c hc => ?_)))⟩
    by_cases q : c = i
    · rw [q, pk_us]
    · rw [pk_un q]; exact h c (by omega)
theorem ys_flood {post : SY → Prop} {w b : Int64} {p : Nat} {yf_lim yf_hs yf_started yf_pu yf_moves yf_pushes yf_hn yf_solLen yf_nB yf_nL yf_curP yf_nextState : Int32} {ya_edit ya_goal ya_hFrom ya_hBf ya_hBt ya_sol ya_reach ya_stack ya_liveMark ya_liveIdx ya_liveCell ya_dist ya_sb ya_ob : Nat → Int32} (hp : p < 64) (hw : ce_b w p = false) (hb : ce_b b p = false)
    (hpost : ∀ r sk, (∀ c, c < 64 → r c = ce_A (gr_area w b p) c) → post (yf_lim, yf_hs, yf_started, yf_pu, yf_moves, yf_pushes, yf_hn, yf_solLen, yf_nB, yf_nL, yf_curP, yf_nextState, ya_edit, ce_A w, ya_goal, ce_A b, ya_hFrom, ya_hBf, ya_hBt, ya_sol, r, sk, ya_liveMark, ya_liveIdx, ya_liveCell, ya_dist, ya_sb, ya_ob)) : wpY_flood post (yf_lim, yf_hs, yf_started, yf_pu, yf_moves, yf_pushes, yf_hn, yf_solLen, yf_nB, yf_nL, yf_curP, yf_nextState, ya_edit, ce_A w, ya_goal, ce_A b, ya_hFrom, ya_hBf, ya_hBt, ya_sol, ya_reach, ya_stack, ya_liveMark, ya_liveIdx, ya_liveCell, ya_dist, ya_sb, ya_ob) (nI p) :=
  ⟨65, ys_2 hp hw hb hpost 64 0 _ (by omega) (fun c hc => by omega)⟩
