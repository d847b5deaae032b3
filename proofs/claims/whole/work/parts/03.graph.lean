/-! push graphs over any states: least solutions, and a search breadth first that finds the lexically least one -/
section
variable {σ : Type} (st : σ → Nat → Option σ) (so : σ → Prop)
/-- n pushes can solve s -/
def gr_can : Nat → σ → Prop
  | 0, s => so s
  | n + 1, s => ∃ c t, c < 256 ∧ st s c = some t ∧ gr_can n t
/-- l is the lexically least list of n pushes that solves s -/
def gr_G : Nat → σ → (Nat → Nat) → Prop
  | 0, s, _ => so s
  | n + 1, s, l => ∃ t, l 0 < 256 ∧ st s (l 0) = some t ∧ (∀ c t', c < l 0 → st s c = some t' → ¬ gr_can st so n t') ∧ gr_G n t (fun i => l (i + 1))
theorem gr_G_can : ∀ n s l, gr_G st so n s l → gr_can st so n s := by
  intro n
  induction n with
  | zero => exact fun s l h => h
  | succ n ih =>
    rintro s l ⟨t, h1, h2, _, h4⟩
    exact ⟨l 0, t, h1, h2, ih t _ h4⟩
/-- N nodes are met; all codes of the nodes below j and the codes below c of node j are tried -/
def gr_B (rt : σ) (nd : Nat → σ) (pa co de : Nat → Nat) (N j c : Nat) : Prop :=
  0 < N ∧ nd 0 = rt ∧ de 0 = 0 ∧
  (∀ i, 0 < i → i < N → pa i < i ∧ (pa i < j ∨ (pa i = j ∧ co i < c)) ∧ co i < 256 ∧ st (nd (pa i)) (co i) = some (nd i) ∧ de i = de (pa i) + 1) ∧
  (∀ i k, 0 < i → i < k → k < N → pa i < pa k ∨ (pa i = pa k ∧ co i < co k)) ∧
  (∀ a e t, a < N → (a < j ∨ (a = j ∧ e < c)) → e < 256 → st (nd a) e = some t → ∃ q, q < N ∧ nd q = t ∧ (q = 0 ∨ pa q < a ∨ (pa q = a ∧ co q ≤ e))) ∧
  (∀ i, i < N → ¬ so (nd i))
/-- the search has found node F, the first that is solved -/
def gr_F (rt : σ) (nd : Nat → σ) (pa co de : Nat → Nat) (F : Nat) : Prop :=
  0 < F ∧ nd 0 = rt ∧ de 0 = 0 ∧
  (∀ i, 0 < i → i ≤ F → pa i < i ∧ co i < 256 ∧ st (nd (pa i)) (co i) = some (nd i) ∧ de i = de (pa i) + 1) ∧
  (∀ i k, 0 < i → i < k → k ≤ F → pa i < pa k ∨ (pa i = pa k ∧ co i < co k)) ∧
  (∀ a e t, (a < pa F ∨ (a = pa F ∧ e < co F)) → e < 256 → st (nd a) e = some t → ∃ q, q < F ∧ nd q = t ∧ (q = 0 ∨ pa q < a ∨ (pa q = a ∧ co q ≤ e))) ∧
  (∀ i, i < F → ¬ so (nd i)) ∧ so (nd F)
theorem gr_B0 {rt : σ} {nd : Nat → σ} {pa co de : Nat → Nat} (h0 : nd 0 = rt) (hd : de 0 = 0) (hs : ¬ so rt) : gr_B st so rt nd pa co de 1 0 0 := by
  refine ⟨by omega, h0, hd, fun i h1 h2 => by omega, fun i k h1 h2 h3 => by omega, fun a e t h1 h2 => by omega, fun i hi => ?_⟩
  have : i = 0 := by omega
  subst this
  rw [h0]; exact hs
theorem gr_Bnone {rt : σ} {nd : Nat → σ} {pa co de : Nat → Nat} {N j c : Nat} (h : gr_B st so rt nd pa co de N j c) (hn : st (nd j) c = none) : gr_B st so rt nd pa co de N j (c + 1) := by
  obtain ⟨h1, h2, h3, h4, h5, h6, h7⟩ := h
  refine ⟨h1, h2, h3, fun i hi hN => ?_, h5, fun a e t ha hj he hst => ?_, h7⟩
  · obtain ⟨a1, a2, a3, a4, a5⟩ := h4 i hi hN
    exact ⟨a1, by omega, a3, a4, a5⟩
  · by_cases z : a = j ∧ e = c
    · obtain ⟨rfl, rfl⟩ := z
      rw [hn] at hst; cases hst
    · exact h6 a e t ha (by omega) he hst
theorem gr_Bmet {rt : σ} {nd : Nat → σ} {pa co de : Nat → Nat} {N j c q : Nat} (h : gr_B st so rt nd pa co de N j c) (hq : q < N) (hs : st (nd j) c = some (nd q)) : gr_B st so rt nd pa co de N j (c + 1) := by
  obtain ⟨h1, h2, h3, h4, h5, h6, h7⟩ := h
  refine ⟨h1, h2, h3, fun i hi hN => ?_, h5, fun a e t ha hj he hst => ?_, h7⟩
  · obtain ⟨a1, a2, a3, a4, a5⟩ := h4 i hi hN
    exact ⟨a1, by omega, a3, a4, a5⟩
  · by_cases z : a = j ∧ e = c
    · obtain ⟨rfl, rfl⟩ := z
      rw [hs] at hst
      refine ⟨q, hq, Option.some.inj hst, ?_⟩
      by_cases q0 : q = 0
      · exact Or.inl q0
      · obtain ⟨_, a2, _⟩ := h4 q (by omega) hq
        omega
    · exact h6 a e t ha (by omega) he hst
theorem gr_Badd {rt : σ} {nd nd' : Nat → σ} {pa co de pa' co' de' : Nat → Nat} {N j c : Nat} {t : σ} (h : gr_B st so rt nd pa co de N j c) (hj : j < N) (hc : c < 256) (hs : st (nd j) c = some t) (ht : ¬ so t)
    (hk : ∀ i, i < N → nd' i = nd i ∧ pa' i = pa i ∧ co' i = co i ∧ de' i = de i) (hn : nd' N = t) (hp : pa' N = j) (ho : co' N = c) (hd : de' N = de j + 1) : gr_B st so rt nd' pa' co' de' (N + 1) j (c + 1) := by
  obtain ⟨h1, h2, h3, h4, h5, h6, h7⟩ := h
  refine ⟨by omega, ?_, ?_, fun i hi hN => ?_, fun i k hi hik hkN => ?_, fun a e x ha haj he hst => ?_, fun i hi => ?_⟩
  · rw [(hk 0 h1).1]; exact h2
  · rw [(hk 0 h1).2.2.2]; exact h3
  · by_cases z : i = N
    · subst z
      rw [hn, hp, ho, hd, (hk j hj).1, (hk j hj).2.2.2]
      exact ⟨hj, by omega, hc, hs, rfl⟩
    · obtain ⟨a1, a2, a3, a4, a5⟩ := h4 i hi (by omega)
      obtain ⟨k1, k2, k3, k4⟩ := hk i (by omega)
      have k5 := hk (pa i) (by omega)
      rw [k1, k2, k3, k4, k5.1, k5.2.2.2]
      exact ⟨a1, by omega, a3, a4, a5⟩
  · by_cases z : k = N
    · subst z
      obtain ⟨a1, a2, a3, a4, a5⟩ := h4 i hi (by omega)
      obtain ⟨k1, k2, k3, k4⟩ := hk i (by omega)
      rw [hp, ho, k2, k3]
      omega
    · obtain ⟨k1, k2, k3, k4⟩ := hk i (by omega)
      obtain ⟨l1, l2, l3, l4⟩ := hk k (by omega)
      rw [k2, k3, l2, l3]
      exact h5 i k hi hik (by omega)
  · by_cases z : a = j ∧ e = c
    · obtain ⟨rfl, rfl⟩ := z
      rw [(hk a hj).1, hs] at hst
      refine ⟨N, by omega, by rw [hn]; exact Option.some.inj hst, ?_⟩
      rw [hp, ho]; omega
    · have haN : a < N := by omega
      rw [(hk a haN).1] at hst
      obtain ⟨q, q1, q2, q3⟩ := h6 a e x haN (by omega) he hst
      obtain ⟨k1, k2, k3, k4⟩ := hk q q1
      refine ⟨q, by omega, by rw [k1]; exact q2, ?_⟩
      rw [k2, k3]; exact q3
  · by_cases z : i = N
    · subst z; rw [hn]; exact ht
    · rw [(hk i (by omega)).1]; exact h7 i (by omega)
theorem gr_Bnext {rt : σ} {nd : Nat → σ} {pa co de : Nat → Nat} {N j : Nat} (h : gr_B st so rt nd pa co de N j 256) : gr_B st so rt nd pa co de N (j + 1) 0 := by
  obtain ⟨h1, h2, h3, h4, h5, h6, h7⟩ := h
  refine ⟨h1, h2, h3, fun i hi hN => ?_, h5, fun a e t ha hj he hst => h6 a e t ha (by omega) he hst, h7⟩
  obtain ⟨a1, a2, a3, a4, a5⟩ := h4 i hi hN
  exact ⟨a1, by omega, a3, a4, a5⟩
theorem gr_Bfound {rt : σ} {nd nd' : Nat → σ} {pa co de pa' co' de' : Nat → Nat} {N j c : Nat} {t : σ} (h : gr_B st so rt nd pa co de N j c) (hj : j < N) (hc : c < 256) (hs : st (nd j) c = some t) (ht : so t)
    (hk : ∀ i, i < N → nd' i = nd i ∧ pa' i = pa i ∧ co' i = co i ∧ de' i = de i) (hn : nd' N = t) (hp : pa' N = j) (ho : co' N = c) (hd : de' N = de j + 1) : gr_F st so rt nd' pa' co' de' N := by
  obtain ⟨h1, h2, h3, h4, h5, h6, h7⟩ := h
  refine ⟨h1, ?_, ?_, fun i hi hN => ?_, fun i k hi hik hkN => ?_, fun a e x haj he hst => ?_, fun i hi => ?_, by rw [hn]; exact ht⟩
  · rw [(hk 0 h1).1]; exact h2
  · rw [(hk 0 h1).2.2.2]; exact h3
  · by_cases z : i = N
    · subst z
      rw [hn, hp, ho, hd, (hk j hj).1, (hk j hj).2.2.2]
      exact ⟨hj, hc, hs, rfl⟩
    · obtain ⟨a1, a2, a3, a4, a5⟩ := h4 i hi (by omega)
      obtain ⟨k1, k2, k3, k4⟩ := hk i (by omega)
      have k5 := hk (pa i) (by omega)
      rw [k1, k2, k3, k4, k5.1, k5.2.2.2]
      exact ⟨a1, a3, a4, a5⟩
  · by_cases z : k = N
    · subst z
      obtain ⟨a1, a2, a3, a4, a5⟩ := h4 i hi (by omega)
      obtain ⟨k1, k2, k3, k4⟩ := hk i (by omega)
      rw [hp, ho, k2, k3]
      omega
    · obtain ⟨k1, k2, k3, k4⟩ := hk i (by omega)
      obtain ⟨l1, l2, l3, l4⟩ := hk k (by omega)
      rw [k2, k3, l2, l3]
      exact h5 i k hi hik (by omega)
  · rw [hp, ho] at haj
    have haN : a < N := by omega
    rw [(hk a haN).1] at hst
    obtain ⟨q, q1, q2, q3⟩ := h6 a e x haN haj he hst
    obtain ⟨k1, k2, k3, k4⟩ := hk q q1
    refine ⟨q, q1, by rw [k1]; exact q2, ?_⟩
    rw [k2, k3]; exact q3
  · rw [(hk i hi).1]; exact h7 i hi
/-- depths rise with the nodes' numbers -/
theorem gr_mono {pa co de : Nat → Nat} {M : Nat} (h0 : de 0 = 0) (h4 : ∀ i, 0 < i → i < M → pa i < i ∧ de i = de (pa i) + 1) (h5 : ∀ i k, 0 < i → i < k → k < M → pa i < pa k ∨ (pa i = pa k ∧ co i < co k)) : ∀ k i, i ≤ k → k < M → de i ≤ de k := by
  intro k
  induction k using Nat.strongRecOn with
  | ind k ih =>
    intro i hi hk
    by_cases e : i = k
    · subst e; exact Nat.le_refl _
    · by_cases i0 : i = 0
      · subst i0; rw [h0]; exact Nat.zero_le _
      · obtain ⟨a1, a2⟩ := h4 i (by omega) (by omega)
        obtain ⟨b1, b2⟩ := h4 k (by omega) hk
        have := h5 i k (by omega) (by omega) hk
        have := ih (pa k) b1 (pa i) (by omega) (by omega)
        omega
theorem gr_low {rt : σ} {nd : Nat → σ} {pa co de : Nat → Nat} {F : Nat} (h : gr_F st so rt nd pa co de F) : ∀ m i, i ≤ F → de i + m < de F → ¬ gr_can st so m (nd i) := by
  obtain ⟨h1, h2, h3, h4, h5, h6, h7, h8⟩ := h
  have mono := gr_mono (pa := pa) (co := co) (de := de) (M := F + 1) h3 (fun i hi hF => ⟨(h4 i hi (by omega)).1, (h4 i hi (by omega)).2.2.2⟩) (fun i k hi hik hk => h5 i k hi hik (by omega))
  intro m
  induction m with
  | zero =>
    intro i hi hd hc
    by_cases e : i = F
    · subst e; omega
    · exact h7 i (by omega) hc
  | succ m ih =>
    rintro i hi hd ⟨c, t, hc, hst, hcan⟩
    have hF := (h4 F h1 (Nat.le_refl F))
    have hlt : i < pa F := by
      apply Nat.not_le.mp
      intro z
      have := mono i (pa F) z (by omega)
      omega
    obtain ⟨q, q1, q2, q3⟩ := h6 i c t (Or.inl hlt) hc hst
    have hq : de q ≤ de i + 1 := by
      by_cases q0 : q = 0
      · subst q0; omega
      · obtain ⟨_, _, _, b4⟩ := h4 q (by omega) (by omega)
        have := mono i (pa q) (by omega) (by omega)
        omega
    refine ih q (by omega) (by omega) ?_
    rw [q2]; exact hcan
def gr_up (pa : Nat → Nat) : Nat → Nat → Nat
  | 0, k => k
  | n + 1, k => pa (gr_up pa n k)
theorem gr_upF {rt : σ} {nd : Nat → σ} {pa co de : Nat → Nat} {F : Nat} (h : gr_F st so rt nd pa co de F) : ∀ m, m ≤ de F → gr_up pa m F ≤ F ∧ de (gr_up pa m F) + m = de F := by
  obtain ⟨h1, h2, h3, h4, h5, h6, h7, h8⟩ := h
  intro m
  induction m with
  | zero => exact fun _ => ⟨Nat.le_refl F, rfl⟩
  | succ m ih =>
    intro hm
    obtain ⟨a1, a2⟩ := ih (by omega)
    have hp : 0 < gr_up pa m F := by
      apply Nat.pos_of_ne_zero
      intro z
      rw [z, h3] at a2
      omega
    obtain ⟨b1, _, _, b4⟩ := h4 _ hp a1
    show pa (gr_up pa m F) ≤ F ∧ de (pa (gr_up pa m F)) + (m + 1) = de F
    omega
theorem gr_left {rt : σ} {nd : Nat → σ} {pa co de : Nat → Nat} {F : Nat} (h : gr_F st so rt nd pa co de F) : ∀ m, m ≤ de F → ∀ i, i < gr_up pa m F → ¬ gr_can st so m (nd i) := by
  have hup := gr_upF st so h
  obtain ⟨h1, h2, h3, h4, h5, h6, h7, h8⟩ := h
  intro m
  induction m with
  | zero => exact fun _ i hi hc => h7 i hi hc
  | succ m ih =>
    rintro hm i hi ⟨c, t, hc, hst, hcan⟩
    have hi : i < pa (gr_up pa m F) := hi
    obtain ⟨a1, a2⟩ := hup m (by omega)
    have hp : 0 < gr_up pa m F := by
      apply Nat.pos_of_ne_zero
      intro z
      rw [z, h3] at a2
      omega
    have hle : pa (gr_up pa m F) ≤ pa F := by
      by_cases e : gr_up pa m F = F
      · rw [e]; exact Nat.le_refl _
      · have := h5 _ F hp (by omega) (Nat.le_refl F)
        omega
    obtain ⟨q, q1, q2, q3⟩ := h6 i c t (Or.inl (by omega)) hc hst
    have hq : q < gr_up pa m F := by
      apply Nat.not_le.mp
      intro z
      by_cases e : gr_up pa m F = q
      · rw [← e] at q3; omega
      · have := h5 _ q hp (by omega) (by omega)
        omega
    refine ih (by omega) q hq ?_
    rw [q2]; exact hcan
theorem gr_path {rt : σ} {nd : Nat → σ} {pa co de : Nat → Nat} {F : Nat} (h : gr_F st so rt nd pa co de F) {sp : Nat → Nat} (hsp : ∀ i, i < de F → sp i = co (gr_up pa (de F - 1 - i) F)) : ∀ m, m ≤ de F → gr_G st so m (nd (gr_up pa m F)) (fun i => sp (de F - m + i)) := by
  have hup := gr_upF st so h
  have hleft := gr_left st so h
  obtain ⟨h1, h2, h3, h4, h5, h6, h7, h8⟩ := h
  intro m
  induction m with
  | zero => exact fun _ => h8
  | succ m ih =>
    intro hm
    obtain ⟨a1, a2⟩ := hup m (by omega)
    have hp : 0 < gr_up pa m F := by
      apply Nat.pos_of_ne_zero
      intro z
      rw [z, h3] at a2
      omega
    obtain ⟨b1, b2, b3, b4⟩ := h4 _ hp a1
    have e0 : sp (de F - (m + 1) + 0) = co (gr_up pa m F) := by
      rw [hsp _ (by omega)]
      congr 2
      omega
    have e1 : (fun i => sp (de F - (m + 1) + (i + 1))) = (fun i => sp (de F - m + i)) := by
      funext i
      congr 1
      omega
    refine ⟨nd (gr_up pa m F), ?_, ?_, ?_, ?_⟩
    · show sp (de F - (m + 1) + 0) < 256
      rw [e0]; exact b2
    · show st (nd (pa (gr_up pa m F))) (sp (de F - (m + 1) + 0)) = _
      rw [e0]; exact b3
    · intro c t' hc hst
      have hc : c < co (gr_up pa m F) := by rw [← e0]; exact hc
      have hcl : pa (gr_up pa m F) < pa F ∨ (pa (gr_up pa m F) = pa F ∧ c < co F) := by
        by_cases e : gr_up pa m F = F
        · rw [e] at hc ⊢; exact Or.inr ⟨rfl, hc⟩
        · have := h5 _ F hp (by omega) (Nat.le_refl F)
          omega
      obtain ⟨q, q1, q2, q3⟩ := h6 _ c t' hcl (by omega) hst
      have hq : q < gr_up pa m F := by
        apply Nat.not_le.mp
        intro z
        by_cases e : gr_up pa m F = q
        · rw [← e] at q3; omega
        · have := h5 _ q hp (by omega) (by omega)
          omega
      rw [← q2]
      exact hleft m (by omega) q hq
    · show gr_G st so m (nd (gr_up pa m F)) (fun i => sp (de F - (m + 1) + (i + 1)))
      rw [e1]
      exact ih (by omega)
theorem gr_done {rt : σ} {nd : Nat → σ} {pa co de : Nat → Nat} {F : Nat} (h : gr_F st so rt nd pa co de F) {sp : Nat → Nat} (hsp : ∀ i, i < de F → sp i = co (gr_up pa (de F - 1 - i) F)) : gr_G st so (de F) rt sp ∧ ∀ m, m < de F → ¬ gr_can st so m rt := by
  have hup := gr_upF st so h (de F) (Nat.le_refl _)
  have hpath := gr_path st so h hsp (de F) (Nat.le_refl _)
  have hlow := gr_low st so h
  obtain ⟨h1, h2, h3, h4, h5, h6, h7, h8⟩ := h
  have e : gr_up pa (de F) F = 0 := by
    apply Classical.byContradiction
    intro z
    obtain ⟨_, _, _, b4⟩ := h4 (gr_up pa (de F) F) (by omega) hup.1
    omega
  constructor
  · rw [e, h2] at hpath
    have e1 : (fun i => sp (de F - de F + i)) = sp := by
      funext i
      congr 1
      omega
    rw [e1] at hpath
    exact hpath
  · intro m hm
    rw [← h2]
    exact hlow m 0 (by omega) (by omega)
theorem gr_fail {rt : σ} {nd : Nat → σ} {pa co de : Nat → Nat} {N j P : Nat} (h : gr_B st so rt nd pa co de N j 0) (hj : j = N ∨ (j < N ∧ P ≤ de j)) : ∀ m, m ≤ P → ¬ gr_can st so m rt := by
  obtain ⟨h1, h2, h3, h4, h5, h6, h7⟩ := h
  have mono := gr_mono (pa := pa) (co := co) (de := de) (M := N) h3 (fun i hi hN => ⟨(h4 i hi hN).1, (h4 i hi hN).2.2.2.2⟩) h5
  have key : ∀ m i, i < N → de i + m ≤ P → ¬ gr_can st so m (nd i) := by
    intro m
    induction m with
    | zero => exact fun i hi _ hc => h7 i hi hc
    | succ m ih =>
      rintro i hi hd ⟨c, t, hc, hst, hcan⟩
      have hlt : i < j := by
        rcases hj with e | ⟨e1, e2⟩
        · omega
        · apply Nat.not_le.mp
          intro z
          have := mono i j z hi
          omega
      obtain ⟨q, q1, q2, q3⟩ := h6 i c t hi (Or.inl hlt) hc hst
      have hq : de q ≤ de i + 1 := by
        by_cases q0 : q = 0
        · subst q0; omega
        · obtain ⟨_, _, _, _, b4⟩ := h4 q (by omega) q1
          have := mono i (pa q) (by omega) hi
          omega
      refine ih q q1 (by omega) ?_
      rw [q2]; exact hcan
  intro m hm
  rw [← h2]
  exact key m 0 h1 (by omega)
end
