/-! tuples of cells as digits; the reference's table of distances -/
def gr_cd (L : Nat) (ix : Nat → Nat) : Nat → Nat
  | 0 => 0
  | k + 1 => gr_cd L ix k * L + ix k
def gr_dg (L B v k : Nat) : Nat := v / L ^ (B - 1 - k) % L
theorem gr_cd_lt {L : Nat} {ix : Nat → Nat} : ∀ B, (∀ j, j < B → ix j < L) → gr_cd L ix B < L ^ B := by
  intro B
  induction B with
  | zero => intro _; exact Nat.one_pos
  | succ B ih =>
    intro h
    have h1 := ih (fun j hj => h j (by omega))
    have h2 := h B (by omega)
    show gr_cd L ix B * L + ix B < L ^ (B + 1)
    rw [Nat.pow_succ]
    have := Nat.mul_le_mul_right L (Nat.succ_le_of_lt h1)
    rw [Nat.succ_mul] at this
    omega
theorem gr_dg_cd {L : Nat} {ix : Nat → Nat} : ∀ B, (∀ j, j < B → ix j < L) → ∀ k, k < B → gr_dg L B (gr_cd L ix B) k = ix k := by
  intro B
  induction B with
  | zero => intro _ k hk; omega
  | succ B ih =>
    intro h k hk
    have h2 := h B (by omega)
    have hL : 0 < L := by omega
    unfold gr_dg
    by_cases e : k = B
    · subst e
      rw [show k + 1 - 1 - k = 0 by omega, Nat.pow_zero, Nat.div_one]
      show (gr_cd L ix k * L + ix k) % L = ix k
      rw [Nat.mul_add_mod_self_right, Nat.mod_eq_of_lt h2]
    · rw [show B + 1 - 1 - k = (B - 1 - k) + 1 by omega, Nat.pow_succ', ← Nat.div_div_eq_div_mul]
      have e2 : gr_cd L ix (B + 1) / L = gr_cd L ix B := by
        show (gr_cd L ix B * L + ix B) / L = gr_cd L ix B
        rw [Nat.mul_comm, Nat.mul_add_div hL, Nat.div_eq_of_lt h2, Nat.add_zero]
      rw [e2]
      exact ih (fun j hj => h j (by omega)) k (by omega)
theorem gr_cd_congr {L : Nat} {ix iy : Nat → Nat} : ∀ B, (∀ j, j < B → ix j = iy j) → gr_cd L ix B = gr_cd L iy B := by
  intro B
  induction B with
  | zero => intro _; rfl
  | succ B ih =>
    intro h
    show gr_cd L ix B * L + ix B = gr_cd L iy B * L + iy B
    rw [ih (fun j hj => h j (by omega)), h B (by omega)]
/-- the set of the cells of a tuple -/
def gr_ms (cl : Nat → Nat) : Nat → Int64
  | 0 => 0
  | k + 1 => gr_ms cl k ||| ce_bit (cl k)
theorem gr_msT {cl : Nat → Nat} : ∀ B, (∀ j, j < B → cl j < 64) → ∀ c, ce_b (gr_ms cl B) c = true ↔ ∃ j, j < B ∧ cl j = c := by
  intro B
  induction B with
  | zero => intro _ c; rw [gr_ms, ce_0]; exact ⟨fun h => (by cases h), fun ⟨j, h, _⟩ => absurd h (by omega)⟩
  | succ B ih =>
    intro h c
    rw [gr_ms, ce_setB (h B (by omega)), Bool.or_eq_true, ih (fun j hj => h j (by omega)), decide_eq_true_eq]
    constructor
    · rintro (⟨j, h1, h2⟩ | h1)
      · exact ⟨j, by omega, h2⟩
      · exact ⟨B, by omega, h1⟩
    · rintro ⟨j, h1, h2⟩
      by_cases e : j = B
      · subst e; exact Or.inr h2
      · exact Or.inl ⟨j, by omega, h2⟩
theorem gr_ms_congr {cl cm : Nat → Nat} : ∀ B, (∀ j, j < B → cl j = cm j) → gr_ms cl B = gr_ms cm B := by
  intro B
  induction B with
  | zero => intro _; rfl
  | succ B ih =>
    intro h
    rw [gr_ms, gr_ms, ih (fun j hj => h j (by omega)), h B (by omega)]
theorem gr_ms_rk {cl : Nat → Nat} : ∀ B, (∀ j, j < B → cl j < 64) → (∀ i j, i < j → j < B → cl i ≠ cl j) → ce_rk (gr_ms cl B) 64 = B := by
  intro B
  induction B with
  | zero => intro _ _; rw [gr_ms]; decide +kernel
  | succ B ih =>
    intro h hd
    have h1 := ih (fun j hj => h j (by omega)) (fun i j hi hj => hd i j hi (by omega))
    have h2 : ce_b (gr_ms cl B) (cl B) = false := by
      apply ts_nt
      intro z
      obtain ⟨j, z1, z2⟩ := (gr_msT B (fun j hj => h j (by omega)) _).mp z
      exact hd j B z1 (by omega) z2
    rw [gr_ms, ce_rk_set (h B (by omega)) h2, if_pos (h B (by omega)), h1]
def gr_rp (cl : Nat → Nat) (k a : Nat) : Nat → Nat := fun j => if j = k then a else cl j
theorem gr_ms_mv {cl : Nat → Nat} {B k a : Nat} (h : ∀ j, j < B → cl j < 64) (hd : ∀ i j, i < B → j < B → i ≠ j → cl i ≠ cl j) (hk : k < B) (ha : a < 64) : gr_ms (gr_rp cl k a) B = gr_mv (gr_ms cl B) (cl k) a := by
  have h' : ∀ j, j < B → gr_rp cl k a j < 64 := by
    intro j hj
    unfold gr_rp
    split
    · exact ha
    · exact h j hj
  apply ce_ext
  intro c hc
  have e : ce_b (gr_ms (gr_rp cl k a) B) c = true ↔ ce_b (gr_mv (gr_ms cl B) (cl k) a) c = true := by
    rw [gr_msT B h', gr_mvT (h k hk) ha, gr_msT B h]
    constructor
    · rintro ⟨j, h1, h2⟩
      by_cases e : j = k
      · subst e
        rw [gr_rp, if_pos rfl] at h2
        exact Or.inr h2
      · rw [gr_rp, if_neg e] at h2
        subst h2
        exact Or.inl ⟨⟨j, h1, rfl⟩, hd k j hk h1 (fun z => e z.symm)⟩
    · rintro (⟨⟨j, h1, h2⟩, h3⟩ | h1)
      · subst h2
        refine ⟨j, h1, ?_⟩
        rw [gr_rp, if_neg]
        intro z
        subst z
        exact h3 rfl
      · exact ⟨k, hk, by rw [gr_rp, if_pos rfl]; exact h1⟩
  cases z1 : ce_b (gr_ms (gr_rp cl k a) B) c <;> cases z2 : ce_b (gr_mv (gr_ms cl B) (cl k) a) c <;> simp_all
/-- the j-th live cell -/
def gr_sel (lv : Int64) : Nat → Nat → Nat
  | 0, _ => 0
  | n + 1, j => if ce_b lv n = true ∧ ce_rk lv n = j then n else gr_sel lv n j
theorem gr_sel_rk {lv : Int64} {c : Nat} (hc : ce_b lv c = true) : ∀ n, c < n → gr_sel lv n (ce_rk lv c) = c := by
  intro n
  induction n with
  | zero => intro h; omega
  | succ n ih =>
    intro h
    unfold gr_sel
    split
    · rename_i z
      exact ce_rk_inj z.1 hc z.2
    · rename_i z
      by_cases e : c = n
      · subst e; exact absurd ⟨hc, rfl⟩ z
      · exact ih (by omega)
theorem gr_sel_ok {lv : Int64} {j : Nat} : ∀ n, j < ce_rk lv n → ce_b lv (gr_sel lv n j) = true ∧ ce_rk lv (gr_sel lv n j) = j := by
  intro n
  induction n with
  | zero => intro h; exact absurd h (by show ¬ j < 0; omega)
  | succ n ih =>
    intro h
    unfold gr_sel
    split
    · rename_i z; exact z
    · rename_i z
      apply ih
      cases hb : ce_b lv n
      · rw [ce_rk_n hb] at h; exact h
      · rw [ce_rk_s hb] at h
        have : ¬ ce_rk lv n = j := fun e => z ⟨hb, e⟩
        omega
/-! the table of distances over any states -/
section
variable {σ : Type} (st : σ → Nat → Option σ) (so : σ → Prop) (V : Nat → Prop) (ab : Nat → σ) (en : Nat → Nat → Nat) (n : Nat)
def gr_VA (di : Nat → Nat) : Prop := ∀ s, s < n → V s → di s ≤ 1000 ∧ (di s < 1000 → gr_can st so (di s) (ab s))
def gr_VB (di : Nat → Nat) (r : Nat) : Prop := ∀ s, s < n → V s → ∀ m, m ≤ r → gr_can st so m (ab s) → di s ≤ m
/-- what one state's turn finds -/
def gr_RX (di : Nat → Nat) (s be : Nat) : Prop := be ≤ di s ∧ (∀ c t, c < 256 → st (ab s) c = some t → be ≤ di (en s c) + 1) ∧ (be = di s ∨ ∃ c t, c < 256 ∧ st (ab s) c = some t ∧ be = di (en s c) + 1)
/-- in round r + 1, with the states below i done -/
def gr_VR (d0 di : Nat → Nat) (ch : Bool) (r i : Nat) : Prop :=
  gr_VA st so V ab n di ∧ gr_VB st so V ab n di r ∧
  (∀ s, s < i → s < n → V s → ∀ m, m ≤ r + 1 → gr_can st so m (ab s) → di s ≤ m) ∧
  (ch = false → (∀ s, s < n → di s = d0 s) ∧ ∀ s, s < i → s < n → V s → 0 < di s → ∀ c t, c < 256 → st (ab s) c = some t → di s ≤ di (en s c) + 1)
theorem gr_VR0 {di : Nat → Nat} {r : Nat} (ha : gr_VA st so V ab n di) (hb : gr_VB st so V ab n di r) : gr_VR st so V ab en n di di false r 0 :=
  ⟨ha, hb, fun s h => by omega, fun _ => ⟨fun _ _ => rfl, fun s h => by omega⟩⟩
theorem gr_VRskip {d0 di : Nat → Nat} {ch : Bool} {r i : Nat} (h : gr_VR st so V ab en n d0 di ch r i) (hv : ¬ V i ∨ di i = 0) : gr_VR st so V ab en n d0 di ch r (i + 1) := by
  obtain ⟨h1, h2, h3, h4⟩ := h
  refine ⟨h1, h2, fun s hs hn hV m hm hc => ?_, fun hch => ⟨(h4 hch).1, fun s hs hn hV h0 c t hc hst => ?_⟩⟩
  · by_cases e : s = i
    · subst e
      rcases hv with z | z
      · exact absurd hV z
      · omega
    · exact h3 s (by omega) hn hV m hm hc
  · by_cases e : s = i
    · subst e
      rcases hv with z | z
      · exact absurd hV z
      · omega
    · exact (h4 hch).2 s (by omega) hn hV h0 c t hc hst
theorem gr_VRkeep {d0 di : Nat → Nat} {ch : Bool} {r i : Nat} (hen : ∀ s c t, s < n → V s → c < 256 → st (ab s) c = some t → en s c < n ∧ V (en s c) ∧ ab (en s c) = t) (h : gr_VR st so V ab en n d0 di ch r i) (hi : i < n) (hv : V i) (hx : gr_RX st ab en di i (di i)) (h0 : 0 < di i) : gr_VR st so V ab en n d0 di ch r (i + 1) := by
  obtain ⟨h1, h2, h3, h4⟩ := h
  obtain ⟨x1, x2, x3⟩ := hx
  refine ⟨h1, h2, fun s hs hn hV m hm hc => ?_, fun hch => ⟨(h4 hch).1, fun s hs hn hV h0 c t hc hst => ?_⟩⟩
  · by_cases e : s = i
    · subst e
      cases m with
      | zero => exact h2 s hn hV 0 (by omega) hc
      | succ m =>
        obtain ⟨c, t, c1, c2, c3⟩ := hc
        obtain ⟨e1, e2, e3⟩ := hen s c t hn hV c1 c2
        have := h2 _ e1 e2 m (by omega) (by rw [e3]; exact c3)
        have := x2 c t c1 c2
        omega
    · exact h3 s (by omega) hn hV m hm hc
  · by_cases e : s = i
    · subst e; exact x2 c t hc hst
    · exact (h4 hch).2 s (by omega) hn hV h0 c t hc hst
theorem gr_VRput {d0 di di' : Nat → Nat} {ch : Bool} {r i be : Nat} (hen : ∀ s c t, s < n → V s → c < 256 → st (ab s) c = some t → en s c < n ∧ V (en s c) ∧ ab (en s c) = t) (h : gr_VR st so V ab en n d0 di ch r i) (hi : i < n) (hv : V i) (hx : gr_RX st ab en di i be) (hl : be < di i) (hp : di' i = be) (hk : ∀ s, s ≠ i → di' s = di s) : gr_VR st so V ab en n d0 di' true r (i + 1) := by
  obtain ⟨h1, h2, h3, h4⟩ := h
  obtain ⟨x1, x2, x3⟩ := hx
  have le : ∀ s, di' s ≤ di s := by
    intro s
    by_cases e : s = i
    · subst e; omega
    · rw [hk s e]; exact Nat.le_refl _
  refine ⟨fun s hn hV => ?_, fun s hn hV m hm hc => Nat.le_trans (le s) (h2 s hn hV m hm hc), fun s hs hn hV m hm hc => ?_, fun hch => (by cases hch)⟩
  · by_cases e : s = i
    · subst e
      obtain ⟨a1, a2⟩ := h1 s hn hV
      rw [hp]
      refine ⟨by omega, fun _ => ?_⟩
      rcases x3 with z | ⟨c, t, c1, c2, c3⟩
      · omega
      · obtain ⟨e1, e2, e3⟩ := hen s c t hn hV c1 c2
        obtain ⟨b1, b2⟩ := h1 _ e1 e2
        rw [c3]
        refine ⟨c, t, c1, c2, ?_⟩
        rw [← e3]
        exact b2 (by omega)
    · rw [hk s e]; exact h1 s hn hV
  · by_cases e : s = i
    · subst e
      rw [hp]
      cases m with
      | zero => have := h2 s hn hV 0 (by omega) hc; omega
      | succ m =>
        obtain ⟨c, t, c1, c2, c3⟩ := hc
        obtain ⟨e1, e2, e3⟩ := hen s c t hn hV c1 c2
        have := h2 _ e1 e2 m (by omega) (by rw [e3]; exact c3)
        have := x2 c t c1 c2
        omega
    · exact Nat.le_trans (le s) (h3 s (by omega) hn hV m hm hc)
theorem gr_VRend {d0 di : Nat → Nat} {ch : Bool} {r : Nat} (h : gr_VR st so V ab en n d0 di ch r n) : gr_VA st so V ab n di ∧ gr_VB st so V ab n di (r + 1) :=
  ⟨h.1, fun s hn hV m hm hc => h.2.2.1 s hn hn hV m hm hc⟩
theorem gr_VRfix {d0 di : Nat → Nat} {r : Nat} (hen : ∀ s c t, s < n → V s → c < 256 → st (ab s) c = some t → en s c < n ∧ V (en s c) ∧ ab (en s c) = t) (h : gr_VR st so V ab en n d0 di false r n) : ∀ q, gr_VB st so V ab n di q := by
  obtain ⟨h1, h2, h3, h4⟩ := h
  have h5 := (h4 rfl).2
  have key : ∀ m s, s < n → V s → gr_can st so m (ab s) → di s ≤ m := by
    intro m
    induction m with
    | zero => exact fun s hn hV hc => h2 s hn hV 0 (by omega) hc
    | succ m ih =>
      rintro s hn hV ⟨c, t, c1, c2, c3⟩
      obtain ⟨e1, e2, e3⟩ := hen s c t hn hV c1 c2
      have := ih _ e1 e2 (by rw [e3]; exact c3)
      by_cases z : 0 < di s
      · have := h5 s hn hn hV z c t c1 c2
        omega
      · omega
  exact fun q s hn hV m _ hc => key m s hn hV hc
/-- a least list's next push is the one that the table shows -/
theorem gr_next {di : Nat → Nat} {D s : Nat} {l : Nat → Nat} (hen : ∀ s c t, s < n → V s → c < 256 → st (ab s) c = some t → en s c < n ∧ V (en s c) ∧ ab (en s c) = t) (ha : gr_VA st so V ab n di) (hb : gr_VB st so V ab n di (D + 1)) (hs : s < n) (hv : V s) (hd : di s = D + 1) (hD : D < 999) (hG : gr_G st so (D + 1) (ab s) l) :
    l 0 < 256 ∧ (∃ t, st (ab s) (l 0) = some t ∧ di (en s (l 0)) = D ∧ gr_G st so D (ab (en s (l 0))) (fun i => l (i + 1))) ∧ ∀ c t, c < l 0 → st (ab s) c = some t → di (en s c) ≠ D := by
  obtain ⟨t, g1, g2, g3, g4⟩ := hG
  obtain ⟨e1, e2, e3⟩ := hen s (l 0) t hs hv g1 g2
  have h1 := hb _ e1 e2 D (by omega) (by rw [e3]; exact gr_G_can st so D t _ g4)
  obtain ⟨a1, a2⟩ := ha _ e1 e2
  have h2 := a2 (by omega)
  have h3 := hb s hs hv (di (en s (l 0)) + 1) (by omega) ⟨l 0, t, g1, g2, by rw [← e3]; exact h2⟩
  refine ⟨g1, ⟨t, g2, by omega, by rw [e3]; exact g4⟩, fun c t' hc hst hdi => ?_⟩
  obtain ⟨f1, f2, f3⟩ := hen s c t' hs hv (by omega) hst
  obtain ⟨b1, b2⟩ := ha _ f1 f2
  refine g3 c t' hc hst ?_
  rw [← f3, ← hdi]
  exact b2 (by omega)
theorem gr_dist {di : Nat → Nat} {P s : Nat} (ha : gr_VA st so V ab n di) (hs : s < n) (hv : V s) (hP : P ≤ 40) (hb : (di s ≤ P → gr_VB st so V ab n di (di s)) ∧ (P < di s → gr_VB st so V ab n di P)) :
    (∀ D, D ≤ P → gr_can st so D (ab s) → (∀ m, m < D → ¬ gr_can st so m (ab s)) → di s = D) ∧ ((∀ m, m ≤ P → ¬ gr_can st so m (ab s)) → P < di s) := by
  obtain ⟨a1, a2⟩ := ha s hs hv
  constructor
  · intro D hD hc hm
    by_cases z : di s ≤ P
    · have h1 : gr_can st so (di s) (ab s) := a2 (by omega)
      have h2 : ¬ di s < D := fun q => hm _ q h1
      by_cases q : di s = D
      · exact q
      · have := hb.1 z s hs hv D (by omega) hc
        omega
    · have := hb.2 (by omega) s hs hv D hD hc
      omega
  · intro hm
    apply Nat.not_le.mp
    intro z
    exact hm _ z (a2 (by omega))
end
