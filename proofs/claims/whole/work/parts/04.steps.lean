/-! pushes as steps of a graph; node numbers; counts -/
def gr_mv (b : Int64) (x y : Nat) : Int64 := (b &&& (ce_bit x ^^^ (-1))) ||| ce_bit y
theorem gr_mvB {b : Int64} {x y j : Nat} (hx : x < 64) (hy : y < 64) (hj : j < 64) : ce_b (gr_mv b x y) j = ((ce_b b j && !decide (x = j)) || decide (y = j)) := by
  unfold gr_mv
  rw [ce_setB hy, ce_clrB hx hj]
theorem gr_mvT {b : Int64} {x y j : Nat} (hx : x < 64) (hy : y < 64) : ce_b (gr_mv b x y) j = true ↔ (ce_b b j = true ∧ x ≠ j) ∨ y = j := by
  rcases Nat.lt_or_ge j 64 with z | z
  · rw [gr_mvB hx hy z]
    simp only [Bool.or_eq_true, Bool.and_eq_true, Bool.not_eq_true', decide_eq_true_eq, decide_eq_false_iff_not, ne_eq]
  · rw [ce_big z, ce_big z]
    constructor
    · intro h; cases h
    · rintro (⟨h, _⟩ | h)
      · cases h
      · omega
theorem gr_mv_rk {b : Int64} {x y : Nat} (hx : ce_b b x = true) (hy : y < 64) (hb : ce_b b y = false) : ce_rk (gr_mv b x y) 64 = ce_rk b 64 := by
  have hx64 := ce_lt hx
  have h1 := ce_rk_clr hx64 hx 64 (by omega)
  have h2 : ce_b (b &&& (ce_bit x ^^^ (-1))) y = false := by rw [ce_clrB hx64 hy, hb]; rfl
  have h3 := ce_rk_set hy h2 64
  unfold gr_mv
  rw [if_pos hx64] at h1
  rw [if_pos hy] at h3
  omega
def gr_step (w lv : Int64) (s : Int64 × Nat) (c : Nat) : Option (Int64 × Nat) :=
  if ce_b s.1 (c / 4) = true ∧ ce_n (c / 4) (c % 4) < 64 ∧ ce_b w (ce_n (c / 4) (c % 4)) = false ∧ ce_b s.1 (ce_n (c / 4) (c % 4)) = false ∧ ce_b (gr_area w s.1 s.2) (ce_n (c / 4) ((c % 4 + 2) % 4)) = true ∧ ce_b lv (ce_n (c / 4) (c % 4)) = true
  then some (gr_mv s.1 (c / 4) (ce_n (c / 4) (c % 4)), c / 4) else none
def gr_so (g : Int64) (s : Int64 × Nat) : Prop := s.1 &&& (g ^^^ (-1)) = 0
theorem gr_soI (g b : Int64) : b &&& (g ^^^ (-1)) = 0 ↔ ∀ c, ce_b b c = true → ce_b g c = true := by
  constructor
  · intro h c hc
    have hc64 := ce_lt hc
    have : ce_b (b &&& (g ^^^ (-1))) c = false := by rw [h]; exact ce_0 c
    rw [ce_and, ce_not _ hc64, hc] at this
    cases z : ce_b g c
    · rw [z] at this; cases this
    · rfl
  · intro h
    apply ce_ext
    intro c hc
    rw [ce_0, ce_and, ce_not _ hc]
    cases z : ce_b b c
    · rfl
    · rw [h c z]; rfl
/-- a position of the search: the pusher on a free cell, k boxes, all on live cells -/
def gr_ok (w lv : Int64) (k : Nat) (s : Int64 × Nat) : Prop := s.2 < 64 ∧ ce_b w s.2 = false ∧ ce_b s.1 s.2 = false ∧ (∀ c, ce_b s.1 c = true → ce_b lv c = true) ∧ ce_rk s.1 64 = k
theorem gr_step_ok {w lv : Int64} {k c : Nat} {s t : Int64 × Nat} (hl : ∀ c, ce_b lv c = true → ce_b w c = false) (h : gr_ok w lv k s) (hs : gr_step w lv s c = some t) : gr_ok w lv k t := by
  unfold gr_step at hs
  split at hs
  · rename_i z
    obtain ⟨z1, z2, z3, z4, z5, z6⟩ := z
    obtain ⟨h1, h2, h3, h4, h5⟩ := h
    cases hs
    have hx := ce_lt z1
    refine ⟨hx, hl _ (h4 _ z1), ?_, ?_, ?_⟩
    · show ce_b (gr_mv s.1 (c / 4) (ce_n (c / 4) (c % 4))) (c / 4) = false
      rw [gr_mvB hx z2 hx]
      have := ce_n_ne (c / 4) hx (c % 4) (Nat.mod_lt _ (by decide))
      simp [this]
    · intro j hj
      rcases (gr_mvT hx z2).mp hj with ⟨a, _⟩ | a
      · exact h4 j a
      · subst a; exact z6
    · show ce_rk (gr_mv s.1 (c / 4) (ce_n (c / 4) (c % 4))) 64 = k
      rw [gr_mv_rk z1 z2 z4]; exact h5
  · cases hs
/-! numbers of sets of boxes -/
def gr_nm (L : Nat) (lv b : Int64) : Nat → Nat
  | 0 => 0
  | n + 1 => if ce_b b n then gr_nm L lv b n * L + ce_rk lv n else gr_nm L lv b n
theorem gr_nm0 {L : Nat} {lv b : Int64} : ∀ n, ce_rk b n = 0 → gr_nm L lv b n = 0 ∧ ∀ j, j < n → ce_b b j = false := by
  intro n
  induction n with
  | zero => exact fun _ => ⟨rfl, fun j h => by omega⟩
  | succ n ih =>
    intro h
    cases hb : ce_b b n
    · rw [ce_rk_n hb] at h
      obtain ⟨h1, h2⟩ := ih h
      refine ⟨by unfold gr_nm; rw [hb]; exact h1, fun j hj => ?_⟩
      by_cases e : j = n
      · subst e; exact hb
      · exact h2 j (by omega)
    · rw [ce_rk_s hb] at h; omega
/-- the greatest cell of a set -/
theorem gr_top {L : Nat} {lv b : Int64} {k : Nat} : ∀ n, ce_rk b n = k + 1 → ∃ x, x < n ∧ ce_b b x = true ∧ ce_rk b x = k ∧ gr_nm L lv b n = gr_nm L lv b x * L + ce_rk lv x ∧ ∀ j, x < j → j < n → ce_b b j = false := by
  intro n
  induction n with
  | zero => intro h; exact absurd h (by show ¬ 0 = k + 1; omega)
  | succ n ih =>
    intro h
    cases hb : ce_b b n
    · rw [ce_rk_n hb] at h
      obtain ⟨x, x1, x2, x3, x4, x5⟩ := ih h
      refine ⟨x, by omega, x2, x3, by rw [gr_nm, hb]; exact x4, fun j h1 h2 => ?_⟩
      by_cases e : j = n
      · subst e; exact hb
      · exact x5 j h1 (by omega)
    · rw [ce_rk_s hb] at h
      exact ⟨n, by omega, hb, by omega, by rw [gr_nm]; rw [hb]; rfl, fun j h1 h2 => by omega⟩
theorem gr_nm_inj {L : Nat} {lv : Int64} (hL : ce_rk lv 64 = L) : ∀ k {b b' : Int64} (n n' : Nat), (∀ c, ce_b b c = true → ce_b lv c = true) → (∀ c, ce_b b' c = true → ce_b lv c = true) → n ≤ 64 → n' ≤ 64 → ce_rk b n = k → ce_rk b' n' = k → gr_nm L lv b n = gr_nm L lv b' n' → ∀ j, (j < n ∧ ce_b b j = true) ↔ (j < n' ∧ ce_b b' j = true) := by
  intro k
  induction k with
  | zero =>
    intro b b' n n' _ _ _ _ h1 h2 _ j
    have a := (gr_nm0 (L := L) (lv := lv) n h1).2
    have a' := (gr_nm0 (L := L) (lv := lv) n' h2).2
    constructor
    · rintro ⟨z1, z2⟩; rw [a j z1] at z2; cases z2
    · rintro ⟨z1, z2⟩; rw [a' j z1] at z2; cases z2
  | succ k ih =>
    intro b b' n n' hb hb' hn hn' h1 h2 he j
    obtain ⟨x, x1, x2, x3, x4, x5⟩ := gr_top (L := L) (lv := lv) n h1
    obtain ⟨y, y1, y2, y3, y4, y5⟩ := gr_top (L := L) (lv := lv) n' h2
    have rx : ce_rk lv x < L := by rw [← hL]; exact ce_rk_lt (hb x x2) (ce_lt x2)
    have ry : ce_rk lv y < L := by rw [← hL]; exact ce_rk_lt (hb' y y2) (ce_lt y2)
    rw [x4, y4] at he
    have e1 : ce_rk lv x = ce_rk lv y := by
      have := congrArg (· % L) he
      simp only [Nat.mul_add_mod_self_right, Nat.mod_eq_of_lt rx, Nat.mod_eq_of_lt ry] at this
      exact this
    have e2 : gr_nm L lv b x = gr_nm L lv b' y := by
      rw [e1] at he
      have h3 : gr_nm L lv b x * L = gr_nm L lv b' y * L := by omega
      exact Nat.eq_of_mul_eq_mul_right (by omega) h3
    have exy : x = y := ce_rk_inj (hb x x2) (hb' y y2) e1
    subst exy
    have := ih x x hb hb' (by omega) (by omega) x3 y3 e2 j
    constructor
    · rintro ⟨z1, z2⟩
      rcases Nat.lt_trichotomy j x with z | z | z
      · exact ⟨by omega, (this.mp ⟨z, z2⟩).2⟩
      · subst z; exact ⟨y1, y2⟩
      · rw [x5 j z z1] at z2; cases z2
    · rintro ⟨z1, z2⟩
      rcases Nat.lt_trichotomy j x with z | z | z
      · exact ⟨by omega, (this.mpr ⟨z, z2⟩).2⟩
      · subst z; exact ⟨x1, x2⟩
      · rw [y5 j z z1] at z2; cases z2
/-- k strictly rising digits in base L -/
def gr_v (L : Nat) : Nat → Nat → Bool
  | 0, v => v == 0
  | k + 1, v => gr_v L k (v / L) && (k == 0 || decide (v / L % L < v % L))
theorem gr_nm_v {L : Nat} {lv b : Int64} (hL : ce_rk lv 64 = L) (hb : ∀ c, ce_b b c = true → ce_b lv c = true) : ∀ k n, n ≤ 64 → ce_rk b n = k → gr_v L k (gr_nm L lv b n) = true ∧ gr_nm L lv b n < L ^ k := by
  intro k
  induction k with
  | zero =>
    intro n _ h
    rw [(gr_nm0 (L := L) (lv := lv) n h).1]
    exact ⟨rfl, Nat.one_pos⟩
  | succ k ih =>
    intro n hn h
    obtain ⟨x, x1, x2, x3, x4, x5⟩ := gr_top (L := L) (lv := lv) n h
    have rx : ce_rk lv x < L := by rw [← hL]; exact ce_rk_lt (hb x x2) (ce_lt x2)
    obtain ⟨i1, i2⟩ := ih x (by omega) x3
    have d1 : gr_nm L lv b n / L = gr_nm L lv b x := by
      rw [x4, Nat.mul_comm, Nat.mul_add_div (by omega), Nat.div_eq_of_lt rx, Nat.add_zero]
    have d2 : gr_nm L lv b n % L = ce_rk lv x := by
      rw [x4, Nat.mul_add_mod_self_right, Nat.mod_eq_of_lt rx]
    constructor
    · show (gr_v L k (gr_nm L lv b n / L) && (k == 0 || decide (gr_nm L lv b n / L % L < gr_nm L lv b n % L))) = true
      rw [d1, d2, i1]
      cases k with
      | zero => rfl
      | succ k =>
        obtain ⟨y, y1, y2, y3, y4, y5⟩ := gr_top (L := L) (lv := lv) x x3
        have ry : ce_rk lv y < L := by rw [← hL]; exact ce_rk_lt (hb y y2) (ce_lt y2)
        have d3 : gr_nm L lv b x % L = ce_rk lv y := by rw [y4, Nat.mul_add_mod_self_right, Nat.mod_eq_of_lt ry]
        rw [d3, decide_eq_true (ce_rk_lt (hb y y2) y1)]
        simp
    · rw [x4, Nat.pow_succ]
      have := Nat.mul_le_mul_right L (Nat.succ_le_of_lt i2)
      rw [Nat.succ_mul] at this
      omega
/-! counts -/
def gr_ct (f : Nat → Bool) : Nat → Nat
  | 0 => 0
  | n + 1 => gr_ct f n + (if f n then 1 else 0)
theorem gr_ct_len (f : Nat → Bool) : ∀ n, gr_ct f n ≤ n := by
  intro n
  induction n with
  | zero => exact Nat.le_refl 0
  | succ n ih => unfold gr_ct; split <;> omega
theorem gr_ct_le {f g : Nat → Bool} : ∀ n, (∀ i, i < n → f i = true → g i = true) → gr_ct f n ≤ gr_ct g n := by
  intro n
  induction n with
  | zero => exact fun _ => Nat.le_refl 0
  | succ n ih =>
    intro h
    have := ih (fun i hi => h i (by omega))
    unfold gr_ct
    cases hf : f n
    · simp; omega
    · rw [h n (by omega) hf]; simp; exact this
theorem gr_ct_lt {f g : Nat → Bool} {x : Nat} (hf : f x = false) (hg : g x = true) : ∀ n, x < n → (∀ i, i < n → f i = true → g i = true) → gr_ct f n < gr_ct g n := by
  intro n
  induction n with
  | zero => intro h; omega
  | succ n ih =>
    intro hx h
    unfold gr_ct
    by_cases e : x = n
    · subst e
      have := gr_ct_le (f := f) (g := g) x (fun i hi => h i (by omega))
      rw [hf, hg]; simp; omega
    · have := ih (by omega) (fun i hi => h i (by omega))
      cases hfn : f n
      · simp; omega
      · rw [h n (by omega) hfn]; simp; exact this
theorem gr_ct_eq {f g : Nat → Bool} (n : Nat) (h : ∀ i, i < n → f i = g i) : gr_ct f n = gr_ct g n :=
  Nat.le_antisymm (gr_ct_le n (fun i hi z => by rw [← h i hi]; exact z)) (gr_ct_le n (fun i hi z => by rw [h i hi]; exact z))
theorem gr_ct_set {f g : Nat → Bool} {x : Nat} (hf : f x = false) (hg : g x = true) (h : ∀ i, i ≠ x → g i = f i) : ∀ n, gr_ct g n = gr_ct f n + (if x < n then 1 else 0) := by
  intro n
  induction n with
  | zero => rfl
  | succ n ih =>
    unfold gr_ct
    rw [ih]
    by_cases e : x = n
    · subst e; rw [hf, hg]; simp
    · rw [h n (fun z => e z.symm)]
      have e1 : (if x < n + 1 then 1 else 0 : Nat) = if x < n then 1 else 0 := by
        split <;> split <;> omega
      rw [e1]; omega
theorem gr_ct_add (f : Nat → Bool) (a : Nat) : ∀ b, gr_ct f (a + b) = gr_ct f a + gr_ct (fun i => f (a + i)) b := by
  intro b
  induction b with
  | zero => rfl
  | succ b ih =>
    show gr_ct f (a + b) + (if f (a + b) then 1 else 0) = gr_ct f a + (gr_ct (fun i => f (a + i)) b + (if f (a + b) then 1 else 0))
    rw [ih]; omega
theorem gr_ct_all : ∀ n, gr_ct (fun _ => true) n = n := by
  intro n
  induction n with
  | zero => rfl
  | succ n ih => unfold gr_ct; rw [ih]; rfl
theorem gr_ct_no : ∀ n, gr_ct (fun _ => false) n = 0 := by
  intro n
  induction n with
  | zero => rfl
  | succ n ih => unfold gr_ct; rw [ih]; rfl
theorem gr_ct_64 (g : Nat → Bool) : ∀ M, gr_ct (fun i => g (i / 64)) (64 * M) = 64 * gr_ct g M := by
  intro M
  induction M with
  | zero => rfl
  | succ M ih =>
    rw [Nat.mul_succ, gr_ct_add, ih]
    have e : gr_ct (fun i => g ((64 * M + i) / 64)) 64 = gr_ct (fun _ => g M) 64 := by
      apply gr_ct_eq
      intro i hi
      congr 1
      omega
    rw [e]
    show _ = 64 * (gr_ct g M + _)
    cases g M
    · rw [gr_ct_no]; simp
    · rw [gr_ct_all]; simp; omega
/-- the levels that the search takes -/
def gr_fit (k L : Nat) : Prop := (k = 1 ∧ L ≤ 60) ∨ (k = 2 ∧ L ≤ 8) ∨ (k = 3 ∧ L ≤ 6)
theorem gr_cap2 : ∀ L, L < 9 → gr_ct (gr_v L 2) (L ^ 2) ≤ 60 := by decide +kernel
theorem gr_cap3 : ∀ L, L < 7 → gr_ct (gr_v L 3) (L ^ 3) ≤ 60 := by decide +kernel
theorem gr_cap {k L : Nat} (h : gr_fit k L) : gr_ct (gr_v L k) (L ^ k) ≤ 60 := by
  rcases h with ⟨rfl, h⟩ | ⟨rfl, h⟩ | ⟨rfl, h⟩
  · exact Nat.le_trans (gr_ct_len _ _) (by rw [Nat.pow_one]; exact h)
  · exact gr_cap2 L (by omega)
  · exact gr_cap3 L (by omega)
theorem gr_pw2 : ∀ L, L < 9 → L ^ 2 ≤ 216 := by decide +kernel
theorem gr_pw3 : ∀ L, L < 7 → L ^ 3 ≤ 216 := by decide +kernel
theorem gr_pw {k L : Nat} (h : gr_fit k L) : L ^ k ≤ 216 := by
  rcases h with ⟨rfl, h⟩ | ⟨rfl, h⟩ | ⟨rfl, h⟩
  · rw [Nat.pow_one]; omega
  · exact gr_pw2 L (by omega)
  · exact gr_pw3 L (by omega)
/-- a node's number -/
def gr_no (L : Nat) (lv : Int64) (s : Int64 × Nat) : Nat := gr_nm L lv s.1 64 * 64 + s.2
theorem gr_no_inj {w lv : Int64} {k L : Nat} {s t : Int64 × Nat} (hL : ce_rk lv 64 = L) (hs : gr_ok w lv k s) (ht : gr_ok w lv k t) (h : gr_no L lv s = gr_no L lv t) : s = t := by
  unfold gr_no at h
  obtain ⟨s1, s2, s3, s4, s5⟩ := hs
  obtain ⟨t1, t2, t3, t4, t5⟩ := ht
  have h1 : s.2 = t.2 := by omega
  have h2 : gr_nm L lv s.1 64 = gr_nm L lv t.1 64 := by omega
  have h3 := gr_nm_inj hL k 64 64 s4 t4 (by omega) (by omega) s5 t5 h2
  have h4 : s.1 = t.1 := by
    apply ce_ext
    intro c hc
    have := h3 c
    cases z1 : ce_b s.1 c <;> cases z2 : ce_b t.1 c <;> simp_all
  exact Prod.ext h4 h1
theorem gr_no_v {w lv : Int64} {k L : Nat} {s : Int64 × Nat} (hL : ce_rk lv 64 = L) (hf : gr_fit k L) (hs : gr_ok w lv k s) : gr_v L k (gr_no L lv s / 64) = true ∧ gr_no L lv s < 64 * L ^ k ∧ gr_no L lv s < 13824 := by
  unfold gr_no
  obtain ⟨s1, s2, s3, s4, s5⟩ := hs
  obtain ⟨h1, h2⟩ := gr_nm_v hL s4 k 64 (by omega) s5
  have h3 := gr_pw hf
  have e : (gr_nm L lv s.1 64 * 64 + s.2) / 64 = gr_nm L lv s.1 64 := by omega
  rw [e]
  exact ⟨h1, by omega, by omega⟩
/-- nodes that are met are never more than fit -/
theorem gr_room {k L N x : Nat} {met : Nat → Bool} (hf : gr_fit k L) (hm : ∀ i, met i = true → gr_v L k (i / 64) = true ∧ i < 64 * L ^ k) (hN : gr_ct met (64 * L ^ k) = N) : N ≤ 3840 ∧ (gr_v L k (x / 64) = true → x < 64 * L ^ k → met x = false → N < 3840) := by
  have h1 := gr_cap hf
  have h2 := gr_ct_64 (gr_v L k) (L ^ k)
  constructor
  · have := gr_ct_le (f := met) (g := fun i => gr_v L k (i / 64)) (64 * L ^ k) (fun i hi z => (hm i z).1)
    omega
  · intro a b c
    have := gr_ct_lt (f := met) (g := fun i => gr_v L k (i / 64)) c a (64 * L ^ k) b (fun i hi z => (hm i z).1)
    omega
