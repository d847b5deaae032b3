section
/-! rows of kit/rows, pasted -/
theorem pk_sub {a b : Nat} (h : b ≤ a) : nI a - nI b = nI (a - b) := by
  obtain ⟨c, rfl⟩ : ∃ c, a = c + b := ⟨a - b, by omega⟩
  rw [← nI_add, Int32.add_sub_cancel, Nat.add_sub_cancel]
theorem pk_m1 (n : Nat) : nI (n + 1) + (-1) = nI n := by
  rw [← nI_1, Int32.add_assoc, show (1 : Int32) + (-1) = 0 from rfl, Int32.add_zero]
theorem pk_mul (a b : Nat) : nI a * nI b = nI (a * b) := (Int32.ofNat_mul a b).symm
theorem pk_div {a d : Nat} (ha : a < 2 ^ 31) (h0 : 0 < d) (hd : d < 2 ^ 31) : nI a / nI d = nI (a / d) := by
  apply Int32.toInt_inj.mp
  rw [lg_idiv_nonneg (by rw [nI_toInt ha]; omega) (by rw [nI_toInt hd]; omega), nI_toInt ha, nI_toInt hd, nI_toInt (Nat.lt_of_le_of_lt (Nat.div_le_self a d) ha)]
  first | rfl | exact (Int.natCast_ediv _ _).symm
theorem pk_rem {a d : Nat} (ha : a < 2 ^ 31) (h0 : 0 < d) (hd : d < 2 ^ 31) : nI a - nI a / nI d * nI d = nI (a % d) := by
  rw [pk_div ha h0 hd, pk_mul, pk_sub (Nat.div_mul_le_self a d)]
  exact congrArg nI (by have := Nat.div_add_mod' a d; omega)
theorem pk_sub_toInt {a b : Nat} (ha : a < 2 ^ 30) (hb : b < 2 ^ 30) : (nI a - nI b).toInt = (a : Int) - b := by
  rw [Int32.toInt_sub, nI_toInt (by omega), nI_toInt (by omega)]
  exact Int.bmod_eq_of_le (by omega) (by omega)
theorem pk_sneg {a b : Nat} (hb : b < 2 ^ 30) (h : a < b) : nI a - nI b < 0 := by
  rw [Int32.lt_iff_toInt_lt, pk_sub_toInt (by omega) hb, show (0 : Int32).toInt = 0 from by decide]
  omega
theorem pk_le {x y : Int32} {A B : Prop} (a b : Nat) (f : a ≤ b → A) (g : b < a → B) (hx : x = nI a := by rfl) (hy : y = nI b := by rfl) (ha : a < 2 ^ 31 := by omega) (hb : b < 2 ^ 31 := by omega) : (x ≤ y → A) ∧ (¬ x ≤ y → B) := by
  subst hx hy
  rw [nI_leI ha hb]
  exact ⟨f, fun z => g (by omega)⟩
theorem pk_lt {x y : Int32} {A B : Prop} (a b : Nat) (f : a < b → A) (g : b ≤ a → B) (hx : x = nI a := by rfl) (hy : y = nI b := by rfl) (ha : a < 2 ^ 31 := by omega) (hb : b < 2 ^ 31 := by omega) : (x < y → A) ∧ (¬ x < y → B) := by
  subst hx hy
  rw [nI_ltI ha hb]
  exact ⟨f, fun z => g (by omega)⟩
theorem pk_eq {x y : Int32} {A B : Prop} (a b : Nat) (f : a = b → A) (g : a ≠ b → B) (hx : x = nI a := by rfl) (hy : y = nI b := by rfl) (ha : a < 2 ^ 31 := by omega) (hb : b < 2 ^ 31 := by omega) : (x = y → A) ∧ (¬ x = y → B) := by
  subst hx hy
  rw [nI_eq ha hb]
  exact ⟨f, g⟩
theorem pk_in {x : Int32} (n N : Nat) (h : n < N) (hx : x = nI n := by rfl) (hN : N < 2 ^ 31 := by omega) : vp_in x N := by
  subst hx
  exact vp_in_nI h hN
theorem pk_cl {x : Int32} (n : Nat) (hx : x = nI n := by rfl) (h : n < 2 ^ 31 := by omega) : x.toNatClampNeg = n := by
  subst hx
  exact nI_clamp h
theorem pk_tn {n : Nat} (h : n < 2 ^ 32) : (nI n).toBitVec.toNat = n := Nat.mod_eq_of_lt h
theorem pk_and (x : Int32) {m : Int32} (k : Nat) (hm : m.toBitVec.toNat = 2 ^ k - 1) : x &&& m = nI (x.toBitVec.toNat % 2 ^ k) := by
  apply Int32.toBitVec_inj.mp
  apply BitVec.eq_of_toNat_eq
  rw [Int32.toBitVec_and, BitVec.toNat_and, hm, Nat.and_two_pow_sub_one_eq_mod]
  show _ = (BitVec.ofNat 32 _).toNat
  rw [BitVec.toNat_ofNat]
  exact (Nat.mod_eq_of_lt (Nat.lt_of_le_of_lt (Nat.mod_le _ _) x.toBitVec.isLt)).symm
theorem pk_andN {n : Nat} (h : n < 2 ^ 32) {m : Int32} (k : Nat) (hm : m.toBitVec.toNat = 2 ^ k - 1) : nI n &&& m = nI (n % 2 ^ k) := by
  rw [pk_and _ k hm, pk_tn h]
theorem pk_shr (a s : Int32) (k : Nat) (hs : (s.toBitVec.smod 32).toNat = k) : (a >>> s).toInt = a.toInt >>> k := by
  show (a.toBitVec.sshiftRight (s.toBitVec.smod 32).toNat).toInt = _
  rw [hs, BitVec.toInt_sshiftRight]
  rfl
theorem pk_shrN {n : Nat} (h : n < 2 ^ 31) (s : Int32) (k : Nat) (hs : (s.toBitVec.smod 32).toNat = k) : nI n >>> s = nI (n / 2 ^ k) := by
  apply Int32.toInt_inj.mp
  have h2 : n / 2 ^ k ≤ n := Nat.div_le_self _ _
  rw [pk_shr _ _ k hs, nI_toInt h, nI_toInt (by omega), Int.shiftRight_eq_div_pow]
  rfl
theorem pk_loop {σ : Type} (W : Nat → Nat → σ → Prop) (I : Nat → σ → Prop) (e i0 : Nat) (s : σ) (hi : i0 ≤ e) (h0 : I i0 s) (hx : ∀ n s, I e s → W (n + 1) e s)
    (hs : ∀ n i s, i < e → I i s → (∀ s', I (i + 1) s' → W n (i + 1) s') → W (n + 1) i s) : ∃ n, W n i0 s :=
  ⟨e + 1, loop_i W I e hx hs (e + 1) i0 s hi (by omega) h0⟩
theorem pk_loopD {σ : Type} (W : Nat → Nat → σ → Prop) (I : Nat → σ → Prop) (hx : ∀ n s, I 0 s → W (n + 1) 0 s)
    (hs : ∀ n i s, I (i + 1) s → (∀ s', I i s' → W n i s') → W (n + 1) (i + 1) s) : ∀ (e : Nat) (s : σ), I e s → W (e + 1) e s := by
  intro e
  induction e with
  | zero => exact fun s h => hx 0 s h
  | succ e ih => exact fun s h => hs (e + 1) e s h (fun s' h' => ih s' h')
theorem sb_m1 {p : Nat} (h : 0 < p) : nI p + (-1) = nI (p - 1) := by
  obtain ⟨q, rfl⟩ : ∃ q, p = q + 1 := ⟨p - 1, by omega⟩
  exact pk_m1 q
end
section
/-! cells as the bits of a long; counts; neighbours -/
theorem pk_us {f : Nat → Int32} {k : Nat} {x : Int32} : upd f k x k = x := if_pos rfl
theorem pk_un {f : Nat → Int32} {k j : Nat} {x : Int32} (h : j ≠ k) : upd f k x j = f j := if_neg h
theorem pk_uLs {f : Nat → Int64} {k : Nat} {x : Int64} : vp_updL f k x k = x := if_pos rfl
theorem pk_uLn {f : Nat → Int64} {k j : Nat} {x : Int64} (h : j ≠ k) : vp_updL f k x j = f j := if_neg h
theorem ts_nf {x : Bool} (h : ¬ x = false) : x = true := by cases x <;> first | rfl | exact absurd rfl h
theorem ts_nt {x : Bool} (h : ¬ x = true) : x = false := by cases x <;> first | rfl | exact absurd rfl h
theorem ts_sh {w : Int64} {s : UInt64} {j : Nat} (hj : j < 64) (hs : s.toNat = j) : (w.toUInt64 >>> s).toInt64.toBitVec = w.toBitVec >>> j := by
  apply BitVec.eq_of_toNat_eq
  show (w.toUInt64 >>> s).toNat = _
  rw [UInt64.toNat_shiftRight, hs, Nat.mod_eq_of_lt hj, BitVec.toNat_ushiftRight]
  rfl
theorem ts_bit {w : Int64} {s : UInt64} {j : Nat} (hj : j < 64) (hs : s.toNat = j) : ((w.toUInt64 >>> s).toInt64 &&& 1) = 0 ↔ w.toBitVec.getLsbD j = false := by
  have e : (w.toUInt64 >>> s).toInt64.toBitVec = w.toBitVec >>> j := ts_sh hj hs
  rw [← Int64.toBitVec_inj, Int64.toBitVec_and, e]
  show w.toBitVec >>> j &&& 1#64 = 0#64 ↔ _
  constructor
  · intro h
    have t := congrArg (fun x => x.getLsbD 0) h
    simpa using t
  · intro h
    apply BitVec.eq_of_getLsbD_eq
    intro i hi
    cases i with
    | zero => simp [h]
    | succ i => simp
def ce_b (m : Int64) (c : Nat) : Bool := m.toBitVec.getLsbD c
theorem ce_ext {x y : Int64} (h : ∀ c, c < 64 → ce_b x c = ce_b y c) : x = y := Int64.toBitVec_inj.mp (BitVec.eq_of_getLsbD_eq (fun i hi => h i hi))
theorem ce_or (x y : Int64) (c : Nat) : ce_b (x ||| y) c = (ce_b x c || ce_b y c) := by unfold ce_b; rw [Int64.toBitVec_or, BitVec.getLsbD_or]
theorem ce_and (x y : Int64) (c : Nat) : ce_b (x &&& y) c = (ce_b x c && ce_b y c) := by unfold ce_b; rw [Int64.toBitVec_and, BitVec.getLsbD_and]
theorem ce_xor (x y : Int64) (c : Nat) : ce_b (x ^^^ y) c = (ce_b x c ^^ ce_b y c) := by unfold ce_b; rw [Int64.toBitVec_xor, BitVec.getLsbD_xor]
theorem ce_big {m : Int64} {c : Nat} (h : 64 ≤ c) : ce_b m c = false := BitVec.getLsbD_of_ge _ _ h
theorem ce_lt {m : Int64} {c : Nat} (h : ce_b m c = true) : c < 64 := by
  rcases Nat.lt_or_ge c 64 with z | z
  · exact z
  · rw [ce_big z] at h; cases h
theorem ce_0 (c : Nat) : ce_b 0 c = false := BitVec.getLsbD_zero
theorem ce_m1 : ∀ c, c < 64 → ce_b (-1) c = true := by decide +kernel
theorem ce_not (x : Int64) {c : Nat} (h : c < 64) : ce_b (x ^^^ (-1)) c = !ce_b x c := by
  rw [ce_xor, ce_m1 c h]; cases ce_b x c <;> rfl
def ce_bit (c : Nat) : Int64 := (1 : Int64) <<< ((nI c).toInt64 &&& 63)
theorem ce_bitV : ∀ c, c < 64 → (ce_bit c).toBitVec = BitVec.twoPow 64 c := by decide +kernel
theorem ce_bitB {c : Nat} (h : c < 64) (j : Nat) : ce_b (ce_bit c) j = decide (c = j) := by
  unfold ce_b
  rw [ce_bitV c h, BitVec.getLsbD_twoPow]
  simp [h]
theorem ce_cu : ∀ k, k < 64 → ((nI k).toInt64.toUInt64 &&& Int64.toUInt64 63).toNat = k := by decide +kernel
theorem ce_has (m : Int64) {c : Nat} (h : c < 64) : ((m.toUInt64 >>> ((nI c).toInt64.toUInt64 &&& Int64.toUInt64 63)).toInt64 &&& 1) = 0 ↔ ce_b m c = false := ts_bit h (ce_cu c h)
/-- the four shifts as the class does them -/
def ce_up (m : Int64) : Int64 := (m.toUInt64 >>> ((8 : Int32).toInt64.toUInt64 &&& Int64.toUInt64 63)).toInt64
def ce_dn (m : Int64) : Int64 := m <<< ((8 : Int32).toInt64 &&& 63)
def ce_r0 (m : Int64) : Int64 := m <<< ((1 : Int32).toInt64 &&& 63)
def ce_l0 (m : Int64) : Int64 := (m.toUInt64 >>> ((1 : Int32).toInt64.toUInt64 &&& Int64.toUInt64 63)).toInt64
theorem ce_upB (m : Int64) (c : Nat) : ce_b (ce_up m) c = ce_b m (8 + c) := by
  unfold ce_b ce_up
  rw [ts_sh (j := 8) (by decide) (by decide), BitVec.getLsbD_ushiftRight]
theorem ce_l0B (m : Int64) (c : Nat) : ce_b (ce_l0 m) c = ce_b m (1 + c) := by
  unfold ce_b ce_l0
  rw [ts_sh (j := 1) (by decide) (by decide), BitVec.getLsbD_ushiftRight]
theorem ce_dnB (m : Int64) {c : Nat} (h : c < 64) : ce_b (ce_dn m) c = (decide (8 ≤ c) && ce_b m (c - 8)) := by
  have hs : (((8 : Int32).toInt64 &&& 63).toBitVec.smod 64).toNat = 8 := by decide
  show (m.toBitVec <<< (((8 : Int32).toInt64 &&& 63).toBitVec.smod 64).toNat).getLsbD c = _
  rw [hs, BitVec.getLsbD_shiftLeft]
  unfold ce_b
  rcases Nat.lt_or_ge c 8 with z | z
  · simp [z, Nat.not_le.mpr z]
  · simp [h, z, Nat.not_lt.mpr z]
theorem ce_r0B (m : Int64) {c : Nat} (h : c < 64) : ce_b (ce_r0 m) c = (decide (1 ≤ c) && ce_b m (c - 1)) := by
  have hs : (((1 : Int32).toInt64 &&& 63).toBitVec.smod 64).toNat = 1 := by decide
  show (m.toBitVec <<< (((1 : Int32).toInt64 &&& 63).toBitVec.smod 64).toNat).getLsbD c = _
  rw [hs, BitVec.getLsbD_shiftLeft]
  unfold ce_b
  rcases Nat.lt_or_ge c 1 with z | z
  · simp [z, Nat.not_le.mpr z]
  · simp [h, z, Nat.not_lt.mpr z]
/-- an array of the reference's that holds a set of cells -/
def ce_A (m : Int64) : Nat → Int32 := fun c => if ce_b m c then 1 else 0
theorem ce_A0 : ce_A 0 = fun _ => 0 := by
  funext c; unfold ce_A; rw [ce_0]; rfl
theorem ce_At {m : Int64} {c : Nat} (h : ce_b m c = true) : ce_A m c = 1 := by unfold ce_A; rw [h]; rfl
theorem ce_Af {m : Int64} {c : Nat} (h : ce_b m c = false) : ce_A m c = 0 := by unfold ce_A; rw [h]; rfl
theorem ce_Az {m : Int64} {c : Nat} : ce_A m c = 0 ↔ ce_b m c = false := by
  cases h : ce_b m c
  · rw [ce_Af h]; simp
  · rw [ce_At h]; simp
theorem ce_A1 {m : Int64} {c : Nat} : ce_A m c = 1 ↔ ce_b m c = true := by
  cases h : ce_b m c
  · rw [ce_Af h]; simp
  · rw [ce_At h]; simp
theorem ce_setB {m : Int64} {c : Nat} (h : c < 64) (j : Nat) : ce_b (m ||| ce_bit c) j = (ce_b m j || decide (c = j)) := by rw [ce_or, ce_bitB h]
theorem ce_clrB {m : Int64} {c : Nat} (h : c < 64) {j : Nat} (hj : j < 64) : ce_b (m &&& (ce_bit c ^^^ (-1))) j = (ce_b m j && !decide (c = j)) := by rw [ce_and, ce_not _ hj, ce_bitB h]
theorem ce_A_set {m : Int64} {c : Nat} (h : c < 64) : upd (ce_A m) c 1 = ce_A (m ||| ce_bit c) := by
  funext j
  unfold ce_A upd
  rw [ce_setB h]
  by_cases e : j = c
  · subst e; simp
  · simp [e, Ne.symm e]
theorem ce_A_clr {m : Int64} {c : Nat} (h : c < 64) : upd (ce_A m) c 0 = ce_A (m &&& (ce_bit c ^^^ (-1))) := by
  funext j
  rcases Nat.lt_or_ge j 64 with z | z
  · unfold ce_A upd
    rw [ce_clrB h z]
    by_cases e : j = c
    · subst e; simp
    · simp [e, Ne.symm e]
  · rw [pk_un (by omega), ce_Af (ce_big z), ce_Af (ce_big z)]
theorem ce_A_inj {x y : Int64} (h : ∀ c, c < 64 → ce_A x c = ce_A y c) : x = y := by
  apply ce_ext
  intro c hc
  have := h c hc
  cases hx : ce_b x c <;> cases hy : ce_b y c <;> first | rfl | (rw [ce_A, ce_A, hx, hy] at this; exact absurd this (by decide))
/-- how many cells of a set lie below n -/
def ce_rk (m : Int64) : Nat → Nat
  | 0 => 0
  | n + 1 => ce_rk m n + (if ce_b m n then 1 else 0)
theorem ce_rk_le (m : Int64) : ∀ n, ce_rk m n ≤ n := by
  intro n
  induction n with
  | zero => exact Nat.le_refl 0
  | succ n ih => unfold ce_rk; split <;> omega
theorem ce_rk_mono (m : Int64) : ∀ {a b : Nat}, a ≤ b → ce_rk m a ≤ ce_rk m b := by
  intro a b h
  induction h with
  | refl => exact Nat.le_refl _
  | step _ ih => exact Nat.le_trans ih (by show _ ≤ ce_rk m _ + _; omega)
theorem ce_rk_s {m : Int64} {n : Nat} (h : ce_b m n = true) : ce_rk m (n + 1) = ce_rk m n + 1 := by show ce_rk m n + _ = _; rw [h]; rfl
theorem ce_rk_n {m : Int64} {n : Nat} (h : ce_b m n = false) : ce_rk m (n + 1) = ce_rk m n := by show ce_rk m n + _ = _; rw [h]; rfl
theorem ce_rk_lt {m : Int64} {a b : Nat} (h : ce_b m a = true) (hb : a < b) : ce_rk m a < ce_rk m b := by
  have := ce_rk_mono m (a := a + 1) (b := b) hb
  rw [ce_rk_s h] at this
  exact this
theorem ce_rk_inj {m : Int64} {a b : Nat} (ha : ce_b m a = true) (hb : ce_b m b = true) (h : ce_rk m a = ce_rk m b) : a = b := by
  rcases Nat.lt_trichotomy a b with z | z | z
  · have := ce_rk_lt ha z; omega
  · exact z
  · have := ce_rk_lt hb z; omega
theorem ce_sub_le {x y : Int64} (h : ∀ c, ce_b x c = true → ce_b y c = true) : ∀ n, ce_rk x n ≤ ce_rk y n := by
  intro n
  induction n with
  | zero => exact Nat.le_refl 0
  | succ n ih =>
    cases hx : ce_b x n
    · rw [ce_rk_n hx]; exact Nat.le_trans ih (ce_rk_mono y (Nat.le_succ n))
    · rw [ce_rk_s hx, ce_rk_s (h n hx)]; omega
theorem ce_sub_lt {x y : Int64} (h : ∀ c, ce_b x c = true → ce_b y c = true) {c : Nat} (hc : ce_b y c = true) (hx : ce_b x c = false) : ∀ {n}, c < n → ce_rk x n < ce_rk y n := by
  intro n hn
  induction hn with
  | refl => rw [ce_rk_n hx, ce_rk_s hc]; have := ce_sub_le h c; omega
  | @step k hk ih =>
    show ce_rk x (k + 1) < ce_rk y (k + 1)
    cases hz : ce_b x k
    · rw [ce_rk_n hz]; exact Nat.lt_of_lt_of_le ih (ce_rk_mono y (Nat.le_succ k))
    · rw [ce_rk_s hz, ce_rk_s (h k hz)]; omega
theorem ce_ne {x y : Int64} (h : x ≠ y) : ∃ c, c < 64 ∧ ce_b x c ≠ ce_b y c := by
  apply Classical.byContradiction
  intro z
  apply h
  apply ce_ext
  intro c hc
  apply Classical.byContradiction
  intro w
  exact z ⟨c, hc, w⟩
theorem ce_rk_set {m : Int64} {c : Nat} (hc : c < 64) (h : ce_b m c = false) : ∀ n, ce_rk (m ||| ce_bit c) n = ce_rk m n + (if c < n then 1 else 0) := by
  intro n
  induction n with
  | zero => rfl
  | succ n ih =>
    unfold ce_rk
    rw [ih, ce_setB hc]
    by_cases e : c = n
    · subst e; rw [h]; simp
    · have : (c < n + 1) = (c < n) := propext ⟨fun z => by omega, fun z => by omega⟩
      simp only [e, decide_false, Bool.or_false, this]
      omega
theorem ce_rk_clr {m : Int64} {c : Nat} (hc : c < 64) (h : ce_b m c = true) : ∀ n, n ≤ 64 → ce_rk (m &&& (ce_bit c ^^^ (-1))) n + (if c < n then 1 else 0) = ce_rk m n := by
  intro n
  induction n with
  | zero => intro _; rfl
  | succ n ih =>
    intro hn
    have ih := ih (by omega)
    unfold ce_rk
    rw [ce_clrB hc (by omega)]
    by_cases e : c = n
    · subst e; rw [h]; simp at ih ⊢; omega
    · have : (c < n + 1) = (c < n) := propext ⟨fun z => by omega, fun z => by omega⟩
      simp only [e, decide_false, Bool.not_false, Bool.and_true, this]
      omega
theorem ce_full {m : Int64} : ∀ n, ce_rk m n = n → ∀ c, c < n → ce_b m c = true := by
  intro n
  induction n with
  | zero => intro _ c hc; omega
  | succ n ih =>
    intro h c hc
    cases hb : ce_b m n
    · rw [ce_rk_n hb] at h; have := ce_rk_le m n; omega
    · rw [ce_rk_s hb] at h
      rcases Nat.lt_or_ge c n with z | z
      · exact ih (by omega) c z
      · have : c = n := by omega
        subst this; exact hb
/-- the neighbour; 64 is outside -/
def ce_n (c d : Nat) : Nat :=
  if 64 ≤ c then 64
  else if d = 0 then (if 8 ≤ c then c - 8 else 64)
  else if d = 1 then (if c % 8 < 7 then c + 1 else 64)
  else if d = 2 then (if c < 56 then c + 8 else 64)
  else (if 0 < c % 8 then c - 1 else 64)
theorem ce_n_le (c d : Nat) : ce_n c d ≤ 64 := by
  unfold ce_n
  repeat' split
  all_goals omega
theorem ce_n_rev : ∀ c, c < 64 → ∀ d, d < 4 → ce_n c d < 64 → ce_n (ce_n c d) ((d + 2) % 4) = c := by decide +kernel
theorem ce_n_ne : ∀ c, c < 64 → ∀ d, d < 4 → ce_n c d ≠ c := by decide +kernel
theorem ce_n_64 (d : Nat) : ce_n 64 d = 64 := rfl
/-- a cell as the programs write it -/
def ce_I (c : Nat) : Int32 := if c < 64 then nI c else -1
theorem ce_I_in {c : Nat} (h : c < 64) : ce_I c = nI c := if_pos h
theorem ce_I_out {c : Nat} (h : 64 ≤ c) : ce_I c = -1 := if_neg (by omega)
end
section
/-! least sets: the cells that the pusher reaches, the live cells -/
def gr_lc (I : Nat → Prop) (E : Nat → Nat → Prop) (c : Nat) : Prop := ∀ T : Nat → Prop, (∀ a, I a → T a) → (∀ a b, T a → E a b → T b) → T c
theorem gr_lc_i {I : Nat → Prop} {E : Nat → Nat → Prop} {c : Nat} (h : I c) : gr_lc I E c := fun _ h1 _ => h1 c h
theorem gr_lc_s {I : Nat → Prop} {E : Nat → Nat → Prop} {a b : Nat} (h : gr_lc I E a) (e : E a b) : gr_lc I E b := fun T h1 h2 => h2 a b (h T h1 h2) e
def ce_it (f : Int64 → Int64) : Nat → Int64 → Int64
  | 0, m => m
  | n + 1, m => ce_it f n (f m)
theorem ce_it_fix {f : Int64 → Int64} {m : Int64} (h : f m = m) : ∀ n, ce_it f n m = m := by
  intro n
  induction n with
  | zero => rfl
  | succ n ih => show ce_it f n (f m) = m; rw [h]; exact ih
theorem ce_it_grow {f : Int64 → Int64} (hf : ∀ m c, ce_b m c = true → ce_b (f m) c = true) : ∀ n m, f (ce_it f n m) = ce_it f n m ∨ ce_rk m 64 + n ≤ ce_rk (ce_it f n m) 64 := by
  intro n
  induction n with
  | zero => intro m; exact Or.inr (Nat.le_refl _)
  | succ n ih =>
    intro m
    by_cases e : f m = m
    · left
      rw [ce_it_fix e]; exact e
    · rcases ih (f m) with h | h
      · exact Or.inl h
      · right
        obtain ⟨c, hc, hne⟩ := ce_ne e
        have h1 : ce_b m c = false := by
          cases z : ce_b m c
          · rfl
          · exact absurd ((hf m c z).trans z.symm) hne
        have h2 : ce_b (f m) c = true := by
          cases z : ce_b (f m) c
          · exact absurd (z.trans h1.symm) hne
          · rfl
        have h3 := ce_sub_lt (hf m) h2 h1 hc
        show ce_rk m 64 + (n + 1) ≤ ce_rk (ce_it f n (f m)) 64
        omega
theorem ce_it_closed {f : Int64 → Int64} (hf : ∀ m c, ce_b m c = true → ce_b (f m) c = true) (m : Int64) : f (ce_it f 64 m) = ce_it f 64 m := by
  rcases ce_it_grow hf 64 m with h | h
  · exact h
  · have h1 := ce_rk_le (ce_it f 64 m) 64
    have h2 := ce_full 64 (Nat.le_antisymm h1 (by omega))
    apply ce_ext
    intro c hc
    rw [h2 c hc]
    exact hf _ _ (h2 c hc)
theorem ce_it_sub {f : Int64 → Int64} (hf : ∀ m c, ce_b m c = true → ce_b (f m) c = true) : ∀ n m c, ce_b m c = true → ce_b (ce_it f n m) c = true := by
  intro n
  induction n with
  | zero => exact fun m c h => h
  | succ n ih => exact fun m c h => ih (f m) c (hf m c h)
theorem ce_it_lc {f : Int64 → Int64} {E : Nat → Nat → Prop} {I : Nat → Prop} {m : Int64} (hf : ∀ m c, c < 64 → (ce_b (f m) c = true ↔ ce_b m c = true ∨ ∃ a, ce_b m a = true ∧ E a c)) (hE : ∀ a b, E a b → b < 64) (hI : ∀ c, ce_b m c = true ↔ I c) (c : Nat) : ce_b (ce_it f 64 m) c = true ↔ gr_lc I E c := by
  have hg : ∀ m c, ce_b m c = true → ce_b (f m) c = true := fun m c h => (hf m c (ce_lt h)).mpr (Or.inl h)
  constructor
  · have key : ∀ n m', (∀ c, ce_b m' c = true → gr_lc I E c) → ∀ c, ce_b (ce_it f n m') c = true → gr_lc I E c := by
      intro n
      induction n with
      | zero => exact fun m' h => h
      | succ n ih =>
        intro m' h
        apply ih (f m')
        intro c hc
        rcases (hf m' c (ce_lt hc)).mp hc with z | ⟨a, ha, he⟩
        · exact h c z
        · exact gr_lc_s (h a ha) he
    exact key 64 m (fun c hc => gr_lc_i ((hI c).mp hc)) c
  · intro h
    refine h (fun c => ce_b (ce_it f 64 m) c = true) ?_ ?_
    · exact fun a ha => ce_it_sub hg 64 m a ((hI a).mpr ha)
    · intro a b ha he
      have hb := hE a b he
      have := (hf (ce_it f 64 m) b hb).mpr (Or.inr ⟨a, ha, he⟩)
      rw [ce_it_closed hg m] at this
      exact this
/-! neighbours by cases -/
theorem ce_n_out {c d x : Nat} (hc : c < 64) (hd : d < 4) (h : ce_n c d = x) (hx : x < 64) : (d = 0 ∧ c = x + 8) ∨ (d = 1 ∧ x = c + 1 ∧ x % 8 ≠ 0) ∨ (d = 2 ∧ x = c + 8) ∨ (d = 3 ∧ c = x + 1 ∧ x % 8 ≠ 7) := by
  unfold ce_n at h
  rw [if_neg (by omega)] at h
  have hd' : d = 0 ∨ d = 1 ∨ d = 2 ∨ d = 3 := by omega
  rcases hd' with rfl | rfl | rfl | rfl
  · left
    simp at h
    split at h <;> omega
  · right; left
    simp at h
    split at h <;> omega
  · right; right; left
    simp at h
    split at h <;> omega
  · right; right; right
    simp at h
    split at h <;> omega
theorem ce_n0 {x : Nat} (h : x + 8 < 64) : ce_n (x + 8) 0 = x := by
  unfold ce_n; rw [if_neg (by omega), if_pos rfl, if_pos (by omega)]; omega
theorem ce_n1 {x : Nat} (h : x + 1 < 64) (h8 : (x + 1) % 8 ≠ 0) : ce_n x 1 = x + 1 := by
  unfold ce_n; rw [if_neg (by omega), if_neg (by omega), if_pos rfl, if_pos (by omega)]
theorem ce_n2 {x : Nat} (h : x + 8 < 64) : ce_n x 2 = x + 8 := by
  unfold ce_n; rw [if_neg (by omega), if_neg (by omega), if_neg (by omega), if_pos rfl, if_pos (by omega)]
theorem ce_n3 {x : Nat} (h : x + 1 < 64) (h8 : x % 8 ≠ 7) : ce_n (x + 1) 3 = x := by
  unfold ce_n; rw [if_neg (by omega), if_neg (by omega), if_neg (by omega), if_neg (by omega), if_pos (by omega)]; omega
def ce_rt (m : Int64) : Int64 := ce_r0 m &&& (-72340172838076674)
def ce_lf (m : Int64) : Int64 := ce_l0 m &&& 9187201950435737471
theorem ce_K1 : ∀ c, c < 64 → ce_b (-72340172838076674) c = !decide (c % 8 = 0) := by decide +kernel
theorem ce_K2 : ∀ c, c < 64 → ce_b 9187201950435737471 c = !decide (c % 8 = 7) := by decide +kernel
theorem ce_rtI (m : Int64) {c : Nat} (h : c < 64) : ce_b (ce_rt m) c = true ↔ ∃ x, c = x + 1 ∧ c % 8 ≠ 0 ∧ ce_b m x = true := by
  unfold ce_rt
  rw [ce_and, ce_r0B m h, ce_K1 c h]
  simp only [Bool.and_eq_true, Bool.not_eq_true', decide_eq_true_eq, decide_eq_false_iff_not]
  constructor
  · intro ⟨⟨h1, h2⟩, h3⟩
    exact ⟨c - 1, by omega, h3, h2⟩
  · intro ⟨x, h1, h2, h3⟩
    subst h1
    exact ⟨⟨by omega, h3⟩, h2⟩
theorem ce_lfI (m : Int64) {c : Nat} (h : c < 64) : ce_b (ce_lf m) c = true ↔ c % 8 ≠ 7 ∧ ce_b m (c + 1) = true := by
  unfold ce_lf
  rw [ce_and, ce_l0B, ce_K2 c h, Nat.add_comm 1 c]
  simp only [Bool.and_eq_true, Bool.not_eq_true', decide_eq_false_iff_not]
  exact ⟨fun z => ⟨z.2, z.1⟩, fun z => ⟨z.2, z.1⟩⟩
theorem ce_upI (m : Int64) (c : Nat) : ce_b (ce_up m) c = true ↔ ce_b m (c + 8) = true := by rw [ce_upB, Nat.add_comm 8 c]
theorem ce_dnI (m : Int64) {c : Nat} (h : c < 64) : ce_b (ce_dn m) c = true ↔ ∃ x, c = x + 8 ∧ ce_b m x = true := by
  rw [ce_dnB m h]
  simp only [Bool.and_eq_true, decide_eq_true_eq]
  constructor
  · intro ⟨h1, h2⟩
    exact ⟨c - 8, by omega, h2⟩
  · intro ⟨x, h1, h3⟩
    subst h1
    exact ⟨by omega, h3⟩
def gr_bs (m : Int64) : Int64 := ((ce_up m ||| ce_rt m) ||| ce_dn m) ||| ce_lf m
theorem gr_bsI (m : Int64) {c : Nat} (h : c < 64) : ce_b (gr_bs m) c = true ↔ ∃ a, ce_b m a = true ∧ ∃ d, d < 4 ∧ ce_n a d = c := by
  unfold gr_bs
  rw [ce_or, ce_or, ce_or, Bool.or_eq_true, Bool.or_eq_true, Bool.or_eq_true, ce_upI, ce_rtI m h, ce_dnI m h, ce_lfI m h]
  constructor
  · rintro (((z | ⟨x, h1, h2, h3⟩) | ⟨x, h1, h3⟩) | ⟨h1, h2⟩)
    · exact ⟨c + 8, z, 0, by omega, ce_n0 (ce_lt z)⟩
    · subst h1; exact ⟨x, h3, 1, by omega, ce_n1 h h2⟩
    · subst h1; exact ⟨x, h3, 2, by omega, ce_n2 h⟩
    · exact ⟨c + 1, h2, 3, by omega, ce_n3 (ce_lt h2) h1⟩
  · rintro ⟨a, ha, d, hd, e⟩
    rcases ce_n_out (ce_lt ha) hd e h with ⟨_, rfl⟩ | ⟨_, rfl, h2⟩ | ⟨_, rfl⟩ | ⟨_, rfl, h2⟩
    · exact Or.inl (Or.inl (Or.inl ha))
    · exact Or.inl (Or.inl (Or.inr ⟨a, rfl, h2, ha⟩))
    · exact Or.inl (Or.inr ⟨a, rfl, ha⟩)
    · exact Or.inr ⟨h2, ha⟩
/-- one round of the flood over the free cells fr -/
def gr_fl (fr m : Int64) : Int64 := m ||| (gr_bs m &&& fr)
def gr_area (w b : Int64) (p : Nat) : Int64 := ce_it (gr_fl ((w ||| b) ^^^ (-1))) 64 (ce_bit p)
def gr_Ea (fr : Int64) (a c : Nat) : Prop := ce_b fr c = true ∧ ∃ d, d < 4 ∧ ce_n a d = c
theorem gr_flI (fr m : Int64) (c : Nat) (h : c < 64) : ce_b (gr_fl fr m) c = true ↔ ce_b m c = true ∨ ∃ a, ce_b m a = true ∧ gr_Ea fr a c := by
  unfold gr_fl
  rw [ce_or, ce_and, Bool.or_eq_true, Bool.and_eq_true, gr_bsI m h]
  constructor
  · rintro (z | ⟨⟨a, ha, z⟩, w⟩)
    · exact Or.inl z
    · exact Or.inr ⟨a, ha, w, z⟩
  · rintro (z | ⟨a, ha, w, z⟩)
    · exact Or.inl z
    · exact Or.inr ⟨⟨a, ha, z⟩, w⟩
theorem gr_areaI (w b : Int64) {p : Nat} (hp : p < 64) (c : Nat) : ce_b (gr_area w b p) c = true ↔ gr_lc (fun x => x = p) (gr_Ea ((w ||| b) ^^^ (-1))) c := by
  refine ce_it_lc (gr_flI _) (fun a c h => ce_lt h.1) ?_ c
  intro c
  rw [ce_bitB hp, decide_eq_true_eq]
  exact ⟨fun h => h.symm, fun h => h.symm⟩
theorem gr_fr (w b : Int64) (c : Nat) : ce_b ((w ||| b) ^^^ (-1)) c = true ↔ c < 64 ∧ ce_b w c = false ∧ ce_b b c = false := by
  rcases Nat.lt_or_ge c 64 with z | z
  · rw [ce_not _ z, ce_or]
    cases ce_b w c <;> cases ce_b b c <;> simp [z]
  · rw [ce_big z]
    exact ⟨fun h => (by cases h), fun h => absurd h.1 (by omega)⟩
theorem gr_area_free {w b : Int64} {p c : Nat} (hp : p < 64) (hw : ce_b w p = false) (hb : ce_b b p = false) (h : ce_b (gr_area w b p) c = true) : ce_b w c = false ∧ ce_b b c = false := by
  refine (gr_areaI w b hp c).mp h (fun c => ce_b w c = false ∧ ce_b b c = false) ?_ ?_
  · intro a e; subst e; exact ⟨hw, hb⟩
  · intro a c _ e; exact ((gr_fr w b c).mp e.1).2
/-! the live cells -/
def gr_lf (w m : Int64) : Int64 := (((m ||| (ce_dn m &&& ((w ^^^ (-1)) &&& ce_up (w ^^^ (-1))))) ||| (ce_up m &&& ((w ^^^ (-1)) &&& ce_dn (w ^^^ (-1))))) ||| (ce_lf m &&& ((w ^^^ (-1)) &&& ce_rt (w ^^^ (-1))))) ||| (ce_rt m &&& ((w ^^^ (-1)) &&& ce_lf (w ^^^ (-1))))
def gr_live (w g : Int64) : Int64 := ce_it (gr_lf w) 64 g
def gr_Ev (w : Int64) (t s : Nat) : Prop := ∃ e, e < 4 ∧ ce_n t e = s ∧ s < 64 ∧ ce_n s e < 64 ∧ ce_b w s = false ∧ ce_b w (ce_n s e) = false
theorem gr_op (w : Int64) (c : Nat) : ce_b (w ^^^ (-1)) c = true ↔ c < 64 ∧ ce_b w c = false := by
  rcases Nat.lt_or_ge c 64 with z | z
  · rw [ce_not _ z]
    cases ce_b w c <;> simp [z]
  · rw [ce_big z]
    exact ⟨fun h => (by cases h), fun h => absurd h.1 (by omega)⟩
theorem gr_lfI (w m : Int64) (c : Nat) (h : c < 64) : ce_b (gr_lf w m) c = true ↔ ce_b m c = true ∨ ∃ a, ce_b m a = true ∧ gr_Ev w a c := by
  unfold gr_lf
  rw [ce_or, ce_or, ce_or, ce_or, Bool.or_eq_true, Bool.or_eq_true, Bool.or_eq_true, Bool.or_eq_true]
  simp only [ce_and, Bool.and_eq_true]
  rw [ce_dnI m h, ce_upI, ce_upI, ce_rtI m h, ce_dnI _ h, ce_lfI m h, ce_lfI _ h, ce_rtI _ h, gr_op, gr_op, gr_op]
  constructor
  · rintro ((((z | ⟨⟨x, h1, h2⟩, h3, h4⟩) | ⟨h2, h3, ⟨x, h1, h4⟩⟩) | ⟨⟨h1, h2⟩, h3, ⟨x, h4, h5, h6⟩⟩) | ⟨⟨x, h1, h2, h5⟩, h3, h4, h6⟩)
    · exact Or.inl z
    · subst h1
      refine Or.inr ⟨x, h2, 2, by omega, ce_n2 h, h, ?_⟩
      rw [ce_n2 h4.1]
      exact ⟨h4.1, h3.2, h4.2⟩
    · subst h1
      refine Or.inr ⟨x + 8 + 8, h2, 0, by omega, ce_n0 (ce_lt h2), h, ?_⟩
      rw [ce_n0 h]
      have := (gr_op w x).mp h4
      exact ⟨this.1, h3.2, this.2⟩
    · subst h4
      refine Or.inr ⟨x + 1 + 1, h2, 3, by omega, ce_n3 (ce_lt h2) h1, h, ?_⟩
      have := (gr_op w x).mp h6
      rw [ce_n3 h (by omega)]
      exact ⟨this.1, h3.2, this.2⟩
    · subst h1
      refine Or.inr ⟨x, h5, 1, by omega, ce_n1 h h2, h, ?_⟩
      rw [ce_n1 h6.1 (by omega)]
      exact ⟨h6.1, h3.2, h6.2⟩
  · rintro (z | ⟨a, ha, e, he, h1, h2, h3, h4, h5⟩)
    · exact Or.inl (Or.inl (Or.inl (Or.inl z)))
    · rcases ce_n_out (ce_lt ha) he h1 h with ⟨rfl, rfl⟩ | ⟨rfl, rfl, h6⟩ | ⟨rfl, rfl⟩ | ⟨rfl, rfl, h6⟩
      · rcases ce_n_out h (by omega) rfl h3 with ⟨_, h7⟩ | ⟨h7, _⟩ | ⟨h7, _⟩ | ⟨h7, _⟩
        · exact Or.inl (Or.inl (Or.inr ⟨ha, ⟨h, h4⟩, ⟨_, h7, (gr_op w _).mpr ⟨h3, h5⟩⟩⟩))
        all_goals exact absurd h7 (by decide)
      · rcases ce_n_out h (by omega) rfl h3 with ⟨h7, _⟩ | ⟨_, h7, h8⟩ | ⟨h7, _⟩ | ⟨h7, _⟩
        · exact absurd h7 (by decide)
        · refine Or.inr ⟨⟨a, rfl, h6, ha⟩, ⟨h, h4⟩, ?_, ?_⟩
          · rw [h7] at h8; omega
          · rw [h7] at h3 h5; exact ⟨h3, h5⟩
        all_goals exact absurd h7 (by decide)
      · rcases ce_n_out h (by omega) rfl h3 with ⟨h7, _⟩ | ⟨h7, _⟩ | ⟨_, h7⟩ | ⟨h7, _⟩
        · exact absurd h7 (by decide)
        · exact absurd h7 (by decide)
        · rw [h7] at h3 h5
          exact Or.inl (Or.inl (Or.inl (Or.inr ⟨⟨a, rfl, ha⟩, ⟨h, h4⟩, h3, h5⟩)))
        · exact absurd h7 (by decide)
      · rcases ce_n_out h (by omega) rfl h3 with ⟨h7, _⟩ | ⟨h7, _⟩ | ⟨h7, _⟩ | ⟨_, h7, h8⟩
        · exact absurd h7 (by decide)
        · exact absurd h7 (by decide)
        · exact absurd h7 (by decide)
        · exact Or.inl (Or.inr ⟨⟨h6, ha⟩, ⟨h, h4⟩, ⟨_, h7, by omega, (gr_op w _).mpr ⟨h3, h5⟩⟩⟩)
theorem gr_liveI (w g : Int64) (c : Nat) : ce_b (gr_live w g) c = true ↔ gr_lc (fun x => ce_b g x = true) (gr_Ev w) c :=
  ce_it_lc (gr_lfI w) (fun a c ⟨_, _, _, h, _⟩ => h) (fun c => Iff.rfl) c
theorem gr_live_wall {w g : Int64} (hg : ∀ c, ce_b g c = true → ce_b w c = false) {c : Nat} (h : ce_b (gr_live w g) c = true) : ce_b w c = false :=
  (gr_liveI w g c).mp h (fun c => ce_b w c = false) hg (fun _ _ _ ⟨_, _, _, _, _, h, _⟩ => h)
theorem gr_live_goal {w g : Int64} {c : Nat} (h : ce_b g c = true) : ce_b (gr_live w g) c = true := (gr_liveI w g c).mpr (gr_lc_i h)
end
section
/-! push graphs over any states: least solutions, and a search breadth first that finds the lexically least one -/
section
variable {σ : Type} (st : σ → Nat → Option σ) (so : σ → Prop)
/-- n pushes can solve s -/
def gr_can : Nat → σ → Prop
  | 0, s => so s
  | n + 1, s => ∃ c t, c < 256 ∧ st s c = some t ∧ gr_can n t
/-- l is the lexically least list of n pushes that solves s -/
def gr_G : Nat → σ → (Nat → Nat) → Prop
  | 0, s, _ => so s
  | n + 1, s, l => ∃ t, l 0 < 256 ∧ st s (l 0) = some t ∧ (∀ c t', c < l 0 → st s c = some t' → ¬ gr_can st so n t') ∧ gr_G n t (fun i => l (i + 1))
theorem gr_G_can : ∀ n s l, gr_G st so n s l → gr_can st so n s := by
  intro n
  induction n with
  | zero => exact fun s l h => h
  | succ n ih =>
    rintro s l ⟨t, h1, h2, _, h4⟩
    exact ⟨l 0, t, h1, h2, ih t _ h4⟩
/-- N nodes are met; all codes of the nodes below j and the codes below c of node j are tried -/
def gr_B (rt : σ) (nd : Nat → σ) (pa co de : Nat → Nat) (N j c : Nat) : Prop :=
  0 < N ∧ nd 0 = rt ∧ de 0 = 0 ∧
  (∀ i, 0 < i → i < N → pa i < i ∧ (pa i < j ∨ (pa i = j ∧ co i < c)) ∧ co i < 256 ∧ st (nd (pa i)) (co i) = some (nd i) ∧ de i = de (pa i) + 1) ∧
  (∀ i k, 0 < i → i < k → k < N → pa i < pa k ∨ (pa i = pa k ∧ co i < co k)) ∧
  (∀ a e t, a < N → (a < j ∨ (a = j ∧ e < c)) → e < 256 → st (nd a) e = some t → ∃ q, q < N ∧ nd q = t ∧ (q = 0 ∨ pa q < a ∨ (pa q = a ∧ co q ≤ e))) ∧
  (∀ i, i < N → ¬ so (nd i))
/-- the search has found node F, the first that is solved -/
def gr_F (rt : σ) (nd : Nat → σ) (pa co de : Nat → Nat) (F : Nat) : Prop :=
  0 < F ∧ nd 0 = rt ∧ de 0 = 0 ∧
  (∀ i, 0 < i → i ≤ F → pa i < i ∧ co i < 256 ∧ st (nd (pa i)) (co i) = some (nd i) ∧ de i = de (pa i) + 1) ∧
  (∀ i k, 0 < i → i < k → k ≤ F → pa i < pa k ∨ (pa i = pa k ∧ co i < co k)) ∧
  (∀ a e t, (a < pa F ∨ (a = pa F ∧ e < co F)) → e < 256 → st (nd a) e = some t → ∃ q, q < F ∧ nd q = t ∧ (q = 0 ∨ pa q < a ∨ (pa q = a ∧ co q ≤ e))) ∧
  (∀ i, i < F → ¬ so (nd i)) ∧ so (nd F)
theorem gr_B0 {rt : σ} {nd : Nat → σ} {pa co de : Nat → Nat} (h0 : nd 0 = rt) (hd : de 0 = 0) (hs : ¬ so rt) : gr_B st so rt nd pa co de 1 0 0 := by
  refine ⟨by omega, h0, hd, fun i h1 h2 => by omega, fun i k h1 h2 h3 => by omega, fun a e t h1 h2 => by omega, fun i hi => ?_⟩
  have : i = 0 := by omega
  subst this
  rw [h0]; exact hs
theorem gr_Bnone {rt : σ} {nd : Nat → σ} {pa co de : Nat → Nat} {N j c : Nat} (h : gr_B st so rt nd pa co de N j c) (hn : st (nd j) c = none) : gr_B st so rt nd pa co de N j (c + 1) := by
  obtain ⟨h1, h2, h3, h4, h5, h6, h7⟩ := h
  refine ⟨h1, h2, h3, fun i hi hN => ?_, h5, fun a e t ha hj he hst => ?_, h7⟩
  · obtain ⟨a1, a2, a3, a4, a5⟩ := h4 i hi hN
    exact ⟨a1, by omega, a3, a4, a5⟩
  · by_cases z : a = j ∧ e = c
    · obtain ⟨rfl, rfl⟩ := z
      rw [hn] at hst; cases hst
    · exact h6 a e t ha (by omega) he hst
theorem gr_Bmet {rt : σ} {nd : Nat → σ} {pa co de : Nat → Nat} {N j c q : Nat} (h : gr_B st so rt nd pa co de N j c) (hq : q < N) (hs : st (nd j) c = some (nd q)) : gr_B st so rt nd pa co de N j (c + 1) := by
  obtain ⟨h1, h2, h3, h4, h5, h6, h7⟩ := h
  refine ⟨h1, h2, h3, fun i hi hN => ?_, h5, fun a e t ha hj he hst => ?_, h7⟩
  · obtain ⟨a1, a2, a3, a4, a5⟩ := h4 i hi hN
    exact ⟨a1, by omega, a3, a4, a5⟩
  · by_cases z : a = j ∧ e = c
    · obtain ⟨rfl, rfl⟩ := z
      rw [hs] at hst
      refine ⟨q, hq, Option.some.inj hst, ?_⟩
      by_cases q0 : q = 0
      · exact Or.inl q0
      · obtain ⟨_, a2, _⟩ := h4 q (by omega) hq
        omega
    · exact h6 a e t ha (by omega) he hst
theorem gr_Badd {rt : σ} {nd nd' : Nat → σ} {pa co de pa' co' de' : Nat → Nat} {N j c : Nat} {t : σ} (h : gr_B st so rt nd pa co de N j c) (hj : j < N) (hc : c < 256) (hs : st (nd j) c = some t) (ht : ¬ so t)
    (hk : ∀ i, i < N → nd' i = nd i ∧ pa' i = pa i ∧ co' i = co i ∧ de' i = de i) (hn : nd' N = t) (hp : pa' N = j) (ho : co' N = c) (hd : de' N = de j + 1) : gr_B st so rt nd' pa' co' de' (N + 1) j (c + 1) := by
  obtain ⟨h1, h2, h3, h4, h5, h6, h7⟩ := h
  refine ⟨by omega, ?_, ?_, fun i hi hN => ?_, fun i k hi hik hkN => ?_, fun a e x ha haj he hst => ?_, fun i hi => ?_⟩
  · rw [(hk 0 h1).1]; exact h2
  · rw [(hk 0 h1).2.2.2]; exact h3
  · by_cases z : i = N
    · subst z
      rw [hn, hp, ho, hd, (hk j hj).1, (hk j hj).2.2.2]
      exact ⟨hj, by omega, hc, hs, rfl⟩
    · obtain ⟨a1, a2, a3, a4, a5⟩ := h4 i hi (by omega)
      obtain ⟨k1, k2, k3, k4⟩ := hk i (by omega)
      have k5 := hk (pa i) (by omega)
      rw [k1, k2, k3, k4, k5.1, k5.2.2.2]
      exact ⟨a1, by omega, a3, a4, a5⟩
  · by_cases z : k = N
    · subst z
      obtain ⟨a1, a2, a3, a4, a5⟩ := h4 i hi (by omega)
      obtain ⟨k1, k2, k3, k4⟩ := hk i (by omega)
      rw [hp, ho, k2, k3]
      omega
    · obtain ⟨k1, k2, k3, k4⟩ := hk i (by omega)
      obtain ⟨l1, l2, l3, l4⟩ := hk k (by omega)
      rw [k2, k3, l2, l3]
      exact h5 i k hi hik (by omega)
  · by_cases z : a = j ∧ e = c
    · obtain ⟨rfl, rfl⟩ := z
      rw [(hk a hj).1, hs] at hst
      refine ⟨N, by omega, by rw [hn]; exact Option.some.inj hst, ?_⟩
      rw [hp, ho]; omega
    · have haN : a < N := by omega
      rw [(hk a haN).1] at hst
      obtain ⟨q, q1, q2, q3⟩ := h6 a e x haN (by omega) he hst
      obtain ⟨k1, k2, k3, k4⟩ := hk q q1
      refine ⟨q, by omega, by rw [k1]; exact q2, ?_⟩
      rw [k2, k3]; exact q3
  · by_cases z : i = N
    · subst z; rw [hn]; exact ht
    · rw [(hk i (by omega)).1]; exact h7 i (by omega)
theorem gr_Bnext {rt : σ} {nd : Nat → σ} {pa co de : Nat → Nat} {N j : Nat} (h : gr_B st so rt nd pa co de N j 256) : gr_B st so rt nd pa co de N (j + 1) 0 := by
  obtain ⟨h1, h2, h3, h4, h5, h6, h7⟩ := h
  refine ⟨h1, h2, h3, fun i hi hN => ?_, h5, fun a e t ha hj he hst => h6 a e t ha (by omega) he hst, h7⟩
  obtain ⟨a1, a2, a3, a4, a5⟩ := h4 i hi hN
  exact ⟨a1, by omega, a3, a4, a5⟩
theorem gr_Bfound {rt : σ} {nd nd' : Nat → σ} {pa co de pa' co' de' : Nat → Nat} {N j c : Nat} {t : σ} (h : gr_B st so rt nd pa co de N j c) (hj : j < N) (hc : c < 256) (hs : st (nd j) c = some t) (ht : so t)
    (hk : ∀ i, i < N → nd' i = nd i ∧ pa' i = pa i ∧ co' i = co i ∧ de' i = de i) (hn : nd' N = t) (hp : pa' N = j) (ho : co' N = c) (hd : de' N = de j + 1) : gr_F st so rt nd' pa' co' de' N := by
  obtain ⟨h1, h2, h3, h4, h5, h6, h7⟩ := h
  refine ⟨h1, ?_, ?_, fun i hi hN => ?_, fun i k hi hik hkN => ?_, fun a e x haj he hst => ?_, fun i hi => ?_, by rw [hn]; exact ht⟩
  · rw [(hk 0 h1).1]; exact h2
  · rw [(hk 0 h1).2.2.2]; exact h3
  · by_cases z : i = N
    · subst z
      rw [hn, hp, ho, hd, (hk j hj).1, (hk j hj).2.2.2]
      exact ⟨hj, hc, hs, rfl⟩
    · obtain ⟨a1, a2, a3, a4, a5⟩ := h4 i hi (by omega)
      obtain ⟨k1, k2, k3, k4⟩ := hk i (by omega)
      have k5 := hk (pa i) (by omega)
      rw [k1, k2, k3, k4, k5.1, k5.2.2.2]
      exact ⟨a1, a3, a4, a5⟩
  · by_cases z : k = N
    · subst z
      obtain ⟨a1, a2, a3, a4, a5⟩ := h4 i hi (by omega)
      obtain ⟨k1, k2, k3, k4⟩ := hk i (by omega)
      rw [hp, ho, k2, k3]
      omega
    · obtain ⟨k1, k2, k3, k4⟩ := hk i (by omega)
      obtain ⟨l1, l2, l3, l4⟩ := hk k (by omega)
      rw [k2, k3, l2, l3]
      exact h5 i k hi hik (by omega)
  · rw [hp, ho] at haj
    have haN : a < N := by omega
    rw [(hk a haN).1] at hst
    obtain ⟨q, q1, q2, q3⟩ := h6 a e x haN haj he hst
    obtain ⟨k1, k2, k3, k4⟩ := hk q q1
    refine ⟨q, q1, by rw [k1]; exact q2, ?_⟩
    rw [k2, k3]; exact q3
  · rw [(hk i hi).1]; exact h7 i hi
/-- depths rise with the nodes' numbers -/
theorem gr_mono {pa co de : Nat → Nat} {M : Nat} (h0 : de 0 = 0) (h4 : ∀ i, 0 < i → i < M → pa i < i ∧ de i = de (pa i) + 1) (h5 : ∀ i k, 0 < i → i < k → k < M → pa i < pa k ∨ (pa i = pa k ∧ co i < co k)) : ∀ k i, i ≤ k → k < M → de i ≤ de k := by
  intro k
  induction k using Nat.strongRecOn with
  | ind k ih =>
    intro i hi hk
    by_cases e : i = k
    · subst e; exact Nat.le_refl _
    · by_cases i0 : i = 0
      · subst i0; rw [h0]; exact Nat.zero_le _
      · obtain ⟨a1, a2⟩ := h4 i (by omega) (by omega)
        obtain ⟨b1, b2⟩ := h4 k (by omega) hk
        have := h5 i k (by omega) (by omega) hk
        have := ih (pa k) b1 (pa i) (by omega) (by omega)
        omega
theorem gr_low {rt : σ} {nd : Nat → σ} {pa co de : Nat → Nat} {F : Nat} (h : gr_F st so rt nd pa co de F) : ∀ m i, i ≤ F → de i + m < de F → ¬ gr_can st so m (nd i) := by
  obtain ⟨h1, h2, h3, h4, h5, h6, h7, h8⟩ := h
  have mono := gr_mono (pa := pa) (co := co) (de := de) (M := F + 1) h3 (fun i hi hF => ⟨(h4 i hi (by omega)).1, (h4 i hi (by omega)).2.2.2⟩) (fun i k hi hik hk => h5 i k hi hik (by omega))
  intro m
  induction m with
  | zero =>
    intro i hi hd hc
    by_cases e : i = F
    · subst e; omega
    · exact h7 i (by omega) hc
  | succ m ih =>
    rintro i hi hd ⟨c, t, hc, hst, hcan⟩
    have hF := (h4 F h1 (Nat.le_refl F))
    have hlt : i < pa F := by
      apply Nat.not_le.mp
      intro z
      have := mono i (pa F) z (by omega)
      omega
    obtain ⟨q, q1, q2, q3⟩ := h6 i c t (Or.inl hlt) hc hst
    have hq : de q ≤ de i + 1 := by
      by_cases q0 : q = 0
      · subst q0; omega
      · obtain ⟨_, _, _, b4⟩ := h4 q (by omega) (by omega)
        have := mono i (pa q) (by omega) (by omega)
        omega
    refine ih q (by omega) (by omega) ?_
    rw [q2]; exact hcan
def gr_up (pa : Nat → Nat) : Nat → Nat → Nat
  | 0, k => k
  | n + 1, k => pa (gr_up pa n k)
theorem gr_upF {rt : σ} {nd : Nat → σ} {pa co de : Nat → Nat} {F : Nat} (h : gr_F st so rt nd pa co de F) : ∀ m, m ≤ de F → gr_up pa m F ≤ F ∧ de (gr_up pa m F) + m = de F := by
  obtain ⟨h1, h2, h3, h4, h5, h6, h7, h8⟩ := h
  intro m
  induction m with
  | zero => exact fun _ => ⟨Nat.le_refl F, rfl⟩
  | succ m ih =>
    intro hm
    obtain ⟨a1, a2⟩ := ih (by omega)
    have hp : 0 < gr_up pa m F := by
      apply Nat.pos_of_ne_zero
      intro z
      rw [z, h3] at a2
      omega
    obtain ⟨b1, _, _, b4⟩ := h4 _ hp a1
    show pa (gr_up pa m F) ≤ F ∧ de (pa (gr_up pa m F)) + (m + 1) = de F
    omega
theorem gr_left {rt : σ} {nd : Nat → σ} {pa co de : Nat → Nat} {F : Nat} (h : gr_F st so rt nd pa co de F) : ∀ m, m ≤ de F → ∀ i, i < gr_up pa m F → ¬ gr_can st so m (nd i) := by
  have hup := gr_upF st so h
  obtain ⟨h1, h2, h3, h4, h5, h6, h7, h8⟩ := h
  intro m
  induction m with
  | zero => exact fun _ i hi hc => h7 i hi hc
  | succ m ih =>
    rintro hm i hi ⟨c, t, hc, hst, hcan⟩
    have hi : i < pa (gr_up pa m F) := hi
    obtain ⟨a1, a2⟩ := hup m (by omega)
    have hp : 0 < gr_up pa m F := by
      apply Nat.pos_of_ne_zero
      intro z
      rw [z, h3] at a2
      omega
    have hle : pa (gr_up pa m F) ≤ pa F := by
      by_cases e : gr_up pa m F = F
      · rw [e]; exact Nat.le_refl _
      · have := h5 _ F hp (by omega) (Nat.le_refl F)
        omega
    obtain ⟨q, q1, q2, q3⟩ := h6 i c t (Or.inl (by omega)) hc hst
    have hq : q < gr_up pa m F := by
      apply Nat.not_le.mp
      intro z
      by_cases e : gr_up pa m F = q
      · rw [← e] at q3; omega
      · have := h5 _ q hp (by omega) (by omega)
        omega
    refine ih (by omega) q hq ?_
    rw [q2]; exact hcan
theorem gr_path {rt : σ} {nd : Nat → σ} {pa co de : Nat → Nat} {F : Nat} (h : gr_F st so rt nd pa co de F) {sp : Nat → Nat} (hsp : ∀ i, i < de F → sp i = co (gr_up pa (de F - 1 - i) F)) : ∀ m, m ≤ de F → gr_G st so m (nd (gr_up pa m F)) (fun i => sp (de F - m + i)) := by
  have hup := gr_upF st so h
  have hleft := gr_left st so h
  obtain ⟨h1, h2, h3, h4, h5, h6, h7, h8⟩ := h
  intro m
  induction m with
  | zero => exact fun _ => h8
  | succ m ih =>
    intro hm
    obtain ⟨a1, a2⟩ := hup m (by omega)
    have hp : 0 < gr_up pa m F := by
      apply Nat.pos_of_ne_zero
      intro z
      rw [z, h3] at a2
      omega
    obtain ⟨b1, b2, b3, b4⟩ := h4 _ hp a1
    have e0 : sp (de F - (m + 1) + 0) = co (gr_up pa m F) := by
      rw [hsp _ (by omega)]
      congr 2
      omega
    have e1 : (fun i => sp (de F - (m + 1) + (i + 1))) = (fun i => sp (de F - m + i)) := by
      funext i
      congr 1
      omega
    refine ⟨nd (gr_up pa m F), ?_, ?_, ?_, ?_⟩
    · show sp (de F - (m + 1) + 0) < 256
      rw [e0]; exact b2
    · show st (nd (pa (gr_up pa m F))) (sp (de F - (m + 1) + 0)) = _
      rw [e0]; exact b3
    · intro c t' hc hst
      have hc : c < co (gr_up pa m F) := by rw [← e0]; exact hc
      have hcl : pa (gr_up pa m F) < pa F ∨ (pa (gr_up pa m F) = pa F ∧ c < co F) := by
        by_cases e : gr_up pa m F = F
        · rw [e] at hc ⊢; exact Or.inr ⟨rfl, hc⟩
        · have := h5 _ F hp (by omega) (Nat.le_refl F)
          omega
      obtain ⟨q, q1, q2, q3⟩ := h6 _ c t' hcl (by omega) hst
      have hq : q < gr_up pa m F := by
        apply Nat.not_le.mp
        intro z
        by_cases e : gr_up pa m F = q
        · rw [← e] at q3; omega
        · have := h5 _ q hp (by omega) (by omega)
          omega
      rw [← q2]
      exact hleft m (by omega) q hq
    · show gr_G st so m (nd (gr_up pa m F)) (fun i => sp (de F - (m + 1) + (i + 1)))
      rw [e1]
      exact ih (by omega)
theorem gr_done {rt : σ} {nd : Nat → σ} {pa co de : Nat → Nat} {F : Nat} (h : gr_F st so rt nd pa co de F) {sp : Nat → Nat} (hsp : ∀ i, i < de F → sp i = co (gr_up pa (de F - 1 - i) F)) : gr_G st so (de F) rt sp ∧ ∀ m, m < de F → ¬ gr_can st so m rt := by
  have hup := gr_upF st so h (de F) (Nat.le_refl _)
  have hpath := gr_path st so h hsp (de F) (Nat.le_refl _)
  have hlow := gr_low st so h
  obtain ⟨h1, h2, h3, h4, h5, h6, h7, h8⟩ := h
  have e : gr_up pa (de F) F = 0 := by
    apply Classical.byContradiction
    intro z
    obtain ⟨_, _, _, b4⟩ := h4 (gr_up pa (de F) F) (by omega) hup.1
    omega
  constructor
  · rw [e, h2] at hpath
    have e1 : (fun i => sp (de F - de F + i)) = sp := by
      funext i
      congr 1
      omega
    rw [e1] at hpath
    exact hpath
  · intro m hm
    rw [← h2]
    exact hlow m 0 (by omega) (by omega)
theorem gr_fail {rt : σ} {nd : Nat → σ} {pa co de : Nat → Nat} {N j P : Nat} (h : gr_B st so rt nd pa co de N j 0) (hj : j = N ∨ (j < N ∧ P ≤ de j)) : ∀ m, m ≤ P → ¬ gr_can st so m rt := by
  obtain ⟨h1, h2, h3, h4, h5, h6, h7⟩ := h
  have mono := gr_mono (pa := pa) (co := co) (de := de) (M := N) h3 (fun i hi hN => ⟨(h4 i hi hN).1, (h4 i hi hN).2.2.2.2⟩) h5
  have key : ∀ m i, i < N → de i + m ≤ P → ¬ gr_can st so m (nd i) := by
    intro m
    induction m with
    | zero => exact fun i hi _ hc => h7 i hi hc
    | succ m ih =>
      rintro i hi hd ⟨c, t, hc, hst, hcan⟩
      have hlt : i < j := by
        rcases hj with e | ⟨e1, e2⟩
        · omega
        · apply Nat.not_le.mp
          intro z
          have := mono i j z hi
          omega
      obtain ⟨q, q1, q2, q3⟩ := h6 i c t hi (Or.inl hlt) hc hst
      have hq : de q ≤ de i + 1 := by
        by_cases q0 : q = 0
        · subst q0; omega
        · obtain ⟨_, _, _, _, b4⟩ := h4 q (by omega) q1
          have := mono i (pa q) (by omega) hi
          omega
      refine ih q q1 (by omega) ?_
      rw [q2]; exact hcan
  intro m hm
  rw [← h2]
  exact key m 0 h1 (by omega)
end
end
section
/-! pushes as steps of a graph; node numbers; counts -/
def gr_mv (b : Int64) (x y : Nat) : Int64 := (b &&& (ce_bit x ^^^ (-1))) ||| ce_bit y
theorem gr_mvB {b : Int64} {x y j : Nat} (hx : x < 64) (hy : y < 64) (hj : j < 64) : ce_b (gr_mv b x y) j = ((ce_b b j && !decide (x = j)) || decide (y = j)) := by
  unfold gr_mv
  rw [ce_setB hy, ce_clrB hx hj]
theorem gr_mvT {b : Int64} {x y j : Nat} (hx : x < 64) (hy : y < 64) : ce_b (gr_mv b x y) j = true ↔ (ce_b b j = true ∧ x ≠ j) ∨ y = j := by
  rcases Nat.lt_or_ge j 64 with z | z
  · rw [gr_mvB hx hy z]
    simp only [Bool.or_eq_true, Bool.and_eq_true, Bool.not_eq_true', decide_eq_true_eq, decide_eq_false_iff_not, ne_eq]
  · rw [ce_big z, ce_big z]
    constructor
    · intro h; cases h
    · rintro (⟨h, _⟩ | h)
      · cases h
      · omega
theorem gr_mv_rk {b : Int64} {x y : Nat} (hx : ce_b b x = true) (hy : y < 64) (hb : ce_b b y = false) : ce_rk (gr_mv b x y) 64 = ce_rk b 64 := by
  have hx64 := ce_lt hx
  have h1 := ce_rk_clr hx64 hx 64 (by omega)
  have h2 : ce_b (b &&& (ce_bit x ^^^ (-1))) y = false := by rw [ce_clrB hx64 hy, hb]; rfl
  have h3 := ce_rk_set hy h2 64
  unfold gr_mv
  rw [if_pos hx64] at h1
  rw [if_pos hy] at h3
  omega
def gr_step (w lv : Int64) (s : Int64 × Nat) (c : Nat) : Option (Int64 × Nat) :=
  if ce_b s.1 (c / 4) = true ∧ ce_n (c / 4) (c % 4) < 64 ∧ ce_b w (ce_n (c / 4) (c % 4)) = false ∧ ce_b s.1 (ce_n (c / 4) (c % 4)) = false ∧ ce_b (gr_area w s.1 s.2) (ce_n (c / 4) ((c % 4 + 2) % 4)) = true ∧ ce_b lv (ce_n (c / 4) (c % 4)) = true
  then some (gr_mv s.1 (c / 4) (ce_n (c / 4) (c % 4)), c / 4) else none
def gr_so (g : Int64) (s : Int64 × Nat) : Prop := s.1 &&& (g ^^^ (-1)) = 0
theorem gr_soI (g b : Int64) : b &&& (g ^^^ (-1)) = 0 ↔ ∀ c, ce_b b c = true → ce_b g c = true := by
  constructor
  · intro h c hc
    have hc64 := ce_lt hc
    have : ce_b (b &&& (g ^^^ (-1))) c = false := by rw [h]; exact ce_0 c
    rw [ce_and, ce_not _ hc64, hc] at this
    cases z : ce_b g c
    · rw [z] at this; cases this
    · rfl
  · intro h
    apply ce_ext
    intro c hc
    rw [ce_0, ce_and, ce_not _ hc]
    cases z : ce_b b c
    · rfl
    · rw [h c z]; rfl
/-- a position of the search: the pusher on a free cell, k boxes, all on live cells -/
def gr_ok (w lv : Int64) (k : Nat) (s : Int64 × Nat) : Prop := s.2 < 64 ∧ ce_b w s.2 = false ∧ ce_b s.1 s.2 = false ∧ (∀ c, ce_b s.1 c = true → ce_b lv c = true) ∧ ce_rk s.1 64 = k
theorem gr_step_ok {w lv : Int64} {k c : Nat} {s t : Int64 × Nat} (hl : ∀ c, ce_b lv c = true → ce_b w c = false) (h : gr_ok w lv k s) (hs : gr_step w lv s c = some t) : gr_ok w lv k t := by
  unfold gr_step at hs
  split at hs
  · rename_i z
    obtain ⟨z1, z2, z3, z4, z5, z6⟩ := z
    obtain ⟨h1, h2, h3, h4, h5⟩ := h
    cases hs
    have hx := ce_lt z1
    refine ⟨hx, hl _ (h4 _ z1), ?_, ?_, ?_⟩
    · show ce_b (gr_mv s.1 (c / 4) (ce_n (c / 4) (c % 4))) (c / 4) = false
      rw [gr_mvB hx z2 hx]
      have := ce_n_ne (c / 4) hx (c % 4) (Nat.mod_lt _ (by decide))
      simp [this]
    · intro j hj
      rcases (gr_mvT hx z2).mp hj with ⟨a, _⟩ | a
      · exact h4 j a
      · subst a; exact z6
    · show ce_rk (gr_mv s.1 (c / 4) (ce_n (c / 4) (c % 4))) 64 = k
      rw [gr_mv_rk z1 z2 z4]; exact h5
  · cases hs
/-! numbers of sets of boxes -/
def gr_nm (L : Nat) (lv b : Int64) : Nat → Nat
  | 0 => 0
  | n + 1 => if ce_b b n then gr_nm L lv b n * L + ce_rk lv n else gr_nm L lv b n
theorem gr_nm0 {L : Nat} {lv b : Int64} : ∀ n, ce_rk b n = 0 → gr_nm L lv b n = 0 ∧ ∀ j, j < n → ce_b b j = false := by
  intro n
  induction n with
  | zero => exact fun _ => ⟨rfl, fun j h => by omega⟩
  | succ n ih =>
    intro h
    cases hb : ce_b b n
    · rw [ce_rk_n hb] at h
      obtain ⟨h1, h2⟩ := ih h
      refine ⟨by unfold gr_nm; rw [hb]; exact h1, fun j hj => ?_⟩
      by_cases e : j = n
      · subst e; exact hb
      · exact h2 j (by omega)
    · rw [ce_rk_s hb] at h; omega
/-- the greatest cell of a set -/
theorem gr_top {L : Nat} {lv b : Int64} {k : Nat} : ∀ n, ce_rk b n = k + 1 → ∃ x, x < n ∧ ce_b b x = true ∧ ce_rk b x = k ∧ gr_nm L lv b n = gr_nm L lv b x * L + ce_rk lv x ∧ ∀ j, x < j → j < n → ce_b b j = false := by
  intro n
  induction n with
  | zero => intro h; exact absurd h (by show ¬ 0 = k + 1; omega)
  | succ n ih =>
    intro h
    cases hb : ce_b b n
    · rw [ce_rk_n hb] at h
      obtain ⟨x, x1, x2, x3, x4, x5⟩ := ih h
      refine ⟨x, by omega, x2, x3, by rw [gr_nm, hb]; exact x4, fun j h1 h2 => ?_⟩
      by_cases e : j = n
      · subst e; exact hb
      · exact x5 j h1 (by omega)
    · rw [ce_rk_s hb] at h
      exact ⟨n, by omega, hb, by omega, by rw [gr_nm]; rw [hb]; rfl, fun j h1 h2 => by omega⟩
theorem gr_nm_inj {L : Nat} {lv : Int64} (hL : ce_rk lv 64 = L) : ∀ k {b b' : Int64} (n n' : Nat), (∀ c, ce_b b c = true → ce_b lv c = true) → (∀ c, ce_b b' c = true → ce_b lv c = true) → n ≤ 64 → n' ≤ 64 → ce_rk b n = k → ce_rk b' n' = k → gr_nm L lv b n = gr_nm L lv b' n' → ∀ j, (j < n ∧ ce_b b j = true) ↔ (j < n' ∧ ce_b b' j = true) := by
  intro k
  induction k with
  | zero =>
    intro b b' n n' _ _ _ _ h1 h2 _ j
    have a := (gr_nm0 (L := L) (lv := lv) n h1).2
    have a' := (gr_nm0 (L := L) (lv := lv) n' h2).2
    constructor
    · rintro ⟨z1, z2⟩; rw [a j z1] at z2; cases z2
    · rintro ⟨z1, z2⟩; rw [a' j z1] at z2; cases z2
  | succ k ih =>
    intro b b' n n' hb hb' hn hn' h1 h2 he j
    obtain ⟨x, x1, x2, x3, x4, x5⟩ := gr_top (L := L) (lv := lv) n h1
    obtain ⟨y, y1, y2, y3, y4, y5⟩ := gr_top (L := L) (lv := lv) n' h2
    have rx : ce_rk lv x < L := by rw [← hL]; exact ce_rk_lt (hb x x2) (ce_lt x2)
    have ry : ce_rk lv y < L := by rw [← hL]; exact ce_rk_lt (hb' y y2) (ce_lt y2)
    rw [x4, y4] at he
    have e1 : ce_rk lv x = ce_rk lv y := by
      have := congrArg (· % L) he
      simp only [Nat.mul_add_mod_self_right, Nat.mod_eq_of_lt rx, Nat.mod_eq_of_lt ry] at this
      exact this
    have e2 : gr_nm L lv b x = gr_nm L lv b' y := by
      rw [e1] at he
      have h3 : gr_nm L lv b x * L = gr_nm L lv b' y * L := by omega
      exact Nat.eq_of_mul_eq_mul_right (by omega) h3
    have exy : x = y := ce_rk_inj (hb x x2) (hb' y y2) e1
    subst exy
    have := ih x x hb hb' (by omega) (by omega) x3 y3 e2 j
    constructor
    · rintro ⟨z1, z2⟩
      rcases Nat.lt_trichotomy j x with z | z | z
      · exact ⟨by omega, (this.mp ⟨z, z2⟩).2⟩
      · subst z; exact ⟨y1, y2⟩
      · rw [x5 j z z1] at z2; cases z2
    · rintro ⟨z1, z2⟩
      rcases Nat.lt_trichotomy j x with z | z | z
      · exact ⟨by omega, (this.mpr ⟨z, z2⟩).2⟩
      · subst z; exact ⟨x1, x2⟩
      · rw [y5 j z z1] at z2; cases z2
/-- k strictly rising digits in base L -/
def gr_v (L : Nat) : Nat → Nat → Bool
  | 0, v => v == 0
  | k + 1, v => gr_v L k (v / L) && (k == 0 || decide (v / L % L < v % L))
theorem gr_nm_v {L : Nat} {lv b : Int64} (hL : ce_rk lv 64 = L) (hb : ∀ c, ce_b b c = true → ce_b lv c = true) : ∀ k n, n ≤ 64 → ce_rk b n = k → gr_v L k (gr_nm L lv b n) = true ∧ gr_nm L lv b n < L ^ k := by
  intro k
  induction k with
  | zero =>
    intro n _ h
    rw [(gr_nm0 (L := L) (lv := lv) n h).1]
    exact ⟨rfl, Nat.one_pos⟩
  | succ k ih =>
    intro n hn h
    obtain ⟨x, x1, x2, x3, x4, x5⟩ := gr_top (L := L) (lv := lv) n h
    have rx : ce_rk lv x < L := by rw [← hL]; exact ce_rk_lt (hb x x2) (ce_lt x2)
    obtain ⟨i1, i2⟩ := ih x (by omega) x3
    have d1 : gr_nm L lv b n / L = gr_nm L lv b x := by
      rw [x4, Nat.mul_comm, Nat.mul_add_div (by omega), Nat.div_eq_of_lt rx, Nat.add_zero]
    have d2 : gr_nm L lv b n % L = ce_rk lv x := by
      rw [x4, Nat.mul_add_mod_self_right, Nat.mod_eq_of_lt rx]
    constructor
    · show (gr_v L k (gr_nm L lv b n / L) && (k == 0 || decide (gr_nm L lv b n / L % L < gr_nm L lv b n % L))) = true
      rw [d1, d2, i1]
      cases k with
      | zero => rfl
      | succ k =>
        obtain ⟨y, y1, y2, y3, y4, y5⟩ := gr_top (L := L) (lv := lv) x x3
        have ry : ce_rk lv y < L := by rw [← hL]; exact ce_rk_lt (hb y y2) (ce_lt y2)
        have d3 : gr_nm L lv b x % L = ce_rk lv y := by rw [y4, Nat.mul_add_mod_self_right, Nat.mod_eq_of_lt ry]
        rw [d3, decide_eq_true (ce_rk_lt (hb y y2) y1)]
        simp
    · rw [x4, Nat.pow_succ]
      have := Nat.mul_le_mul_right L (Nat.succ_le_of_lt i2)
      rw [Nat.succ_mul] at this
      omega
/-! counts -/
def gr_ct (f : Nat → Bool) : Nat → Nat
  | 0 => 0
  | n + 1 => gr_ct f n + (if f n then 1 else 0)
theorem gr_ct_len (f : Nat → Bool) : ∀ n, gr_ct f n ≤ n := by
  intro n
  induction n with
  | zero => exact Nat.le_refl 0
  | succ n ih => unfold gr_ct; split <;> omega
theorem gr_ct_le {f g : Nat → Bool} : ∀ n, (∀ i, i < n → f i = true → g i = true) → gr_ct f n ≤ gr_ct g n := by
  intro n
  induction n with
  | zero => exact fun _ => Nat.le_refl 0
  | succ n ih =>
    intro h
    have := ih (fun i hi => h i (by omega))
    unfold gr_ct
    cases hf : f n
    · simp; omega
    · rw [h n (by omega) hf]; simp; exact this
theorem gr_ct_lt {f g : Nat → Bool} {x : Nat} (hf : f x = false) (hg : g x = true) : ∀ n, x < n → (∀ i, i < n → f i = true → g i = true) → gr_ct f n < gr_ct g n := by
  intro n
  induction n with
  | zero => intro h; omega
  | succ n ih =>
    intro hx h
    unfold gr_ct
    by_cases e : x = n
    · subst e
      have := gr_ct_le (f := f) (g := g) x (fun i hi => h i (by omega))
      rw [hf, hg]; simp; omega
    · have := ih (by omega) (fun i hi => h i (by omega))
      cases hfn : f n
      · simp; omega
      · rw [h n (by omega) hfn]; simp; exact this
theorem gr_ct_eq {f g : Nat → Bool} (n : Nat) (h : ∀ i, i < n → f i = g i) : gr_ct f n = gr_ct g n :=
  Nat.le_antisymm (gr_ct_le n (fun i hi z => by rw [← h i hi]; exact z)) (gr_ct_le n (fun i hi z => by rw [h i hi]; exact z))
theorem gr_ct_set {f g : Nat → Bool} {x : Nat} (hf : f x = false) (hg : g x = true) (h : ∀ i, i ≠ x → g i = f i) : ∀ n, gr_ct g n = gr_ct f n + (if x < n then 1 else 0) := by
  intro n
  induction n with
  | zero => rfl
  | succ n ih =>
    unfold gr_ct
    rw [ih]
    by_cases e : x = n
    · subst e; rw [hf, hg]; simp
    · rw [h n (fun z => e z.symm)]
      have e1 : (if x < n + 1 then 1 else 0 : Nat) = if x < n then 1 else 0 := by
        split <;> split <;> omega
      rw [e1]; omega
theorem gr_ct_add (f : Nat → Bool) (a : Nat) : ∀ b, gr_ct f (a + b) = gr_ct f a + gr_ct (fun i => f (a + i)) b := by
  intro b
  induction b with
  | zero => rfl
  | succ b ih =>
    show gr_ct f (a + b) + (if f (a + b) then 1 else 0) = gr_ct f a + (gr_ct (fun i => f (a + i)) b + (if f (a + b) then 1 else 0))
    rw [ih]; omega
theorem gr_ct_all : ∀ n, gr_ct (fun _ => true) n = n := by
  intro n
  induction n with
  | zero => rfl
  | succ n ih => unfold gr_ct; rw [ih]; rfl
theorem gr_ct_no : ∀ n, gr_ct (fun _ => false) n = 0 := by
  intro n
  induction n with
  | zero => rfl
  | succ n ih => unfold gr_ct; rw [ih]; rfl
theorem gr_ct_64 (g : Nat → Bool) : ∀ M, gr_ct (fun i => g (i / 64)) (64 * M) = 64 * gr_ct g M := by
  intro M
  induction M with
  | zero => rfl
  | succ M ih =>
    rw [Nat.mul_succ, gr_ct_add, ih]
    have e : gr_ct (fun i => g ((64 * M + i) / 64)) 64 = gr_ct (fun _ => g M) 64 := by
      apply gr_ct_eq
      intro i hi
      congr 1
      omega
    rw [e]
    show _ = 64 * (gr_ct g M + _)
    cases g M
    · rw [gr_ct_no]; simp
    · rw [gr_ct_all]; simp; omega
/-- the levels that the search takes -/
def gr_fit (k L : Nat) : Prop := (k = 1 ∧ L ≤ 60) ∨ (k = 2 ∧ L ≤ 8) ∨ (k = 3 ∧ L ≤ 6)
theorem gr_cap2 : ∀ L, L < 9 → gr_ct (gr_v L 2) (L ^ 2) ≤ 60 := by decide +kernel
theorem gr_cap3 : ∀ L, L < 7 → gr_ct (gr_v L 3) (L ^ 3) ≤ 60 := by decide +kernel
theorem gr_cap {k L : Nat} (h : gr_fit k L) : gr_ct (gr_v L k) (L ^ k) ≤ 60 := by
  rcases h with ⟨rfl, h⟩ | ⟨rfl, h⟩ | ⟨rfl, h⟩
  · exact Nat.le_trans (gr_ct_len _ _) (by rw [Nat.pow_one]; exact h)
  · exact gr_cap2 L (by omega)
  · exact gr_cap3 L (by omega)
theorem gr_pw2 : ∀ L, L < 9 → L ^ 2 ≤ 216 := by decide +kernel
theorem gr_pw3 : ∀ L, L < 7 → L ^ 3 ≤ 216 := by decide +kernel
theorem gr_pw {k L : Nat} (h : gr_fit k L) : L ^ k ≤ 216 := by
  rcases h with ⟨rfl, h⟩ | ⟨rfl, h⟩ | ⟨rfl, h⟩
  · rw [Nat.pow_one]; omega
  · exact gr_pw2 L (by omega)
  · exact gr_pw3 L (by omega)
/-- a node's number -/
def gr_no (L : Nat) (lv : Int64) (s : Int64 × Nat) : Nat := gr_nm L lv s.1 64 * 64 + s.2
theorem gr_no_inj {w lv : Int64} {k L : Nat} {s t : Int64 × Nat} (hL : ce_rk lv 64 = L) (hs : gr_ok w lv k s) (ht : gr_ok w lv k t) (h : gr_no L lv s = gr_no L lv t) : s = t := by
  unfold gr_no at h
  obtain ⟨s1, s2, s3, s4, s5⟩ := hs
  obtain ⟨t1, t2, t3, t4, t5⟩ := ht
  have h1 : s.2 = t.2 := by omega
  have h2 : gr_nm L lv s.1 64 = gr_nm L lv t.1 64 := by omega
  have h3 := gr_nm_inj hL k 64 64 s4 t4 (by omega) (by omega) s5 t5 h2
  have h4 : s.1 = t.1 := by
    apply ce_ext
    intro c hc
    have := h3 c
    cases z1 : ce_b s.1 c <;> cases z2 : ce_b t.1 c <;> simp_all
  exact Prod.ext h4 h1
theorem gr_no_v {w lv : Int64} {k L : Nat} {s : Int64 × Nat} (hL : ce_rk lv 64 = L) (hf : gr_fit k L) (hs : gr_ok w lv k s) : gr_v L k (gr_no L lv s / 64) = true ∧ gr_no L lv s < 64 * L ^ k ∧ gr_no L lv s < 13824 := by
  unfold gr_no
  obtain ⟨s1, s2, s3, s4, s5⟩ := hs
  obtain ⟨h1, h2⟩ := gr_nm_v hL s4 k 64 (by omega) s5
  have h3 := gr_pw hf
  have e : (gr_nm L lv s.1 64 * 64 + s.2) / 64 = gr_nm L lv s.1 64 := by omega
  rw [e]
  exact ⟨h1, by omega, by omega⟩
/-- nodes that are met are never more than fit -/
theorem gr_room {k L N x : Nat} {met : Nat → Bool} (hf : gr_fit k L) (hm : ∀ i, met i = true → gr_v L k (i / 64) = true ∧ i < 64 * L ^ k) (hN : gr_ct met (64 * L ^ k) = N) : N ≤ 3840 ∧ (gr_v L k (x / 64) = true → x < 64 * L ^ k → met x = false → N < 3840) := by
  have h1 := gr_cap hf
  have h2 := gr_ct_64 (gr_v L k) (L ^ k)
  constructor
  · have := gr_ct_le (f := met) (g := fun i => gr_v L k (i / 64)) (64 * L ^ k) (fun i hi z => (hm i z).1)
    omega
  · intro a b c
    have := gr_ct_lt (f := met) (g := fun i => gr_v L k (i / 64)) c a (64 * L ^ k) b (fun i hi z => (hm i z).1)
    omega
end
section
/-! tuples of cells as digits; the reference's table of distances -/
def gr_cd (L : Nat) (ix : Nat → Nat) : Nat → Nat
  | 0 => 0
  | k + 1 => gr_cd L ix k * L + ix k
def gr_dg (L B v k : Nat) : Nat := v / L ^ (B - 1 - k) % L
theorem gr_cd_lt {L : Nat} {ix : Nat → Nat} : ∀ B, (∀ j, j < B → ix j < L) → gr_cd L ix B < L ^ B := by
  intro B
  induction B with
  | zero => intro _; exact Nat.one_pos
  | succ B ih =>
    intro h
    have h1 := ih (fun j hj => h j (by omega))
    have h2 := h B (by omega)
    show gr_cd L ix B * L + ix B < L ^ (B + 1)
    rw [Nat.pow_succ]
    have := Nat.mul_le_mul_right L (Nat.succ_le_of_lt h1)
    rw [Nat.succ_mul] at this
    omega
theorem gr_dg_cd {L : Nat} {ix : Nat → Nat} : ∀ B, (∀ j, j < B → ix j < L) → ∀ k, k < B → gr_dg L B (gr_cd L ix B) k = ix k := by
  intro B
  induction B with
  | zero => intro _ k hk; omega
  | succ B ih =>
    intro h k hk
    have h2 := h B (by omega)
    have hL : 0 < L := by omega
    unfold gr_dg
    by_cases e : k = B
    · subst e
      rw [show k + 1 - 1 - k = 0 by omega, Nat.pow_zero, Nat.div_one]
      show (gr_cd L ix k * L + ix k) % L = ix k
      rw [Nat.mul_add_mod_self_right, Nat.mod_eq_of_lt h2]
    · rw [show B + 1 - 1 - k = (B - 1 - k) + 1 by omega, Nat.pow_succ', ← Nat.div_div_eq_div_mul]
      have e2 : gr_cd L ix (B + 1) / L = gr_cd L ix B := by
        show (gr_cd L ix B * L + ix B) / L = gr_cd L ix B
        rw [Nat.mul_comm, Nat.mul_add_div hL, Nat.div_eq_of_lt h2, Nat.add_zero]
      rw [e2]
      exact ih (fun j hj => h j (by omega)) k (by omega)
theorem gr_cd_congr {L : Nat} {ix iy : Nat → Nat} : ∀ B, (∀ j, j < B → ix j = iy j) → gr_cd L ix B = gr_cd L iy B := by
  intro B
  induction B with
  | zero => intro _; rfl
  | succ B ih =>
    intro h
    show gr_cd L ix B * L + ix B = gr_cd L iy B * L + iy B
    rw [ih (fun j hj => h j (by omega)), h B (by omega)]
/-- the set of the cells of a tuple -/
def gr_ms (cl : Nat → Nat) : Nat → Int64
  | 0 => 0
  | k + 1 => gr_ms cl k ||| ce_bit (cl k)
theorem gr_msT {cl : Nat → Nat} : ∀ B, (∀ j, j < B → cl j < 64) → ∀ c, ce_b (gr_ms cl B) c = true ↔ ∃ j, j < B ∧ cl j = c := by
  intro B
  induction B with
  | zero => intro _ c; rw [gr_ms, ce_0]; exact ⟨fun h => (by cases h), fun ⟨j, h, _⟩ => absurd h (by omega)⟩
  | succ B ih =>
    intro h c
    rw [gr_ms, ce_setB (h B (by omega)), Bool.or_eq_true, ih (fun j hj => h j (by omega)), decide_eq_true_eq]
    constructor
    · rintro (⟨j, h1, h2⟩ | h1)
      · exact ⟨j, by omega, h2⟩
      · exact ⟨B, by omega, h1⟩
    · rintro ⟨j, h1, h2⟩
      by_cases e : j = B
      · subst e; exact Or.inr h2
      · exact Or.inl ⟨j, by omega, h2⟩
theorem gr_ms_congr {cl cm : Nat → Nat} : ∀ B, (∀ j, j < B → cl j = cm j) → gr_ms cl B = gr_ms cm B := by
  intro B
  induction B with
  | zero => intro _; rfl
  | succ B ih =>
    intro h
    rw [gr_ms, gr_ms, ih (fun j hj => h j (by omega)), h B (by omega)]
theorem gr_ms_rk {cl : Nat → Nat} : ∀ B, (∀ j, j < B → cl j < 64) → (∀ i j, i < j → j < B → cl i ≠ cl j) → ce_rk (gr_ms cl B) 64 = B := by
  intro B
  induction B with
  | zero => intro _ _; rw [gr_ms]; decide +kernel
  | succ B ih =>
    intro h hd
    have h1 := ih (fun j hj => h j (by omega)) (fun i j hi hj => hd i j hi (by omega))
    have h2 : ce_b (gr_ms cl B) (cl B) = false := by
      apply ts_nt
      intro z
      obtain ⟨j, z1, z2⟩ := (gr_msT B (fun j hj => h j (by omega)) _).mp z
      exact hd j B z1 (by omega) z2
    rw [gr_ms, ce_rk_set (h B (by omega)) h2, if_pos (h B (by omega)), h1]
def gr_rp (cl : Nat → Nat) (k a : Nat) : Nat → Nat := fun j => if j = k then a else cl j
theorem gr_ms_mv {cl : Nat → Nat} {B k a : Nat} (h : ∀ j, j < B → cl j < 64) (hd : ∀ i j, i < B → j < B → i ≠ j → cl i ≠ cl j) (hk : k < B) (ha : a < 64) : gr_ms (gr_rp cl k a) B = gr_mv (gr_ms cl B) (cl k) a := by
  have h' : ∀ j, j < B → gr_rp cl k a j < 64 := by
    intro j hj
    unfold gr_rp
    split
    · exact ha
    · exact h j hj
  apply ce_ext
  intro c hc
  have e : ce_b (gr_ms (gr_rp cl k a) B) c = true ↔ ce_b (gr_mv (gr_ms cl B) (cl k) a) c = true := by
    rw [gr_msT B h', gr_mvT (h k hk) ha, gr_msT B h]
    constructor
    · rintro ⟨j, h1, h2⟩
      by_cases e : j = k
      · subst e
        rw [gr_rp, if_pos rfl] at h2
        exact Or.inr h2
      · rw [gr_rp, if_neg e] at h2
        subst h2
        exact Or.inl ⟨⟨j, h1, rfl⟩, hd k j hk h1 (fun z => e z.symm)⟩
    · rintro (⟨⟨j, h1, h2⟩, h3⟩ | h1)
      · subst h2
        refine ⟨j, h1, ?_⟩
        rw [gr_rp, if_neg]
        intro z
        subst z
        exact h3 rfl
      · exact ⟨k, hk, by rw [gr_rp, if_pos rfl]; exact h1⟩
  cases z1 : ce_b (gr_ms (gr_rp cl k a) B) c <;> cases z2 : ce_b (gr_mv (gr_ms cl B) (cl k) a) c <;> simp_all
/-- the j-th live cell -/
def gr_sel (lv : Int64) : Nat → Nat → Nat
  | 0, _ => 0
  | n + 1, j => if ce_b lv n = true ∧ ce_rk lv n = j then n else gr_sel lv n j
theorem gr_sel_rk {lv : Int64} {c : Nat} (hc : ce_b lv c = true) : ∀ n, c < n → gr_sel lv n (ce_rk lv c) = c := by
  intro n
  induction n with
  | zero => intro h; omega
  | succ n ih =>
    intro h
    unfold gr_sel
    split
    · rename_i z
      exact ce_rk_inj z.1 hc z.2
    · rename_i z
      by_cases e : c = n
      · subst e; exact absurd ⟨hc, rfl⟩ z
      · exact ih (by omega)
theorem gr_sel_ok {lv : Int64} {j : Nat} : ∀ n, j < ce_rk lv n → ce_b lv (gr_sel lv n j) = true ∧ ce_rk lv (gr_sel lv n j) = j := by
  intro n
  induction n with
  | zero => intro h; exact absurd h (by show ¬ j < 0; omega)
  | succ n ih =>
    intro h
    unfold gr_sel
    split
    · rename_i z; exact z
    · rename_i z
      apply ih
      cases hb : ce_b lv n
      · rw [ce_rk_n hb] at h; exact h
      · rw [ce_rk_s hb] at h
        have : ¬ ce_rk lv n = j := fun e => z ⟨hb, e⟩
        omega
/-! the table of distances over any states -/
section
variable {σ : Type} (st : σ → Nat → Option σ) (so : σ → Prop) (V : Nat → Prop) (ab : Nat → σ) (en : Nat → Nat → Nat) (n : Nat)
def gr_VA (di : Nat → Nat) : Prop := ∀ s, s < n → V s → di s ≤ 1000 ∧ (di s < 1000 → gr_can st so (di s) (ab s))
def gr_VB (di : Nat → Nat) (r : Nat) : Prop := ∀ s, s < n → V s → ∀ m, m ≤ r → gr_can st so m (ab s) → di s ≤ m
/-- what one state's turn finds -/
def gr_RX (di : Nat → Nat) (s be : Nat) : Prop := be ≤ di s ∧ (∀ c t, c < 256 → st (ab s) c = some t → be ≤ di (en s c) + 1) ∧ (be = di s ∨ ∃ c t, c < 256 ∧ st (ab s) c = some t ∧ be = di (en s c) + 1)
/-- in round r + 1, with the states below i done -/
def gr_VR (d0 di : Nat → Nat) (ch : Bool) (r i : Nat) : Prop :=
  gr_VA st so V ab n di ∧ gr_VB st so V ab n di r ∧
  (∀ s, s < i → s < n → V s → ∀ m, m ≤ r + 1 → gr_can st so m (ab s) → di s ≤ m) ∧
  (ch = false → (∀ s, s < n → di s = d0 s) ∧ ∀ s, s < i → s < n → V s → 0 < di s → ∀ c t, c < 256 → st (ab s) c = some t → di s ≤ di (en s c) + 1)
theorem gr_VR0 {di : Nat → Nat} {r : Nat} (ha : gr_VA st so V ab n di) (hb : gr_VB st so V ab n di r) : gr_VR st so V ab en n di di false r 0 :=
  ⟨ha, hb, fun s h => by omega, fun _ => ⟨fun _ _ => rfl, fun s h => by omega⟩⟩
theorem gr_VRskip {d0 di : Nat → Nat} {ch : Bool} {r i : Nat} (h : gr_VR st so V ab en n d0 di ch r i) (hv : ¬ V i ∨ di i = 0) : gr_VR st so V ab en n d0 di ch r (i + 1) := by
  obtain ⟨h1, h2, h3, h4⟩ := h
  refine ⟨h1, h2, fun s hs hn hV m hm hc => ?_, fun hch => ⟨(h4 hch).1, fun s hs hn hV h0 c t hc hst => ?_⟩⟩
  · by_cases e : s = i
    · subst e
      rcases hv with z | z
      · exact absurd hV z
      · omega
    · exact h3 s (by omega) hn hV m hm hc
  · by_cases e : s = i
    · subst e
      rcases hv with z | z
      · exact absurd hV z
      · omega
    · exact (h4 hch).2 s (by omega) hn hV h0 c t hc hst
theorem gr_VRkeep {d0 di : Nat → Nat} {ch : Bool} {r i : Nat} (hen : ∀ s c t, s < n → V s → c < 256 → st (ab s) c = some t → en s c < n ∧ V (en s c) ∧ ab (en s c) = t) (h : gr_VR st so V ab en n d0 di ch r i) (hi : i < n) (hv : V i) (hx : gr_RX st ab en di i (di i)) (h0 : 0 < di i) : gr_VR st so V ab en n d0 di ch r (i + 1) := by
  obtain ⟨h1, h2, h3, h4⟩ := h
  obtain ⟨x1, x2, x3⟩ := hx
  refine ⟨h1, h2, fun s hs hn hV m hm hc => ?_, fun hch => ⟨(h4 hch).1, fun s hs hn hV h0 c t hc hst => ?_⟩⟩
  · by_cases e : s = i
    · subst e
      cases m with
      | zero => exact h2 s hn hV 0 (by omega) hc
      | succ m =>
        obtain ⟨c, t, c1, c2, c3⟩ := hc
        obtain ⟨e1, e2, e3⟩ := hen s c t hn hV c1 c2
        have := h2 _ e1 e2 m (by omega) (by rw [e3]; exact c3)
        have := x2 c t c1 c2
        omega
    · exact h3 s (by omega) hn hV m hm hc
  · by_cases e : s = i
    · subst e; exact x2 c t hc hst
    · exact (h4 hch).2 s (by omega) hn hV h0 c t hc hst
theorem gr_VRput {d0 di di' : Nat → Nat} {ch : Bool} {r i be : Nat} (hen : ∀ s c t, s < n → V s → c < 256 → st (ab s) c = some t → en s c < n ∧ V (en s c) ∧ ab (en s c) = t) (h : gr_VR st so V ab en n d0 di ch r i) (hi : i < n) (hv : V i) (hx : gr_RX st ab en di i be) (hl : be < di i) (hp : di' i = be) (hk : ∀ s, s ≠ i → di' s = di s) : gr_VR st so V ab en n d0 di' true r (i + 1) := by
  obtain ⟨h1, h2, h3, h4⟩ := h
  obtain ⟨x1, x2, x3⟩ := hx
  have le : ∀ s, di' s ≤ di s := by
    intro s
    by_cases e : s = i
    · subst e; omega
    · rw [hk s e]; exact Nat.le_refl _
  refine ⟨fun s hn hV => ?_, fun s hn hV m hm hc => Nat.le_trans (le s) (h2 s hn hV m hm hc), fun s hs hn hV m hm hc => ?_, fun hch => (by cases hch)⟩
  · by_cases e : s = i
    · subst e
      obtain ⟨a1, a2⟩ := h1 s hn hV
      rw [hp]
      refine ⟨by omega, fun _ => ?_⟩
      rcases x3 with z | ⟨c, t, c1, c2, c3⟩
      · omega
      · obtain ⟨e1, e2, e3⟩ := hen s c t hn hV c1 c2
        obtain ⟨b1, b2⟩ := h1 _ e1 e2
        rw [c3]
        refine ⟨c, t, c1, c2, ?_⟩
        rw [← e3]
        exact b2 (by omega)
    · rw [hk s e]; exact h1 s hn hV
  · by_cases e : s = i
    · subst e
      rw [hp]
      cases m with
      | zero => have := h2 s hn hV 0 (by omega) hc; omega
      | succ m =>
        obtain ⟨c, t, c1, c2, c3⟩ := hc
        obtain ⟨e1, e2, e3⟩ := hen s c t hn hV c1 c2
        have := h2 _ e1 e2 m (by omega) (by rw [e3]; exact c3)
        have := x2 c t c1 c2
        omega
    · exact Nat.le_trans (le s) (h3 s (by omega) hn hV m hm hc)
theorem gr_VRend {d0 di : Nat → Nat} {ch : Bool} {r : Nat} (h : gr_VR st so V ab en n d0 di ch r n) : gr_VA st so V ab n di ∧ gr_VB st so V ab n di (r + 1) :=
  ⟨h.1, fun s hn hV m hm hc => h.2.2.1 s hn hn hV m hm hc⟩
theorem gr_VRfix {d0 di : Nat → Nat} {r : Nat} (hen : ∀ s c t, s < n → V s → c < 256 → st (ab s) c = some t → en s c < n ∧ V (en s c) ∧ ab (en s c) = t) (h : gr_VR st so V ab en n d0 di false r n) : ∀ q, gr_VB st so V ab n di q := by
  obtain ⟨h1, h2, h3, h4⟩ := h
  have h5 := (h4 rfl).2
  have key : ∀ m s, s < n → V s → gr_can st so m (ab s) → di s ≤ m := by
    intro m
    induction m with
    | zero => exact fun s hn hV hc => h2 s hn hV 0 (by omega) hc
    | succ m ih =>
      rintro s hn hV ⟨c, t, c1, c2, c3⟩
      obtain ⟨e1, e2, e3⟩ := hen s c t hn hV c1 c2
      have := ih _ e1 e2 (by rw [e3]; exact c3)
      by_cases z : 0 < di s
      · have := h5 s hn hn hV z c t c1 c2
        omega
      · omega
  exact fun q s hn hV m _ hc => key m s hn hV hc
/-- a least list's next push is the one that the table shows -/
theorem gr_next {di : Nat → Nat} {D s : Nat} {l : Nat → Nat} (hen : ∀ s c t, s < n → V s → c < 256 → st (ab s) c = some t → en s c < n ∧ V (en s c) ∧ ab (en s c) = t) (ha : gr_VA st so V ab n di) (hb : gr_VB st so V ab n di (D + 1)) (hs : s < n) (hv : V s) (hd : di s = D + 1) (hD : D < 999) (hG : gr_G st so (D + 1) (ab s) l) :
    l 0 < 256 ∧ (∃ t, st (ab s) (l 0) = some t ∧ di (en s (l 0)) = D ∧ gr_G st so D (ab (en s (l 0))) (fun i => l (i + 1))) ∧ ∀ c t, c < l 0 → st (ab s) c = some t → di (en s c) ≠ D := by
  obtain ⟨t, g1, g2, g3, g4⟩ := hG
  obtain ⟨e1, e2, e3⟩ := hen s (l 0) t hs hv g1 g2
  have h1 := hb _ e1 e2 D (by omega) (by rw [e3]; exact gr_G_can st so D t _ g4)
  obtain ⟨a1, a2⟩ := ha _ e1 e2
  have h2 := a2 (by omega)
  have h3 := hb s hs hv (di (en s (l 0)) + 1) (by omega) ⟨l 0, t, g1, g2, by rw [← e3]; exact h2⟩
  refine ⟨g1, ⟨t, g2, by omega, by rw [e3]; exact g4⟩, fun c t' hc hst hdi => ?_⟩
  obtain ⟨f1, f2, f3⟩ := hen s c t' hs hv (by omega) hst
  obtain ⟨b1, b2⟩ := ha _ f1 f2
  refine g3 c t' hc hst ?_
  rw [← f3, ← hdi]
  exact b2 (by omega)
theorem gr_dist {di : Nat → Nat} {P s : Nat} (ha : gr_VA st so V ab n di) (hs : s < n) (hv : V s) (hP : P ≤ 40) (hb : (di s ≤ P → gr_VB st so V ab n di (di s)) ∧ (P < di s → gr_VB st so V ab n di P)) :
    (∀ D, D ≤ P → gr_can st so D (ab s) → (∀ m, m < D → ¬ gr_can st so m (ab s)) → di s = D) ∧ ((∀ m, m ≤ P → ¬ gr_can st so m (ab s)) → P < di s) := by
  obtain ⟨a1, a2⟩ := ha s hs hv
  constructor
  · intro D hD hc hm
    by_cases z : di s ≤ P
    · have h1 : gr_can st so (di s) (ab s) := a2 (by omega)
      have h2 : ¬ di s < D := fun q => hm _ q h1
      by_cases q : di s = D
      · exact q
      · have := hb.1 z s hs hv D (by omega) hc
        omega
    · have := hb.2 (by omega) s hs hv D hD hc
      omega
  · intro hm
    apply Nat.not_le.mp
    intro z
    exact hm _ z (a2 (by omega))
end
end
section
/-! the history: a ring of whole positions against a list of steps -/
def rl_V (w : Int64) (B : Nat) (b : Int64) (p : Nat) : Prop := p < 64 ∧ ce_b w p = false ∧ ce_b b p = false ∧ (∀ c, ce_b b c = true → ce_b w c = false) ∧ ce_rk b 64 = B
def rl_T (b b' : Int64) (f t : Int32) : Prop := (b' = b ∧ f = -1) ∨ ∃ x y, x < 64 ∧ y < 64 ∧ f = nI x ∧ t = nI y ∧ ce_b b' x = true ∧ ce_b b' y = false ∧ b = gr_mv b' x y
theorem gr_mv_back {b : Int64} {x y : Nat} (hx : ce_b b x = true) (hy : y < 64) (hb : ce_b b y = false) : gr_mv (gr_mv b x y) y x = b := by
  have hx64 := ce_lt hx
  apply ce_ext
  intro c hc
  rw [gr_mvB hy hx64 hc, gr_mvB hx64 hy hc]
  by_cases e1 : x = c
  · subst e1; rw [hx]; simp
  · by_cases e2 : y = c
    · subst e2; rw [hb]; simp [e1]
    · simp [e1, e2]
theorem gr_mv_ne {b : Int64} {x y : Nat} (hx : ce_b b x = true) (hy : y < 64) (hb : ce_b b y = false) : gr_mv b x y ≠ b := by
  intro h
  have hx64 := ce_lt hx
  have e : ce_b (gr_mv b x y) x = false := by
    rw [gr_mvB hx64 hy hx64]
    have : y ≠ x := fun z => by subst z; rw [hx] at hb; cases hb
    simp [this]
  rw [h, hx] at e
  cases e
def rl_pos (H nx j : Nat) : Nat := if j < nx then nx - 1 - j else nx + H - 1 - j
def rl_H (w : Int64) (B H n nx : Nat) (hb : Nat → Int64) (hp hF hf ht : Nat → Int32) (b : Int64) (p : Nat) : Prop :=
  ∃ gb : Nat → Int64, ∃ gp : Nat → Nat, gb 0 = b ∧ gp 0 = p ∧ (∀ j, j ≤ n → rl_V w B (gb j) (gp j)) ∧
    ∀ j, j < n → hb (rl_pos H nx j) = gb (j + 1) ∧ hp (rl_pos H nx j) = nI (gp (j + 1)) ∧ hF (n - 1 - j) = nI (gp (j + 1)) ∧ rl_T (gb j) (gb (j + 1)) (hf (n - 1 - j)) (ht (n - 1 - j))
theorem rl_H0 {w : Int64} {B H nx : Nat} {hb : Nat → Int64} {hp hF hf ht : Nat → Int32} {b : Int64} {p : Nat} (hv : rl_V w B b p) : rl_H w B H 0 nx hb hp hF hf ht b p :=
  ⟨fun _ => b, fun _ => p, rfl, rfl, fun _ _ => hv, fun j hj => by omega⟩
theorem rl_Hv {w : Int64} {B H n nx : Nat} {hb : Nat → Int64} {hp hF hf ht : Nat → Int32} {b : Int64} {p : Nat} (h : rl_H w B H n nx hb hp hF hf ht b p) : rl_V w B b p := by
  obtain ⟨gb, gp, h1, h2, h3, h4⟩ := h
  have := h3 0 (by omega)
  rw [h1, h2] at this
  exact this
theorem rl_Hpush {w : Int64} {B H n nx : Nat} {hb : Nat → Int64} {hp hF hf ht : Nat → Int32} {b b2 : Int64} {p p2 : Nat} {f t : Int32} (h : rl_H w B H n nx hb hp hF hf ht b p) (hx : nx < H) (hn : n < H) (hv : rl_V w B b2 p2) (hT : rl_T b2 b f t) :
    rl_H w B H (n + 1) (if nx = H - 1 then 0 else nx + 1) (vp_updL hb nx b) (upd hp nx (nI p)) (upd hF n (nI p)) (upd hf n f) (upd ht n t) b2 p2 := by
  obtain ⟨gb, gp, h1, h2, h3, h4⟩ := h
  refine ⟨fun j => Nat.casesOn j b2 gb, fun j => Nat.casesOn j p2 gp, rfl, rfl, fun j hj => ?_, fun j hj => ?_⟩
  · cases j with
    | zero => exact hv
    | succ j => exact h3 j (by omega)
  · cases j with
    | zero =>
      have e : rl_pos H (if nx = H - 1 then 0 else nx + 1) 0 = nx := by
        unfold rl_pos
        repeat' split
        all_goals omega
      rw [e, pk_uLs, pk_us, show n + 1 - 1 - 0 = n by omega, pk_us, pk_us, pk_us]
      refine ⟨h1.symm, by rw [← h2], by rw [← h2], ?_⟩
      show rl_T b2 (gb 0) f t
      rw [h1]; exact hT
    | succ j =>
      have e : rl_pos H (if nx = H - 1 then 0 else nx + 1) (j + 1) = rl_pos H nx j := by
        unfold rl_pos
        repeat' split
        all_goals omega
      have e2 : rl_pos H nx j ≠ nx := by
        unfold rl_pos
        split <;> omega
      rw [e, pk_uLn e2, pk_un e2, show n + 1 - 1 - (j + 1) = n - 1 - j by omega, pk_un (by omega), pk_un (by omega), pk_un (by omega)]
      exact h4 j (by omega)
theorem rl_Hdrop {w : Int64} {B H n nx : Nat} {hb : Nat → Int64} {hp hF hf ht hF' hf' ht' : Nat → Int32} {b : Int64} {p : Nat} (h : rl_H w B H (n + 1) nx hb hp hF hf ht b p) (e1 : ∀ i, i < n → hF' i = hF (i + 1)) (e2 : ∀ i, i < n → hf' i = hf (i + 1)) (e3 : ∀ i, i < n → ht' i = ht (i + 1)) : rl_H w B H n nx hb hp hF' hf' ht' b p := by
  obtain ⟨gb, gp, h1, h2, h3, h4⟩ := h
  refine ⟨gb, gp, h1, h2, fun j hj => h3 j (by omega), fun j hj => ?_⟩
  have := h4 j (by omega)
  rw [e1 _ (by omega), e2 _ (by omega), e3 _ (by omega), show n - 1 - j + 1 = n + 1 - 1 - j by omega]
  exact this
theorem rl_Hpop {w : Int64} {B H n nx : Nat} {hb : Nat → Int64} {hp hF hf ht : Nat → Int32} {b : Int64} {p : Nat} (h : rl_H w B H (n + 1) nx hb hp hF hf ht b p) (hx : nx < H) (hn : n < H) : ∃ b1 p1, hb (if nx = 0 then H - 1 else nx - 1) = b1 ∧ hp (if nx = 0 then H - 1 else nx - 1) = nI p1 ∧ hF n = nI p1 ∧ rl_T b b1 (hf n) (ht n) ∧ rl_H w B H n (if nx = 0 then H - 1 else nx - 1) hb hp hF hf ht b1 p1 := by
  obtain ⟨gb, gp, h1, h2, h3, h4⟩ := h
  have e : rl_pos H nx 0 = (if nx = 0 then H - 1 else nx - 1) := by
    unfold rl_pos
    repeat' split
    all_goals omega
  obtain ⟨a1, a2, a3, a4⟩ := h4 0 (by omega)
  rw [e] at a1 a2
  rw [show n + 1 - 1 - 0 = n by omega] at a3 a4
  rw [h1] at a4
  refine ⟨gb 1, gp 1, a1, a2, a3, a4, fun j => gb (j + 1), fun j => gp (j + 1), rfl, rfl, fun j hj => h3 (j + 1) (by omega), fun j hj => ?_⟩
  have e2 : rl_pos H (if nx = 0 then H - 1 else nx - 1) j = rl_pos H nx (j + 1) := by
    unfold rl_pos
    repeat' split
    all_goals omega
  have := h4 (j + 1) (by omega)
  rw [show n + 1 - 1 - (j + 1) = n - 1 - j by omega] at this
  rw [e2]
  exact this
end
section
/-! the small methods of both sides -/
theorem rl_lt7 (x : Int32) : 7 < x ↔ 8 ≤ x := by
  rw [Int32.lt_iff_toInt_lt, Int32.le_iff_toInt_le, show (7 : Int32).toInt = 7 from by decide, show (8 : Int32).toInt = 8 from by decide]
  omega
theorem rl_le3 (x : Int32) : x ≤ 3 ↔ ¬ 4 ≤ x := by
  rw [Int32.le_iff_toInt_le, Int32.le_iff_toInt_le, show (3 : Int32).toInt = 3 from by decide, show (4 : Int32).toInt = 4 from by decide]
  omega
theorem rl_b0 : vp_nar .boolean 0 = 0 := by decide
theorem rl_b1 : vp_nar .boolean 1 = 1 := by decide
theorem rl_ne01 {x : Int32} (h : x = 0 ∨ x = 1) : narrow .boolean (.int x) = .int x := by
  rcases h with rfl | rfl <;> decide
theorem ce_A01 (m : Int64) (c : Nat) : ce_A m c = 0 ∨ ce_A m c = 1 := by
  unfold ce_A
  split
  · exact Or.inr rfl
  · exact Or.inl rfl
theorem ce_An (m : Int64) (c : Nat) : vp_nar .boolean (ce_A m c) = ce_A m c := by
  rcases ce_A01 m c with h | h <;> rw [h] <;> decide
def rl_oo (v1 v2 : Int32) : Prop := v1 < 0 ∨ 8 ≤ v1 ∨ v2 < 0 ∨ 8 ≤ v2
theorem rl_rc (v1 v2 : Int32) : rl_oo v1 v2 ∨ ∃ r c, r < 8 ∧ c < 8 ∧ v1 = nI r ∧ v2 = nI c := by
  by_cases h1 : v1 < 0
  · exact Or.inl (Or.inl h1)
  by_cases h2 : (8 : Int32) ≤ v1
  · exact Or.inl (Or.inr (Or.inl h2))
  by_cases h3 : v2 < 0
  · exact Or.inl (Or.inr (Or.inr (Or.inl h3)))
  by_cases h4 : (8 : Int32) ≤ v2
  · exact Or.inl (Or.inr (Or.inr (Or.inr h4)))
  obtain ⟨r, hr, rfl⟩ := nI_of h1
  obtain ⟨c, hc, rfl⟩ := nI_of h3
  refine Or.inr ⟨r, c, Nat.not_le.mp (fun q => h2 (nI_le (a := 8) q hr)), Nat.not_le.mp (fun q => h4 (nI_le (a := 8) q hc)), rfl, rfl⟩
theorem rl_ix (r c : Nat) : nI r * 8 + nI c = nI (r * 8 + c) := by
  show nI r * nI 8 + nI c = _
  rw [pk_mul, nI_add]
theorem xs_in_t {post : Int32 → Prop} {r c : Nat} (hr : r < 8) (hc : c < 8) (h : post 1) : wpX_inGrid post (nI r) (nI c) :=
  br_f (nI_pos (by omega)) (br_f (nI_ge (b := 8) hr (by decide)) (br_f (nI_pos (by omega)) (br_f (nI_ge (b := 8) hc (by decide)) h)))
theorem xs_in_f {post : Int32 → Prop} {v1 v2 : Int32} (ho : rl_oo v1 v2) (h : post 0) : wpX_inGrid post v1 v2 := by
  refine br_c (fun _ => h) (fun h1 => br_c (fun _ => h) (fun h2 => br_c (fun _ => h) (fun h3 => br_c (fun _ => h) (fun h4 => absurd ho ?_))))
  rintro (z | z | z | z)
  · exact h1 z
  · exact h2 z
  · exact h3 z
  · exact h4 z
theorem ys_in_t {post : Int32 → Prop} {v : SY} {r c : Nat} (hr : r < 8) (hc : c < 8) (h : post 1) : wpY_in post v (nI r) (nI c) :=
  br_f (nI_pos (by omega)) (br_f (fun z => nI_ge (b := 8) hr (by decide) ((rl_lt7 _).mp z)) (br_f (nI_pos (by omega)) (br_f (fun z => nI_ge (b := 8) hc (by decide) ((rl_lt7 _).mp z)) h)))
theorem ys_in_f {post : Int32 → Prop} {v : SY} {v1 v2 : Int32} (ho : rl_oo v1 v2) (h : post 0) : wpY_in post v v1 v2 := by
  refine br_c (fun _ => h) (fun h1 => br_c (fun _ => h) (fun h2 => br_c (fun _ => h) (fun h3 => br_c (fun _ => h) (fun h4 => absurd ho ?_))))
  rintro (z | z | z | z)
  · exact h1 z
  · exact h2 ((rl_lt7 _).mpr z)
  · exact h3 z
  · exact h4 ((rl_lt7 _).mpr z)
/-! directions -/
theorem rl_dir (x : Int32) : (x < 0 ∨ 4 ≤ x) ∨ ∃ d, d < 4 ∧ x = nI d := by
  by_cases h1 : x < 0
  · exact Or.inl (Or.inl h1)
  by_cases h2 : (4 : Int32) ≤ x
  · exact Or.inl (Or.inr h2)
  obtain ⟨r, hr, rfl⟩ := nI_of h1
  exact Or.inr ⟨r, Nat.not_le.mp (fun q => h2 (nI_le (a := 4) q hr)), rfl⟩
theorem xs_dir_t {post : Int32 → Prop} {d : Nat} (hd : d < 4) (h : post 1) : wpX_isDirection post (nI d) :=
  br_f (nI_pos (by omega)) (br_f (nI_ge (b := 4) hd (by decide)) h)
theorem xs_dir_f {post : Int32 → Prop} {x : Int32} (ho : x < 0 ∨ 4 ≤ x) (h : post 0) : wpX_isDirection post x := by
  refine br_c (fun _ => h) (fun h1 => br_c (fun _ => h) (fun h2 => absurd ho ?_))
  rintro (z | z)
  · exact h1 z
  · exact h2 z
/-! sets and neighbours -/
theorem ce_I_64 : ce_I 64 = -1 := rfl
theorem ce_I_ne {c : Nat} (h : c < 64) : ¬ ce_I c = -1 := by
  rw [ce_I_in h]
  intro z
  have := nI_pos (n := c) (by omega)
  rw [z] at this
  exact this (by decide)
theorem ce_I_neg {c : Nat} (h : c < 64) : ¬ ce_I c < 0 := by rw [ce_I_in h]; exact nI_pos (by omega)
theorem ce_I_m1 : (-1 : Int32) < 0 := by decide
theorem ce_I_cl {c : Nat} (h : c < 64) : (ce_I c).toNatClampNeg = c := by rw [ce_I_in h]; exact nI_clamp (by omega)
theorem ce_I_vp {c : Nat} (h : c < 64) : vp_in (ce_I c) 64 := by rw [ce_I_in h]; exact vp_in_nI h (by decide)
theorem ce_le64 {c : Nat} (h : c ≤ 64) : c < 64 ∨ c = 64 := by omega
theorem xs_has {post : Int32 → Prop} {m : Int64} {c : Nat} (hc : c ≤ 64) (h : post (ce_A m c)) : wpX_contains post m (ce_I c) := by
  rcases ce_le64 hc with z | z
  · rw [ce_I_in z]
    refine br_f ?_ ?_
    · have := ce_I_ne z
      rw [ce_I_in z] at this
      exact this
    · cases hb : ce_b m c
      · rw [ce_Af hb] at h
        exact br_t ((ce_has m z).mpr hb) h
      · rw [ce_At hb] at h
        exact br_f (fun q => by rw [(ce_has m z).mp q] at hb; cases hb) h
  · subst z
    rw [ce_Af (ce_big (Nat.le_refl 64))] at h
    exact br_t rfl h
theorem xs_hasN {post : Int32 → Prop} {m : Int64} {c : Nat} (hc : c < 64) (h : post (ce_A m c)) : wpX_contains post m (nI c) := by
  have := xs_has (Nat.le_of_lt hc) h
  rw [ce_I_in hc] at this
  exact this
theorem xs_nb {post : Int32 → Prop} {c d : Nat} (hc : c < 64) (hd : d < 4) (h : post (ce_I (ce_n c d))) : wpX_neighbour post (nI c) (nI d) := by
  have e1 : nI c / 8 = nI (c / 8) := pk_div (d := 8) (by omega) (by decide) (by decide)
  have e2 : nI c - nI c / 8 * 8 = nI (c % 8) := pk_rem (d := 8) (by omega) (by decide) (by decide)
  refine ⟨by decide, nm_r e1 ⟨by decide, nm_r e2 ?_⟩⟩
  have hd' : d = 0 ∨ d = 1 ∨ d = 2 ∨ d = 3 := by omega
  unfold ce_n at h
  rw [if_neg (by omega)] at h
  rcases hd' with rfl | rfl | rfl | rfl
  · refine br_t rfl (pk_le (c / 8) 0 (fun z => ?_) (fun z => ?_))
    · rw [if_pos rfl, if_neg (by omega)] at h; exact h
    · rw [if_pos rfl, if_pos (by omega), ce_I_in (by omega)] at h
      show post (nI c - nI 8)
      rw [pk_sub (by omega)]; exact h
  · refine br_f (by decide) (br_t rfl (pk_le 7 (c % 8) (fun z => ?_) (fun z => ?_)))
    · rw [if_neg (by omega), if_pos rfl, if_neg (by omega)] at h; exact h
    · rw [if_neg (by omega), if_pos rfl, if_pos (by omega), ce_I_in (by omega)] at h
      show post (nI c + 1)
      rw [nI_1]; exact h
  · refine br_f (by decide) (br_f (by decide) (br_t rfl (pk_le 7 (c / 8) (fun z => ?_) (fun z => ?_))))
    · rw [if_neg (by omega), if_neg (by omega), if_pos rfl, if_neg (by omega)] at h; exact h
    · rw [if_neg (by omega), if_neg (by omega), if_pos rfl, if_pos (by omega), ce_I_in (by omega)] at h
      show post (nI c + nI 8)
      rw [nI_add]; exact h
  · refine br_f (by decide) (br_f (by decide) (br_f (by decide) (pk_le (c % 8) 0 (fun z => ?_) (fun z => ?_))))
    · rw [if_neg (by omega), if_neg (by omega), if_neg (by omega), if_neg (by omega)] at h; exact h
    · rw [if_neg (by omega), if_neg (by omega), if_neg (by omega), if_pos (by omega), ce_I_in (by omega)] at h
      show post (nI c - nI 1)
      rw [pk_sub (by omega)]; exact h
theorem xs_nbI {post : Int32 → Prop} {c d : Nat} (hc : c < 64) (hd : d < 4) (h : post (ce_I (ce_n c d))) : wpX_neighbour post (ce_I c) (nI d) := by
  rw [ce_I_in hc]; exact xs_nb hc hd h
theorem xs_behind {post : Int32 → Prop} {c d : Nat} (hc : c < 64) (hd : d < 4) (h : post (ce_I (ce_n c ((d + 2) % 4)))) : wpX_neighbourBehind post (nI c) (nI d) := by
  refine pk_le 2 d (fun z => ?_) (fun z => ?_)
  · show wpX_neighbour (fun r => post r) (nI c) (nI d - nI 2)
    rw [pk_sub z]
    refine xs_nb hc (by omega) ?_
    rw [show d - 2 = (d + 2) % 4 by omega]; exact h
  · show wpX_neighbour (fun r => post r) (nI c) (nI d + nI 2)
    rw [nI_add]
    refine xs_nb hc (by omega) ?_
    rw [show d + 2 = (d + 2) % 4 by omega]; exact h
theorem ys_57 {post : Int32 → Prop} {yf_lim yf_hs yf_started yf_pu yf_moves yf_pushes yf_hn yf_solLen yf_nB yf_nL yf_curP yf_nextState : Int32} {ya_edit ya_wall ya_goal ya_box ya_hFrom ya_hBf ya_hBt ya_sol ya_reach ya_stack ya_liveMark ya_liveIdx ya_liveCell ya_dist ya_sb ya_ob : Nat → Int32} {r k : Nat} (hr : r < 8) (hk : k < 8) (h : post (nI (r * 8 + k))) : wY_nbr_57 post (nI r) (nI k) yf_lim yf_hs yf_started yf_pu yf_moves yf_pushes yf_hn yf_solLen yf_nB yf_nL yf_curP yf_nextState ya_edit ya_wall ya_goal ya_box ya_hFrom ya_hBf ya_hBt ya_sol ya_reach ya_stack ya_liveMark ya_liveIdx ya_liveCell ya_dist ya_sb ya_ob := by
  refine br_f (nI_pos (by omega)) (br_f (nI_nlt (a := 7) (by omega) (by decide)) (br_f (nI_pos (by omega)) (br_t (nI_le (b := 7) (by omega) (by decide)) ?_)))
  rw [rl_ix]; exact h
theorem ys_57a {post : Int32 → Prop} {yf_lim yf_hs yf_started yf_pu yf_moves yf_pushes yf_hn yf_solLen yf_nB yf_nL yf_curP yf_nextState : Int32} {ya_edit ya_wall ya_goal ya_box ya_hFrom ya_hBf ya_hBt ya_sol ya_reach ya_stack ya_liveMark ya_liveIdx ya_liveCell ya_dist ya_sb ya_ob : Nat → Int32} {x3 x4 : Int32} (ho : x3 < 0 ∨ 7 < x3 ∨ x4 < 0 ∨ 7 < x4) (h : post (-1)) : wY_nbr_57 post x3 x4 yf_lim yf_hs yf_started yf_pu yf_moves yf_pushes yf_hn yf_solLen yf_nB yf_nL yf_curP yf_nextState ya_edit ya_wall ya_goal ya_box ya_hFrom ya_hBf ya_hBt ya_sol ya_reach ya_stack ya_liveMark ya_liveIdx ya_liveCell ya_dist ya_sb ya_ob := by
  refine br_c (fun _ => h) (fun h1 => br_c (fun _ => h) (fun h2 => br_c (fun _ => h) (fun h3 => br_c (fun h4 => absurd ho ?_) (fun _ => h))))
  rintro (z | z | z | z)
  · exact h1 z
  · exact h2 z
  · exact h3 z
  · exact Int32.not_lt.mpr h4 z
theorem rl_m1 : nI 0 + (-1) = (-1 : Int32) := by decide
theorem ys_nb {post : Int32 → Prop} {v : SY} {c d : Nat} (hc : c ≤ 64) (hd : d < 4) (h : post (ce_I (ce_n c d))) : wpY_nbr post v (ce_I c) (nI d) := by
  obtain ⟨yf_lim, yf_hs, yf_started, yf_pu, yf_moves, yf_pushes, yf_hn, yf_solLen, yf_nB, yf_nL, yf_curP, yf_nextState, ya_edit, ya_wall, ya_goal, ya_box, ya_hFrom, ya_hBf, ya_hBt, ya_sol, ya_reach, ya_stack, ya_liveMark, ya_liveIdx, ya_liveCell, ya_dist, ya_sb, ya_ob⟩ := v
  rcases ce_le64 hc with z | z
  · rw [ce_I_in z]
    have e1 : nI c >>> ((3 : Int32) &&& 31) = nI (c / 8) := pk_shrN (by omega) _ 3 (by decide)
    have e2 : nI c &&& 7 = nI (c % 8) := pk_andN (by omega) 3 (by decide)
    refine br_f (nI_pos (by omega)) (br_t (nI_le (b := 63) (by omega) (by decide)) (nm_r e1 (nm_r e2 ?_)))
    have hd' : d = 0 ∨ d = 1 ∨ d = 2 ∨ d = 3 := by omega
    unfold ce_n at h
    rw [if_neg (by omega)] at h
    rcases hd' with rfl | rfl | rfl | rfl
    · rw [if_pos rfl] at h
      refine br_t rfl ?_
      by_cases q : 8 ≤ c
      · rw [if_pos q, ce_I_in (by omega)] at h
        refine nm_r (sb_m1 (p := c / 8) (by omega)) (ys_57 (by omega) (by omega) ?_)
        rw [show (c / 8 - 1) * 8 + c % 8 = c - 8 by omega]; exact h
      · rw [if_neg q] at h
        refine nm_r (e' := -1) (by rw [show c / 8 = 0 by omega]; exact rl_m1) (ys_57a (Or.inl (by decide)) h)
    · rw [if_neg (by omega), if_pos rfl] at h
      refine br_f (by decide) (br_t rfl ?_)
      by_cases q : c % 8 < 7
      · rw [if_pos q, ce_I_in (by omega)] at h
        refine nm_r (nI_1 _) (ys_57 (by omega) (by omega) ?_)
        rw [show c / 8 * 8 + (c % 8 + 1) = c + 1 by omega]; exact h
      · rw [if_neg q] at h
        refine nm_r (nI_1 _) (ys_57a (Or.inr (Or.inr (Or.inr (nI_lt (a := 7) (by omega) (by omega))))) h)
    · rw [if_neg (by omega), if_neg (by omega), if_pos rfl] at h
      refine br_f (by decide) (br_f (by decide) (br_t rfl ?_))
      by_cases q : c < 56
      · rw [if_pos q, ce_I_in (by omega)] at h
        refine nm_r (nI_1 _) (ys_57 (by omega) (by omega) ?_)
        rw [show (c / 8 + 1) * 8 + c % 8 = c + 8 by omega]; exact h
      · rw [if_neg q] at h
        refine nm_r (nI_1 _) (ys_57a (Or.inr (Or.inl (nI_lt (a := 7) (by omega) (by omega)))) h)
    · rw [if_neg (by omega), if_neg (by omega), if_neg (by omega)] at h
      refine br_f (by decide) (br_f (by decide) (br_f (by decide) ?_))
      by_cases q : 0 < c % 8
      · rw [if_pos q, ce_I_in (by omega)] at h
        refine nm_r (sb_m1 (p := c % 8) q) (ys_57 (by omega) (by omega) ?_)
        rw [show c / 8 * 8 + (c % 8 - 1) = c - 1 by omega]; exact h
      · rw [if_neg q] at h
        refine nm_r (e' := -1) (by rw [show c % 8 = 0 by omega]; exact rl_m1) (ys_57a (Or.inr (Or.inr (Or.inl (by decide)))) h)
  · subst z
    exact br_t (by decide) h
theorem ys_nbN {post : Int32 → Prop} {v : SY} {c d : Nat} (hc : c < 64) (hd : d < 4) (h : post (ce_I (ce_n c d))) : wpY_nbr post v (nI c) (nI d) := by
  have := ys_nb (v := v) (Nat.le_of_lt hc) hd h
  rw [ce_I_in hc] at this
  exact this
theorem ys_opp {d : Nat} (hd : d < 4) : (nI d + 2) &&& 3 = nI ((d + 2) % 4) := by
  show (nI d + nI 2) &&& 3 = _
  rw [nI_add]
  exact pk_andN (by omega) 2 (by decide)
/-! free cells -/
def gr_f (w b : Int64) (c : Nat) : Int32 := if c < 64 ∧ ce_b w c = false ∧ ce_b b c = false then 1 else 0
theorem gr_f0 {w b : Int64} {c : Nat} (h : ¬ (c < 64 ∧ ce_b w c = false ∧ ce_b b c = false)) : gr_f w b c = 0 := if_neg h
theorem gr_f1 {w b : Int64} {c : Nat} (h : c < 64 ∧ ce_b w c = false ∧ ce_b b c = false) : gr_f w b c = 1 := if_pos h
theorem gr_fz {w b : Int64} {c : Nat} (h : ¬ gr_f w b c = 0) : c < 64 ∧ ce_b w c = false ∧ ce_b b c = false := Classical.byContradiction (fun z => h (gr_f0 z))
theorem gr_fn {w b : Int64} {c : Nat} (h : gr_f w b c = 0) : ¬ (c < 64 ∧ ce_b w c = false ∧ ce_b b c = false) := fun z => by rw [gr_f1 z] at h; exact absurd h (by decide)
theorem xs_free {post : Int32 → Prop} {f_pushLimit f_historyLimit f_started : Int32} {f_walls f_goals f_boxes f_liveCells : Int64} {f_liveTotal f_boxTotal f_pusherCell f_moves f_pushes f_historyNext f_historyTotal f_storedTotal f_nodeTotal : Int32} {a_editGrid a_liveRank : Nat → Int32} {a_historyBoxes : Nat → Int64} {a_historyPusher a_storedPushes : Nat → Int32} {a_nodeBoxes : Nat → Int64} {a_nodePusher a_nodeParent a_nodeCode a_nodeDepth a_nodeMet : Nat → Int32} {b : Int64} {c : Nat} (hc : c ≤ 64) (h : post (gr_f f_walls b c)) : wpX_isFree post (f_pushLimit, f_historyLimit, f_started, f_walls, f_goals, f_boxes, f_liveCells, f_liveTotal, f_boxTotal, f_pusherCell, f_moves, f_pushes, f_historyNext, f_historyTotal, f_storedTotal, f_nodeTotal, a_editGrid, a_liveRank, a_historyBoxes, a_historyPusher, a_storedPushes, a_nodeBoxes, a_nodePusher, a_nodeParent, a_nodeCode, a_nodeDepth, a_nodeMet) (ce_I c) b := by
  rcases ce_le64 hc with z | z
  · refine br_f (ce_I_ne z) (xs_has hc ?_)
    have e := ce_or f_walls b c
    cases h1 : ce_b f_walls c <;> cases h2 : ce_b b c <;> rw [h1, h2] at e
    · rw [gr_f1 ⟨z, h1, h2⟩] at h
      exact br_t (ce_Af e) h
    · rw [gr_f0 (fun q => by rw [h2] at q; cases q.2.2)] at h
      exact br_f (by rw [ce_At e]; decide) h
    · rw [gr_f0 (fun q => by rw [h1] at q; cases q.2.1)] at h
      exact br_f (by rw [ce_At e]; decide) h
    · rw [gr_f0 (fun q => by rw [h1] at q; cases q.2.1)] at h
      exact br_f (by rw [ce_At e]; decide) h
  · subst z
    rw [gr_f0 (fun q => absurd q.1 (by decide))] at h
    exact br_t rfl h
theorem ys_free {post : Int32 → Prop} {yf_lim yf_hs yf_started yf_pu yf_moves yf_pushes yf_hn yf_solLen yf_nB yf_nL yf_curP yf_nextState : Int32} {ya_edit ya_goal ya_hFrom ya_hBf ya_hBt ya_sol ya_reach ya_stack ya_liveMark ya_liveIdx ya_liveCell ya_dist ya_sb ya_ob : Nat → Int32} {w b : Int64} {c : Nat} (hc : c ≤ 64) (h : post (gr_f w b c)) : wpY_free post (yf_lim, yf_hs, yf_started, yf_pu, yf_moves, yf_pushes, yf_hn, yf_solLen, yf_nB, yf_nL, yf_curP, yf_nextState, ya_edit, ce_A w, ya_goal, ce_A b, ya_hFrom, ya_hBf, ya_hBt, ya_sol, ya_reach, ya_stack, ya_liveMark, ya_liveIdx, ya_liveCell, ya_dist, ya_sb, ya_ob) (ce_I c) := by
  rcases ce_le64 hc with z | z
  · rw [ce_I_in z]
    have e : (nI c).toNatClampNeg = c := nI_clamp (by omega)
    refine br_f (nI_pos (by omega)) (br_f (nI_ge (b := 64) z (by decide)) ⟨vp_in_nI z (by decide), ?_⟩)
    rw [e]
    cases h1 : ce_b w c
    · refine br_t (ce_Af h1) ⟨vp_in_nI z (by decide), ?_⟩
      cases h2 : ce_b b c
      · rw [gr_f1 ⟨z, h1, h2⟩] at h
        exact br_t (ce_Af h2) h
      · rw [gr_f0 (fun q => by rw [h2] at q; cases q.2.2)] at h
        exact br_f (by rw [ce_At h2]; decide) h
    · rw [gr_f0 (fun q => by rw [h1] at q; cases q.2.1)] at h
      exact br_f (by rw [ce_At h1]; decide) h
  · subst z
    rw [gr_f0 (fun q => absurd q.1 (by decide))] at h
    exact br_t (by decide) h
/-! the class's area and goals -/
theorem xs_bit {post : Int64 → Prop} {c : Nat} (h : post (ce_bit c)) : wpX_bit post (nI c) := h
theorem xs_area0 {post : Int64 → Prop} (fr : Int64) {f_pushLimit f_historyLimit f_started : Int32} {f_walls f_goals f_boxes f_liveCells : Int64} {f_liveTotal f_boxTotal f_pusherCell f_moves f_pushes f_historyNext f_historyTotal f_storedTotal f_nodeTotal : Int32} {a_editGrid a_liveRank : Nat → Int32} {a_historyBoxes : Nat → Int64} {a_historyPusher a_storedPushes : Nat → Int32} {a_nodeBoxes : Nat → Int64} {a_nodePusher a_nodeParent a_nodeCode a_nodeDepth a_nodeMet : Nat → Int32} : ∀ k i m, i + k = 64 → post (ce_it (gr_fl fr) k m) → wX_reachableArea_21 post fr f_pushLimit f_historyLimit f_started f_walls f_goals f_boxes f_liveCells f_liveTotal f_boxTotal f_pusherCell f_moves f_pushes f_historyNext f_historyTotal f_storedTotal f_nodeTotal a_editGrid a_liveRank a_historyBoxes a_historyPusher a_storedPushes a_nodeBoxes a_nodePusher a_nodeParent a_nodeCode a_nodeDepth a_nodeMet (k + 1) m (nI i) := by
  intro k
  induction k with
  | zero =>
    intro i m hi h
    exact br_t (nI_le (a := 64) (by omega) (by omega)) h
  | succ k ih =>
    intro i m hi h
    refine br_f (nI_ge (b := 64) (by omega) (by decide)) ?_
    show ∀ x9, x9 = gr_bs m → ∀ x11, x11 = m ||| (x9 &&& fr) → ((x11 = m → post m) ∧ (¬ x11 = m → ∀ y, y = nI i + 1 → wX_reachableArea_21 post fr f_pushLimit f_historyLimit f_started f_walls f_goals f_boxes f_liveCells f_liveTotal f_boxTotal f_pusherCell f_moves f_pushes f_historyNext f_historyTotal f_storedTotal f_nodeTotal a_editGrid a_liveRank a_historyBoxes a_historyPusher a_storedPushes a_nodeBoxes a_nodePusher a_nodeParent a_nodeCode a_nodeDepth a_nodeMet (k + 1) x11 y))
    refine nm_e (nm_r (e' := gr_fl fr m) rfl (br_c (fun e => ?_) (fun e => nm_r (nI_1 i) (ih (i + 1) _ (by omega) h))))
    rw [ce_it_fix e] at h
    exact h
theorem xs_area {post : Int64 → Prop} {f_pushLimit f_historyLimit f_started : Int32} {f_walls f_goals f_boxes f_liveCells : Int64} {f_liveTotal f_boxTotal f_pusherCell f_moves f_pushes f_historyNext f_historyTotal f_storedTotal f_nodeTotal : Int32} {a_editGrid a_liveRank : Nat → Int32} {a_historyBoxes : Nat → Int64} {a_historyPusher a_storedPushes : Nat → Int32} {a_nodeBoxes : Nat → Int64} {a_nodePusher a_nodeParent a_nodeCode a_nodeDepth a_nodeMet : Nat → Int32} {b : Int64} {p : Nat} (h : post (gr_area f_walls b p)) : wpX_reachableArea post (f_pushLimit, f_historyLimit, f_started, f_walls, f_goals, f_boxes, f_liveCells, f_liveTotal, f_boxTotal, f_pusherCell, f_moves, f_pushes, f_historyNext, f_historyTotal, f_storedTotal, f_nodeTotal, a_editGrid, a_liveRank, a_historyBoxes, a_historyPusher, a_storedPushes, a_nodeBoxes, a_nodePusher, a_nodeParent, a_nodeCode, a_nodeDepth, a_nodeMet) (nI p) b := by
  show ∀ x4, x4 = (f_walls ||| b) ^^^ (-1) → ∃ n : Nat, wX_reachableArea_21 post x4 f_pushLimit f_historyLimit f_started f_walls f_goals f_boxes f_liveCells f_liveTotal f_boxTotal f_pusherCell f_moves f_pushes f_historyNext f_historyTotal f_storedTotal f_nodeTotal a_editGrid a_liveRank a_historyBoxes a_historyPusher a_storedPushes a_nodeBoxes a_nodePusher a_nodeParent a_nodeCode a_nodeDepth a_nodeMet n (ce_bit p) 0
  exact nm_e ⟨65, xs_area0 _ 64 0 _ (by omega) h⟩
theorem xs_goals {post : Int32 → Prop} {f_pushLimit f_historyLimit f_started : Int32} {f_walls f_goals f_boxes f_liveCells : Int64} {f_liveTotal f_boxTotal f_pusherCell f_moves f_pushes f_historyNext f_historyTotal f_storedTotal f_nodeTotal : Int32} {a_editGrid a_liveRank : Nat → Int32} {a_historyBoxes : Nat → Int64} {a_historyPusher a_storedPushes : Nat → Int32} {a_nodeBoxes : Nat → Int64} {a_nodePusher a_nodeParent a_nodeCode a_nodeDepth a_nodeMet : Nat → Int32} {b : Int64} (h : post (if b &&& (f_goals ^^^ (-1)) = 0 then 1 else 0)) : wpX_allOnGoals post (f_pushLimit, f_historyLimit, f_started, f_walls, f_goals, f_boxes, f_liveCells, f_liveTotal, f_boxTotal, f_pusherCell, f_moves, f_pushes, f_historyNext, f_historyTotal, f_storedTotal, f_nodeTotal, a_editGrid, a_liveRank, a_historyBoxes, a_historyPusher, a_storedPushes, a_nodeBoxes, a_nodePusher, a_nodeParent, a_nodeCode, a_nodeDepth, a_nodeMet) b := by
  refine br_c (fun z => ?_) (fun z => ?_)
  · rw [if_pos z] at h; exact h
  · rw [if_neg z] at h; exact h
end
section
/-! the class's live cells and their ranks -/
theorem xs_live0 {post : SX → Prop} {w : Int64} {f_pushLimit f_historyLimit f_started : Int32} {f_walls f_goals f_boxes f_liveCells : Int64} {f_liveTotal f_boxTotal f_pusherCell f_moves f_pushes f_historyNext f_historyTotal f_storedTotal f_nodeTotal : Int32} {a_editGrid a_liveRank : Nat → Int32} {a_historyBoxes : Nat → Int64} {a_historyPusher a_storedPushes : Nat → Int32} {a_nodeBoxes : Nat → Int64} {a_nodePusher a_nodeParent a_nodeCode a_nodeDepth a_nodeMet : Nat → Int32} : ∀ k i m, i + k = 64 → post (f_pushLimit, f_historyLimit, f_started, f_walls, f_goals, f_boxes, ce_it (gr_lf w) k m, f_liveTotal, f_boxTotal, f_pusherCell, f_moves, f_pushes, f_historyNext, f_historyTotal, f_storedTotal, f_nodeTotal, a_editGrid, a_liveRank, a_historyBoxes, a_historyPusher, a_storedPushes, a_nodeBoxes, a_nodePusher, a_nodeParent, a_nodeCode, a_nodeDepth, a_nodeMet) →
    wX_findLiveCells_49 post ((w ^^^ (-1)) &&& ce_up (w ^^^ (-1))) ((w ^^^ (-1)) &&& ce_dn (w ^^^ (-1))) ((w ^^^ (-1)) &&& ce_rt (w ^^^ (-1))) ((w ^^^ (-1)) &&& ce_lf (w ^^^ (-1))) f_pushLimit f_historyLimit f_started f_walls f_goals f_boxes f_liveCells f_liveTotal f_boxTotal f_pusherCell f_moves f_pushes f_historyNext f_historyTotal f_storedTotal f_nodeTotal a_editGrid a_liveRank a_historyBoxes a_historyPusher a_storedPushes a_nodeBoxes a_nodePusher a_nodeParent a_nodeCode a_nodeDepth a_nodeMet (k + 1) m (nI i) := by
  intro k
  induction k with
  | zero =>
    intro i m hi h
    exact br_t (nI_le (a := 64) (by omega) (by omega)) h
  | succ k ih =>
    intro i m hi h
    refine br_f (nI_ge (b := 64) (by omega) (by decide)) ?_
    refine nm_r (e' := m ||| (ce_dn m &&& ((w ^^^ (-1)) &&& ce_up (w ^^^ (-1))))) rfl ?_
    refine nm_r (e' := (m ||| (ce_dn m &&& ((w ^^^ (-1)) &&& ce_up (w ^^^ (-1))))) ||| (ce_up m &&& ((w ^^^ (-1)) &&& ce_dn (w ^^^ (-1))))) rfl ?_
    refine nm_r (e' := ((m ||| (ce_dn m &&& ((w ^^^ (-1)) &&& ce_up (w ^^^ (-1))))) ||| (ce_up m &&& ((w ^^^ (-1)) &&& ce_dn (w ^^^ (-1))))) ||| (ce_lf m &&& ((w ^^^ (-1)) &&& ce_rt (w ^^^ (-1))))) rfl ?_
    refine nm_r (e' := gr_lf w m) rfl ?_
    refine br_c (fun e => ?_) (fun e => nm_r (nI_1 i) (ih (i + 1) _ (by omega) h))
    rw [ce_it_fix e] at h
    rw [e]
    exact h
theorem xs_live {post : SX → Prop} {f_pushLimit f_historyLimit f_started : Int32} {f_walls f_goals f_boxes f_liveCells : Int64} {f_liveTotal f_boxTotal f_pusherCell f_moves f_pushes f_historyNext f_historyTotal f_storedTotal f_nodeTotal : Int32} {a_editGrid a_liveRank : Nat → Int32} {a_historyBoxes : Nat → Int64} {a_historyPusher a_storedPushes : Nat → Int32} {a_nodeBoxes : Nat → Int64} {a_nodePusher a_nodeParent a_nodeCode a_nodeDepth a_nodeMet : Nat → Int32} (h : post (f_pushLimit, f_historyLimit, f_started, f_walls, f_goals, f_boxes, gr_live f_walls f_goals, f_liveTotal, f_boxTotal, f_pusherCell, f_moves, f_pushes, f_historyNext, f_historyTotal, f_storedTotal, f_nodeTotal, a_editGrid, a_liveRank, a_historyBoxes, a_historyPusher, a_storedPushes, a_nodeBoxes, a_nodePusher, a_nodeParent, a_nodeCode, a_nodeDepth, a_nodeMet)) : wpX_findLiveCells post (f_pushLimit, f_historyLimit, f_started, f_walls, f_goals, f_boxes, f_liveCells, f_liveTotal, f_boxTotal, f_pusherCell, f_moves, f_pushes, f_historyNext, f_historyTotal, f_storedTotal, f_nodeTotal, a_editGrid, a_liveRank, a_historyBoxes, a_historyPusher, a_storedPushes, a_nodeBoxes, a_nodePusher, a_nodeParent, a_nodeCode, a_nodeDepth, a_nodeMet) := by
  refine nm_e ?_
  refine nm_r (e' := (f_walls ^^^ (-1)) &&& ce_up (f_walls ^^^ (-1))) rfl ?_
  refine nm_r (e' := (f_walls ^^^ (-1)) &&& ce_dn (f_walls ^^^ (-1))) rfl ?_
  refine nm_r (e' := (f_walls ^^^ (-1)) &&& ce_rt (f_walls ^^^ (-1))) rfl ?_
  refine nm_r (e' := (f_walls ^^^ (-1)) &&& ce_lf (f_walls ^^^ (-1))) rfl ?_
  exact ⟨65, xs_live0 64 0 f_goals (by omega) h⟩
theorem xs_rank0 {post : SX → Prop} {f_pushLimit f_historyLimit f_started : Int32} {f_walls f_goals f_boxes f_liveCells : Int64} {f_boxTotal f_pusherCell f_moves f_pushes f_historyNext f_historyTotal f_storedTotal f_nodeTotal : Int32} {a_editGrid : Nat → Int32} {a_historyBoxes : Nat → Int64} {a_historyPusher a_storedPushes : Nat → Int32} {a_nodeBoxes : Nat → Int64} {a_nodePusher a_nodeParent a_nodeCode a_nodeDepth a_nodeMet : Nat → Int32} (hpost : ∀ lr, (∀ c, c < 64 → lr c = nI (ce_rk f_liveCells c)) → post (f_pushLimit, f_historyLimit, f_started, f_walls, f_goals, f_boxes, f_liveCells, nI (ce_rk f_liveCells 64), f_boxTotal, f_pusherCell, f_moves, f_pushes, f_historyNext, f_historyTotal, f_storedTotal, f_nodeTotal, a_editGrid, lr, a_historyBoxes, a_historyPusher, a_storedPushes, a_nodeBoxes, a_nodePusher, a_nodeParent, a_nodeCode, a_nodeDepth, a_nodeMet)) :
    ∀ k i lr, i + k = 64 → (∀ c, c < i → lr c = nI (ce_rk f_liveCells c)) → wX_rankLiveCells_7 post f_pushLimit f_historyLimit f_started f_walls f_goals f_boxes f_liveCells f_boxTotal f_pusherCell f_moves f_pushes f_historyNext f_historyTotal f_storedTotal f_nodeTotal (k + 1) (nI i) (nI (ce_rk f_liveCells i)) a_editGrid (lr) a_historyBoxes a_historyPusher a_storedPushes a_nodeBoxes a_nodePusher a_nodeParent a_nodeCode a_nodeDepth a_nodeMet := by
  intro k
  induction k with
  | zero =>
    intro i lr hi h
    have e : i = 64 := by omega
    subst e
    exact br_t (nI_le (a := 64) (by omega) (by omega)) (hpost lr h)
  | succ k ih =>
    intro i lr hi h
    refine br_f (nI_ge (b := 64) (by omega) (by decide)) ⟨vp_in_nI (by omega) (by decide), nm_r (e' := upd lr i (nI (ce_rk f_liveCells i))) (by rw [nI_clamp (by omega)]) (xs_hasN (by omega) ?_)⟩
    have hk : ∀ c, c < i + 1 → upd lr i (nI (ce_rk f_liveCells i)) c = nI (ce_rk f_liveCells c) := by
      intro c hc
      by_cases q : c = i
      · rw [q, pk_us]
      · rw [pk_un q]; exact h c (by omega)
    have := ih (i + 1) _ (by omega) hk
    cases hb : ce_b f_liveCells i
    · rw [ce_rk_n hb] at this
      exact br_t (ce_Af hb) (nm_r (nI_1 i) this)
    · rw [ce_rk_s hb] at this
      exact br_f (by rw [ce_At hb]; decide) (nm_r (nI_1 _) (nm_r (nI_1 i) this))
theorem xs_rank {post : SX → Prop} {f_pushLimit f_historyLimit f_started : Int32} {f_walls f_goals f_boxes f_liveCells : Int64} {f_liveTotal f_boxTotal f_pusherCell f_moves f_pushes f_historyNext f_historyTotal f_storedTotal f_nodeTotal : Int32} {a_editGrid a_liveRank : Nat → Int32} {a_historyBoxes : Nat → Int64} {a_historyPusher a_storedPushes : Nat → Int32} {a_nodeBoxes : Nat → Int64} {a_nodePusher a_nodeParent a_nodeCode a_nodeDepth a_nodeMet : Nat → Int32} (hpost : ∀ lr, (∀ c, c < 64 → lr c = nI (ce_rk f_liveCells c)) → post (f_pushLimit, f_historyLimit, f_started, f_walls, f_goals, f_boxes, f_liveCells, nI (ce_rk f_liveCells 64), f_boxTotal, f_pusherCell, f_moves, f_pushes, f_historyNext, f_historyTotal, f_storedTotal, f_nodeTotal, a_editGrid, lr, a_historyBoxes, a_historyPusher, a_storedPushes, a_nodeBoxes, a_nodePusher, a_nodeParent, a_nodeCode, a_nodeDepth, a_nodeMet)) : wpX_rankLiveCells post (f_pushLimit, f_historyLimit, f_started, f_walls, f_goals, f_boxes, f_liveCells, f_liveTotal, f_boxTotal, f_pusherCell, f_moves, f_pushes, f_historyNext, f_historyTotal, f_storedTotal, f_nodeTotal, a_editGrid, a_liveRank, a_historyBoxes, a_historyPusher, a_storedPushes, a_nodeBoxes, a_nodePusher, a_nodeParent, a_nodeCode, a_nodeDepth, a_nodeMet) :=
  ⟨65, xs_rank0 hpost 64 0 _ (by omega) (fun c hc => by omega)⟩
end
section
/-! the reference's flood -/
def ys_Q (w b : Int64) (p g n : Nat) (ex : Nat → Nat → Prop) (r sk : Nat → Int32) : Prop :=
  ∃ m : Int64, ∃ ks : Nat → Nat, (∀ c, c < 64 → r c = ce_A m c) ∧ (∀ i, i < n → sk i = nI (ks i) ∧ ce_b m (ks i) = true) ∧ g + n = ce_rk m 64 ∧
    (∀ c, ce_b m c = true → ce_b (gr_area w b p) c = true) ∧ ce_b m p = true ∧
    (∀ a d, ce_b m a = true → d < 4 → (ce_n a d < 64 ∧ ce_b w (ce_n a d) = false ∧ ce_b b (ce_n a d) = false) → ce_b m (ce_n a d) = true ∨ (∃ i, i < n ∧ ks i = a) ∨ ex a d)
theorem ys_Qend {w b : Int64} {p g n : Nat} {r sk : Nat → Int32} (hp : p < 64) (h : ys_Q w b p g n (fun _ _ => False) r sk) (hn : n = 0 ∨ g = 64) : ∀ c, c < 64 → r c = ce_A (gr_area w b p) c := by
  obtain ⟨m, ks, h1, h2, h3, h4, h5, h6⟩ := h
  have h0 : n = 0 := by
    rcases hn with z | z
    · exact z
    · have := ce_rk_le m 64
      omega
  subst h0
  have e : m = gr_area w b p := by
    apply ce_ext
    intro c hc
    have i : ce_b m c = true ↔ ce_b (gr_area w b p) c = true := by
      refine ⟨h4 c, fun z => ?_⟩
      refine (gr_areaI w b hp c).mp z (fun c => ce_b m c = true) ?_ ?_
      · intro a e; subst e; exact h5
      · rintro a c ha ⟨hf, d, hd, e⟩
        subst e
        rcases h6 a d ha hd ((gr_fr w b _).mp hf) with q | ⟨i, q, _⟩ | q
        · exact q
        · omega
        · exact q.elim
    cases z1 : ce_b m c <;> cases z2 : ce_b (gr_area w b p) c <;> simp_all
  rw [← e]
  exact h1
theorem ys_Qpop {w b : Int64} {p g n : Nat} {r sk : Nat → Int32} (h : ys_Q w b p g (n + 1) (fun _ _ => False) r sk) : ∃ x, x < 64 ∧ sk n = nI x ∧ ce_b (gr_area w b p) x = true ∧ ys_Q w b p (g + 1) n (fun a d => a = x ∧ 0 ≤ d) r sk ∧ (∀ m : Int64, (∀ c, c < 64 → r c = ce_A m c) → ce_b m x = true) := by
  obtain ⟨m, ks, h1, h2, h3, h4, h5, h6⟩ := h
  obtain ⟨k1, k2⟩ := h2 n (by omega)
  refine ⟨ks n, ce_lt k2, k1, h4 _ k2, ⟨m, ks, h1, fun i hi => h2 i (by omega), by omega, h4, h5, fun a d ha hd hf => ?_⟩, fun m' hm => ?_⟩
  · rcases h6 a d ha hd hf with q | ⟨i, q1, q2⟩ | q
    · exact Or.inl q
    · by_cases e : i = n
      · subst e; exact Or.inr (Or.inr ⟨q2.symm, Nat.zero_le _⟩)
      · exact Or.inr (Or.inl ⟨i, by omega, q2⟩)
    · exact q.elim
  · have := hm (ks n) (ce_lt k2)
    rw [h1 (ks n) (ce_lt k2), ce_At k2] at this
    exact ce_A1.mp this.symm
theorem ys_Qskip {w b : Int64} {p g n x d : Nat} {r sk : Nat → Int32} (h : ys_Q w b p g n (fun a e => a = x ∧ d ≤ e) r sk) (hs : ¬ (ce_n x d < 64 ∧ ce_b w (ce_n x d) = false ∧ ce_b b (ce_n x d) = false) ∨ (ce_n x d < 64 ∧ ¬ r (ce_n x d) = 0)) : ys_Q w b p g n (fun a e => a = x ∧ d + 1 ≤ e) r sk := by
  obtain ⟨m, ks, h1, h2, h3, h4, h5, h6⟩ := h
  refine ⟨m, ks, h1, h2, h3, h4, h5, fun a e ha he hf => ?_⟩
  rcases h6 a e ha he hf with q | q | ⟨q1, q2⟩
  · exact Or.inl q
  · exact Or.inr (Or.inl q)
  · by_cases z : d + 1 ≤ e
    · exact Or.inr (Or.inr ⟨q1, z⟩)
    · have : e = d := by omega
      subst this
      subst q1
      rcases hs with s | ⟨s1, s2⟩
      · exact absurd hf s
      · rw [h1 _ s1] at s2
        exact Or.inl (ts_nf (fun z => s2 (ce_Az.mpr z)))
theorem ys_Qadd {w b : Int64} {p g n x d : Nat} {r sk : Nat → Int32} (hp : p < 64) (hd : d < 4) (hx : ce_b (gr_area w b p) x = true) (h : ys_Q w b p (g + 1) n (fun a e => a = x ∧ d ≤ e) r sk) (hf : ce_n x d < 64 ∧ ce_b w (ce_n x d) = false ∧ ce_b b (ce_n x d) = false) (hr : r (ce_n x d) = 0) : n < 64 ∧ ys_Q w b p (g + 1) (n + 1) (fun a e => a = x ∧ d + 1 ≤ e) (upd r (ce_n x d) 1) (upd sk n (nI (ce_n x d))) := by
  obtain ⟨m, ks, h1, h2, h3, h4, h5, h6⟩ := h
  have hm : ce_b m (ce_n x d) = false := ce_Az.mp (by rw [← h1 _ hf.1]; exact hr)
  have hk := ce_rk_set hf.1 hm 64
  rw [if_pos hf.1] at hk
  have hle := ce_rk_le (m ||| ce_bit (ce_n x d)) 64
  have up : ∀ c, ce_b m c = true → ce_b (m ||| ce_bit (ce_n x d)) c = true := fun c hc => by rw [ce_setB hf.1, hc]; rfl
  refine ⟨by omega, m ||| ce_bit (ce_n x d), fun i => if i = n then ce_n x d else ks i, fun c hc => ?_, fun i hi => ?_, by omega, fun c hc => ?_, up p h5, fun a e ha he hfa => ?_⟩
  · rw [← ce_A_set hf.1]
    by_cases q : c = ce_n x d
    · rw [q, pk_us, pk_us]
    · rw [pk_un q, pk_un q]; exact h1 c hc
  · by_cases q : i = n
    · subst q
      dsimp only
      rw [pk_us, if_pos rfl]
      exact ⟨rfl, by rw [ce_setB hf.1]; simp⟩
    · dsimp only
      rw [pk_un q, if_neg q]
      obtain ⟨a1, a2⟩ := h2 i (by omega)
      exact ⟨a1, up _ a2⟩
  · rw [ce_setB hf.1, Bool.or_eq_true, decide_eq_true_eq] at hc
    rcases hc with q | q
    · exact h4 c q
    · subst q
      rw [gr_areaI w b hp] at hx ⊢
      exact gr_lc_s hx ⟨(gr_fr w b _).mpr hf, d, hd, rfl⟩
  · rw [ce_setB hf.1, Bool.or_eq_true, decide_eq_true_eq] at ha
    rcases ha with q | q
    · rcases h6 a e q he hfa with s | ⟨i, s1, s2⟩ | ⟨s1, s2⟩
      · exact Or.inl (up _ s)
      · refine Or.inr (Or.inl ⟨i, by omega, ?_⟩)
        show (if i = n then ce_n x d else ks i) = a
        rw [if_neg (by omega)]; exact s2
      · by_cases z : d + 1 ≤ e
        · exact Or.inr (Or.inr ⟨s1, z⟩)
        · have : e = d := by omega
          subst this
          subst s1
          left
          rw [ce_setB hf.1]; simp
    · refine Or.inr (Or.inl ⟨n, by omega, ?_⟩)
      show (if n = n then ce_n x d else ks n) = a
      rw [if_pos rfl]; exact q
theorem ys_72 {post : SY → Prop} {J : Int32 → Int32 → (Nat → Int32) → (Nat → Int32) → (Nat → Int32) → (Nat → Int32) → (Nat → Int32) → (Nat → Int32) → (Nat → Int32) → (Nat → Int32) → (Nat → Int32) → (Nat → Int32) → (Nat → Int32) → (Nat → Int32) → (Nat → Int32) → (Nat → Int32) → (Nat → Int32) → (Nat → Int32) → Prop} {w b : Int64} {p g x : Nat} {yf_lim yf_hs yf_started yf_pu yf_moves yf_pushes yf_hn yf_solLen yf_nB yf_nL yf_curP yf_nextState : Int32} {ya_edit ya_goal ya_hFrom ya_hBf ya_hBt ya_sol ya_liveMark ya_liveIdx ya_liveCell ya_dist ya_sb ya_ob : Nat → Int32} (hp : p < 64) (hx : ce_b (gr_area w b p) x = true)
    (hJ : ∀ n r sk, ys_Q w b p (g + 1) n (fun _ _ => False) r sk → J (nI n) (nI (g + 1)) ya_edit (ce_A w) ya_goal (ce_A b) ya_hFrom ya_hBf ya_hBt ya_sol (r) (sk) ya_liveMark ya_liveIdx ya_liveCell ya_dist ya_sb ya_ob) :
    ∀ k d n r sk, d + k = 4 → n < 2 ^ 30 → ys_Q w b p (g + 1) n (fun a e => a = x ∧ d ≤ e) r sk → wY_flood_72 post J (nI g) (nI x) yf_lim yf_hs yf_started yf_pu yf_moves yf_pushes yf_hn yf_solLen yf_nB yf_nL yf_curP yf_nextState (k + 1) (nI n) (nI d) ya_edit (ce_A w) ya_goal (ce_A b) ya_hFrom ya_hBf ya_hBt ya_sol (r) (sk) ya_liveMark ya_liveIdx ya_liveCell ya_dist ya_sb ya_ob := by
  have hx64 := ce_lt hx
  intro k
  induction k with
  | zero =>
    intro d n r sk hd hn h
    refine br_t (nI_le (a := 4) (by omega) (by omega)) (nm_r (nI_1 g) (hJ n r sk ?_))
    obtain ⟨m, ks, h1, h2, h3, h4, h5, h6⟩ := h
    refine ⟨m, ks, h1, h2, h3, h4, h5, fun a e ha he hf => ?_⟩
    rcases h6 a e ha he hf with q | q | ⟨_, q⟩
    · exact Or.inl q
    · exact Or.inr (Or.inl q)
    · omega
  | succ k ih =>
    intro d n r sk hd hn h
    refine br_f (nI_ge (b := 4) (by omega) (by decide)) (ys_nbN hx64 (by omega) (ys_free (ce_n_le x d) ?_))
    refine br_c (fun z => nm_r (nI_1 d) (ih (d + 1) n r sk (by omega) hn (ys_Qskip h (Or.inl (gr_fn z))))) (fun z => ?_)
    have hf := gr_fz z
    refine ⟨ce_I_vp hf.1, ?_⟩
    rw [ce_I_in hf.1, nI_clamp (by omega)]
    refine br_c (fun q => ?_) (fun q => nm_r (nI_1 d) (ih (d + 1) n r sk (by omega) hn (ys_Qskip h (Or.inr ⟨hf.1, q⟩))))
    obtain ⟨hn64, hQ⟩ := ys_Qadd hp (by omega) hx h hf q
    refine br_f (nI_ge (b := 64) hn64 (by decide)) ⟨vp_in_nI hf.1 (by decide), nm_r (e' := upd r (ce_n x d) 1) (by rw [rl_b1]) ⟨vp_in_nI hn64 (by decide), nm_r (e' := upd sk n (nI (ce_n x d))) (by rw [nI_clamp (by omega)]) (nm_r (nI_1 n) (nm_r (nI_1 d) (ih (d + 1) (n + 1) _ _ (by omega) (by omega) hQ)))⟩⟩
theorem ys_48 {post : SY → Prop} {w b : Int64} {p : Nat} {yf_lim yf_hs yf_started yf_pu yf_moves yf_pushes yf_hn yf_solLen yf_nB yf_nL yf_curP yf_nextState : Int32} {ya_edit ya_goal ya_hFrom ya_hBf ya_hBt ya_sol ya_liveMark ya_liveIdx ya_liveCell ya_dist ya_sb ya_ob : Nat → Int32} (hp : p < 64)
    (hpost : ∀ r sk, (∀ c, c < 64 → r c = ce_A (gr_area w b p) c) → post (yf_lim, yf_hs, yf_started, yf_pu, yf_moves, yf_pushes, yf_hn, yf_solLen, yf_nB, yf_nL, yf_curP, yf_nextState, ya_edit, ce_A w, ya_goal, ce_A b, ya_hFrom, ya_hBf, ya_hBt, ya_sol, r, sk, ya_liveMark, ya_liveIdx, ya_liveCell, ya_dist, ya_sb, ya_ob)) :
    ∀ k g n r sk, g + k = 64 → ys_Q w b p g n (fun _ _ => False) r sk → wY_flood_48 post yf_lim yf_hs yf_started yf_pu yf_moves yf_pushes yf_hn yf_solLen yf_nB yf_nL yf_curP yf_nextState (k + 1) (nI n) (nI g) ya_edit (ce_A w) ya_goal (ce_A b) ya_hFrom ya_hBf ya_hBt ya_sol (r) (sk) ya_liveMark ya_liveIdx ya_liveCell ya_dist ya_sb ya_ob := by
  intro k
  induction k with
  | zero =>
    intro g n r sk hg h
    exact br_t (nI_le (a := 64) (by omega) (by omega)) (hpost r sk (ys_Qend hp h (Or.inr (by omega))))
  | succ k ih =>
    intro g n r sk hg h
    refine br_f (nI_ge (b := 64) (by omega) (by decide)) ?_
    cases n with
    | zero => exact br_t (by decide) (hpost r sk (ys_Qend hp h (Or.inl rfl)))
    | succ n =>
      have hn : n < 64 := by
        obtain ⟨m, ks, h1, h2, h3, h4, h5, h6⟩ := h
        have := ce_rk_le m 64
        omega
      obtain ⟨x, hx, hs, hxa, hQ, _⟩ := ys_Qpop h
      refine br_f (nI_nle (by omega) (by omega)) (nm_r (pk_m1 n) ⟨vp_in_nI hn (by decide), nm_r (e' := nI x) (by rw [nI_clamp (by omega)]; exact hs) ⟨5, ?_⟩⟩)
      exact ys_72 hp hxa (fun n r sk hq => ih (g + 1) n r sk (by omega) hq) 4 0 n r sk (by omega) (by omega) hQ
theorem ys_2 {post : SY → Prop} {w b : Int64} {p : Nat} {yf_lim yf_hs yf_started yf_pu yf_moves yf_pushes yf_hn yf_solLen yf_nB yf_nL yf_curP yf_nextState : Int32} {ya_edit ya_goal ya_hFrom ya_hBf ya_hBt ya_sol ya_liveMark ya_liveIdx ya_liveCell ya_dist ya_sb ya_ob : Nat → Int32} (hp : p < 64) (hw : ce_b w p = false) (hb : ce_b b p = false)
    (hpost : ∀ r sk, (∀ c, c < 64 → r c = ce_A (gr_area w b p) c) → post (yf_lim, yf_hs, yf_started, yf_pu, yf_moves, yf_pushes, yf_hn, yf_solLen, yf_nB, yf_nL, yf_curP, yf_nextState, ya_edit, ce_A w, ya_goal, ce_A b, ya_hFrom, ya_hBf, ya_hBt, ya_sol, r, sk, ya_liveMark, ya_liveIdx, ya_liveCell, ya_dist, ya_sb, ya_ob)) {sk : Nat → Int32} :
    ∀ k i r, i + k = 64 → (∀ c, c < i → r c = 0) → wY_flood_2 post (nI p) yf_lim yf_hs yf_started yf_pu yf_moves yf_pushes yf_hn yf_solLen yf_nB yf_nL yf_curP yf_nextState (k + 1) (nI i) ya_edit (ce_A w) ya_goal (ce_A b) ya_hFrom ya_hBf ya_hBt ya_sol (r) (sk) ya_liveMark ya_liveIdx ya_liveCell ya_dist ya_sb ya_ob := by
  intro k
  induction k with
  | zero =>
    intro i r hi h
    refine br_t (nI_le (a := 64) (by omega) (by omega)) ?_
    rw [← ce_I_in hp]
    refine ys_free (by omega) ?_
    rw [gr_f1 ⟨hp, hw, hb⟩]
    refine br_f (by decide) ⟨ce_I_vp hp, nm_r (e' := upd r p 1) (by rw [rl_b1, ce_I_cl hp]) (nm_r (e' := upd sk 0 (nI p)) (by rw [ce_I_in hp]) ⟨65, ys_48 hp hpost 64 0 1 _ _ (by omega) ?_⟩)⟩
    have e0 : ce_rk (0 : Int64) 64 = 0 := by decide +kernel
    have hk := ce_rk_set hp (ce_0 p) 64
    rw [if_pos hp, e0] at hk
    refine ⟨(0 : Int64) ||| ce_bit p, fun _ => p, fun c hc => ?_, fun i hi => ?_, by omega, fun c hc => ?_, ?_, fun a d ha hd hf => ?_⟩
    · rw [← ce_A_set hp]
      by_cases q : c = p
      · rw [q, pk_us, pk_us]
      · rw [pk_un q, pk_un q, h c (by omega), ce_Af (ce_0 c)]
    · have : i = 0 := by omega
      subst this
      rw [pk_us]
      exact ⟨rfl, by rw [ce_setB hp]; simp⟩
    · rw [ce_setB hp, ce_0, Bool.false_or, decide_eq_true_eq] at hc
      subst hc
      exact (gr_areaI w b hp p).mpr (gr_lc_i rfl)
    · rw [ce_setB hp]; simp
    · rw [ce_setB hp, ce_0, Bool.false_or, decide_eq_true_eq] at ha
      exact Or.inr (Or.inl ⟨0, by omega, ha⟩)
  | succ k ih =>
    intro i r hi h
    refine br_f (nI_ge (b := 64) (by omega) (by decide)) ⟨vp_in_nI (by omega) (by decide), nm_r (e' := upd r i 0) (by rw [rl_b0, nI_clamp (by omega)]) (nm_r (nI_1 i) (ih (i + 1) _ (by omega) (fun c hc => ?_)))⟩
    by_cases q : c = i
    · rw [q, pk_us]
    · rw [pk_un q]; exact h c (by omega)
theorem ys_flood {post : SY → Prop} {w b : Int64} {p : Nat} {yf_lim yf_hs yf_started yf_pu yf_moves yf_pushes yf_hn yf_solLen yf_nB yf_nL yf_curP yf_nextState : Int32} {ya_edit ya_goal ya_hFrom ya_hBf ya_hBt ya_sol ya_reach ya_stack ya_liveMark ya_liveIdx ya_liveCell ya_dist ya_sb ya_ob : Nat → Int32} (hp : p < 64) (hw : ce_b w p = false) (hb : ce_b b p = false)
    (hpost : ∀ r sk, (∀ c, c < 64 → r c = ce_A (gr_area w b p) c) → post (yf_lim, yf_hs, yf_started, yf_pu, yf_moves, yf_pushes, yf_hn, yf_solLen, yf_nB, yf_nL, yf_curP, yf_nextState, ya_edit, ce_A w, ya_goal, ce_A b, ya_hFrom, ya_hBf, ya_hBt, ya_sol, r, sk, ya_liveMark, ya_liveIdx, ya_liveCell, ya_dist, ya_sb, ya_ob)) : wpY_flood post (yf_lim, yf_hs, yf_started, yf_pu, yf_moves, yf_pushes, yf_hn, yf_solLen, yf_nB, yf_nL, yf_curP, yf_nextState, ya_edit, ce_A w, ya_goal, ce_A b, ya_hFrom, ya_hBf, ya_hBt, ya_sol, ya_reach, ya_stack, ya_liveMark, ya_liveIdx, ya_liveCell, ya_dist, ya_sb, ya_ob) (nI p) :=
  ⟨65, ys_2 hp hw hb hpost 64 0 _ (by omega) (fun c hc => by omega)⟩
end
section
/-! the reference's live cells -/
def ys_L (w g m : Int64) (lm : Nat → Int32) : Prop := (∀ c, c < 64 → lm c = ce_A m c) ∧ (∀ c, ce_b g c = true → ce_b m c = true) ∧ (∀ c, ce_b m c = true → ce_b (gr_live w g) c = true)
def ys_ed (w : Int64) (t e : Nat) : Prop := ce_n t e < 64 ∧ ce_n (ce_n t e) e < 64 ∧ ce_b w (ce_n t e) = false ∧ ce_b w (ce_n (ce_n t e) e) = false
theorem ys_Lend {w g m : Int64} {lm : Nat → Int32} (h : ys_L w g m lm) (hc : ∀ t, ce_b m t = true → ∀ e, e < 4 → ys_ed w t e → ce_b m (ce_n t e) = true) : ∀ c, c < 64 → lm c = ce_A (gr_live w g) c := by
  obtain ⟨h1, h2, h3⟩ := h
  have e : m = gr_live w g := by
    apply ce_ext
    intro c hc64
    have i : ce_b m c = true ↔ ce_b (gr_live w g) c = true := by
      refine ⟨h3 c, fun z => ?_⟩
      refine (gr_liveI w g c).mp z (fun c => ce_b m c = true) h2 ?_
      rintro a c ha ⟨e, he, rfl, q1, q2, q3, q4⟩
      exact hc a ha e he ⟨q1, q2, q3, q4⟩
    cases z1 : ce_b m c <;> cases z2 : ce_b (gr_live w g) c <;> simp_all
  rw [← e]
  exact h1
theorem ys_Ladd {w g m : Int64} {lm : Nat → Int32} {t e : Nat} (h : ys_L w g m lm) (ht : ce_b m t = true) (he : e < 4) (hd : ys_ed w t e) : ys_L w g (m ||| ce_bit (ce_n t e)) (upd lm (ce_n t e) 1) := by
  obtain ⟨h1, h2, h3⟩ := h
  refine ⟨fun c hc => ?_, fun c hc => ?_, fun c hc => ?_⟩
  · rw [← ce_A_set hd.1]
    by_cases q : c = ce_n t e
    · rw [q, pk_us, pk_us]
    · rw [pk_un q, pk_un q]; exact h1 c hc
  · rw [ce_setB hd.1, h2 c hc]; rfl
  · rw [ce_setB hd.1, Bool.or_eq_true, decide_eq_true_eq] at hc
    rcases hc with q | q
    · exact h3 c q
    · subst q
      have := h3 t ht
      rw [gr_liveI] at this ⊢
      exact gr_lc_s this ⟨e, he, rfl, hd.1, hd.2.1, hd.2.2.1, hd.2.2.2⟩
def ys_bI (a : Bool) : Int32 := if a then 1 else 0
theorem ys_g4 {post : Int32 → SY → Prop} {w g m : Int64} {t : Nat} {yf_lim yf_hs yf_started yf_pu yf_moves yf_pushes yf_hn yf_solLen yf_nB yf_nL yf_curP yf_nextState : Int32} {ya_edit ya_goal ya_box ya_hFrom ya_hBf ya_hBt ya_sol ya_reach ya_stack ya_liveIdx ya_liveCell ya_dist ya_sb ya_ob : Nat → Int32} (ht : ce_b m t = true)
    (hpost : ∀ (a : Bool) (m' : Int64) (lm' : Nat → Int32), ys_L w g m' lm' → (∀ c, ce_b m c = true → ce_b m' c = true) → (∀ e, e < 4 → ys_ed w t e → ce_b m' (ce_n t e) = true) → (a = false → m' = m) → (a = true → ce_rk m 64 < ce_rk m' 64) → post (ys_bI a) (yf_lim, yf_hs, yf_started, yf_pu, yf_moves, yf_pushes, yf_hn, yf_solLen, yf_nB, yf_nL, yf_curP, yf_nextState, ya_edit, ce_A w, ya_goal, ya_box, ya_hFrom, ya_hBf, ya_hBt, ya_sol, ya_reach, ya_stack, lm', ya_liveIdx, ya_liveCell, ya_dist, ya_sb, ya_ob)) :
    ∀ k e (a : Bool) (m' : Int64) (lm' : Nat → Int32), e + k = 4 → ys_L w g m' lm' → (∀ c, ce_b m c = true → ce_b m' c = true) → (∀ f, f < e → ys_ed w t f → ce_b m' (ce_n t f) = true) → (a = false → m' = m) → (a = true → ce_rk m 64 < ce_rk m' 64) →
      wY_grow_4 post (nI t) yf_lim yf_hs yf_started yf_pu yf_moves yf_pushes yf_hn yf_solLen yf_nB yf_nL yf_curP yf_nextState (k + 1) (ys_bI a) (nI e) ya_edit (ce_A w) ya_goal ya_box ya_hFrom ya_hBf ya_hBt ya_sol ya_reach ya_stack (lm') ya_liveIdx ya_liveCell ya_dist ya_sb ya_ob := by
  have ht64 := ce_lt ht
  intro k
  induction k with
  | zero =>
    intro e a m' lm' he h1 h2 h3 h4 h5
    refine br_t (nI_le (a := 4) (by omega) (by omega)) ⟨?_, hpost a m' lm' h1 h2 (fun f hf => h3 f (by omega)) h4 h5⟩
    cases a <;> decide
  | succ k ih =>
    intro e a m' lm' he h1 h2 h3 h4 h5
    have go : (ys_ed w t e → ce_b m' (ce_n t e) = true) → wY_grow_4 post (nI t) yf_lim yf_hs yf_started yf_pu yf_moves yf_pushes yf_hn yf_solLen yf_nB yf_nL yf_curP yf_nextState (k + 1) (ys_bI a) (nI (e + 1)) ya_edit (ce_A w) ya_goal ya_box ya_hFrom ya_hBf ya_hBt ya_sol ya_reach ya_stack (lm') ya_liveIdx ya_liveCell ya_dist ya_sb ya_ob := by
      intro hq
      refine ih (e + 1) a m' lm' (by omega) h1 h2 (fun f hf hd => ?_) h4 h5
      by_cases q : f = e
      · subst q; exact hq hd
      · exact h3 f (by omega) hd
    refine br_f (nI_ge (b := 4) (by omega) (by decide)) (ys_nbN ht64 (by omega) (ys_nb (ce_n_le t e) (by omega) ?_))
    rcases ce_le64 (ce_n_le t e) with s1 | s1
    · refine br_f (ce_I_neg s1) ?_
      rcases ce_le64 (ce_n_le (ce_n t e) e) with s2 | s2
      · refine br_f (ce_I_neg s2) ⟨ce_I_vp s1, ?_⟩
        rw [ce_I_cl s1, ce_I_cl s2]
        cases w1 : ce_b w (ce_n t e)
        · refine br_t (ce_Af w1) ⟨ce_I_vp s2, ?_⟩
          cases w2 : ce_b w (ce_n (ce_n t e) e)
          · refine br_t (ce_Af w2) ⟨ce_I_vp s1, ?_⟩
            have hd : ys_ed w t e := ⟨s1, s2, w1, w2⟩
            refine br_c (fun z => ?_) (fun z => nm_r (nI_1 e) (go (fun _ => ?_)))
            · refine ⟨ce_I_vp s1, nm_r (e' := upd lm' (ce_n t e) 1) (by rw [rl_b1]) (nm_r (nI_1 e) ?_)⟩
              rw [h1.1 _ s1] at z
              have z' := ce_Az.mp z
              have hk := ce_rk_set s1 z' 64
              rw [if_pos s1] at hk
              have hm := ce_sub_le h2 64
              refine ih (e + 1) true (m' ||| ce_bit (ce_n t e)) _ (by omega) (ys_Ladd h1 (h2 t ht) (by omega) hd) (fun c hc => by rw [ce_setB s1, h2 c hc]; rfl) (fun f hf hdf => ?_) (fun q => by cases q) (fun _ => by omega)
              by_cases q : f = e
              · subst q; rw [ce_setB s1]; simp
              · rw [ce_setB s1, h3 f (by omega) hdf]; rfl
            · rw [h1.1 _ s1] at z
              exact ts_nf (fun q => z (ce_Az.mpr q))
          · refine br_f (by rw [ce_At w2]; decide) (nm_r (nI_1 e) (go (fun q => ?_)))
            rw [q.2.2.2] at w2; cases w2
        · refine br_f (by rw [ce_At w1]; decide) (nm_r (nI_1 e) (go (fun q => ?_)))
          rw [q.2.2.1] at w1; cases w1
      · refine br_t (by rw [s2]; decide) (nm_r (nI_1 e) (go (fun q => ?_)))
        have := q.2.1
        omega
    · refine br_t (by rw [s1]; decide) (nm_r (nI_1 e) (go (fun q => ?_)))
      have := q.1
      omega
theorem ys_grow {post : Int32 → SY → Prop} {w g m : Int64} {t : Nat} {yf_lim yf_hs yf_started yf_pu yf_moves yf_pushes yf_hn yf_solLen yf_nB yf_nL yf_curP yf_nextState : Int32} {ya_edit ya_goal ya_box ya_hFrom ya_hBf ya_hBt ya_sol ya_reach ya_stack ya_liveMark ya_liveIdx ya_liveCell ya_dist ya_sb ya_ob : Nat → Int32} (ht : ce_b m t = true) (hL : ys_L w g m ya_liveMark)
    (hpost : ∀ (a : Bool) (m' : Int64) (lm' : Nat → Int32), ys_L w g m' lm' → (∀ c, ce_b m c = true → ce_b m' c = true) → (∀ e, e < 4 → ys_ed w t e → ce_b m' (ce_n t e) = true) → (a = false → m' = m) → (a = true → ce_rk m 64 < ce_rk m' 64) → post (ys_bI a) (yf_lim, yf_hs, yf_started, yf_pu, yf_moves, yf_pushes, yf_hn, yf_solLen, yf_nB, yf_nL, yf_curP, yf_nextState, ya_edit, ce_A w, ya_goal, ya_box, ya_hFrom, ya_hBf, ya_hBt, ya_sol, ya_reach, ya_stack, lm', ya_liveIdx, ya_liveCell, ya_dist, ya_sb, ya_ob)) : wpY_grow post (yf_lim, yf_hs, yf_started, yf_pu, yf_moves, yf_pushes, yf_hn, yf_solLen, yf_nB, yf_nL, yf_curP, yf_nextState, ya_edit, ce_A w, ya_goal, ya_box, ya_hFrom, ya_hBf, ya_hBt, ya_sol, ya_reach, ya_stack, ya_liveMark, ya_liveIdx, ya_liveCell, ya_dist, ya_sb, ya_ob) (nI t) :=
  ⟨5, ys_g4 ht hpost 4 0 false m ya_liveMark (by omega) hL (fun _ h => h) (fun f hf => by omega) (fun _ => rfl) (fun h => by cases h)⟩
/-- the numbering at the end -/
theorem ys_86 {post : Int32 → SY → Prop} {lv : Int64} {yf_lim yf_hs yf_started yf_pu yf_moves yf_pushes yf_hn yf_solLen yf_nB yf_nL yf_curP yf_nextState : Int32} {ya_edit ya_wall ya_goal ya_box ya_hFrom ya_hBf ya_hBt ya_sol ya_reach ya_stack ya_dist ya_sb ya_ob : Nat → Int32} {lm : Nat → Int32} (hm : ∀ c, c < 64 → lm c = ce_A lv c)
    (hpost : ∀ li lc, (∀ c, ce_b lv c = true → li c = nI (ce_rk lv c)) → (∀ c, ce_b lv c = true → lc (ce_rk lv c) = nI c) → post (nI (ce_rk lv 64)) (yf_lim, yf_hs, yf_started, yf_pu, yf_moves, yf_pushes, yf_hn, yf_solLen, yf_nB, yf_nL, yf_curP, yf_nextState, ya_edit, ya_wall, ya_goal, ya_box, ya_hFrom, ya_hBf, ya_hBt, ya_sol, ya_reach, ya_stack, lm, li, lc, ya_dist, ya_sb, ya_ob)) :
    ∀ k i li lc, i + k = 64 → (∀ c, c < i → ce_b lv c = true → li c = nI (ce_rk lv c)) → (∀ c, c < i → ce_b lv c = true → lc (ce_rk lv c) = nI c) →
      wY_computeLive_86 post yf_lim yf_hs yf_started yf_pu yf_moves yf_pushes yf_hn yf_solLen yf_nB yf_nL yf_curP yf_nextState (k + 1) (nI (ce_rk lv i)) (nI i) ya_edit ya_wall ya_goal ya_box ya_hFrom ya_hBf ya_hBt ya_sol ya_reach ya_stack (lm) (li) (lc) ya_dist ya_sb ya_ob := by
  intro k
  induction k with
  | zero =>
    intro i li lc hi h1 h2
    have e : i = 64 := by omega
    subst e
    exact br_t (nI_le (a := 64) (by omega) (by omega)) (hpost li lc (fun c hc => h1 c (ce_lt hc) hc) (fun c hc => h2 c (ce_lt hc) hc))
  | succ k ih =>
    intro i li lc hi h1 h2
    have hr := ce_rk_le lv i
    refine br_f (nI_ge (b := 64) (by omega) (by decide)) ⟨vp_in_nI (by omega) (by decide), nm_r (e' := upd li i (-1)) (by rw [nI_clamp (by omega)]) ⟨vp_in_nI (by omega) (by decide), ?_⟩⟩
    rw [nI_clamp (n := i) (by omega), hm i (by omega)]
    cases hb : ce_b lv i
    · refine br_t (ce_Af hb) (nm_r (nI_1 i) ?_)
      have := ih (i + 1) (upd li i (-1)) lc (by omega) (fun c hc hl => ?_) (fun c hc hl => ?_)
      · rw [ce_rk_n hb] at this; exact this
      · by_cases q : c = i
        · rw [q, hb] at hl; cases hl
        · rw [pk_un q]; exact h1 c (by omega) hl
      · by_cases q : c = i
        · rw [q, hb] at hl; cases hl
        · exact h2 c (by omega) hl
    · refine br_f (by rw [ce_At hb]; decide) ⟨vp_in_nI (by omega) (by decide), nm_r (e' := upd (upd li i (-1)) i (nI (ce_rk lv i))) rfl ⟨vp_in_nI (by omega) (by decide), nm_r (e' := upd lc (ce_rk lv i) (nI i)) (by rw [nI_clamp (by omega)]) (nm_r (nI_1 _) (nm_r (nI_1 i) ?_))⟩⟩
      have := ih (i + 1) (upd (upd li i (-1)) i (nI (ce_rk lv i))) (upd lc (ce_rk lv i) (nI i)) (by omega) (fun c hc hl => ?_) (fun c hc hl => ?_)
      · rw [ce_rk_s hb] at this; exact this
      · by_cases q : c = i
        · rw [q, pk_us]
        · rw [pk_un q, pk_un q]; exact h1 c (by omega) hl
      · by_cases q : c = i
        · rw [q, pk_us]
        · have : ce_rk lv c ≠ ce_rk lv i := fun z => q (ce_rk_inj hl hb z)
          rw [pk_un this]; exact h2 c (by omega) hl
theorem ys_38 {post : Int32 → SY → Prop} {J : Int32 → Int32 → Int32 → Int32 → Int32 → Int32 → Int32 → Int32 → Int32 → Int32 → Int32 → Int32 → Int32 → (Nat → Int32) → (Nat → Int32) → (Nat → Int32) → (Nat → Int32) → (Nat → Int32) → (Nat → Int32) → (Nat → Int32) → (Nat → Int32) → (Nat → Int32) → (Nat → Int32) → (Nat → Int32) → (Nat → Int32) → (Nat → Int32) → (Nat → Int32) → (Nat → Int32) → (Nat → Int32) → Prop} {w g m0 : Int64} {i : Nat} {yf_lim yf_hs yf_started yf_pu yf_moves yf_pushes yf_hn yf_solLen yf_nB yf_nL yf_curP yf_nextState : Int32} {ya_edit ya_box ya_hFrom ya_hBf ya_hBt ya_sol ya_reach ya_stack ya_liveIdx ya_liveCell ya_dist ya_sb ya_ob : Nat → Int32}
    (hdone : ∀ m lm, ys_L w g m lm → (∀ t, ce_b m t = true → ∀ e, e < 4 → ys_ed w t e → ce_b m (ce_n t e) = true) → ∃ n : Nat, wY_computeLive_86 post yf_lim yf_hs yf_started yf_pu yf_moves yf_pushes yf_hn yf_solLen yf_nB yf_nL yf_curP yf_nextState n 0 0 ya_edit (ce_A w) (ce_A g) ya_box ya_hFrom ya_hBf ya_hBt ya_sol ya_reach ya_stack (lm) ya_liveIdx ya_liveCell ya_dist ya_sb ya_ob)
    (hJ : ∀ m lm, ys_L w g m lm → ce_rk m0 64 < ce_rk m 64 → J (nI (i + 1)) yf_lim yf_hs yf_started yf_pu yf_moves yf_pushes yf_hn yf_solLen yf_nB yf_nL yf_curP yf_nextState ya_edit (ce_A w) (ce_A g) ya_box ya_hFrom ya_hBf ya_hBt ya_sol ya_reach ya_stack (lm) ya_liveIdx ya_liveCell ya_dist ya_sb ya_ob) :
    ∀ k t (a : Bool) (m : Int64) (lm : Nat → Int32), t + k = 64 → ys_L w g m lm → (a = false → m = m0 ∧ ∀ s, s < t → ce_b m0 s = true → ∀ e, e < 4 → ys_ed w s e → ce_b m0 (ce_n s e) = true) → (a = true → ce_rk m0 64 < ce_rk m 64) →
      wY_computeLive_38 post J (nI i) (k + 1) (ys_bI a) (nI t) yf_lim yf_hs yf_started yf_pu yf_moves yf_pushes yf_hn yf_solLen yf_nB yf_nL yf_curP yf_nextState ya_edit (ce_A w) (ce_A g) ya_box ya_hFrom ya_hBf ya_hBt ya_sol ya_reach ya_stack (lm) ya_liveIdx ya_liveCell ya_dist ya_sb ya_ob := by
  intro k
  induction k with
  | zero =>
    intro t a m lm ht h1 h2 h3
    refine br_t (nI_le (a := 64) (by omega) (by omega)) ?_
    cases a with
    | false =>
      obtain ⟨e, h4⟩ := h2 rfl
      subst e
      exact br_t rfl (hdone m lm h1 (fun s hs => h4 s (by have := ce_lt hs; omega) hs))
    | true => exact br_f (by decide) (nm_r (nI_1 i) (hJ m lm h1 (h3 rfl)))
  | succ k ih =>
    intro t a m lm ht h1 h2 h3
    refine br_f (nI_ge (b := 64) (by omega) (by decide)) ⟨vp_in_nI (by omega) (by decide), ?_⟩
    rw [nI_clamp (n := t) (by omega), h1.1 t (by omega)]
    cases hb : ce_b m t
    · refine br_t (ce_Af hb) (nm_r (nI_1 t) (ih (t + 1) a m lm (by omega) h1 (fun ha => ⟨(h2 ha).1, fun s hs hm => ?_⟩) h3))
      by_cases q : s = t
      · rw [q, ← (h2 ha).1, hb] at hm; cases hm
      · exact (h2 ha).2 s (by omega) hm
    · refine br_f (by rw [ce_At hb]; decide) (ys_grow (g := g) hb h1 (fun a' m' lm' g1 g2 g3 g4 g5 => ?_))
      have hle := ce_sub_le g2 64
      cases a' with
      | false =>
        have em := g4 rfl
        subst em
        refine br_t rfl (nm_r (nI_1 t) (ih (t + 1) a m' lm' (by omega) g1 (fun ha => ⟨(h2 ha).1, fun s hs hm => ?_⟩) h3))
        by_cases q : s = t
        · subst q; rw [← (h2 ha).1]; exact g3
        · exact (h2 ha).2 s (by omega) hm
      | true =>
        refine br_f (by decide) (nm_r (nI_1 t) (ih (t + 1) true m' lm' (by omega) g1 (fun ha => by cases ha) (fun _ => ?_)))
        have := g5 rfl
        cases a with
        | false => rw [← (h2 rfl).1]; exact this
        | true => have := h3 rfl; omega
theorem ys_28 {post : Int32 → SY → Prop} {w g : Int64} {yf_lim yf_hs yf_started yf_pu yf_moves yf_pushes yf_hn yf_solLen yf_nB yf_nL yf_curP yf_nextState : Int32} {ya_edit ya_box ya_hFrom ya_hBf ya_hBt ya_sol ya_reach ya_stack ya_liveIdx ya_liveCell ya_dist ya_sb ya_ob : Nat → Int32}
    (hdone : ∀ m lm, ys_L w g m lm → (∀ t, ce_b m t = true → ∀ e, e < 4 → ys_ed w t e → ce_b m (ce_n t e) = true) → ∃ n : Nat, wY_computeLive_86 post yf_lim yf_hs yf_started yf_pu yf_moves yf_pushes yf_hn yf_solLen yf_nB yf_nL yf_curP yf_nextState n 0 0 ya_edit (ce_A w) (ce_A g) ya_box ya_hFrom ya_hBf ya_hBt ya_sol ya_reach ya_stack (lm) ya_liveIdx ya_liveCell ya_dist ya_sb ya_ob) :
    ∀ k i (m : Int64) (lm : Nat → Int32), i + k = 65 → ys_L w g m lm → i ≤ ce_rk m 64 → wY_computeLive_28 post (k + 1) (nI i) yf_lim yf_hs yf_started yf_pu yf_moves yf_pushes yf_hn yf_solLen yf_nB yf_nL yf_curP yf_nextState ya_edit (ce_A w) (ce_A g) ya_box ya_hFrom ya_hBf ya_hBt ya_sol ya_reach ya_stack (lm) ya_liveIdx ya_liveCell ya_dist ya_sb ya_ob := by
  intro k
  induction k with
  | zero =>
    intro i m lm hi h1 h2
    have := ce_rk_le m 64
    omega
  | succ k ih =>
    intro i m lm hi h1 h2
    exact br_f (nI_ge (b := 65) (by omega) (by decide)) ⟨65, ys_38 (m0 := m) hdone (fun m' lm' g1 g2 => ih (i + 1) m' lm' (by omega) g1 (by omega)) 64 0 false m lm (by omega) h1 (fun _ => ⟨rfl, fun s hs => by omega⟩) (fun h => by cases h)⟩
theorem ys_2L {post : Int32 → SY → Prop} {w g : Int64} {yf_lim yf_hs yf_started yf_pu yf_moves yf_pushes yf_hn yf_solLen yf_nB yf_nL yf_curP yf_nextState : Int32} {ya_edit ya_box ya_hFrom ya_hBf ya_hBt ya_sol ya_reach ya_stack ya_liveIdx ya_liveCell ya_dist ya_sb ya_ob : Nat → Int32}
    (hdone : ∀ m lm, ys_L w g m lm → (∀ t, ce_b m t = true → ∀ e, e < 4 → ys_ed w t e → ce_b m (ce_n t e) = true) → ∃ n : Nat, wY_computeLive_86 post yf_lim yf_hs yf_started yf_pu yf_moves yf_pushes yf_hn yf_solLen yf_nB yf_nL yf_curP yf_nextState n 0 0 ya_edit (ce_A w) (ce_A g) ya_box ya_hFrom ya_hBf ya_hBt ya_sol ya_reach ya_stack (lm) ya_liveIdx ya_liveCell ya_dist ya_sb ya_ob) :
    ∀ k i (lm : Nat → Int32), i + k = 64 → (∀ c, c < i → lm c = ce_A g c) → wY_computeLive_2 post yf_lim yf_hs yf_started yf_pu yf_moves yf_pushes yf_hn yf_solLen yf_nB yf_nL yf_curP yf_nextState (k + 1) (nI i) ya_edit (ce_A w) (ce_A g) ya_box ya_hFrom ya_hBf ya_hBt ya_sol ya_reach ya_stack (lm) ya_liveIdx ya_liveCell ya_dist ya_sb ya_ob := by
  intro k
  induction k with
  | zero =>
    intro i lm hi h
    refine br_t (nI_le (a := 64) (by omega) (by omega)) ⟨66, ys_28 hdone 65 0 g lm (by omega) ⟨fun c hc => h c (by omega), fun c hc => hc, fun c hc => gr_live_goal hc⟩ (by omega)⟩
  | succ k ih =>
    intro i lm hi h
    refine br_f (nI_ge (b := 64) (by omega) (by decide)) ⟨vp_in_nI (by omega) (by decide), vp_in_nI (by omega) (by decide), nm_r (e' := upd lm i (ce_A g i)) (by rw [nI_clamp (by omega), ce_An]) (nm_r (nI_1 i) (ih (i + 1) _ (by omega) (fun c hc => ?_)))⟩
    by_cases q : c = i
    · rw [q, pk_us]
    · rw [pk_un q]; exact h c (by omega)
theorem ys_live {post : Int32 → SY → Prop} {w g : Int64} {yf_lim yf_hs yf_started yf_pu yf_moves yf_pushes yf_hn yf_solLen yf_nB yf_nL yf_curP yf_nextState : Int32} {ya_edit ya_box ya_hFrom ya_hBf ya_hBt ya_sol ya_reach ya_stack ya_liveMark ya_liveIdx ya_liveCell ya_dist ya_sb ya_ob : Nat → Int32}
    (hpost : ∀ lm li lc, (∀ c, c < 64 → lm c = ce_A (gr_live w g) c) → (∀ c, ce_b (gr_live w g) c = true → li c = nI (ce_rk (gr_live w g) c)) → (∀ c, ce_b (gr_live w g) c = true → lc (ce_rk (gr_live w g) c) = nI c) → post (nI (ce_rk (gr_live w g) 64)) (yf_lim, yf_hs, yf_started, yf_pu, yf_moves, yf_pushes, yf_hn, yf_solLen, yf_nB, yf_nL, yf_curP, yf_nextState, ya_edit, ce_A w, ce_A g, ya_box, ya_hFrom, ya_hBf, ya_hBt, ya_sol, ya_reach, ya_stack, lm, li, lc, ya_dist, ya_sb, ya_ob)) : wpY_computeLive post (yf_lim, yf_hs, yf_started, yf_pu, yf_moves, yf_pushes, yf_hn, yf_solLen, yf_nB, yf_nL, yf_curP, yf_nextState, ya_edit, ce_A w, ce_A g, ya_box, ya_hFrom, ya_hBf, ya_hBt, ya_sol, ya_reach, ya_stack, ya_liveMark, ya_liveIdx, ya_liveCell, ya_dist, ya_sb, ya_ob) :=
  ⟨65, ys_2L (fun m lm h1 h2 => ⟨65, ys_86 (ys_Lend h1 h2) (fun li lc => hpost lm li lc (ys_Lend h1 h2)) 64 0 _ _ (by omega) (fun c hc => by omega) (fun c hc => by omega)⟩) 64 0 _ (by omega) (fun c hc => by omega)⟩
end
section
/-! the relation -/
def rl_A (P H : Nat) (pl hl st : Int32) (w g b : Int64) (ed : Nat → Int32) (yl yh ys : Int32) (ye yw yg yb : Nat → Int32) : Prop :=
  1 ≤ P ∧ P ≤ 40 ∧ 8 ≤ H ∧ H ≤ 64 ∧ nI P = pl ∧ nI P = yl ∧ nI H = hl ∧ nI H = yh ∧ ed = ye ∧ st = ys ∧ ce_A w = yw ∧ ce_A g = yg ∧ ce_A b = yb
def rl_N (st mo pu so : Int32) : Prop := 0 = st ∧ 0 = mo ∧ 0 = pu ∧ 0 = so
def rl_P (H : Nat) (st : Int32) (w g b lv : Int64) (lt bt pc mo pu hn ht so : Int32) (lr : Nat → Int32) (hb : Nat → Int64) (hp sp : Nat → Int32) (yp ym yq yn yo : Int32) (yF yf yt yS : Nat → Int32) (B p n nx S : Nat) : Prop :=
  1 = st ∧ mo = ym ∧ pu = yq ∧ 1 ≤ B ∧ B ≤ 3 ∧ nI B = bt ∧ nI p = pc ∧ nI p = yp ∧ gr_live w g = lv ∧ nI (ce_rk lv 64) = lt ∧ (∀ c, c < 64 → lr c = nI (ce_rk lv c)) ∧ (∀ c, ce_b g c = true → ce_b w c = false) ∧ ce_rk g 64 = B ∧
  nx < H ∧ n ≤ H ∧ nI nx = hn ∧ nI n = ht ∧ nI n = yn ∧ rl_H w B H n nx hb hp yF yf yt b p ∧ S ≤ 40 ∧ nI S = so ∧ nI S = yo ∧ ∀ i, i < S → yS i = sp i
def i_Rel (k : Nat) (u : SX) (v : SY) : Prop :=
  match u with
  | (f_pushLimit, f_historyLimit, f_started, f_walls, f_goals, f_boxes, f_liveCells, f_liveTotal, f_boxTotal, f_pusherCell, f_moves, f_pushes, f_historyNext, f_historyTotal, f_storedTotal, f_nodeTotal, a_editGrid, a_liveRank, a_historyBoxes, a_historyPusher, a_storedPushes, a_nodeBoxes, a_nodePusher, a_nodeParent, a_nodeCode, a_nodeDepth, a_nodeMet) => match v with
    | (yf_lim, yf_hs, yf_started, yf_pu, yf_moves, yf_pushes, yf_hn, yf_solLen, yf_nB, yf_nL, yf_curP, yf_nextState, ya_edit, ya_wall, ya_goal, ya_box, ya_hFrom, ya_hBf, ya_hBt, ya_sol, ya_reach, ya_stack, ya_liveMark, ya_liveIdx, ya_liveCell, ya_dist, ya_sb, ya_ob) => ∃ P H, rl_A P H f_pushLimit f_historyLimit f_started f_walls f_goals f_boxes a_editGrid yf_lim yf_hs yf_started ya_edit ya_wall ya_goal ya_box ∧
      (rl_N f_started f_moves f_pushes f_storedTotal ∨ ∃ B p n nx S, rl_P H f_started f_walls f_goals f_boxes f_liveCells f_liveTotal f_boxTotal f_pusherCell f_moves f_pushes f_historyNext f_historyTotal f_storedTotal a_liveRank a_historyBoxes a_historyPusher a_storedPushes yf_pu yf_moves yf_pushes yf_hn yf_solLen ya_hFrom ya_hBf ya_hBt ya_sol B p n nx S)
theorem i_up {k : Nat} {u : SX} {v : SY} (h : i_Rel k u v) : i_Rel (k + 4) u v := h
/-! the constructors -/
def rl_cl (x lo hi : Int32) : Int32 := if lo ≤ x then (if x ≤ hi then x else hi) else lo
theorem xs_clamp {post : Int32 → Prop} {x lo hi : Int32} (h : post (rl_cl x lo hi)) : wpX_clamp post x lo hi := by
  unfold rl_cl at h
  refine br_c (fun z => br_c (fun y => ?_) (fun y => ?_)) (fun z => ?_)
  · rw [if_pos z, if_pos y] at h; exact h
  · rw [if_pos z, if_neg y] at h; exact h
  · rw [if_neg z] at h; exact h
theorem rl_clN (x : Int32) {a b : Nat} (hab : a ≤ b) (hb : b < 2 ^ 31) : ∃ P, a ≤ P ∧ P ≤ b ∧ rl_cl x (nI a) (nI b) = nI P := by
  unfold rl_cl
  by_cases z : nI a ≤ x
  · have h0 : ¬ x < 0 := by
      intro q
      have := nI_pos' (n := a) (by omega)
      exact absurd (Int32.lt_of_le_of_lt (Int32.le_trans this z) q) (by decide)
    obtain ⟨j, hj, rfl⟩ := nI_of h0
    rw [if_pos z]
    rw [nI_leI (by omega) hj] at z
    by_cases y : nI j ≤ nI b
    · rw [if_pos y]
      rw [nI_leI hj hb] at y
      exact ⟨j, z, y, rfl⟩
    · rw [if_neg y]; exact ⟨b, hab, Nat.le_refl b, rfl⟩
  · rw [if_neg z]; exact ⟨a, Nat.le_refl a, hab, rfl⟩
def rl_e : Nat → (Nat → Int32)
  | 0 => fun _ => 0
  | i + 1 => upd (rl_e i) i 35
theorem xs_init0 {post : SX → Prop} {f_pushLimit f_historyLimit f_started : Int32} {f_walls f_goals f_boxes f_liveCells : Int64} {f_liveTotal f_boxTotal f_pusherCell f_moves f_pushes f_historyNext f_historyTotal f_storedTotal f_nodeTotal : Int32} {a_liveRank : Nat → Int32} {a_historyBoxes : Nat → Int64} {a_historyPusher a_storedPushes : Nat → Int32} {a_nodeBoxes : Nat → Int64} {a_nodePusher a_nodeParent a_nodeCode a_nodeDepth a_nodeMet : Nat → Int32} (h : post (f_pushLimit, f_historyLimit, f_started, f_walls, f_goals, f_boxes, f_liveCells, f_liveTotal, f_boxTotal, f_pusherCell, f_moves, f_pushes, f_historyNext, f_historyTotal, f_storedTotal, f_nodeTotal, rl_e 64, a_liveRank, a_historyBoxes, a_historyPusher, a_storedPushes, a_nodeBoxes, a_nodePusher, a_nodeParent, a_nodeCode, a_nodeDepth, a_nodeMet)) : ∀ k i, i + k = 64 → wX_init_123 post f_pushLimit f_historyLimit f_started f_walls f_goals f_boxes f_liveCells f_liveTotal f_boxTotal f_pusherCell f_moves f_pushes f_historyNext f_historyTotal f_storedTotal f_nodeTotal (k + 1) (nI i) (rl_e i) a_liveRank a_historyBoxes a_historyPusher a_storedPushes a_nodeBoxes a_nodePusher a_nodeParent a_nodeCode a_nodeDepth a_nodeMet := by
  intro k
  induction k with
  | zero =>
    intro i hi
    have e : i = 64 := by omega
    subst e
    exact br_t (nI_le (a := 64) (by omega) (by omega)) h
  | succ k ih =>
    intro i hi
    exact br_f (nI_ge (b := 64) (by omega) (by decide)) ⟨vp_in_nI (by omega) (by decide), nm_r (e' := rl_e (i + 1)) (by rw [nI_clamp (by omega)]; rfl) (nm_r (nI_1 i) (ih (i + 1) (by omega)))⟩
theorem ys_init0 {post : SY → Prop} {yf_lim yf_hs yf_started yf_pu yf_moves yf_pushes yf_hn yf_solLen yf_nB yf_nL yf_curP yf_nextState : Int32} {ya_wall ya_goal ya_box ya_hFrom ya_hBf ya_hBt ya_sol ya_reach ya_stack ya_liveMark ya_liveIdx ya_liveCell ya_dist ya_sb ya_ob : Nat → Int32} (h : post (yf_lim, yf_hs, yf_started, yf_pu, yf_moves, yf_pushes, yf_hn, yf_solLen, yf_nB, yf_nL, yf_curP, yf_nextState, rl_e 64, ya_wall, ya_goal, ya_box, ya_hFrom, ya_hBf, ya_hBt, ya_sol, ya_reach, ya_stack, ya_liveMark, ya_liveIdx, ya_liveCell, ya_dist, ya_sb, ya_ob)) : ∀ k i, i + k = 64 → wY_init_185 post yf_lim yf_hs yf_started yf_pu yf_moves yf_pushes yf_hn yf_solLen yf_nB yf_nL yf_curP yf_nextState (k + 1) (nI i) (rl_e i) ya_wall ya_goal ya_box ya_hFrom ya_hBf ya_hBt ya_sol ya_reach ya_stack ya_liveMark ya_liveIdx ya_liveCell ya_dist ya_sb ya_ob := by
  intro k
  induction k with
  | zero =>
    intro i hi
    have e : i = 64 := by omega
    subst e
    exact br_t (nI_le (a := 64) (by omega) (by omega)) h
  | succ k ih =>
    intro i hi
    exact br_f (nI_ge (b := 64) (by omega) (by decide)) ⟨vp_in_nI (by omega) (by decide), nm_r (e' := rl_e (i + 1)) (by rw [nI_clamp (by omega)]; rfl) (nm_r (nI_1 i) (ih (i + 1) (by omega)))⟩
theorem ys_153 {post : SY → Prop} {yf_lim yf_hs yf_started yf_pu yf_moves yf_pushes yf_hn yf_solLen yf_nB yf_nL yf_curP yf_nextState : Int32} {ya_wall ya_goal ya_box ya_hFrom ya_hBf ya_hBt ya_sol ya_reach ya_stack ya_liveMark ya_liveIdx ya_liveCell ya_dist ya_sb ya_ob : Nat → Int32} {x z : Int32} (h : post (z, rl_cl x 8 64, yf_started, yf_pu, yf_moves, yf_pushes, yf_hn, yf_solLen, yf_nB, yf_nL, yf_curP, yf_nextState, rl_e 64, ya_wall, ya_goal, ya_box, ya_hFrom, ya_hBf, ya_hBt, ya_sol, ya_reach, ya_stack, ya_liveMark, ya_liveIdx, ya_liveCell, ya_dist, ya_sb, ya_ob)) : wY_init_153 post x z yf_lim yf_hs yf_started yf_pu yf_moves yf_pushes yf_hn yf_solLen yf_nB yf_nL yf_curP yf_nextState (fun _ => 0) ya_wall ya_goal ya_box ya_hFrom ya_hBf ya_hBt ya_sol ya_reach ya_stack ya_liveMark ya_liveIdx ya_liveCell ya_dist ya_sb ya_ob := by
  unfold rl_cl at h
  refine br_c (fun z => br_c (fun y => ?_) (fun y => ?_)) (fun z => ?_)
  · rw [if_pos z, if_pos y] at h; exact ⟨65, ys_init0 h 64 0 (by omega)⟩
  · rw [if_pos z, if_neg y] at h; exact ⟨65, ys_init0 h 64 0 (by omega)⟩
  · rw [if_neg z] at h; exact ⟨65, ys_init0 h 64 0 (by omega)⟩
theorem i_vc0 (k0 : Int32) (k1 : Int32) : wpX_init (fun u => wpY_init (fun v => i_Rel 2 u v) k0 k1) k0 k1 := by
  obtain ⟨P, p1, p2, p3⟩ := rl_clN k0 (a := 1) (b := 40) (by decide) (by decide)
  obtain ⟨H, h1, h2, h3⟩ := rl_clN k1 (a := 8) (b := 64) (by decide) (by decide)
  have p3 : rl_cl k0 1 40 = nI P := p3
  have h3 : rl_cl k1 8 64 = nI H := h3
  refine xs_clamp (xs_clamp ⟨65, xs_init0 ?_ 64 0 (by omega)⟩)
  have fin : ∀ z : Int32, rl_cl k0 1 40 = z → wY_init_153 (fun v => i_Rel 2 (rl_cl k0 1 40, rl_cl k1 8 64, 0, 0, 0, 0, 0, 0, 0, 0, 0, 0, 0, 0, 0, 0, rl_e 64, fun _ => 0, fun _ => 0, fun _ => 0, fun _ => 0, fun _ => 0, fun _ => 0, fun _ => 0, fun _ => 0, fun _ => 0, fun _ => 0) v) k1 z (0) (0) (0) (0) (0) (0) (0) (0) (0) (0) (0) (0) (fun _ => 0) (fun _ => 0) (fun _ => 0) (fun _ => 0) (fun _ => 0) (fun _ => 0) (fun _ => 0) (fun _ => 0) (fun _ => 0) (fun _ => 0) (fun _ => 0) (fun _ => 0) (fun _ => 0) (fun _ => 0) (fun _ => 0) (fun _ => 0) := by
    intro z hz
    refine ys_153 ?_
    exact ⟨P, H, ⟨p1, p2, h1, h2, p3.symm, by rw [← hz]; exact p3.symm, h3.symm, h3.symm, rfl, rfl, ce_A0, ce_A0, ce_A0⟩, Or.inl ⟨rfl, rfl, rfl, rfl⟩⟩
  refine br_c (fun z => br_c (fun y => ?_) (fun y => ?_)) (fun z => ?_)
  · exact fin k0 (by unfold rl_cl; rw [if_pos z, if_pos y])
  · exact fin 40 (by unfold rl_cl; rw [if_pos z, if_neg y])
  · exact fin 1 (by unfold rl_cl; rw [if_neg z])
/-! characters -/
theorem xs_isP {post : Int32 → Prop} {x : Int32} (h1 : x = 64 ∨ x = 43 → post 1) (h0 : ¬ (x = 64 ∨ x = 43) → post 0) : wpX_isPusherCharacter post x :=
  br_c (fun e => h1 (Or.inl e)) (fun a => br_c (fun e => h1 (Or.inr e)) (fun b => h0 (fun z => z.elim a b)))
theorem xs_isB {post : Int32 → Prop} {x : Int32} (h1 : x = 36 ∨ x = 42 → post 1) (h0 : ¬ (x = 36 ∨ x = 42) → post 0) : wpX_isBoxCharacter post x :=
  br_c (fun e => h1 (Or.inl e)) (fun a => br_c (fun e => h1 (Or.inr e)) (fun b => h0 (fun z => z.elim a b)))
theorem xs_isG {post : Int32 → Prop} {x : Int32} (h1 : x = 46 ∨ x = 42 ∨ x = 43 → post 1) (h0 : ¬ (x = 46 ∨ x = 42 ∨ x = 43) → post 0) : wpX_isGoalCharacter post x :=
  br_c (fun e => h1 (Or.inl e)) (fun a => br_c (fun e => h1 (Or.inr (Or.inl e))) (fun b => br_c (fun e => h1 (Or.inr (Or.inr e))) (fun c => h0 (fun z => z.elim a (fun y => y.elim b c)))))
def rl_lv (x : Int32) : Prop := x = 32 ∨ x = 35 ∨ (x = 64 ∨ x = 43) ∨ (x = 36 ∨ x = 42) ∨ (x = 46 ∨ x = 42 ∨ x = 43)
theorem xs_lvl {post : Int32 → Prop} {x : Int32} (h1 : rl_lv x → post 1) (h0 : ¬ rl_lv x → post 0) : wpX_isLevelCharacter post x := by
  refine br_c (fun e => h1 (Or.inl e)) (fun a => br_c (fun e => h1 (Or.inr (Or.inl e))) (fun b => ?_))
  refine xs_isP (fun e => br_f (by decide) (h1 (Or.inr (Or.inr (Or.inl e))))) (fun c => br_t rfl ?_)
  refine xs_isB (fun e => br_f (by decide) (h1 (Or.inr (Or.inr (Or.inr (Or.inl e)))))) (fun d => br_t rfl ?_)
  refine xs_isG (fun e => br_f (by decide) (h1 (Or.inr (Or.inr (Or.inr (Or.inr e)))))) (fun e => br_t rfl (h0 ?_))
  rintro (z | z | z | z | z)
  · exact a z
  · exact b z
  · exact c z
  · exact d z
  · exact e z
theorem ys_isCh {post : Int32 → Prop} {v : SY} {x : Int32} (h1 : rl_lv x → post 1) (h0 : ¬ rl_lv x → post 0) : wpY_isCh post v x := by
  obtain ⟨yf_lim, yf_hs, yf_started, yf_pu, yf_moves, yf_pushes, yf_hn, yf_solLen, yf_nB, yf_nL, yf_curP, yf_nextState, ya_edit, ya_wall, ya_goal, ya_box, ya_hFrom, ya_hBf, ya_hBt, ya_sol, ya_reach, ya_stack, ya_liveMark, ya_liveIdx, ya_liveCell, ya_dist, ya_sb, ya_ob⟩ := v
  refine br_c (fun e => h1 (Or.inl e)) (fun a1 => br_c (fun e => h1 (Or.inr (Or.inr (Or.inr (Or.inl (Or.inl e)))))) (fun a2 => br_c (fun e => h1 (Or.inr (Or.inl e))) (fun a3 => br_c (fun e => h1 (Or.inr (Or.inr (Or.inr (Or.inl (Or.inr e)))))) (fun a4 => br_c (fun e => h1 (Or.inr (Or.inr (Or.inl (Or.inr e))))) (fun a5 => br_c (fun e => h1 (Or.inr (Or.inr (Or.inr (Or.inr (Or.inl e)))))) (fun a6 => br_c (fun e => h1 (Or.inr (Or.inr (Or.inl (Or.inl e))))) (fun a7 => h0 ?_)))))))
  rintro (z | z | (z | z) | (z | z) | (z | z | z))
  · exact a1 z
  · exact a3 z
  · exact a7 z
  · exact a5 z
  · exact a2 z
  · exact a4 z
  · exact a6 z
  · exact a4 z
  · exact a5 z
/-- what the relation doesn't speak of may change (never compare two states that differ: the kernel runs away) -/
theorem rl_keep {k k' : Nat} {f_pushLimit f_historyLimit f_started : Int32} {f_walls f_goals f_boxes f_liveCells : Int64} {f_liveTotal f_boxTotal f_pusherCell f_moves f_pushes f_historyNext f_historyTotal f_storedTotal f_nodeTotal : Int32} {a_editGrid a_liveRank : Nat → Int32} {a_historyBoxes : Nat → Int64} {a_historyPusher a_storedPushes : Nat → Int32} {a_nodeBoxes : Nat → Int64} {a_nodePusher a_nodeParent a_nodeCode a_nodeDepth a_nodeMet : Nat → Int32} {yf_lim yf_hs yf_started yf_pu yf_moves yf_pushes yf_hn yf_solLen yf_nB yf_nL yf_curP yf_nextState : Int32} {ya_edit ya_wall ya_goal ya_box ya_hFrom ya_hBf ya_hBt ya_sol ya_reach ya_stack ya_liveMark ya_liveIdx ya_liveCell ya_dist ya_sb ya_ob : Nat → Int32} {xN : Int32} {xB : Nat → Int64} {xP xQ xC xD xM : Nat → Int32} {y1 y2 y3 y4 : Int32} {z1 z2 z3 z4 z5 z6 z7 z8 : Nat → Int32} (h : i_Rel k (f_pushLimit, f_historyLimit, f_started, f_walls, f_goals, f_boxes, f_liveCells, f_liveTotal, f_boxTotal, f_pusherCell, f_moves, f_pushes, f_historyNext, f_historyTotal, f_storedTotal, f_nodeTotal, a_editGrid, a_liveRank, a_historyBoxes, a_historyPusher, a_storedPushes, a_nodeBoxes, a_nodePusher, a_nodeParent, a_nodeCode, a_nodeDepth, a_nodeMet) (yf_lim, yf_hs, yf_started, yf_pu, yf_moves, yf_pushes, yf_hn, yf_solLen, yf_nB, yf_nL, yf_curP, yf_nextState, ya_edit, ya_wall, ya_goal, ya_box, ya_hFrom, ya_hBf, ya_hBt, ya_sol, ya_reach, ya_stack, ya_liveMark, ya_liveIdx, ya_liveCell, ya_dist, ya_sb, ya_ob)) : i_Rel k' (f_pushLimit, f_historyLimit, f_started, f_walls, f_goals, f_boxes, f_liveCells, f_liveTotal, f_boxTotal, f_pusherCell, f_moves, f_pushes, f_historyNext, f_historyTotal, f_storedTotal, xN, a_editGrid, a_liveRank, a_historyBoxes, a_historyPusher, a_storedPushes, xB, xP, xQ, xC, xD, xM) (yf_lim, yf_hs, yf_started, yf_pu, yf_moves, yf_pushes, yf_hn, yf_solLen, y1, y2, y3, y4, ya_edit, ya_wall, ya_goal, ya_box, ya_hFrom, ya_hBf, ya_hBt, ya_sol, z1, z2, z3, z4, z5, z6, z7, z8) := by
  obtain ⟨P, H, hA, hS⟩ := h
  exact ⟨P, H, hA, hS⟩
end
section
/-! the methods that only read, and setCell -/
theorem i_vc_setCell {k : Nat} {u : SX} {v : SY} (I : i_Rel k u v) (hk : k + 4 ≤ 2050) (v1 : Int32) (v2 : Int32) (v3 : Int32) : wpX_setCell (fun r u' => wpY_setCell (fun r' v' => r' = r ∧ i_Rel (k + 4) u' v') v v1 v2 v3) u v1 v2 v3 := by
  obtain ⟨f_pushLimit, f_historyLimit, f_started, f_walls, f_goals, f_boxes, f_liveCells, f_liveTotal, f_boxTotal, f_pusherCell, f_moves, f_pushes, f_historyNext, f_historyTotal, f_storedTotal, f_nodeTotal, a_editGrid, a_liveRank, a_historyBoxes, a_historyPusher, a_storedPushes, a_nodeBoxes, a_nodePusher, a_nodeParent, a_nodeCode, a_nodeDepth, a_nodeMet⟩ := u
  obtain ⟨yf_lim, yf_hs, yf_started, yf_pu, yf_moves, yf_pushes, yf_hn, yf_solLen, yf_nB, yf_nL, yf_curP, yf_nextState, ya_edit, ya_wall, ya_goal, ya_box, ya_hFrom, ya_hBf, ya_hBt, ya_sol, ya_reach, ya_stack, ya_liveMark, ya_liveIdx, ya_liveCell, ya_dist, ya_sb, ya_ob⟩ := v
  have I0 := I
  obtain ⟨P, H, ⟨p1, p2, p3, p4, rfl, rfl, rfl, rfl, rfl, rfl, rfl, rfl, rfl⟩, hS⟩ := I
  rcases rl_rc v1 v2 with ho | ⟨r, c, hr, hc, rfl, rfl⟩
  · unfold wpX_setCell
    refine xs_in_f ho (br_t rfl ?_)
    unfold wpY_setCell
    exact ys_in_f ho (br_t rfl ⟨rfl, I0⟩)
  · unfold wpX_setCell
    refine xs_in_t hr hc (br_f (by decide) (xs_lvl (fun l => br_f (by decide) ?_) (fun l => br_t rfl ?_)))
    · rw [rl_ix]
      refine ⟨vp_in_nI (by omega) (by decide), nm_r (e' := upd a_editGrid (r * 8 + c) v3) (by rw [nI_clamp (by omega)]) ?_⟩
      unfold wpY_setCell
      refine ys_in_t hr hc (br_f (by decide) (ys_isCh (fun _ => br_f (by decide) ?_) (fun z => absurd l z)))
      rw [rl_ix]
      refine ⟨vp_in_nI (by omega) (by decide), nm_r (e' := upd a_editGrid (r * 8 + c) v3) (by rw [nI_clamp (by omega)]) ⟨rfl, ?_⟩⟩
      exact ⟨P, H, ⟨p1, p2, p3, p4, rfl, rfl, rfl, rfl, rfl, rfl, rfl, rfl, rfl⟩, hS⟩
    · unfold wpY_setCell
      exact ys_in_t hr hc (br_f (by decide) (ys_isCh (fun z => absurd z l) (fun _ => br_t rfl ⟨rfl, I0⟩)))
theorem i_vc_getCell {k : Nat} {u : SX} {v : SY} (I : i_Rel k u v) (hk : k + 4 ≤ 2050) (v1 : Int32) (v2 : Int32) : wpX_getCell (fun r => wpY_getCell (fun r' => r' = r ∧ i_Rel (k + 4) u v) v v1 v2) u v1 v2 := by
  obtain ⟨f_pushLimit, f_historyLimit, f_started, f_walls, f_goals, f_boxes, f_liveCells, f_liveTotal, f_boxTotal, f_pusherCell, f_moves, f_pushes, f_historyNext, f_historyTotal, f_storedTotal, f_nodeTotal, a_editGrid, a_liveRank, a_historyBoxes, a_historyPusher, a_storedPushes, a_nodeBoxes, a_nodePusher, a_nodeParent, a_nodeCode, a_nodeDepth, a_nodeMet⟩ := u
  obtain ⟨yf_lim, yf_hs, yf_started, yf_pu, yf_moves, yf_pushes, yf_hn, yf_solLen, yf_nB, yf_nL, yf_curP, yf_nextState, ya_edit, ya_wall, ya_goal, ya_box, ya_hFrom, ya_hBf, ya_hBt, ya_sol, ya_reach, ya_stack, ya_liveMark, ya_liveIdx, ya_liveCell, ya_dist, ya_sb, ya_ob⟩ := v
  have I0 := I
  obtain ⟨P, H, ⟨p1, p2, p3, p4, rfl, rfl, rfl, rfl, rfl, rfl, rfl, rfl, rfl⟩, hS⟩ := I
  rcases rl_rc v1 v2 with ho | ⟨r, c, hr, hc, rfl, rfl⟩
  · unfold wpX_getCell
    refine xs_in_f ho (br_t rfl ?_)
    unfold wpY_getCell
    exact ys_in_f ho (br_t rfl ⟨rfl, I0⟩)
  · unfold wpX_getCell
    refine xs_in_t hr hc (br_f (by decide) ?_)
    rw [rl_ix]
    refine ⟨vp_in_nI (by omega) (by decide), ?_⟩
    unfold wpY_getCell
    refine ys_in_t hr hc (br_f (by decide) ?_)
    rw [rl_ix]
    exact ⟨vp_in_nI (by omega) (by decide), rfl, I0⟩
theorem i_vc_pusher {k : Nat} {u : SX} {v : SY} (I : i_Rel k u v) (hk : k + 4 ≤ 2050) : wpX_pusher (fun r => wpY_pusher (fun r' => r' = r ∧ i_Rel (k + 4) u v) v) u := by
  obtain ⟨f_pushLimit, f_historyLimit, f_started, f_walls, f_goals, f_boxes, f_liveCells, f_liveTotal, f_boxTotal, f_pusherCell, f_moves, f_pushes, f_historyNext, f_historyTotal, f_storedTotal, f_nodeTotal, a_editGrid, a_liveRank, a_historyBoxes, a_historyPusher, a_storedPushes, a_nodeBoxes, a_nodePusher, a_nodeParent, a_nodeCode, a_nodeDepth, a_nodeMet⟩ := u
  obtain ⟨yf_lim, yf_hs, yf_started, yf_pu, yf_moves, yf_pushes, yf_hn, yf_solLen, yf_nB, yf_nL, yf_curP, yf_nextState, ya_edit, ya_wall, ya_goal, ya_box, ya_hFrom, ya_hBf, ya_hBt, ya_sol, ya_reach, ya_stack, ya_liveMark, ya_liveIdx, ya_liveCell, ya_dist, ya_sb, ya_ob⟩ := v
  have I0 := I
  obtain ⟨P, H, ⟨p1, p2, p3, p4, rfl, rfl, rfl, rfl, rfl, rfl, rfl, rfl, rfl⟩, hS⟩ := I
  rcases hS with ⟨rfl, rfl, rfl, rfl⟩ | ⟨B, p, n, nx, S, rfl, rfl, rfl, b1, b2, rfl, rfl, rfl, rfl, rfl, hlr, hgw, hgB, q1, q2, rfl, rfl, rfl, hH, s1, rfl, rfl, hsol⟩
  · exact br_t rfl (br_t rfl ⟨rfl, I0⟩)
  · exact br_f (by decide) (br_f (by decide) ⟨rfl, I0⟩)
theorem i_vc_boxAt {k : Nat} {u : SX} {v : SY} (I : i_Rel k u v) (hk : k + 4 ≤ 2050) (v1 : Int32) (v2 : Int32) : wpX_boxAt (fun r => wpY_boxAt (fun r' => r' = r ∧ i_Rel (k + 4) u v) v v1 v2) u v1 v2 := by
  obtain ⟨f_pushLimit, f_historyLimit, f_started, f_walls, f_goals, f_boxes, f_liveCells, f_liveTotal, f_boxTotal, f_pusherCell, f_moves, f_pushes, f_historyNext, f_historyTotal, f_storedTotal, f_nodeTotal, a_editGrid, a_liveRank, a_historyBoxes, a_historyPusher, a_storedPushes, a_nodeBoxes, a_nodePusher, a_nodeParent, a_nodeCode, a_nodeDepth, a_nodeMet⟩ := u
  obtain ⟨yf_lim, yf_hs, yf_started, yf_pu, yf_moves, yf_pushes, yf_hn, yf_solLen, yf_nB, yf_nL, yf_curP, yf_nextState, ya_edit, ya_wall, ya_goal, ya_box, ya_hFrom, ya_hBf, ya_hBt, ya_sol, ya_reach, ya_stack, ya_liveMark, ya_liveIdx, ya_liveCell, ya_dist, ya_sb, ya_ob⟩ := v
  have I0 := I
  obtain ⟨P, H, ⟨p1, p2, p3, p4, rfl, rfl, rfl, rfl, rfl, rfl, rfl, rfl, rfl⟩, hS⟩ := I
  rcases hS with ⟨rfl, rfl, rfl, rfl⟩ | ⟨B, p, n, nx, S, rfl, rfl, rfl, b1, b2, rfl, rfl, rfl, rfl, rfl, hlr, hgw, hgB, q1, q2, rfl, rfl, rfl, hH, s1, rfl, rfl, hsol⟩
  · exact br_t rfl (br_t rfl ⟨rfl, I0⟩)
  · refine br_f (by decide) ?_
    rcases rl_rc v1 v2 with ho | ⟨r, c, hr, hc, rfl, rfl⟩
    · exact xs_in_f ho (br_t rfl (br_f (by decide) (ys_in_f ho (br_t rfl ⟨rfl, I0⟩))))
    · refine xs_in_t hr hc (br_f (by decide) ?_)
      rw [rl_ix]
      refine xs_hasN (by omega) ?_
      have e : (nI (r * 8 + c)).toNatClampNeg = r * 8 + c := nI_clamp (by omega)
      refine br_c (fun z => ?_) (fun z => ?_)
      · refine br_f (by decide) (ys_in_t hr hc (br_f (by decide) ?_))
        rw [rl_ix]
        refine ⟨vp_in_nI (by omega) (by decide), ?_⟩
        rw [e]
        exact br_t z ⟨rfl, I0⟩
      · refine br_f (by decide) (ys_in_t hr hc (br_f (by decide) ?_))
        rw [rl_ix]
        refine ⟨vp_in_nI (by omega) (by decide), ?_⟩
        rw [e]
        exact br_f z ⟨rfl, I0⟩
theorem i_vc_reachable {k : Nat} {u : SX} {v : SY} (I : i_Rel k u v) (hk : k + 4 ≤ 2050) (v1 : Int32) (v2 : Int32) : wpX_reachable (fun r => wpY_reachable (fun r' v' => r' = r ∧ i_Rel (k + 4) u v') v v1 v2) u v1 v2 := by
  obtain ⟨f_pushLimit, f_historyLimit, f_started, f_walls, f_goals, f_boxes, f_liveCells, f_liveTotal, f_boxTotal, f_pusherCell, f_moves, f_pushes, f_historyNext, f_historyTotal, f_storedTotal, f_nodeTotal, a_editGrid, a_liveRank, a_historyBoxes, a_historyPusher, a_storedPushes, a_nodeBoxes, a_nodePusher, a_nodeParent, a_nodeCode, a_nodeDepth, a_nodeMet⟩ := u
  obtain ⟨yf_lim, yf_hs, yf_started, yf_pu, yf_moves, yf_pushes, yf_hn, yf_solLen, yf_nB, yf_nL, yf_curP, yf_nextState, ya_edit, ya_wall, ya_goal, ya_box, ya_hFrom, ya_hBf, ya_hBt, ya_sol, ya_reach, ya_stack, ya_liveMark, ya_liveIdx, ya_liveCell, ya_dist, ya_sb, ya_ob⟩ := v
  have I0 := I
  obtain ⟨P, H, ⟨p1, p2, p3, p4, rfl, rfl, rfl, rfl, rfl, rfl, rfl, rfl, rfl⟩, hS⟩ := I
  rcases hS with ⟨rfl, rfl, rfl, rfl⟩ | ⟨B, p, n, nx, S, rfl, rfl, rfl, b1, b2, rfl, rfl, rfl, rfl, rfl, hlr, hgw, hgB, q1, q2, rfl, rfl, rfl, hH, s1, rfl, rfl, hsol⟩
  · exact br_t rfl (br_t rfl ⟨rfl, I0⟩)
  · refine br_f (by decide) ?_
    obtain ⟨w1, w2, w3, w4, w5⟩ := rl_Hv hH
    rcases rl_rc v1 v2 with ho | ⟨r, c, hr, hc, rfl, rfl⟩
    · exact xs_in_f ho (br_t rfl (br_f (by decide) (ys_in_f ho (br_t rfl ⟨rfl, I0⟩))))
    · refine xs_in_t hr hc (br_f (by decide) (xs_area ?_))
      rw [rl_ix]
      refine xs_hasN (by omega) ⟨rl_ne01 (ce_A01 _ _), ?_⟩
      have e : (nI (r * 8 + c)).toNatClampNeg = r * 8 + c := nI_clamp (by omega)
      refine br_f (by decide) (ys_in_t hr hc (br_f (by decide) (ys_flood w1 w2 w3 (fun re sk hre => ?_))))
      show vp_in (nI r * 8 + nI c) 64 ∧ _
      rw [rl_ix, e, hre _ (by omega)]
      exact ⟨vp_in_nI (by omega) (by decide), rl_ne01 (ce_A01 _ _), rfl, rl_keep I0⟩
theorem i_vc_live {k : Nat} {u : SX} {v : SY} (I : i_Rel k u v) (hk : k + 4 ≤ 2050) (v1 : Int32) (v2 : Int32) : wpX_live (fun r => wpY_live (fun r' v' => r' = r ∧ i_Rel (k + 4) u v') v v1 v2) u v1 v2 := by
  obtain ⟨f_pushLimit, f_historyLimit, f_started, f_walls, f_goals, f_boxes, f_liveCells, f_liveTotal, f_boxTotal, f_pusherCell, f_moves, f_pushes, f_historyNext, f_historyTotal, f_storedTotal, f_nodeTotal, a_editGrid, a_liveRank, a_historyBoxes, a_historyPusher, a_storedPushes, a_nodeBoxes, a_nodePusher, a_nodeParent, a_nodeCode, a_nodeDepth, a_nodeMet⟩ := u
  obtain ⟨yf_lim, yf_hs, yf_started, yf_pu, yf_moves, yf_pushes, yf_hn, yf_solLen, yf_nB, yf_nL, yf_curP, yf_nextState, ya_edit, ya_wall, ya_goal, ya_box, ya_hFrom, ya_hBf, ya_hBt, ya_sol, ya_reach, ya_stack, ya_liveMark, ya_liveIdx, ya_liveCell, ya_dist, ya_sb, ya_ob⟩ := v
  have I0 := I
  obtain ⟨P, H, ⟨p1, p2, p3, p4, rfl, rfl, rfl, rfl, rfl, rfl, rfl, rfl, rfl⟩, hS⟩ := I
  rcases hS with ⟨rfl, rfl, rfl, rfl⟩ | ⟨B, p, n, nx, S, rfl, rfl, rfl, b1, b2, rfl, rfl, rfl, rfl, rfl, hlr, hgw, hgB, q1, q2, rfl, rfl, rfl, hH, s1, rfl, rfl, hsol⟩
  · exact br_t rfl (br_t rfl ⟨rfl, I0⟩)
  · refine br_f (by decide) ?_
    rcases rl_rc v1 v2 with ho | ⟨r, c, hr, hc, rfl, rfl⟩
    · exact xs_in_f ho (br_t rfl (br_f (by decide) (ys_in_f ho (br_t rfl ⟨rfl, I0⟩))))
    · refine xs_in_t hr hc (br_f (by decide) ?_)
      rw [rl_ix]
      refine xs_hasN (by omega) ?_
      have e : (nI (r * 8 + c)).toNatClampNeg = r * 8 + c := nI_clamp (by omega)
      refine br_c (fun z => ?_) (fun z => ?_)
      · refine br_f (by decide) (ys_in_t hr hc (br_f (by decide) (ys_live (fun lm li lc h1 h2 h3 => ?_))))
        show vp_in (nI r * 8 + nI c) 64 ∧ _
        rw [rl_ix, e, h1 _ (by omega), z]
        exact ⟨vp_in_nI (by omega) (by decide), by decide, rfl, rl_keep I0⟩
      · refine br_f (by decide) (ys_in_t hr hc (br_f (by decide) (ys_live (fun lm li lc h1 h2 h3 => ?_))))
        have z1 := (ce_A01 (gr_live f_walls f_goals) (r * 8 + c)).resolve_left z
        show vp_in (nI r * 8 + nI c) 64 ∧ _
        rw [rl_ix, e, h1 _ (by omega), z1]
        exact ⟨vp_in_nI (by omega) (by decide), by decide, rfl, rl_keep I0⟩
theorem ys_solved0 {post : Int32 → Prop} {g b : Int64} {yf_lim yf_hs yf_started yf_pu yf_moves yf_pushes yf_hn yf_solLen yf_nB yf_nL yf_curP yf_nextState : Int32} {ya_edit ya_wall ya_hFrom ya_hBf ya_hBt ya_sol ya_reach ya_stack ya_liveMark ya_liveIdx ya_liveCell ya_dist ya_sb ya_ob : Nat → Int32} (h1 : (∀ c, ce_b b c = true → ce_b g c = true) → post 1) (h0 : ¬ (∀ c, ce_b b c = true → ce_b g c = true) → post 0) :
    ∀ k i, i + k = 64 → (∀ c, c < i → ce_b b c = true → ce_b g c = true) → wY_solved_11 post yf_lim yf_hs yf_started yf_pu yf_moves yf_pushes yf_hn yf_solLen yf_nB yf_nL yf_curP yf_nextState ya_edit ya_wall (ce_A g) (ce_A b) ya_hFrom ya_hBf ya_hBt ya_sol ya_reach ya_stack ya_liveMark ya_liveIdx ya_liveCell ya_dist ya_sb ya_ob (k + 1) (nI i) := by
  intro k
  induction k with
  | zero =>
    intro i hi h
    exact br_t (nI_le (a := 64) (by omega) (by omega)) (h1 (fun c hc => h c (by have := ce_lt hc; omega) hc))
  | succ k ih =>
    intro i hi h
    refine br_f (nI_ge (b := 64) (by omega) (by decide)) ⟨vp_in_nI (by omega) (by decide), ?_⟩
    rw [nI_clamp (n := i) (by omega)]
    cases hb : ce_b b i
    · refine br_t (ce_Af hb) (nm_r (nI_1 i) (ih (i + 1) (by omega) (fun c hc hbc => ?_)))
      by_cases q : c = i
      · rw [q, hb] at hbc; cases hbc
      · exact h c (by omega) hbc
    · refine br_f (by rw [ce_At hb]; decide) ⟨vp_in_nI (by omega) (by decide), ?_⟩
      cases hg : ce_b g i
      · refine br_t (ce_Af hg) (h0 (fun z => ?_))
        rw [z i hb] at hg; cases hg
      · refine br_f (by rw [ce_At hg]; decide) (nm_r (nI_1 i) (ih (i + 1) (by omega) (fun c hc hbc => ?_)))
        by_cases q : c = i
        · rw [q]; exact hg
        · exact h c (by omega) hbc
theorem ys_solved {post : Int32 → Prop} {g b : Int64} {yf_lim yf_hs yf_pu yf_moves yf_pushes yf_hn yf_solLen yf_nB yf_nL yf_curP yf_nextState : Int32} {ya_edit ya_wall ya_hFrom ya_hBf ya_hBt ya_sol ya_reach ya_stack ya_liveMark ya_liveIdx ya_liveCell ya_dist ya_sb ya_ob : Nat → Int32} (h : post (if b &&& (g ^^^ (-1)) = 0 then 1 else 0)) : wpY_solved post (yf_lim, yf_hs, 1, yf_pu, yf_moves, yf_pushes, yf_hn, yf_solLen, yf_nB, yf_nL, yf_curP, yf_nextState, ya_edit, ya_wall, ce_A g, ce_A b, ya_hFrom, ya_hBf, ya_hBt, ya_sol, ya_reach, ya_stack, ya_liveMark, ya_liveIdx, ya_liveCell, ya_dist, ya_sb, ya_ob) := by
  refine br_f (by decide) ⟨65, ys_solved0 (fun z => ?_) (fun z => ?_) 64 0 (by omega) (fun c hc => by omega)⟩
  · rw [if_pos ((gr_soI g b).mpr z)] at h; exact h
  · rw [if_neg (fun q => z ((gr_soI g b).mp q))] at h; exact h
theorem i_vc_solved {k : Nat} {u : SX} {v : SY} (I : i_Rel k u v) (hk : k + 4 ≤ 2050) : wpX_solved (fun r => wpY_solved (fun r' => r' = r ∧ i_Rel (k + 4) u v) v) u := by
  obtain ⟨f_pushLimit, f_historyLimit, f_started, f_walls, f_goals, f_boxes, f_liveCells, f_liveTotal, f_boxTotal, f_pusherCell, f_moves, f_pushes, f_historyNext, f_historyTotal, f_storedTotal, f_nodeTotal, a_editGrid, a_liveRank, a_historyBoxes, a_historyPusher, a_storedPushes, a_nodeBoxes, a_nodePusher, a_nodeParent, a_nodeCode, a_nodeDepth, a_nodeMet⟩ := u
  obtain ⟨yf_lim, yf_hs, yf_started, yf_pu, yf_moves, yf_pushes, yf_hn, yf_solLen, yf_nB, yf_nL, yf_curP, yf_nextState, ya_edit, ya_wall, ya_goal, ya_box, ya_hFrom, ya_hBf, ya_hBt, ya_sol, ya_reach, ya_stack, ya_liveMark, ya_liveIdx, ya_liveCell, ya_dist, ya_sb, ya_ob⟩ := v
  have I0 := I
  obtain ⟨P, H, ⟨p1, p2, p3, p4, rfl, rfl, rfl, rfl, rfl, rfl, rfl, rfl, rfl⟩, hS⟩ := I
  rcases hS with ⟨rfl, rfl, rfl, rfl⟩ | ⟨B, p, n, nx, S, rfl, rfl, rfl, b1, b2, rfl, rfl, rfl, rfl, rfl, hlr, hgw, hgB, q1, q2, rfl, rfl, rfl, hH, s1, rfl, rfl, hsol⟩
  · exact br_t rfl (br_t rfl ⟨rfl, I0⟩)
  · refine br_f (by decide) (xs_goals ?_)
    by_cases z : f_boxes &&& (f_goals ^^^ (-1)) = 0
    · rw [if_pos z]
      refine br_f (by decide) (ys_solved ?_)
      rw [if_pos z]
      exact ⟨rfl, I0⟩
    · rw [if_neg z]
      refine br_t rfl (ys_solved ?_)
      rw [if_neg z]
      exact ⟨rfl, I0⟩
theorem i_vc_moveCount {k : Nat} {u : SX} {v : SY} (I : i_Rel k u v) (hk : k + 4 ≤ 2050) : wpX_moveCount (fun r => wpY_moveCount (fun r' => r' = r ∧ i_Rel (k + 4) u v) v) u := by
  obtain ⟨f_pushLimit, f_historyLimit, f_started, f_walls, f_goals, f_boxes, f_liveCells, f_liveTotal, f_boxTotal, f_pusherCell, f_moves, f_pushes, f_historyNext, f_historyTotal, f_storedTotal, f_nodeTotal, a_editGrid, a_liveRank, a_historyBoxes, a_historyPusher, a_storedPushes, a_nodeBoxes, a_nodePusher, a_nodeParent, a_nodeCode, a_nodeDepth, a_nodeMet⟩ := u
  obtain ⟨yf_lim, yf_hs, yf_started, yf_pu, yf_moves, yf_pushes, yf_hn, yf_solLen, yf_nB, yf_nL, yf_curP, yf_nextState, ya_edit, ya_wall, ya_goal, ya_box, ya_hFrom, ya_hBf, ya_hBt, ya_sol, ya_reach, ya_stack, ya_liveMark, ya_liveIdx, ya_liveCell, ya_dist, ya_sb, ya_ob⟩ := v
  have I0 := I
  obtain ⟨P, H, ⟨p1, p2, p3, p4, rfl, rfl, rfl, rfl, rfl, rfl, rfl, rfl, rfl⟩, hS⟩ := I
  rcases hS with ⟨rfl, rfl, rfl, rfl⟩ | ⟨B, p, n, nx, S, rfl, rfl, rfl, b1, b2, rfl, rfl, rfl, rfl, rfl, hlr, hgw, hgB, q1, q2, rfl, rfl, rfl, hH, s1, rfl, rfl, hsol⟩
  · exact br_t rfl ⟨rfl, I0⟩
  · exact br_f (by decide) ⟨rfl, I0⟩
theorem i_vc_pushCount {k : Nat} {u : SX} {v : SY} (I : i_Rel k u v) (hk : k + 4 ≤ 2050) : wpX_pushCount (fun r => wpY_pushCount (fun r' => r' = r ∧ i_Rel (k + 4) u v) v) u := by
  obtain ⟨f_pushLimit, f_historyLimit, f_started, f_walls, f_goals, f_boxes, f_liveCells, f_liveTotal, f_boxTotal, f_pusherCell, f_moves, f_pushes, f_historyNext, f_historyTotal, f_storedTotal, f_nodeTotal, a_editGrid, a_liveRank, a_historyBoxes, a_historyPusher, a_storedPushes, a_nodeBoxes, a_nodePusher, a_nodeParent, a_nodeCode, a_nodeDepth, a_nodeMet⟩ := u
  obtain ⟨yf_lim, yf_hs, yf_started, yf_pu, yf_moves, yf_pushes, yf_hn, yf_solLen, yf_nB, yf_nL, yf_curP, yf_nextState, ya_edit, ya_wall, ya_goal, ya_box, ya_hFrom, ya_hBf, ya_hBt, ya_sol, ya_reach, ya_stack, ya_liveMark, ya_liveIdx, ya_liveCell, ya_dist, ya_sb, ya_ob⟩ := v
  have I0 := I
  obtain ⟨P, H, ⟨p1, p2, p3, p4, rfl, rfl, rfl, rfl, rfl, rfl, rfl, rfl, rfl⟩, hS⟩ := I
  rcases hS with ⟨rfl, rfl, rfl, rfl⟩ | ⟨B, p, n, nx, S, rfl, rfl, rfl, b1, b2, rfl, rfl, rfl, rfl, rfl, hlr, hgw, hgB, q1, q2, rfl, rfl, rfl, hH, s1, rfl, rfl, hsol⟩
  · exact br_t rfl ⟨rfl, I0⟩
  · exact br_f (by decide) ⟨rfl, I0⟩
theorem i_vc_solutionLength {k : Nat} {u : SX} {v : SY} (I : i_Rel k u v) (hk : k + 4 ≤ 2050) : wpX_solutionLength (fun r => wpY_solutionLength (fun r' => r' = r ∧ i_Rel (k + 4) u v) v) u := by
  obtain ⟨f_pushLimit, f_historyLimit, f_started, f_walls, f_goals, f_boxes, f_liveCells, f_liveTotal, f_boxTotal, f_pusherCell, f_moves, f_pushes, f_historyNext, f_historyTotal, f_storedTotal, f_nodeTotal, a_editGrid, a_liveRank, a_historyBoxes, a_historyPusher, a_storedPushes, a_nodeBoxes, a_nodePusher, a_nodeParent, a_nodeCode, a_nodeDepth, a_nodeMet⟩ := u
  obtain ⟨yf_lim, yf_hs, yf_started, yf_pu, yf_moves, yf_pushes, yf_hn, yf_solLen, yf_nB, yf_nL, yf_curP, yf_nextState, ya_edit, ya_wall, ya_goal, ya_box, ya_hFrom, ya_hBf, ya_hBt, ya_sol, ya_reach, ya_stack, ya_liveMark, ya_liveIdx, ya_liveCell, ya_dist, ya_sb, ya_ob⟩ := v
  have I0 := I
  obtain ⟨P, H, ⟨p1, p2, p3, p4, rfl, rfl, rfl, rfl, rfl, rfl, rfl, rfl, rfl⟩, hS⟩ := I
  rcases hS with ⟨rfl, rfl, rfl, rfl⟩ | ⟨B, p, n, nx, S, rfl, rfl, rfl, b1, b2, rfl, rfl, rfl, rfl, rfl, hlr, hgw, hgB, q1, q2, rfl, rfl, rfl, hH, s1, rfl, rfl, hsol⟩
  · exact br_t rfl ⟨rfl, I0⟩
  · exact br_f (by decide) ⟨rfl, I0⟩
theorem i_vc_solutionPush {k : Nat} {u : SX} {v : SY} (I : i_Rel k u v) (hk : k + 4 ≤ 2050) (v1 : Int32) : wpX_solutionPush (fun r => wpY_solutionPush (fun r' => r' = r ∧ i_Rel (k + 4) u v) v v1) u v1 := by
  obtain ⟨f_pushLimit, f_historyLimit, f_started, f_walls, f_goals, f_boxes, f_liveCells, f_liveTotal, f_boxTotal, f_pusherCell, f_moves, f_pushes, f_historyNext, f_historyTotal, f_storedTotal, f_nodeTotal, a_editGrid, a_liveRank, a_historyBoxes, a_historyPusher, a_storedPushes, a_nodeBoxes, a_nodePusher, a_nodeParent, a_nodeCode, a_nodeDepth, a_nodeMet⟩ := u
  obtain ⟨yf_lim, yf_hs, yf_started, yf_pu, yf_moves, yf_pushes, yf_hn, yf_solLen, yf_nB, yf_nL, yf_curP, yf_nextState, ya_edit, ya_wall, ya_goal, ya_box, ya_hFrom, ya_hBf, ya_hBt, ya_sol, ya_reach, ya_stack, ya_liveMark, ya_liveIdx, ya_liveCell, ya_dist, ya_sb, ya_ob⟩ := v
  have I0 := I
  obtain ⟨P, H, ⟨p1, p2, p3, p4, rfl, rfl, rfl, rfl, rfl, rfl, rfl, rfl, rfl⟩, hS⟩ := I
  rcases hS with ⟨rfl, rfl, rfl, rfl⟩ | ⟨B, p, n, nx, S, rfl, rfl, rfl, b1, b2, rfl, rfl, rfl, rfl, rfl, hlr, hgw, hgB, q1, q2, rfl, rfl, rfl, hH, s1, rfl, rfl, hsol⟩
  · refine br_c (fun z => br_t rfl ⟨rfl, I0⟩) (fun z => br_f z (br_t rfl ⟨rfl, I0⟩))
  · refine br_c (fun z => br_f (by decide) (br_t z ⟨rfl, I0⟩)) (fun z => ?_)
    obtain ⟨i, hi, rfl⟩ := nI_of z
    refine pk_lt i S (fun y => ?_) (fun y => ?_)
    · refine ⟨vp_in_nI (by omega) (by decide), br_f (by decide) (br_f z (br_t (nI_lt y (by omega)) ⟨vp_in_nI (by omega) (by decide), ?_, I0⟩))⟩
      rw [nI_clamp hi]
      exact hsol i y
    · exact br_f (by decide) (br_f z (br_f (nI_nlt y hi) ⟨rfl, I0⟩))
end
section
/-! records, move, push, undo -/
theorem xs_rec {post : SX → Prop} {f_pushLimit f_started : Int32} {f_walls f_goals f_boxes f_liveCells : Int64} {f_liveTotal f_boxTotal f_pusherCell f_moves f_pushes f_storedTotal f_nodeTotal : Int32} {a_editGrid a_liveRank : Nat → Int32} {a_historyBoxes : Nat → Int64} {a_historyPusher a_storedPushes : Nat → Int32} {a_nodeBoxes : Nat → Int64} {a_nodePusher a_nodeParent a_nodeCode a_nodeDepth a_nodeMet : Nat → Int32} {H n nx : Nat} (h1 : nx < H) (h2 : n ≤ H) (h3 : 8 ≤ H) (h4 : H ≤ 64)
    (h : post (f_pushLimit, nI H, f_started, f_walls, f_goals, f_boxes, f_liveCells, f_liveTotal, f_boxTotal, f_pusherCell, f_moves, f_pushes, nI (if nx = H - 1 then 0 else nx + 1), nI (if n < H then n + 1 else n), f_storedTotal, f_nodeTotal, a_editGrid, a_liveRank, vp_updL a_historyBoxes nx f_boxes, upd a_historyPusher nx f_pusherCell, a_storedPushes, a_nodeBoxes, a_nodePusher, a_nodeParent, a_nodeCode, a_nodeDepth, a_nodeMet)) : wpX_addRecord post (f_pushLimit, nI H, f_started, f_walls, f_goals, f_boxes, f_liveCells, f_liveTotal, f_boxTotal, f_pusherCell, f_moves, f_pushes, nI nx, nI n, f_storedTotal, f_nodeTotal, a_editGrid, a_liveRank, a_historyBoxes, a_historyPusher, a_storedPushes, a_nodeBoxes, a_nodePusher, a_nodeParent, a_nodeCode, a_nodeDepth, a_nodeMet) := by
  have e : nI H - 1 = nI (H - 1) := pk_sub (b := 1) (by omega)
  have key : ∀ z, z = nI (if nx = H - 1 then 0 else nx + 1) → wX_addRecord_50 post z f_pushLimit (nI H) f_started f_walls f_goals f_boxes f_liveCells f_liveTotal f_boxTotal f_pusherCell f_moves f_pushes (nI nx) (nI n) f_storedTotal f_nodeTotal a_editGrid a_liveRank (vp_updL a_historyBoxes nx f_boxes) (upd a_historyPusher nx f_pusherCell) a_storedPushes a_nodeBoxes a_nodePusher a_nodeParent a_nodeCode a_nodeDepth a_nodeMet := by
    intro z hz
    subst hz
    refine pk_le H n (fun q => ?_) (fun q => nm_r (nI_1 n) ?_)
    · rw [if_neg (show ¬ n < H by omega)] at h; exact h
    · rw [if_pos q] at h; exact h
  refine ⟨vp_in_nI (by omega) (by decide), nm_r (e' := vp_updL a_historyBoxes nx f_boxes) (by rw [nI_clamp (by omega)]) ⟨vp_in_nI (by omega) (by decide), nm_r (e' := upd a_historyPusher nx f_pusherCell) (by rw [nI_clamp (by omega)]) ?_⟩⟩
  refine pk_eq nx (H - 1) (fun q => key 0 ?_) (fun q => key _ ?_) rfl e
  · rw [if_pos q]; rfl
  · rw [if_neg q, nI_1]
theorem xs_pushBox {post : SX → Prop} {f_pushLimit f_started : Int32} {f_walls f_goals f_boxes f_liveCells : Int64} {f_liveTotal f_boxTotal f_pusherCell f_moves f_pushes f_storedTotal f_nodeTotal : Int32} {a_editGrid a_liveRank : Nat → Int32} {a_historyBoxes : Nat → Int64} {a_historyPusher a_storedPushes : Nat → Int32} {a_nodeBoxes : Nat → Int64} {a_nodePusher a_nodeParent a_nodeCode a_nodeDepth a_nodeMet : Nat → Int32} {H n nx x y : Nat} (h1 : nx < H) (h2 : n ≤ H) (h3 : 8 ≤ H) (h4 : H ≤ 64)
    (h : post (f_pushLimit, nI H, f_started, f_walls, f_goals, gr_mv f_boxes x y, f_liveCells, f_liveTotal, f_boxTotal, nI x, f_moves + 1, f_pushes + 1, nI (if nx = H - 1 then 0 else nx + 1), nI (if n < H then n + 1 else n), f_storedTotal, f_nodeTotal, a_editGrid, a_liveRank, vp_updL a_historyBoxes nx f_boxes, upd a_historyPusher nx f_pusherCell, a_storedPushes, a_nodeBoxes, a_nodePusher, a_nodeParent, a_nodeCode, a_nodeDepth, a_nodeMet)) : wpX_pushBox post (f_pushLimit, nI H, f_started, f_walls, f_goals, f_boxes, f_liveCells, f_liveTotal, f_boxTotal, f_pusherCell, f_moves, f_pushes, nI nx, nI n, f_storedTotal, f_nodeTotal, a_editGrid, a_liveRank, a_historyBoxes, a_historyPusher, a_storedPushes, a_nodeBoxes, a_nodePusher, a_nodeParent, a_nodeCode, a_nodeDepth, a_nodeMet) (nI x) (nI y) := by
  unfold wpX_pushBox
  refine xs_rec h1 h2 h3 h4 ?_
  refine xs_bit (xs_bit ?_)
  exact nm_r (e' := gr_mv f_boxes x y) rfl (nm_e (nm_e h))
theorem ys_87 {post : SY → Prop} {yf_lim yf_hs yf_started yf_pu yf_moves yf_pushes yf_solLen yf_nB yf_nL yf_curP yf_nextState : Int32} {ya_edit ya_wall ya_goal ya_box ya_hFrom ya_hBf ya_hBt ya_sol ya_reach ya_stack ya_liveMark ya_liveIdx ya_liveCell ya_dist ya_sb ya_ob : Nat → Int32} {n : Nat} {x1 x2 x3 : Int32} (hn : n < 64) (h : post (yf_lim, yf_hs, yf_started, yf_pu, yf_moves, yf_pushes, nI (n + 1), yf_solLen, yf_nB, yf_nL, yf_curP, yf_nextState, ya_edit, ya_wall, ya_goal, ya_box, upd ya_hFrom n x1, upd ya_hBf n x2, upd ya_hBt n x3, ya_sol, ya_reach, ya_stack, ya_liveMark, ya_liveIdx, ya_liveCell, ya_dist, ya_sb, ya_ob)) : wY_record_87 post x1 x2 x3 yf_lim yf_hs yf_started yf_pu yf_moves yf_pushes (nI n) yf_solLen yf_nB yf_nL yf_curP yf_nextState ya_edit ya_wall ya_goal ya_box ya_hFrom ya_hBf ya_hBt ya_sol ya_reach ya_stack ya_liveMark ya_liveIdx ya_liveCell ya_dist ya_sb ya_ob :=
  ⟨vp_in_nI hn (by decide), nm_r (e' := upd ya_hFrom n x1) (by rw [nI_clamp (by omega)]) ⟨vp_in_nI hn (by decide), nm_r (e' := upd ya_hBf n x2) (by rw [nI_clamp (by omega)]) ⟨vp_in_nI hn (by decide), nm_r (e' := upd ya_hBt n x3) (by rw [nI_clamp (by omega)]) (nm_r (nI_1 n) h)⟩⟩⟩
theorem rl_shift {a a' : Nat → Int32} {i : Nat} (h1 : 1 ≤ i) (hl : ∀ j, j + 1 < i → a' j = a (j + 1)) (hh : ∀ j, i ≤ j + 1 → a' j = a j) : (∀ j, j + 1 < i + 1 → upd a' (i - 1) (a' i) j = a (j + 1)) ∧ (∀ j, i + 1 ≤ j + 1 → upd a' (i - 1) (a' i) j = a j) := by
  constructor
  · intro j hj
    by_cases q : j = i - 1
    · subst q
      rw [pk_us, hh i (by omega), show i - 1 + 1 = i by omega]
    · rw [pk_un q]; exact hl j (by omega)
  · intro j hj
    rw [pk_un (by omega)]
    exact hh j (by omega)
theorem ys_14 {post : SY → Prop} {yf_lim yf_hs yf_started yf_pu yf_moves yf_pushes yf_solLen yf_nB yf_nL yf_curP yf_nextState : Int32} {ya_edit ya_wall ya_goal ya_box ya_sol ya_reach ya_stack ya_liveMark ya_liveIdx ya_liveCell ya_dist ya_sb ya_ob : Nat → Int32} {H : Nat} {x1 x2 x3 : Int32} {F f t : Nat → Int32} (h3 : 8 ≤ H) (h4 : H ≤ 64)
    (h : ∀ F' f' t', (∀ i, i < H - 1 → F' i = F (i + 1)) → (∀ i, i < H - 1 → f' i = f (i + 1)) → (∀ i, i < H - 1 → t' i = t (i + 1)) → post (yf_lim, yf_hs, yf_started, yf_pu, yf_moves, yf_pushes, nI H, yf_solLen, yf_nB, yf_nL, yf_curP, yf_nextState, ya_edit, ya_wall, ya_goal, ya_box, upd F' (H - 1) x1, upd f' (H - 1) x2, upd t' (H - 1) x3, ya_sol, ya_reach, ya_stack, ya_liveMark, ya_liveIdx, ya_liveCell, ya_dist, ya_sb, ya_ob)) :
    ∀ k i F' f' t', i + k = H → 1 ≤ i → (∀ j, j + 1 < i → F' j = F (j + 1)) → (∀ j, i ≤ j + 1 → F' j = F j) → (∀ j, j + 1 < i → f' j = f (j + 1)) → (∀ j, i ≤ j + 1 → f' j = f j) → (∀ j, j + 1 < i → t' j = t (j + 1)) → (∀ j, i ≤ j + 1 → t' j = t j) →
      wY_record_14 post x1 x2 x3 yf_lim yf_hs yf_started yf_pu yf_moves yf_pushes (nI H) yf_solLen yf_nB yf_nL yf_curP yf_nextState (k + 1) (nI i) ya_edit ya_wall ya_goal ya_box (F') (f') (t') ya_sol ya_reach ya_stack ya_liveMark ya_liveIdx ya_liveCell ya_dist ya_sb ya_ob := by
  intro k
  induction k with
  | zero =>
    intro i F' f' t' hi h1 a1 a2 a3 a4 a5 a6
    have e : i = H := by omega
    subst e
    refine br_t (nI_le (Nat.le_refl i) (by omega)) (nm_r (pk_sub (b := 1) (by omega)) (ys_87 (by omega) ?_))
    rw [show i - 1 + 1 = i by omega]
    exact h F' f' t' (fun j hj => a1 j (by omega)) (fun j hj => a3 j (by omega)) (fun j hj => a5 j (by omega))
  | succ k ih =>
    intro i F' f' t' hi h1 a1 a2 a3 a4 a5 a6
    have e : nI i - 1 = nI (i - 1) := pk_sub (b := 1) (by omega)
    have c1 : (nI i).toNatClampNeg = i := nI_clamp (by omega)
    have c2 : (nI i - 1).toNatClampNeg = i - 1 := by rw [e]; exact nI_clamp (by omega)
    have v1 : vp_in (nI i) 64 := vp_in_nI (by omega) (by decide)
    have v2 : vp_in (nI i - 1) 64 := by rw [e]; exact vp_in_nI (by omega) (by decide)
    have s1 := rl_shift h1 a1 a2
    have s2 := rl_shift h1 a3 a4
    have s3 := rl_shift h1 a5 a6
    exact br_f (nI_ge (by omega) (by omega)) ⟨v1, v2, nm_r (e' := upd F' (i - 1) (F' i)) (by rw [c1, c2]) ⟨v1, v2, nm_r (e' := upd f' (i - 1) (f' i)) (by rw [c1, c2]) ⟨v1, v2, nm_r (e' := upd t' (i - 1) (t' i)) (by rw [c1, c2]) (nm_r (nI_1 i) (ih (i + 1) _ _ _ (by omega) (by omega) s1.1 s1.2 s2.1 s2.2 s3.1 s3.2))⟩⟩⟩
theorem ys_rec {post : SY → Prop} {yf_lim yf_started yf_pu yf_moves yf_pushes yf_solLen yf_nB yf_nL yf_curP yf_nextState : Int32} {ya_edit ya_wall ya_goal ya_box ya_hFrom ya_hBf ya_hBt ya_sol ya_reach ya_stack ya_liveMark ya_liveIdx ya_liveCell ya_dist ya_sb ya_ob : Nat → Int32} {w b b2 : Int64} {B H n nx p p2 : Nat} {hb : Nat → Int64} {hp : Nat → Int32} {x2 x3 : Int32} (h1 : nx < H) (h2 : n ≤ H) (h3 : 8 ≤ H) (h4 : H ≤ 64)
    (hH : rl_H w B H n nx hb hp ya_hFrom ya_hBf ya_hBt b p) (hv : rl_V w B b2 p2) (hT : rl_T b2 b x2 x3)
    (h : ∀ F f t, rl_H w B H (if n < H then n + 1 else n) (if nx = H - 1 then 0 else nx + 1) (vp_updL hb nx b) (upd hp nx (nI p)) F f t b2 p2 → post (yf_lim, nI H, yf_started, yf_pu, yf_moves, yf_pushes, nI (if n < H then n + 1 else n), yf_solLen, yf_nB, yf_nL, yf_curP, yf_nextState, ya_edit, ya_wall, ya_goal, ya_box, F, f, t, ya_sol, ya_reach, ya_stack, ya_liveMark, ya_liveIdx, ya_liveCell, ya_dist, ya_sb, ya_ob)) : wpY_record post (yf_lim, nI H, yf_started, yf_pu, yf_moves, yf_pushes, nI n, yf_solLen, yf_nB, yf_nL, yf_curP, yf_nextState, ya_edit, ya_wall, ya_goal, ya_box, ya_hFrom, ya_hBf, ya_hBt, ya_sol, ya_reach, ya_stack, ya_liveMark, ya_liveIdx, ya_liveCell, ya_dist, ya_sb, ya_ob) (nI p) x2 x3 := by
  refine pk_lt n H (fun z => ?_) (fun z => ?_)
  · rw [if_pos z] at h
    exact ys_87 (by omega) (h _ _ _ (rl_Hpush hH h1 z hv hT))
  · have e : n = H := by omega
    subst e
    rw [if_neg (by omega)] at h
    refine ⟨n - 1 + 1, ys_14 h3 h4 (fun F' f' t' e1 e2 e3 => h _ _ _ ?_) (n - 1) 1 _ _ _ (by omega) (by omega) (fun j hj => by omega) (fun _ _ => rfl) (fun j hj => by omega) (fun _ _ => rfl) (fun j hj => by omega) (fun _ _ => rfl)⟩
    obtain ⟨n', rfl⟩ : ∃ n', n = n' + 1 := ⟨n - 1, by omega⟩
    have := rl_Hpush (rl_Hdrop hH e1 e2 e3) h1 (by omega) hv hT
    exact this
theorem rl_Vmv {w b : Int64} {B p x y : Nat} (hv : rl_V w B b p) (hx : ce_b b x = true) (hy : y < 64) (hb : ce_b b y = false) (hw : ce_b w y = false) : rl_V w B (gr_mv b x y) x := by
  obtain ⟨v1, v2, v3, v4, v5⟩ := hv
  have hx64 := ce_lt hx
  refine ⟨hx64, v4 x hx, ?_, fun c hc => ?_, by rw [gr_mv_rk hx hy hb]; exact v5⟩
  · rw [gr_mvB hx64 hy hx64]
    have : y ≠ x := fun z => by subst z; rw [hx] at hb; cases hb
    simp [this]
  · rcases (gr_mvT hx64 hy).mp hc with ⟨q, _⟩ | q
    · exact v4 c q
    · subst q; exact hw
theorem ce_A_mv {b : Int64} {x y : Nat} (hx : x < 64) (hy : y < 64) : upd (upd (ce_A b) x 0) y 1 = ce_A (gr_mv b x y) := by
  rw [ce_A_clr hx, ce_A_set hy]; rfl
end
section
/-! move, push, undo -/
theorem i_vc_move {k : Nat} {u : SX} {v : SY} (I : i_Rel k u v) (hk : k + 4 ≤ 2050) (v1 : Int32) : wpX_move (fun r u' => wpY_move (fun r' v' => r' = r ∧ i_Rel (k + 4) u' v') v v1) u v1 := by
  obtain ⟨f_pushLimit, f_historyLimit, f_started, f_walls, f_goals, f_boxes, f_liveCells, f_liveTotal, f_boxTotal, f_pusherCell, f_moves, f_pushes, f_historyNext, f_historyTotal, f_storedTotal, f_nodeTotal, a_editGrid, a_liveRank, a_historyBoxes, a_historyPusher, a_storedPushes, a_nodeBoxes, a_nodePusher, a_nodeParent, a_nodeCode, a_nodeDepth, a_nodeMet⟩ := u
  obtain ⟨yf_lim, yf_hs, yf_started, yf_pu, yf_moves, yf_pushes, yf_hn, yf_solLen, yf_nB, yf_nL, yf_curP, yf_nextState, ya_edit, ya_wall, ya_goal, ya_box, ya_hFrom, ya_hBf, ya_hBt, ya_sol, ya_reach, ya_stack, ya_liveMark, ya_liveIdx, ya_liveCell, ya_dist, ya_sb, ya_ob⟩ := v
  have I0 := I
  obtain ⟨P, H, ⟨p1, p2, p3, p4, rfl, rfl, rfl, rfl, rfl, rfl, rfl, rfl, rfl⟩, hS⟩ := I
  rcases hS with ⟨rfl, rfl, rfl, rfl⟩ | ⟨B, p, n, nx, S, rfl, rfl, rfl, b1, b2, rfl, rfl, rfl, rfl, rfl, hlr, hgw, hgB, q1, q2, rfl, rfl, rfl, hH, s1, rfl, rfl, hsol⟩
  · exact br_t rfl (br_t rfl ⟨rfl, I0⟩)
  · have hV := rl_Hv hH
    obtain ⟨w1, w2, w3, w4, w5⟩ := hV
    refine br_f (by decide) ?_
    rcases rl_dir v1 with ho | ⟨d, hd, rfl⟩
    · refine xs_dir_f ho (br_t rfl (br_f (by decide) ?_))
      refine br_c (fun _ => ⟨rfl, I0⟩) (fun z => br_f (fun q => ?_) ⟨rfl, I0⟩)
      rcases ho with y | y
      · exact z y
      · exact (rl_le3 v1).mp q y
    · refine xs_dir_t hd (br_f (by decide) (xs_nb w1 hd ?_))
      have d0 : ¬ nI d < 0 := nI_pos (by omega)
      have d3 : nI d ≤ 3 := nI_le (b := 3) (by omega) (by decide)
      have ht := ce_n_le p d
      rcases ce_le64 ht with t1 | t1
      · rw [ce_I_in t1]
        have ti : ¬ nI (ce_n p d) = -1 := by have := ce_I_ne t1; rw [ce_I_in t1] at this; exact this
        have tc : (nI (ce_n p d)).toNatClampNeg = ce_n p d := nI_clamp (by omega)
        have tv : vp_in (nI (ce_n p d)) 64 := vp_in_nI t1 (by decide)
        refine br_f ti (xs_hasN t1 ?_)
        cases tw : ce_b f_walls (ce_n p d)
        · refine br_t (ce_Af tw) (xs_hasN t1 ?_)
          cases tb : ce_b f_boxes (ce_n p d)
          · refine br_t (ce_Af tb) (xs_rec q1 q2 p3 p4 (nm_e ?_))
            refine br_f (by decide) (br_f d0 (br_t d3 (ys_nbN w1 hd ?_)))
            rw [ce_I_in t1]
            refine br_f (nI_pos (by omega)) ⟨tv, ?_⟩
            rw [tc]
            refine br_t (ce_Af tw) ⟨tv, br_t (ce_Af tb) (ys_rec q1 q2 p3 p4 hH ⟨t1, tw, tb, w4, w5⟩ (Or.inl ⟨rfl, rfl⟩) (fun F f t hn => nm_e ⟨rfl, ?_⟩))⟩
            exact ⟨P, H, ⟨p1, p2, p3, p4, rfl, rfl, rfl, rfl, rfl, rfl, rfl, rfl, rfl⟩, Or.inr ⟨B, ce_n p d, if n < H then n + 1 else n, if nx = H - 1 then 0 else nx + 1, S, rfl, rfl, rfl, b1, b2, rfl, rfl, rfl, rfl, rfl, hlr, hgw, hgB, by split <;> omega, by split <;> omega, rfl, rfl, rfl, hn, s1, rfl, rfl, hsol⟩⟩
          · refine br_f (by rw [ce_At tb]; decide) (xs_nb t1 hd (xs_free (ce_n_le _ _) ?_))
            refine br_c (fun z => ?_) (fun z => ?_)
            · refine br_f (by decide) (br_f d0 (br_t d3 (ys_nbN w1 hd ?_)))
              rw [ce_I_in t1]
              refine br_f (nI_pos (by omega)) ⟨tv, ?_⟩
              rw [tc]
              exact br_t (ce_Af tw) ⟨tv, br_f (by rw [ce_At tb]; decide) (ys_nbN t1 hd (ys_free (ce_n_le _ _) (br_t z ⟨rfl, I0⟩)))⟩
            · have hf := gr_fz z
              have uc : (nI (ce_n (ce_n p d) d)).toNatClampNeg = ce_n (ce_n p d) d := nI_clamp (by omega)
              rw [ce_I_in hf.1]
              refine xs_pushBox q1 q2 p3 p4 ?_
              refine br_f (by decide) (br_f d0 (br_t d3 (ys_nbN w1 hd ?_)))
              rw [ce_I_in t1]
              refine br_f (nI_pos (by omega)) ⟨tv, ?_⟩
              rw [tc]
              refine br_t (ce_Af tw) ⟨tv, br_f (by rw [ce_At tb]; decide) (ys_nbN t1 hd (ys_free (ce_n_le _ _) (br_f z ?_)))⟩
              rw [ce_I_in hf.1]
              refine ⟨tv, nm_r (e' := upd (ce_A f_boxes) (ce_n p d) 0) (by rw [rl_b0]) ⟨vp_in_nI hf.1 (by decide), nm_r (e' := ce_A (gr_mv f_boxes (ce_n p d) (ce_n (ce_n p d) d))) (by rw [rl_b1, uc, ce_A_mv t1 hf.1]) ?_⟩⟩
              refine ys_rec q1 q2 p3 p4 hH (rl_Vmv ⟨w1, w2, w3, w4, w5⟩ tb hf.1 hf.2.2 hf.2.1) (Or.inr ⟨_, _, t1, hf.1, rfl, rfl, tb, hf.2.2, rfl⟩) (fun F f t hn => nm_e (nm_e ⟨rfl, ?_⟩))
              exact ⟨P, H, ⟨p1, p2, p3, p4, rfl, rfl, rfl, rfl, rfl, rfl, rfl, rfl, rfl⟩, Or.inr ⟨B, ce_n p d, if n < H then n + 1 else n, if nx = H - 1 then 0 else nx + 1, S, rfl, rfl, rfl, b1, b2, rfl, rfl, rfl, rfl, rfl, hlr, hgw, hgB, by split <;> omega, by split <;> omega, rfl, rfl, rfl, hn, s1, rfl, rfl, hsol⟩⟩
        · refine br_f (by rw [ce_At tw]; decide) ?_
          refine br_f (by decide) (br_f d0 (br_t d3 (ys_nbN w1 hd ?_)))
          rw [ce_I_in t1]
          refine br_f (nI_pos (by omega)) ⟨tv, ?_⟩
          rw [tc]
          exact br_f (by rw [ce_At tw]; decide) ⟨rfl, I0⟩
      · rw [t1]
        refine br_t rfl (br_f (by decide) (br_f d0 (br_t d3 (ys_nbN w1 hd ?_))))
        rw [t1]
        exact br_t (by decide) ⟨rfl, I0⟩
end
section
/-! push, undo -/
theorem i_vc_push {k : Nat} {u : SX} {v : SY} (I : i_Rel k u v) (hk : k + 4 ≤ 2050) (v1 : Int32) (v2 : Int32) (v3 : Int32) : wpX_push (fun r u' => wpY_push (fun r' v' => r' = r ∧ i_Rel (k + 4) u' v') v v1 v2 v3) u v1 v2 v3 := by
  obtain ⟨f_pushLimit, f_historyLimit, f_started, f_walls, f_goals, f_boxes, f_liveCells, f_liveTotal, f_boxTotal, f_pusherCell, f_moves, f_pushes, f_historyNext, f_historyTotal, f_storedTotal, f_nodeTotal, a_editGrid, a_liveRank, a_historyBoxes, a_historyPusher, a_storedPushes, a_nodeBoxes, a_nodePusher, a_nodeParent, a_nodeCode, a_nodeDepth, a_nodeMet⟩ := u
  obtain ⟨yf_lim, yf_hs, yf_started, yf_pu, yf_moves, yf_pushes, yf_hn, yf_solLen, yf_nB, yf_nL, yf_curP, yf_nextState, ya_edit, ya_wall, ya_goal, ya_box, ya_hFrom, ya_hBf, ya_hBt, ya_sol, ya_reach, ya_stack, ya_liveMark, ya_liveIdx, ya_liveCell, ya_dist, ya_sb, ya_ob⟩ := v
  have I0 := I
  obtain ⟨P, H, ⟨p1, p2, p3, p4, rfl, rfl, rfl, rfl, rfl, rfl, rfl, rfl, rfl⟩, hS⟩ := I
  rcases hS with ⟨rfl, rfl, rfl, rfl⟩ | ⟨B, p, n, nx, S, rfl, rfl, rfl, b1, b2, rfl, rfl, rfl, rfl, rfl, hlr, hgw, hgB, q1, q2, rfl, rfl, rfl, hH, s1, rfl, rfl, hsol⟩
  · exact br_t rfl (br_t rfl ⟨rfl, I0⟩)
  · have hV := rl_Hv hH
    obtain ⟨w1, w2, w3, w4, w5⟩ := hV
    refine br_f (by decide) ?_
    rcases rl_rc v1 v2 with ho | ⟨r, c, hr, hc, rfl, rfl⟩
    · exact xs_in_f ho (br_t rfl (br_f (by decide) (ys_in_f ho (br_t rfl ⟨rfl, I0⟩))))
    · refine xs_in_t hr hc (br_f (by decide) ?_)
      rcases rl_dir v3 with ho | ⟨d, hd, rfl⟩
      · refine xs_dir_f ho (br_t rfl (br_f (by decide) (ys_in_t hr hc (br_f (by decide) ?_))))
        refine br_c (fun _ => ⟨rfl, I0⟩) (fun z => br_f (fun q => ?_) ⟨rfl, I0⟩)
        rcases ho with y | y
        · exact z y
        · exact (rl_le3 v3).mp q y
      · have d0 : ¬ nI d < 0 := nI_pos (by omega)
        have d3 : nI d ≤ 3 := nI_le (b := 3) (by omega) (by decide)
        have hx : r * 8 + c < 64 := by omega
        have hi := rl_ix r c
        generalize r * 8 + c = x at hx hi
        have xc : (nI x).toNatClampNeg = x := nI_clamp (by omega)
        have xv : vp_in (nI x) 64 := vp_in_nI hx (by decide)
        refine xs_dir_t hd (br_f (by decide) (nm_r hi (xs_hasN hx ?_)))
        cases xb : ce_b f_boxes x
        · refine br_t (ce_Af xb) (br_f (by decide) (ys_in_t hr hc (br_f (by decide) (br_f d0 (br_t d3 (nm_r hi ⟨xv, ?_⟩))))))
          rw [xc]
          exact br_t (ce_Af xb) ⟨rfl, I0⟩
        · refine br_f (by rw [ce_At xb]; decide) (xs_nb hx hd (xs_behind hx hd (xs_free (ce_n_le _ _) ?_)))
          refine br_c (fun z => ?_) (fun z => ?_)
          · refine br_f (by decide) (ys_in_t hr hc (br_f (by decide) (br_f d0 (br_t d3 (nm_r hi ⟨xv, ?_⟩)))))
            rw [xc]
            exact br_f (by rw [ce_At xb]; decide) (ys_nbN hx hd (ys_free (ce_n_le _ _) (br_t z ⟨rfl, I0⟩)))
          · have hf := gr_fz z
            refine xs_free (ce_n_le _ _) ?_
            refine br_c (fun y => ?_) (fun y => ?_)
            · refine br_f (by decide) (ys_in_t hr hc (br_f (by decide) (br_f d0 (br_t d3 (nm_r hi ⟨xv, ?_⟩)))))
              rw [xc, ys_opp hd]
              exact br_f (by rw [ce_At xb]; decide) (ys_nbN hx hd (ys_free (ce_n_le _ _) (br_f z (ys_nbN hx (by omega) (ys_free (ce_n_le _ _) (br_t y ⟨rfl, I0⟩))))))
            · have hg := gr_fz y
              have ac : (nI (ce_n x d)).toNatClampNeg = ce_n x d := nI_clamp (by omega)
              have bc : (nI (ce_n x ((d + 2) % 4))).toNatClampNeg = ce_n x ((d + 2) % 4) := nI_clamp (by omega)
              rw [ce_I_in hf.1, ce_I_in hg.1]
              refine xs_area (xs_hasN hg.1 ?_)
              cases ar : ce_b (gr_area f_walls f_boxes p) (ce_n x ((d + 2) % 4))
              · refine br_t (ce_Af ar) (br_f (by decide) (ys_in_t hr hc (br_f (by decide) (br_f d0 (br_t d3 (nm_r hi ⟨xv, ?_⟩))))))
                rw [xc, ys_opp hd]
                refine br_f (by rw [ce_At xb]; decide) (ys_nbN hx hd (ys_free (ce_n_le _ _) (br_f z (ys_nbN hx (by omega) (ys_free (ce_n_le _ _) (br_f y ?_))))))
                refine ys_flood w1 w2 w3 (fun re sk hre => ?_)
                rw [ce_I_in hg.1]
                refine ⟨vp_in_nI hg.1 (by decide), ?_⟩
                rw [bc, hre _ hg.1]
                exact br_t (ce_Af ar) ⟨rfl, rl_keep I0⟩
              · refine br_f (by rw [ce_At ar]; decide) (xs_pushBox q1 q2 p3 p4 ?_)
                refine br_f (by decide) (ys_in_t hr hc (br_f (by decide) (br_f d0 (br_t d3 (nm_r hi ⟨xv, ?_⟩)))))
                rw [xc, ys_opp hd]
                refine br_f (by rw [ce_At xb]; decide) (ys_nbN hx hd (ys_free (ce_n_le _ _) (br_f z (ys_nbN hx (by omega) (ys_free (ce_n_le _ _) (br_f y ?_))))))
                refine ys_flood w1 w2 w3 (fun re sk hre => ?_)
                rw [ce_I_in hg.1, ce_I_in hf.1]
                refine ⟨vp_in_nI hg.1 (by decide), ?_⟩
                rw [bc, hre _ hg.1]
                refine br_f (by rw [ce_At ar]; decide) ⟨xv, nm_r (e' := upd (ce_A f_boxes) x 0) (by rw [rl_b0]) ⟨vp_in_nI hf.1 (by decide), nm_r (e' := ce_A (gr_mv f_boxes x (ce_n x d))) (by rw [rl_b1, ac, ce_A_mv hx hf.1]) ?_⟩⟩
                refine ys_rec q1 q2 p3 p4 hH (rl_Vmv ⟨w1, w2, w3, w4, w5⟩ xb hf.1 hf.2.2 hf.2.1) (Or.inr ⟨_, _, hx, hf.1, rfl, rfl, xb, hf.2.2, rfl⟩) (fun F f t hn => nm_e (nm_e ⟨rfl, ?_⟩))
                exact ⟨P, H, ⟨p1, p2, p3, p4, rfl, rfl, rfl, rfl, rfl, rfl, rfl, rfl, rfl⟩, Or.inr ⟨B, x, if n < H then n + 1 else n, if nx = H - 1 then 0 else nx + 1, S, rfl, rfl, rfl, b1, b2, rfl, rfl, rfl, rfl, rfl, hlr, hgw, hgB, by split <;> omega, by split <;> omega, rfl, rfl, rfl, hn, s1, rfl, rfl, hsol⟩⟩
theorem i_vc_undo {k : Nat} {u : SX} {v : SY} (I : i_Rel k u v) (hk : k + 4 ≤ 2050) : wpX_undo (fun r u' => wpY_undo (fun r' v' => r' = r ∧ i_Rel (k + 4) u' v') v) u := by
  obtain ⟨f_pushLimit, f_historyLimit, f_started, f_walls, f_goals, f_boxes, f_liveCells, f_liveTotal, f_boxTotal, f_pusherCell, f_moves, f_pushes, f_historyNext, f_historyTotal, f_storedTotal, f_nodeTotal, a_editGrid, a_liveRank, a_historyBoxes, a_historyPusher, a_storedPushes, a_nodeBoxes, a_nodePusher, a_nodeParent, a_nodeCode, a_nodeDepth, a_nodeMet⟩ := u
  obtain ⟨yf_lim, yf_hs, yf_started, yf_pu, yf_moves, yf_pushes, yf_hn, yf_solLen, yf_nB, yf_nL, yf_curP, yf_nextState, ya_edit, ya_wall, ya_goal, ya_box, ya_hFrom, ya_hBf, ya_hBt, ya_sol, ya_reach, ya_stack, ya_liveMark, ya_liveIdx, ya_liveCell, ya_dist, ya_sb, ya_ob⟩ := v
  have I0 := I
  obtain ⟨P, H, ⟨p1, p2, p3, p4, rfl, rfl, rfl, rfl, rfl, rfl, rfl, rfl, rfl⟩, hS⟩ := I
  rcases hS with ⟨rfl, rfl, rfl, rfl⟩ | ⟨B, p, n, nx, S, rfl, rfl, rfl, b1, b2, rfl, rfl, rfl, rfl, rfl, hlr, hgw, hgB, q1, q2, rfl, rfl, rfl, hH, s1, rfl, rfl, hsol⟩
  · exact br_t rfl (br_t rfl ⟨rfl, I0⟩)
  · refine br_f (by decide) ?_
    cases n with
    | zero => exact br_t rfl (br_f (by decide) (br_t rfl ⟨rfl, I0⟩))
    | succ n =>
      have hV := rl_Hv hH
      obtain ⟨w1, w2, w3, w4, w5⟩ := hV
      obtain ⟨c1, c2, e1, e2, e3, hT, hN⟩ := rl_Hpop hH q1 (by omega)
      have n0 : ¬ nI (n + 1) = 0 := nI_ne0 (by omega) (by omega)
      refine br_f n0 ?_
      have nc : (nI n).toNatClampNeg = n := nI_clamp (by omega)
      have nv : vp_in (nI n) 64 := vp_in_nI (by omega) (by decide)
      have hm : nI (n + 1) - 1 = nI n := nI_pred n
      have key : ∀ z, z = nI (if nx = 0 then H - 1 else nx - 1) → wX_undo_39 (fun r u' => wpY_undo (fun r' v' => r' = r ∧ i_Rel (k + 4) u' v') (nI P, nI H, 1, nI p, f_moves, f_pushes, nI (n + 1), nI S, yf_nB, yf_nL, yf_curP, yf_nextState, a_editGrid, ce_A f_walls, ce_A f_goals, ce_A f_boxes, ya_hFrom, ya_hBf, ya_hBt, ya_sol, ya_reach, ya_stack, ya_liveMark, ya_liveIdx, ya_liveCell, ya_dist, ya_sb, ya_ob)) z (nI P) (nI H) (1) f_walls f_goals f_boxes (gr_live f_walls f_goals) (nI (ce_rk (gr_live f_walls f_goals) 64)) (nI B) (nI p) f_moves f_pushes (nI nx) (nI (n + 1)) (nI S) f_nodeTotal a_editGrid a_liveRank a_historyBoxes a_historyPusher a_storedPushes a_nodeBoxes a_nodePusher a_nodeParent a_nodeCode a_nodeDepth a_nodeMet := by
        intro z hz
        subst hz
        have hpos : (if nx = 0 then H - 1 else nx - 1) < H := by split <;> omega
        generalize (if nx = 0 then H - 1 else nx - 1) = y at e1 e2 hN hpos
        have yc : (nI y).toNatClampNeg = y := nI_clamp (by omega)
        have yv : vp_in (nI y) 64 := vp_in_nI (by omega) (by decide)
        refine nm_r hm ⟨yv, ?_⟩
        rw [yc, e1]
        rcases hT with ⟨t1, t2⟩ | ⟨x, a, t1, t2, t3, t4, t5, t6, t7⟩
        · subst t1
          refine br_t rfl (nm_e ⟨yv, nm_r (e' := c1) (by rw [yc, e1]) ⟨yv, nm_r (e' := nI c2) (by rw [yc, e2]) ?_⟩⟩)
          refine br_f (by decide) (br_f n0 (nm_r hm ⟨nv, nm_r (e' := nI c2) (by rw [nc, e3]) ⟨nv, ?_⟩⟩))
          rw [nc, t2]
          refine br_t (by decide) (nm_e ⟨rfl, ?_⟩)
          exact ⟨P, H, ⟨p1, p2, p3, p4, rfl, rfl, rfl, rfl, rfl, rfl, rfl, rfl, rfl⟩, Or.inr ⟨B, c2, n, y, S, rfl, rfl, rfl, b1, b2, rfl, rfl, rfl, rfl, rfl, hlr, hgw, hgB, hpos, by omega, rfl, rfl, rfl, hN, s1, rfl, rfl, hsol⟩⟩
        · have ne : ¬ f_boxes = c1 := by rw [t7]; exact gr_mv_ne t5 t2 t6
          refine br_f ne (nm_e (nm_e ⟨yv, nm_r (e' := c1) (by rw [yc, e1]) ⟨yv, nm_r (e' := nI c2) (by rw [yc, e2]) ?_⟩⟩))
          refine br_f (by decide) (br_f n0 (nm_r hm ⟨nv, nm_r (e' := nI c2) (by rw [nc, e3]) ⟨nv, ?_⟩⟩))
          rw [nc, t3, t4]
          refine br_f (nI_pos (by omega)) ⟨nv, vp_in_nI t2 (by decide), nm_r (e' := upd (ce_A f_boxes) a 0) (by rw [rl_b0, nI_clamp (by omega)]) ⟨nv, vp_in_nI t1 (by decide), nm_r (e' := ce_A c1) (by rw [rl_b1, nI_clamp (by omega), ce_A_mv t2 t1, t7, gr_mv_back t5 t2 t6]) (nm_e (nm_e ⟨rfl, ?_⟩))⟩⟩
          exact ⟨P, H, ⟨p1, p2, p3, p4, rfl, rfl, rfl, rfl, rfl, rfl, rfl, rfl, rfl⟩, Or.inr ⟨B, c2, n, y, S, rfl, rfl, rfl, b1, b2, rfl, rfl, rfl, rfl, rfl, hlr, hgw, hgB, hpos, by omega, rfl, rfl, rfl, hN, s1, rfl, rfl, hsol⟩⟩
      refine pk_eq nx 0 (fun q => key _ ?_) (fun q => key _ ?_)
      · rw [if_pos q]; exact pk_sub (b := 1) (by omega)
      · rw [if_neg q]; exact pk_sub (b := 1) (by omega)
end
section
/-! start -/
def rl_fW (x : Int32) : Bool := decide (x = 35)
def rl_fP (x : Int32) : Bool := decide (x = 64 ∨ x = 43)
def rl_fB (x : Int32) : Bool := decide (x = 36 ∨ x = 42)
def rl_fG (x : Int32) : Bool := decide (x = 46 ∨ x = 42 ∨ x = 43)
def rl_1 (b : Bool) : Int32 := if b then 1 else 0
theorem rl_1n (b : Bool) : vp_nar .boolean (rl_1 b) = rl_1 b := by cases b <;> decide
def rl_mk (f : Int32 → Bool) (ed : Nat → Int32) : Nat → Int64
  | 0 => 0
  | n + 1 => if f (ed n) then rl_mk f ed n ||| ce_bit n else rl_mk f ed n
theorem rl_mkB (f : Int32 → Bool) (ed : Nat → Int32) : ∀ n, n ≤ 64 → ∀ c, ce_b (rl_mk f ed n) c = (decide (c < n) && f (ed c)) := by
  intro n
  induction n with
  | zero => intro _ c; rw [rl_mk, ce_0]; rfl
  | succ n ih =>
    intro hn c
    rw [rl_mk]
    cases hf : f (ed n)
    · rw [if_neg (by decide), ih (by omega)]
      by_cases q : c = n
      · subst q; rw [hf]; simp
      · have : decide (c < n + 1) = decide (c < n) := by
          rw [decide_eq_decide]; omega
        rw [this]
    · rw [if_pos rfl, ce_setB (by omega), ih (by omega)]
      by_cases q : c = n
      · subst q; rw [hf]; simp
      · have : decide (c < n + 1) = decide (c < n) := by
          rw [decide_eq_decide]; omega
        rw [this]
        simp [Ne.symm q]
theorem rl_mk64 (f : Int32 → Bool) (ed : Nat → Int32) {c : Nat} (hc : c < 64) : ce_b (rl_mk f ed 64) c = f (ed c) := by
  rw [rl_mkB f ed 64 (Nat.le_refl 64), decide_eq_true hc, Bool.true_and]
theorem rl_rkct {m : Int64} {g : Nat → Bool} : ∀ n, (∀ i, i < n → ce_b m i = g i) → ce_rk m n = gr_ct g n := by
  intro n
  induction n with
  | zero => intro _; rfl
  | succ n ih =>
    intro h
    rw [ce_rk, gr_ct, ih (fun i hi => h i (by omega)), h n (by omega)]
theorem rl_mkrk (f : Int32 → Bool) (ed : Nat → Int32) : ce_rk (rl_mk f ed 64) 64 = gr_ct (fun c => f (ed c)) 64 := rl_rkct 64 (fun i hi => rl_mk64 f ed hi)
def rl_pc (ed : Nat → Int32) (x : Int32) : Nat → Int32
  | 0 => x
  | n + 1 => if rl_fP (ed n) then nI n else rl_pc ed x n
theorem rl_pc1 {ed : Nat → Int32} : ∀ n, 1 ≤ gr_ct (fun c => rl_fP (ed c)) n → ∃ c, c < n ∧ rl_fP (ed c) = true ∧ ∀ x, rl_pc ed x n = nI c := by
  intro n
  induction n with
  | zero => intro h; exact absurd h (by show ¬ 1 ≤ 0; decide)
  | succ n ih =>
    intro h
    cases hf : rl_fP (ed n)
    · rw [gr_ct] at h
      simp only [hf] at h
      obtain ⟨c, c1, c2, c3⟩ := ih (by simpa using h)
      exact ⟨c, by omega, c2, fun x => by rw [rl_pc, hf]; exact c3 x⟩
    · exact ⟨n, by omega, hf, fun x => by rw [rl_pc, hf]; rfl⟩
theorem rl_ctI (g : Nat → Bool) (i : Nat) : nI (gr_ct g i) + rl_1 (g i) = nI (gr_ct g (i + 1)) := by
  rw [gr_ct]
  cases g i
  · show nI (gr_ct g i) + nI 0 = _
    rw [nI_add]; rfl
  · show nI (gr_ct g i) + nI 1 = _
    rw [nI_add]; rfl
/-! the class's loops -/
theorem xs_fP {post : Int32 → Prop} {x : Int32} (h : post (rl_1 (rl_fP x))) : wpX_isPusherCharacter post x :=
  xs_isP (fun z => by rw [rl_fP, decide_eq_true z] at h; exact h) (fun z => by rw [rl_fP, decide_eq_false z] at h; exact h)
theorem xs_fB {post : Int32 → Prop} {x : Int32} (h : post (rl_1 (rl_fB x))) : wpX_isBoxCharacter post x :=
  xs_isB (fun z => by rw [rl_fB, decide_eq_true z] at h; exact h) (fun z => by rw [rl_fB, decide_eq_false z] at h; exact h)
theorem xs_fG {post : Int32 → Prop} {x : Int32} (h : post (rl_1 (rl_fG x))) : wpX_isGoalCharacter post x :=
  xs_isG (fun z => by rw [rl_fG, decide_eq_true z] at h; exact h) (fun z => by rw [rl_fG, decide_eq_false z] at h; exact h)
theorem rl_br {b : Bool} {A B : Prop} (h0 : b = false → A) (h1 : b = true → B) : (rl_1 b = 0 → A) ∧ (¬ rl_1 b = 0 → B) := by
  cases b
  · exact br_t rfl (h0 rfl)
  · exact br_f (by decide) (h1 rfl)
theorem xs_55 {post : Int32 → SX → Prop} {J : Int32 → Int32 → Int32 → Int32 → Prop} {f_pushLimit f_historyLimit f_started : Int32} {f_walls f_goals f_boxes f_liveCells : Int64} {f_liveTotal f_boxTotal f_pusherCell f_moves f_pushes f_historyNext f_historyTotal f_storedTotal f_nodeTotal : Int32} {a_editGrid a_liveRank : Nat → Int32} {a_historyBoxes : Nat → Int64} {a_historyPusher a_storedPushes : Nat → Int32} {a_nodeBoxes : Nat → Int64} {a_nodePusher a_nodeParent a_nodeCode a_nodeDepth a_nodeMet : Nat → Int32} {x1 x3 x4 x z0 z1 : Int32} (h : J x1 (z1 + z0) (x3 + rl_1 (rl_fG x)) (x4 + 1)) : wX_start_55 post J x1 x3 x4 x z0 z1 f_pushLimit f_historyLimit f_started f_walls f_goals f_boxes f_liveCells f_liveTotal f_boxTotal f_pusherCell f_moves f_pushes f_historyNext f_historyTotal f_storedTotal f_nodeTotal a_editGrid a_liveRank a_historyBoxes a_historyPusher a_storedPushes a_nodeBoxes a_nodePusher a_nodeParent a_nodeCode a_nodeDepth a_nodeMet := by
  refine nm_e (xs_fG (rl_br (fun e => ?_) (fun e => ?_)))
  · rw [e] at h; exact nm_e (nm_e h)
  · rw [e] at h; exact nm_e (nm_e h)
theorem xs_39 {post : Int32 → SX → Prop} {J : Int32 → Int32 → Int32 → Int32 → Prop} {f_pushLimit f_historyLimit f_started : Int32} {f_walls f_goals f_boxes f_liveCells : Int64} {f_liveTotal f_boxTotal f_pusherCell f_moves f_pushes f_historyNext f_historyTotal f_storedTotal f_nodeTotal : Int32} {a_editGrid a_liveRank : Nat → Int32} {a_historyBoxes : Nat → Int64} {a_historyPusher a_storedPushes : Nat → Int32} {a_nodeBoxes : Nat → Int64} {a_nodePusher a_nodeParent a_nodeCode a_nodeDepth a_nodeMet : Nat → Int32} {x2 x3 x4 x z0 z1 : Int32} (h : J (z1 + z0) (x2 + rl_1 (rl_fB x)) (x3 + rl_1 (rl_fG x)) (x4 + 1)) : wX_start_39 post J x2 x3 x4 x z0 z1 f_pushLimit f_historyLimit f_started f_walls f_goals f_boxes f_liveCells f_liveTotal f_boxTotal f_pusherCell f_moves f_pushes f_historyNext f_historyTotal f_storedTotal f_nodeTotal a_editGrid a_liveRank a_historyBoxes a_historyPusher a_storedPushes a_nodeBoxes a_nodePusher a_nodeParent a_nodeCode a_nodeDepth a_nodeMet := by
  refine nm_e (xs_fB (rl_br (fun e => ?_) (fun e => ?_)))
  · rw [e] at h; exact xs_55 h
  · rw [e] at h; exact xs_55 h
theorem xs_89 {post : SX → Prop} {J : Int32 → Int64 → Int64 → Int64 → Int32 → Prop} {f_pushLimit f_historyLimit f_started : Int32} {f_walls f_goals f_boxes f_liveCells : Int64} {f_liveTotal f_boxTotal f_pusherCell f_moves f_pushes f_historyNext f_historyTotal f_storedTotal f_nodeTotal : Int32} {a_editGrid a_liveRank : Nat → Int32} {a_historyBoxes : Nat → Int64} {a_historyPusher a_storedPushes : Nat → Int32} {a_nodeBoxes : Nat → Int64} {a_nodePusher a_nodeParent a_nodeCode a_nodeDepth a_nodeMet : Nat → Int32} {i : Nat} {x : Int32} (h : J (nI (i + 1)) f_walls f_goals f_boxes (if rl_fP x then nI i else f_pusherCell)) : wX_copyEditGrid_89 post J (nI i) x f_pushLimit f_historyLimit f_started f_walls f_goals f_boxes f_liveCells f_liveTotal f_boxTotal f_pusherCell f_moves f_pushes f_historyNext f_historyTotal f_storedTotal f_nodeTotal a_editGrid a_liveRank a_historyBoxes a_historyPusher a_storedPushes a_nodeBoxes a_nodePusher a_nodeParent a_nodeCode a_nodeDepth a_nodeMet := by
  refine xs_fP (rl_br (fun e => ?_) (fun e => ?_))
  · rw [e] at h; exact nm_r (nI_1 i) h
  · rw [e] at h; exact nm_r (nI_1 i) h
theorem xs_69 {post : SX → Prop} {J : Int32 → Int64 → Int64 → Int64 → Int32 → Prop} {f_pushLimit f_historyLimit f_started : Int32} {f_walls f_goals f_boxes f_liveCells : Int64} {f_liveTotal f_boxTotal f_pusherCell f_moves f_pushes f_historyNext f_historyTotal f_storedTotal f_nodeTotal : Int32} {a_editGrid a_liveRank : Nat → Int32} {a_historyBoxes : Nat → Int64} {a_historyPusher a_storedPushes : Nat → Int32} {a_nodeBoxes : Nat → Int64} {a_nodePusher a_nodeParent a_nodeCode a_nodeDepth a_nodeMet : Nat → Int32} {i : Nat} {x : Int32} (h : J (nI (i + 1)) f_walls f_goals (if rl_fB x then f_boxes ||| ce_bit i else f_boxes) (if rl_fP x then nI i else f_pusherCell)) : wX_copyEditGrid_69 post J (nI i) x f_pushLimit f_historyLimit f_started f_walls f_goals f_boxes f_liveCells f_liveTotal f_boxTotal f_pusherCell f_moves f_pushes f_historyNext f_historyTotal f_storedTotal f_nodeTotal a_editGrid a_liveRank a_historyBoxes a_historyPusher a_storedPushes a_nodeBoxes a_nodePusher a_nodeParent a_nodeCode a_nodeDepth a_nodeMet := by
  refine xs_fB (rl_br (fun e => ?_) (fun e => ?_))
  · rw [e] at h; exact xs_89 h
  · rw [e] at h; exact xs_bit (nm_e (xs_89 h))
theorem xs_49 {post : SX → Prop} {J : Int32 → Int64 → Int64 → Int64 → Int32 → Prop} {f_pushLimit f_historyLimit f_started : Int32} {f_walls f_goals f_boxes f_liveCells : Int64} {f_liveTotal f_boxTotal f_pusherCell f_moves f_pushes f_historyNext f_historyTotal f_storedTotal f_nodeTotal : Int32} {a_editGrid a_liveRank : Nat → Int32} {a_historyBoxes : Nat → Int64} {a_historyPusher a_storedPushes : Nat → Int32} {a_nodeBoxes : Nat → Int64} {a_nodePusher a_nodeParent a_nodeCode a_nodeDepth a_nodeMet : Nat → Int32} {i : Nat} {x : Int32} (h : J (nI (i + 1)) f_walls (if rl_fG x then f_goals ||| ce_bit i else f_goals) (if rl_fB x then f_boxes ||| ce_bit i else f_boxes) (if rl_fP x then nI i else f_pusherCell)) : wX_copyEditGrid_49 post J (nI i) x f_pushLimit f_historyLimit f_started f_walls f_goals f_boxes f_liveCells f_liveTotal f_boxTotal f_pusherCell f_moves f_pushes f_historyNext f_historyTotal f_storedTotal f_nodeTotal a_editGrid a_liveRank a_historyBoxes a_historyPusher a_storedPushes a_nodeBoxes a_nodePusher a_nodeParent a_nodeCode a_nodeDepth a_nodeMet := by
  refine xs_fG (rl_br (fun e => ?_) (fun e => ?_))
  · rw [e] at h; exact xs_69 h
  · rw [e] at h; exact xs_bit (nm_e (xs_69 h))
theorem xs_copy0 {post : SX → Prop} {f_pushLimit f_historyLimit f_started : Int32} {f_liveCells : Int64} {f_liveTotal f_boxTotal f_moves f_pushes f_historyNext f_historyTotal f_storedTotal f_nodeTotal : Int32} {a_editGrid a_liveRank : Nat → Int32} {a_historyBoxes : Nat → Int64} {a_historyPusher a_storedPushes : Nat → Int32} {a_nodeBoxes : Nat → Int64} {a_nodePusher a_nodeParent a_nodeCode a_nodeDepth a_nodeMet : Nat → Int32} {x : Int32} (h : post (f_pushLimit, f_historyLimit, f_started, rl_mk rl_fW a_editGrid 64, rl_mk rl_fG a_editGrid 64, rl_mk rl_fB a_editGrid 64, f_liveCells, f_liveTotal, f_boxTotal, rl_pc a_editGrid x 64, f_moves, f_pushes, f_historyNext, f_historyTotal, f_storedTotal, f_nodeTotal, a_editGrid, a_liveRank, a_historyBoxes, a_historyPusher, a_storedPushes, a_nodeBoxes, a_nodePusher, a_nodeParent, a_nodeCode, a_nodeDepth, a_nodeMet)) :
    ∀ k i, i + k = 64 → wX_copyEditGrid_17 post f_pushLimit f_historyLimit f_started f_liveCells f_liveTotal f_boxTotal f_moves f_pushes f_historyNext f_historyTotal f_storedTotal f_nodeTotal a_editGrid a_liveRank a_historyBoxes a_historyPusher a_storedPushes a_nodeBoxes a_nodePusher a_nodeParent a_nodeCode a_nodeDepth a_nodeMet (k + 1) (nI i) (rl_mk rl_fW a_editGrid i) (rl_mk rl_fG a_editGrid i) (rl_mk rl_fB a_editGrid i) (rl_pc a_editGrid x i) := by
  intro k
  induction k with
  | zero =>
    intro i hi
    have e : i = 64 := by omega
    subst e
    exact br_t (nI_le (a := 64) (by omega) (by omega)) h
  | succ k ih =>
    intro i hi
    have := ih (i + 1) (by omega)
    refine br_f (nI_ge (b := 64) (by omega) (by decide)) ⟨vp_in_nI (by omega) (by decide), nm_r (e' := a_editGrid i) (by rw [nI_clamp (by omega)]) ?_⟩
    refine br_c (fun e => xs_bit (nm_e (xs_49 ?_))) (fun e => xs_49 ?_)
    · have ew : rl_mk rl_fW a_editGrid (i + 1) = rl_mk rl_fW a_editGrid i ||| ce_bit i := by rw [rl_mk, rl_fW, decide_eq_true e]; rfl
      rw [ew] at this
      exact this
    · have ew : rl_mk rl_fW a_editGrid (i + 1) = rl_mk rl_fW a_editGrid i := by rw [rl_mk, rl_fW, decide_eq_false e]; rfl
      rw [ew] at this
      exact this
theorem xs_copy {post : SX → Prop} {f_pushLimit f_historyLimit f_started : Int32} {f_walls f_goals f_boxes f_liveCells : Int64} {f_liveTotal f_boxTotal f_pusherCell f_moves f_pushes f_historyNext f_historyTotal f_storedTotal f_nodeTotal : Int32} {a_editGrid a_liveRank : Nat → Int32} {a_historyBoxes : Nat → Int64} {a_historyPusher a_storedPushes : Nat → Int32} {a_nodeBoxes : Nat → Int64} {a_nodePusher a_nodeParent a_nodeCode a_nodeDepth a_nodeMet : Nat → Int32} (h : post (f_pushLimit, f_historyLimit, f_started, rl_mk rl_fW a_editGrid 64, rl_mk rl_fG a_editGrid 64, rl_mk rl_fB a_editGrid 64, f_liveCells, f_liveTotal, f_boxTotal, rl_pc a_editGrid f_pusherCell 64, f_moves, f_pushes, f_historyNext, f_historyTotal, f_storedTotal, f_nodeTotal, a_editGrid, a_liveRank, a_historyBoxes, a_historyPusher, a_storedPushes, a_nodeBoxes, a_nodePusher, a_nodeParent, a_nodeCode, a_nodeDepth, a_nodeMet)) : wpX_copyEditGrid post (f_pushLimit, f_historyLimit, f_started, f_walls, f_goals, f_boxes, f_liveCells, f_liveTotal, f_boxTotal, f_pusherCell, f_moves, f_pushes, f_historyNext, f_historyTotal, f_storedTotal, f_nodeTotal, a_editGrid, a_liveRank, a_historyBoxes, a_historyPusher, a_storedPushes, a_nodeBoxes, a_nodePusher, a_nodeParent, a_nodeCode, a_nodeDepth, a_nodeMet) :=
  ⟨65, xs_copy0 h 64 0 (by omega)⟩
theorem xs_start0 {post : Int32 → SX → Prop} {f_pushLimit f_historyLimit f_started : Int32} {f_walls f_goals f_boxes f_liveCells : Int64} {f_liveTotal f_boxTotal f_pusherCell f_moves f_pushes f_historyNext f_historyTotal f_storedTotal f_nodeTotal : Int32} {a_editGrid a_liveRank : Nat → Int32} {a_historyBoxes : Nat → Int64} {a_historyPusher a_storedPushes : Nat → Int32} {a_nodeBoxes : Nat → Int64} {a_nodePusher a_nodeParent a_nodeCode a_nodeDepth a_nodeMet : Nat → Int32} (hP : gr_ct (fun c => rl_fP (a_editGrid c)) 64 ≠ 1 → post (-8) (f_pushLimit, f_historyLimit, f_started, f_walls, f_goals, f_boxes, f_liveCells, f_liveTotal, f_boxTotal, f_pusherCell, f_moves, f_pushes, f_historyNext, f_historyTotal, f_storedTotal, f_nodeTotal, a_editGrid, a_liveRank, a_historyBoxes, a_historyPusher, a_storedPushes, a_nodeBoxes, a_nodePusher, a_nodeParent, a_nodeCode, a_nodeDepth, a_nodeMet)) (hB : gr_ct (fun c => rl_fP (a_editGrid c)) 64 = 1 → ¬ (1 ≤ gr_ct (fun c => rl_fB (a_editGrid c)) 64 ∧ gr_ct (fun c => rl_fB (a_editGrid c)) 64 ≤ 3) → post (-9) (f_pushLimit, f_historyLimit, f_started, f_walls, f_goals, f_boxes, f_liveCells, f_liveTotal, f_boxTotal, f_pusherCell, f_moves, f_pushes, f_historyNext, f_historyTotal, f_storedTotal, f_nodeTotal, a_editGrid, a_liveRank, a_historyBoxes, a_historyPusher, a_storedPushes, a_nodeBoxes, a_nodePusher, a_nodeParent, a_nodeCode, a_nodeDepth, a_nodeMet))
    (hG : gr_ct (fun c => rl_fP (a_editGrid c)) 64 = 1 → (1 ≤ gr_ct (fun c => rl_fB (a_editGrid c)) 64 ∧ gr_ct (fun c => rl_fB (a_editGrid c)) 64 ≤ 3) → gr_ct (fun c => rl_fG (a_editGrid c)) 64 ≠ gr_ct (fun c => rl_fB (a_editGrid c)) 64 → post (-10) (f_pushLimit, f_historyLimit, f_started, f_walls, f_goals, f_boxes, f_liveCells, f_liveTotal, f_boxTotal, f_pusherCell, f_moves, f_pushes, f_historyNext, f_historyTotal, f_storedTotal, f_nodeTotal, a_editGrid, a_liveRank, a_historyBoxes, a_historyPusher, a_storedPushes, a_nodeBoxes, a_nodePusher, a_nodeParent, a_nodeCode, a_nodeDepth, a_nodeMet))
    (hO : gr_ct (fun c => rl_fP (a_editGrid c)) 64 = 1 → (1 ≤ gr_ct (fun c => rl_fB (a_editGrid c)) 64 ∧ gr_ct (fun c => rl_fB (a_editGrid c)) 64 ≤ 3) → gr_ct (fun c => rl_fG (a_editGrid c)) 64 = gr_ct (fun c => rl_fB (a_editGrid c)) 64 → ∀ lr, (∀ c, c < 64 → lr c = nI (ce_rk (gr_live (rl_mk rl_fW a_editGrid 64) (rl_mk rl_fG a_editGrid 64)) c)) → post 0 (f_pushLimit, f_historyLimit, 1, rl_mk rl_fW a_editGrid 64, rl_mk rl_fG a_editGrid 64, rl_mk rl_fB a_editGrid 64, gr_live (rl_mk rl_fW a_editGrid 64) (rl_mk rl_fG a_editGrid 64), nI (ce_rk (gr_live (rl_mk rl_fW a_editGrid 64) (rl_mk rl_fG a_editGrid 64)) 64), nI (gr_ct (fun c => rl_fB (a_editGrid c)) 64), rl_pc a_editGrid f_pusherCell 64, 0, 0, 0, 0, 0, f_nodeTotal, a_editGrid, lr, a_historyBoxes, a_historyPusher, a_storedPushes, a_nodeBoxes, a_nodePusher, a_nodeParent, a_nodeCode, a_nodeDepth, a_nodeMet)) :
    ∀ k i, i + k = 64 → wX_start_9 post f_pushLimit f_historyLimit f_started f_walls f_goals f_boxes f_liveCells f_liveTotal f_boxTotal f_pusherCell f_moves f_pushes f_historyNext f_historyTotal f_storedTotal f_nodeTotal a_editGrid a_liveRank a_historyBoxes a_historyPusher a_storedPushes a_nodeBoxes a_nodePusher a_nodeParent a_nodeCode a_nodeDepth a_nodeMet (k + 1) (nI (gr_ct (fun c => rl_fP (a_editGrid c)) i)) (nI (gr_ct (fun c => rl_fB (a_editGrid c)) i)) (nI (gr_ct (fun c => rl_fG (a_editGrid c)) i)) (nI i) := by
  intro k
  induction k with
  | zero =>
    intro i hi
    have e : i = 64 := by omega
    subst e
    have l1 := gr_ct_len (fun c => rl_fP (a_editGrid c)) 64
    have l2 := gr_ct_len (fun c => rl_fB (a_editGrid c)) 64
    have l3 := gr_ct_len (fun c => rl_fG (a_editGrid c)) 64
    refine br_t (nI_le (a := 64) (by omega) (by omega)) (pk_eq (gr_ct (fun c => rl_fP (a_editGrid c)) 64) 1 (fun a => ?_) hP)
    refine pk_lt (gr_ct (fun c => rl_fB (a_editGrid c)) 64) 1 (fun b => hB a (by omega)) (fun b => pk_le (gr_ct (fun c => rl_fB (a_editGrid c)) 64) 3 (fun c => ?_) (fun c => hB a (by omega)))
    refine pk_eq (gr_ct (fun c => rl_fG (a_editGrid c)) 64) (gr_ct (fun c => rl_fB (a_editGrid c)) 64) (fun d => ?_) (fun d => hG a ⟨b, c⟩ d)
    exact xs_copy (xs_live (xs_rank (hO a ⟨b, c⟩ d)))
  | succ k ih =>
    intro i hi
    have := ih (i + 1) (by omega)
    rw [← rl_ctI, ← rl_ctI, ← rl_ctI, ← nI_1] at this
    refine br_f (nI_ge (b := 64) (by omega) (by decide)) ⟨vp_in_nI (by omega) (by decide), nm_r (e' := a_editGrid i) (by rw [nI_clamp (by omega)]) (xs_fP (rl_br (fun e => ?_) (fun e => ?_)))⟩
    · simp only [e] at this
      exact xs_39 this
    · simp only [e] at this
      exact xs_39 this
/-! the reference's loops -/
theorem ys_59 {post : Int32 → SY → Prop} {J : Int32 → Int32 → Int32 → Int32 → Prop} {yf_lim yf_hs yf_started yf_pu yf_moves yf_pushes yf_hn yf_solLen yf_nB yf_nL yf_curP yf_nextState : Int32} {ya_edit ya_wall ya_goal ya_box ya_hFrom ya_hBf ya_hBt ya_sol ya_reach ya_stack ya_liveMark ya_liveIdx ya_liveCell ya_dist ya_sb ya_ob : Nat → Int32} {x1 x2 x3 x4 x : Int32} (h : J x1 x2 (x3 + rl_1 (rl_fG x)) (x4 + 1)) : wY_start_59 post J x1 x2 x3 x4 x yf_lim yf_hs yf_started yf_pu yf_moves yf_pushes yf_hn yf_solLen yf_nB yf_nL yf_curP yf_nextState ya_edit ya_wall ya_goal ya_box ya_hFrom ya_hBf ya_hBt ya_sol ya_reach ya_stack ya_liveMark ya_liveIdx ya_liveCell ya_dist ya_sb ya_ob := by
  have t : x = 46 ∨ x = 42 ∨ x = 43 → J x1 x2 (x3 + 1) (x4 + 1) := fun z => by rw [rl_fG, decide_eq_true z] at h; exact h
  refine br_c (fun e => nm_e (nm_e (t (Or.inl e)))) (fun a => br_c (fun e => nm_e (nm_e (t (Or.inr (Or.inl e))))) (fun b => br_c (fun e => nm_e (nm_e (t (Or.inr (Or.inr e))))) (fun c => nm_e ?_)))
  rw [rl_fG, decide_eq_false (fun z => z.elim a (fun y => y.elim b c))] at h
  have e : x3 + rl_1 false = x3 := Int32.add_zero x3
  rw [e] at h
  exact h
theorem ys_42 {post : Int32 → SY → Prop} {J : Int32 → Int32 → Int32 → Int32 → Prop} {yf_lim yf_hs yf_started yf_pu yf_moves yf_pushes yf_hn yf_solLen yf_nB yf_nL yf_curP yf_nextState : Int32} {ya_edit ya_wall ya_goal ya_box ya_hFrom ya_hBf ya_hBt ya_sol ya_reach ya_stack ya_liveMark ya_liveIdx ya_liveCell ya_dist ya_sb ya_ob : Nat → Int32} {x1 x2 x3 x4 x : Int32} (h : J x1 (x2 + rl_1 (rl_fB x)) (x3 + rl_1 (rl_fG x)) (x4 + 1)) : wY_start_42 post J x1 x2 x3 x4 x yf_lim yf_hs yf_started yf_pu yf_moves yf_pushes yf_hn yf_solLen yf_nB yf_nL yf_curP yf_nextState ya_edit ya_wall ya_goal ya_box ya_hFrom ya_hBf ya_hBt ya_sol ya_reach ya_stack ya_liveMark ya_liveIdx ya_liveCell ya_dist ya_sb ya_ob := by
  have t : x = 36 ∨ x = 42 → J x1 (x2 + 1) (x3 + rl_1 (rl_fG x)) (x4 + 1) := fun z => by rw [rl_fB, decide_eq_true z] at h; exact h
  refine br_c (fun e => nm_e (ys_59 (t (Or.inl e)))) (fun a => br_c (fun e => nm_e (ys_59 (t (Or.inr e)))) (fun b => ys_59 ?_))
  rw [rl_fB, decide_eq_false (fun z => z.elim a b)] at h
  have e : x2 + rl_1 false = x2 := Int32.add_zero x2
  rw [e] at h
  exact h
theorem ys_c {post : Int32 → SY → Prop} {J : Int32 → Int32 → Int32 → Int32 → Prop} {yf_lim yf_hs yf_started yf_pu yf_moves yf_pushes yf_hn yf_solLen yf_nB yf_nL yf_curP yf_nextState : Int32} {ya_edit ya_wall ya_goal ya_box ya_hFrom ya_hBf ya_hBt ya_sol ya_reach ya_stack ya_liveMark ya_liveIdx ya_liveCell ya_dist ya_sb ya_ob : Nat → Int32} {x1 x2 x3 x4 x : Int32} (h : J (x1 + rl_1 (rl_fP x)) (x2 + rl_1 (rl_fB x)) (x3 + rl_1 (rl_fG x)) (x4 + 1)) : ((x = 64 → wY_start_39 post J x1 x2 x3 x4 x yf_lim yf_hs yf_started yf_pu yf_moves yf_pushes yf_hn yf_solLen yf_nB yf_nL yf_curP yf_nextState ya_edit ya_wall ya_goal ya_box ya_hFrom ya_hBf ya_hBt ya_sol ya_reach ya_stack ya_liveMark ya_liveIdx ya_liveCell ya_dist ya_sb ya_ob) ∧ (¬ x = 64 → ((x = 43 → wY_start_39 post J x1 x2 x3 x4 x yf_lim yf_hs yf_started yf_pu yf_moves yf_pushes yf_hn yf_solLen yf_nB yf_nL yf_curP yf_nextState ya_edit ya_wall ya_goal ya_box ya_hFrom ya_hBf ya_hBt ya_sol ya_reach ya_stack ya_liveMark ya_liveIdx ya_liveCell ya_dist ya_sb ya_ob) ∧ (¬ x = 43 → wY_start_42 post J x1 x2 x3 x4 x yf_lim yf_hs yf_started yf_pu yf_moves yf_pushes yf_hn yf_solLen yf_nB yf_nL yf_curP yf_nextState ya_edit ya_wall ya_goal ya_box ya_hFrom ya_hBf ya_hBt ya_sol ya_reach ya_stack ya_liveMark ya_liveIdx ya_liveCell ya_dist ya_sb ya_ob)))) := by
  have t : x = 64 ∨ x = 43 → J (x1 + 1) (x2 + rl_1 (rl_fB x)) (x3 + rl_1 (rl_fG x)) (x4 + 1) := fun z => by rw [rl_fP, decide_eq_true z] at h; exact h
  refine br_c (fun e => nm_e (ys_42 (t (Or.inl e)))) (fun a => br_c (fun e => nm_e (ys_42 (t (Or.inr e)))) (fun b => ys_42 ?_))
  rw [rl_fP, decide_eq_false (fun z => z.elim a b)] at h
  have e : x1 + rl_1 false = x1 := Int32.add_zero x1
  rw [e] at h
  exact h
theorem ys_214 {post : Int32 → SY → Prop} {J : Int32 → Int32 → (Nat → Int32) → (Nat → Int32) → (Nat → Int32) → (Nat → Int32) → (Nat → Int32) → (Nat → Int32) → (Nat → Int32) → (Nat → Int32) → (Nat → Int32) → (Nat → Int32) → (Nat → Int32) → (Nat → Int32) → (Nat → Int32) → (Nat → Int32) → (Nat → Int32) → (Nat → Int32) → Prop} {yf_lim yf_hs yf_started yf_pu yf_moves yf_pushes yf_hn yf_solLen yf_nB yf_nL yf_curP yf_nextState : Int32} {ya_edit ya_wall ya_goal ya_box ya_hFrom ya_hBf ya_hBt ya_sol ya_reach ya_stack ya_liveMark ya_liveIdx ya_liveCell ya_dist ya_sb ya_ob : Nat → Int32} {i : Nat} {x : Int32} {z : Bool} (hi : i < 64) (h : J (nI (i + 1)) (if rl_fP x then nI i else yf_pu) ya_edit ya_wall ya_goal (upd ya_box i (rl_1 z)) ya_hFrom ya_hBf ya_hBt ya_sol ya_reach ya_stack ya_liveMark ya_liveIdx ya_liveCell ya_dist ya_sb ya_ob) : wY_start_214 post J (nI i) x (rl_1 z) (nI i) yf_lim yf_hs yf_started yf_pu yf_moves yf_pushes yf_hn yf_solLen yf_nB yf_nL yf_curP yf_nextState ya_edit ya_wall ya_goal ya_box ya_hFrom ya_hBf ya_hBt ya_sol ya_reach ya_stack ya_liveMark ya_liveIdx ya_liveCell ya_dist ya_sb ya_ob := by
  refine ⟨vp_in_nI hi (by decide), nm_r (e' := upd ya_box i (rl_1 z)) (by rw [rl_1n, nI_clamp (by omega)]) ?_⟩
  have t : x = 64 ∨ x = 43 → J (nI (i + 1)) (nI i) ya_edit ya_wall ya_goal (upd ya_box i (rl_1 z)) ya_hFrom ya_hBf ya_hBt ya_sol ya_reach ya_stack ya_liveMark ya_liveIdx ya_liveCell ya_dist ya_sb ya_ob := fun q => by rw [rl_fP, decide_eq_true q] at h; exact h
  refine br_c (fun e => nm_r (nI_1 i) (t (Or.inl e))) (fun a => br_c (fun e => nm_r (nI_1 i) (t (Or.inr e))) (fun b => nm_r (nI_1 i) ?_))
  rw [rl_fP, decide_eq_false (fun q => q.elim a b)] at h
  exact h
theorem ys_188 {post : Int32 → SY → Prop} {J : Int32 → Int32 → (Nat → Int32) → (Nat → Int32) → (Nat → Int32) → (Nat → Int32) → (Nat → Int32) → (Nat → Int32) → (Nat → Int32) → (Nat → Int32) → (Nat → Int32) → (Nat → Int32) → (Nat → Int32) → (Nat → Int32) → (Nat → Int32) → (Nat → Int32) → (Nat → Int32) → (Nat → Int32) → Prop} {yf_lim yf_hs yf_started yf_pu yf_moves yf_pushes yf_hn yf_solLen yf_nB yf_nL yf_curP yf_nextState : Int32} {ya_edit ya_wall ya_goal ya_box ya_hFrom ya_hBf ya_hBt ya_sol ya_reach ya_stack ya_liveMark ya_liveIdx ya_liveCell ya_dist ya_sb ya_ob : Nat → Int32} {i : Nat} {x : Int32} {z : Bool} (hi : i < 64) (h : J (nI (i + 1)) (if rl_fP x then nI i else yf_pu) ya_edit ya_wall (upd ya_goal i (rl_1 z)) (upd ya_box i (rl_1 (rl_fB x))) ya_hFrom ya_hBf ya_hBt ya_sol ya_reach ya_stack ya_liveMark ya_liveIdx ya_liveCell ya_dist ya_sb ya_ob) : wY_start_188 post J (nI i) x (rl_1 z) (nI i) yf_lim yf_hs yf_started yf_pu yf_moves yf_pushes yf_hn yf_solLen yf_nB yf_nL yf_curP yf_nextState ya_edit ya_wall ya_goal ya_box ya_hFrom ya_hBf ya_hBt ya_sol ya_reach ya_stack ya_liveMark ya_liveIdx ya_liveCell ya_dist ya_sb ya_ob := by
  refine ⟨vp_in_nI hi (by decide), nm_r (e' := upd ya_goal i (rl_1 z)) (by rw [rl_1n, nI_clamp (by omega)]) ?_⟩
  have t : x = 36 ∨ x = 42 → wY_start_209 post J (nI i) x (nI i) yf_lim yf_hs yf_started yf_pu yf_moves yf_pushes yf_hn yf_solLen yf_nB yf_nL yf_curP yf_nextState ya_edit ya_wall (upd ya_goal i (rl_1 z)) ya_box ya_hFrom ya_hBf ya_hBt ya_sol ya_reach ya_stack ya_liveMark ya_liveIdx ya_liveCell ya_dist ya_sb ya_ob := fun q => by
    rw [show rl_fB x = true from decide_eq_true q] at h
    exact ys_214 (z := true) hi h
  refine br_c (fun e => t (Or.inl e)) (fun a => br_c (fun e => t (Or.inr e)) (fun b => ?_))
  rw [show rl_fB x = false from decide_eq_false (fun q => q.elim a b)] at h
  exact ys_214 (z := false) hi h
theorem ys_155 {post : Int32 → SY → Prop} {J : Int32 → Int32 → (Nat → Int32) → (Nat → Int32) → (Nat → Int32) → (Nat → Int32) → (Nat → Int32) → (Nat → Int32) → (Nat → Int32) → (Nat → Int32) → (Nat → Int32) → (Nat → Int32) → (Nat → Int32) → (Nat → Int32) → (Nat → Int32) → (Nat → Int32) → (Nat → Int32) → (Nat → Int32) → Prop} {yf_lim yf_hs yf_started yf_pu yf_moves yf_pushes yf_hn yf_solLen yf_nB yf_nL yf_curP yf_nextState : Int32} {ya_edit ya_wall ya_goal ya_box ya_hFrom ya_hBf ya_hBt ya_sol ya_reach ya_stack ya_liveMark ya_liveIdx ya_liveCell ya_dist ya_sb ya_ob : Nat → Int32} {i : Nat} {x : Int32} {z : Bool} (hi : i < 64) (h : J (nI (i + 1)) (if rl_fP x then nI i else yf_pu) ya_edit (upd ya_wall i (rl_1 z)) (upd ya_goal i (rl_1 (rl_fG x))) (upd ya_box i (rl_1 (rl_fB x))) ya_hFrom ya_hBf ya_hBt ya_sol ya_reach ya_stack ya_liveMark ya_liveIdx ya_liveCell ya_dist ya_sb ya_ob) : wY_start_155 post J (nI i) x (rl_1 z) (nI i) yf_lim yf_hs yf_started yf_pu yf_moves yf_pushes yf_hn yf_solLen yf_nB yf_nL yf_curP yf_nextState ya_edit ya_wall ya_goal ya_box ya_hFrom ya_hBf ya_hBt ya_sol ya_reach ya_stack ya_liveMark ya_liveIdx ya_liveCell ya_dist ya_sb ya_ob := by
  refine ⟨vp_in_nI hi (by decide), nm_r (e' := upd ya_wall i (rl_1 z)) (by rw [rl_1n, nI_clamp (by omega)]) ?_⟩
  have t : x = 46 ∨ x = 42 ∨ x = 43 → wY_start_183 post J (nI i) x (nI i) yf_lim yf_hs yf_started yf_pu yf_moves yf_pushes yf_hn yf_solLen yf_nB yf_nL yf_curP yf_nextState ya_edit (upd ya_wall i (rl_1 z)) ya_goal ya_box ya_hFrom ya_hBf ya_hBt ya_sol ya_reach ya_stack ya_liveMark ya_liveIdx ya_liveCell ya_dist ya_sb ya_ob := fun q => by
    rw [show rl_fG x = true from decide_eq_true q] at h
    exact ys_188 (z := true) hi h
  refine br_c (fun e => t (Or.inl e)) (fun a => br_c (fun e => t (Or.inr (Or.inl e))) (fun b => br_c (fun e => t (Or.inr (Or.inr e))) (fun c => ?_)))
  rw [show rl_fG x = false from decide_eq_false (fun q => q.elim a (fun y => y.elim b c))] at h
  exact ys_188 (z := false) hi h
def rl_cp (m o : Int64) (i : Nat) : Nat → Int32 := fun c => if c < i then ce_A m c else ce_A o c
theorem rl_cp0 (m o : Int64) : rl_cp m o 0 = ce_A o := by
  funext c; unfold rl_cp; rw [if_neg (by omega)]
theorem rl_cp64 (m o : Int64) : rl_cp m o 64 = ce_A m := by
  funext c
  unfold rl_cp
  split
  · rfl
  · rw [ce_Af (ce_big (by omega)), ce_Af (ce_big (by omega))]
theorem rl_cpS (f : Int32 → Bool) (ed : Nat → Int32) (o : Int64) {i : Nat} (hi : i < 64) : upd (rl_cp (rl_mk f ed 64) o i) i (rl_1 (f (ed i))) = rl_cp (rl_mk f ed 64) o (i + 1) := by
  funext c
  by_cases q : c = i
  · subst q
    rw [pk_us]
    unfold rl_cp
    rw [if_pos (by omega), ce_A, rl_mk64 f ed hi]
    rfl
  · rw [pk_un q]
    unfold rl_cp
    by_cases z : c < i
    · rw [if_pos z, if_pos (by omega)]
    · rw [if_neg z, if_neg (by omega)]
theorem ys_121 {post : Int32 → SY → Prop} {yf_lim yf_hs yf_started yf_moves yf_pushes yf_hn yf_solLen yf_nB yf_nL yf_curP yf_nextState : Int32} {ya_edit ya_hFrom ya_hBf ya_hBt ya_sol ya_reach ya_stack ya_liveMark ya_liveIdx ya_liveCell ya_dist ya_sb ya_ob : Nat → Int32} {x : Int32} {w g b : Int64} (h : post 0 (yf_lim, yf_hs, 1, rl_pc ya_edit x 64, 0, 0, 0, 0, yf_nB, yf_nL, yf_curP, yf_nextState, ya_edit, ce_A (rl_mk rl_fW ya_edit 64), ce_A (rl_mk rl_fG ya_edit 64), ce_A (rl_mk rl_fB ya_edit 64), ya_hFrom, ya_hBf, ya_hBt, ya_sol, ya_reach, ya_stack, ya_liveMark, ya_liveIdx, ya_liveCell, ya_dist, ya_sb, ya_ob)) :
    ∀ k i, i + k = 64 → wY_start_121 post yf_lim yf_hs yf_started yf_moves yf_pushes yf_hn yf_solLen yf_nB yf_nL yf_curP yf_nextState (k + 1) (nI i) (rl_pc ya_edit x i) ya_edit (rl_cp (rl_mk rl_fW ya_edit 64) w i) (rl_cp (rl_mk rl_fG ya_edit 64) g i) (rl_cp (rl_mk rl_fB ya_edit 64) b i) ya_hFrom ya_hBf ya_hBt ya_sol ya_reach ya_stack ya_liveMark ya_liveIdx ya_liveCell ya_dist ya_sb ya_ob := by
  intro k
  induction k with
  | zero =>
    intro i hi
    have e : i = 64 := by omega
    subst e
    rw [rl_cp64, rl_cp64, rl_cp64]
    exact br_t (nI_le (a := 64) (by omega) (by omega)) h
  | succ k ih =>
    intro i hi
    have := ih (i + 1) (by omega)
    rw [← rl_cpS rl_fW ya_edit w (by omega), ← rl_cpS rl_fG ya_edit g (by omega), ← rl_cpS rl_fB ya_edit b (by omega)] at this
    refine br_f (nI_ge (b := 64) (by omega) (by decide)) ⟨vp_in_nI (by omega) (by decide), nm_r (e' := ya_edit i) (by rw [nI_clamp (by omega)]) ?_⟩
    refine br_c (fun e => ?_) (fun e => ?_)
    · rw [show rl_fW (ya_edit i) = true from decide_eq_true e] at this
      exact ys_155 (z := true) (by omega) this
    · rw [show rl_fW (ya_edit i) = false from decide_eq_false e] at this
      exact ys_155 (z := false) (by omega) this
theorem ys_start0 {post : Int32 → SY → Prop} {yf_lim yf_hs yf_started yf_pu yf_moves yf_pushes yf_hn yf_solLen yf_nB yf_nL yf_curP yf_nextState : Int32} {ya_edit ya_hFrom ya_hBf ya_hBt ya_sol ya_reach ya_stack ya_liveMark ya_liveIdx ya_liveCell ya_dist ya_sb ya_ob : Nat → Int32} {w g b : Int64} (hP : gr_ct (fun c => rl_fP (ya_edit c)) 64 ≠ 1 → post (-8) (yf_lim, yf_hs, yf_started, yf_pu, yf_moves, yf_pushes, yf_hn, yf_solLen, yf_nB, yf_nL, yf_curP, yf_nextState, ya_edit, ce_A w, ce_A g, ce_A b, ya_hFrom, ya_hBf, ya_hBt, ya_sol, ya_reach, ya_stack, ya_liveMark, ya_liveIdx, ya_liveCell, ya_dist, ya_sb, ya_ob)) (hB : gr_ct (fun c => rl_fP (ya_edit c)) 64 = 1 → ¬ (1 ≤ gr_ct (fun c => rl_fB (ya_edit c)) 64 ∧ gr_ct (fun c => rl_fB (ya_edit c)) 64 ≤ 3) → post (-9) (yf_lim, yf_hs, yf_started, yf_pu, yf_moves, yf_pushes, yf_hn, yf_solLen, yf_nB, yf_nL, yf_curP, yf_nextState, ya_edit, ce_A w, ce_A g, ce_A b, ya_hFrom, ya_hBf, ya_hBt, ya_sol, ya_reach, ya_stack, ya_liveMark, ya_liveIdx, ya_liveCell, ya_dist, ya_sb, ya_ob))
    (hG : gr_ct (fun c => rl_fP (ya_edit c)) 64 = 1 → (1 ≤ gr_ct (fun c => rl_fB (ya_edit c)) 64 ∧ gr_ct (fun c => rl_fB (ya_edit c)) 64 ≤ 3) → gr_ct (fun c => rl_fG (ya_edit c)) 64 ≠ gr_ct (fun c => rl_fB (ya_edit c)) 64 → post (-10) (yf_lim, yf_hs, yf_started, yf_pu, yf_moves, yf_pushes, yf_hn, yf_solLen, yf_nB, yf_nL, yf_curP, yf_nextState, ya_edit, ce_A w, ce_A g, ce_A b, ya_hFrom, ya_hBf, ya_hBt, ya_sol, ya_reach, ya_stack, ya_liveMark, ya_liveIdx, ya_liveCell, ya_dist, ya_sb, ya_ob))
    (hO : gr_ct (fun c => rl_fP (ya_edit c)) 64 = 1 → (1 ≤ gr_ct (fun c => rl_fB (ya_edit c)) 64 ∧ gr_ct (fun c => rl_fB (ya_edit c)) 64 ≤ 3) → gr_ct (fun c => rl_fG (ya_edit c)) 64 = gr_ct (fun c => rl_fB (ya_edit c)) 64 → post 0 (yf_lim, yf_hs, 1, rl_pc ya_edit yf_pu 64, 0, 0, 0, 0, yf_nB, yf_nL, yf_curP, yf_nextState, ya_edit, ce_A (rl_mk rl_fW ya_edit 64), ce_A (rl_mk rl_fG ya_edit 64), ce_A (rl_mk rl_fB ya_edit 64), ya_hFrom, ya_hBf, ya_hBt, ya_sol, ya_reach, ya_stack, ya_liveMark, ya_liveIdx, ya_liveCell, ya_dist, ya_sb, ya_ob)) :
    ∀ k i, i + k = 64 → wY_start_9 post yf_lim yf_hs yf_started yf_pu yf_moves yf_pushes yf_hn yf_solLen yf_nB yf_nL yf_curP yf_nextState ya_edit (ce_A w) (ce_A g) (ce_A b) ya_hFrom ya_hBf ya_hBt ya_sol ya_reach ya_stack ya_liveMark ya_liveIdx ya_liveCell ya_dist ya_sb ya_ob (k + 1) (nI (gr_ct (fun c => rl_fP (ya_edit c)) i)) (nI (gr_ct (fun c => rl_fB (ya_edit c)) i)) (nI (gr_ct (fun c => rl_fG (ya_edit c)) i)) (nI i) := by
  intro k
  induction k with
  | zero =>
    intro i hi
    have e : i = 64 := by omega
    subst e
    have l1 := gr_ct_len (fun c => rl_fP (ya_edit c)) 64
    have l2 := gr_ct_len (fun c => rl_fB (ya_edit c)) 64
    have l3 := gr_ct_len (fun c => rl_fG (ya_edit c)) 64
    refine br_t (nI_le (a := 64) (by omega) (by omega)) (pk_eq (gr_ct (fun c => rl_fP (ya_edit c)) 64) 1 (fun a => ?_) hP)
    refine pk_lt (gr_ct (fun c => rl_fB (ya_edit c)) 64) 1 (fun q => hB a (by omega)) (fun q => pk_le (gr_ct (fun c => rl_fB (ya_edit c)) 64) 3 (fun c => ?_) (fun c => hB a (by omega)))
    refine pk_eq (gr_ct (fun c => rl_fG (ya_edit c)) 64) (gr_ct (fun c => rl_fB (ya_edit c)) 64) (fun d => ?_) (fun d => hG a ⟨q, c⟩ d)
    have := ys_121 (yf_started := yf_started) (yf_moves := yf_moves) (yf_pushes := yf_pushes) (yf_hn := yf_hn) (yf_solLen := yf_solLen) (w := w) (g := g) (b := b) (hO a ⟨q, c⟩ d) 64 0 (by omega)
    rw [rl_cp0, rl_cp0, rl_cp0] at this
    exact ⟨65, this⟩
  | succ k ih =>
    intro i hi
    have := ih (i + 1) (by omega)
    rw [← rl_ctI, ← rl_ctI, ← rl_ctI, ← nI_1] at this
    exact br_f (nI_ge (b := 64) (by omega) (by decide)) ⟨vp_in_nI (by omega) (by decide), nm_r (e' := ya_edit i) (by rw [nI_clamp (by omega)]) (ys_c this)⟩
theorem i_vc_start {k : Nat} {u : SX} {v : SY} (I : i_Rel k u v) (hk : k + 4 ≤ 2050) : wpX_start (fun r u' => wpY_start (fun r' v' => r' = r ∧ i_Rel (k + 4) u' v') v) u := by
  obtain ⟨f_pushLimit, f_historyLimit, f_started, f_walls, f_goals, f_boxes, f_liveCells, f_liveTotal, f_boxTotal, f_pusherCell, f_moves, f_pushes, f_historyNext, f_historyTotal, f_storedTotal, f_nodeTotal, a_editGrid, a_liveRank, a_historyBoxes, a_historyPusher, a_storedPushes, a_nodeBoxes, a_nodePusher, a_nodeParent, a_nodeCode, a_nodeDepth, a_nodeMet⟩ := u
  obtain ⟨yf_lim, yf_hs, yf_started, yf_pu, yf_moves, yf_pushes, yf_hn, yf_solLen, yf_nB, yf_nL, yf_curP, yf_nextState, ya_edit, ya_wall, ya_goal, ya_box, ya_hFrom, ya_hBf, ya_hBt, ya_sol, ya_reach, ya_stack, ya_liveMark, ya_liveIdx, ya_liveCell, ya_dist, ya_sb, ya_ob⟩ := v
  have I0 := I
  obtain ⟨P, H, ⟨p1, p2, p3, p4, rfl, rfl, rfl, rfl, rfl, rfl, rfl, rfl, rfl⟩, hS⟩ := I
  refine ⟨65, xs_start0 (fun a => ?_) (fun a b => ?_) (fun a b c => ?_) (fun a b c lr hlr => ?_) 64 0 (by omega)⟩
  · exact ⟨65, ys_start0 (fun _ => ⟨rfl, I0⟩) (fun a' => absurd a' a) (fun a' => absurd a' a) (fun a' => absurd a' a) 64 0 (by omega)⟩
  · exact ⟨65, ys_start0 (fun a' => absurd a a') (fun _ _ => ⟨rfl, I0⟩) (fun _ b' => absurd b' b) (fun _ b' => absurd b' b) 64 0 (by omega)⟩
  · exact ⟨65, ys_start0 (fun a' => absurd a a') (fun _ b' => absurd b b') (fun _ _ _ => ⟨rfl, I0⟩) (fun _ _ c' => absurd c' c) 64 0 (by omega)⟩
  · refine ⟨65, ys_start0 (fun a' => absurd a a') (fun _ b' => absurd b b') (fun _ _ c' => absurd c c') (fun _ _ _ => ⟨rfl, ?_⟩) 64 0 (by omega)⟩
    obtain ⟨p, hp, hpf, hpc⟩ := rl_pc1 64 (Nat.le_of_eq a.symm)
    have hW : ∀ c, c < 64 → ce_b (rl_mk rl_fW a_editGrid 64) c = true → a_editGrid c = 35 := fun c hc h => by rw [rl_mk64 _ _ hc] at h; exact of_decide_eq_true h
    refine ⟨P, H, ⟨p1, p2, p3, p4, rfl, rfl, rfl, rfl, rfl, rfl, rfl, rfl, rfl⟩, Or.inr ⟨gr_ct (fun c => rl_fB (a_editGrid c)) 64, p, 0, 0, 0, rfl, rfl, rfl, b.1, b.2, rfl, (hpc _).symm, (hpc _).symm, rfl, rfl, hlr, fun c hc => ?_, by rw [rl_mkrk]; exact c, by omega, by omega, rfl, rfl, rfl, rl_H0 ⟨hp, ?_, ?_, fun c hc => ?_, rl_mkrk _ _⟩, by omega, rfl, rfl, fun i hi => by omega⟩⟩
    · apply ts_nt
      intro z
      have h64 := ce_lt hc
      rw [rl_mk64 _ _ h64] at hc
      have := hW c h64 z
      rw [this] at hc
      exact absurd hc (by decide)
    · apply ts_nt
      intro z
      have := hW p hp z
      rw [this] at hpf
      exact absurd hpf (by decide)
    · apply ts_nt
      intro z
      rw [rl_mk64 _ _ hp] at z
      have z := of_decide_eq_true z
      have hpf := of_decide_eq_true hpf
      rcases z with z | z <;> rcases hpf with q | q <;> rw [z] at q <;> exact absurd q (by decide)
    · apply ts_nt
      intro z
      have h64 := ce_lt hc
      rw [rl_mk64 _ _ h64] at hc
      have := hW c h64 z
      rw [this] at hc
      exact absurd hc (by decide)
end
section
/-! the class's search: nodes -/
theorem xs_num0 {post : Int32 → Prop} {L p : Nat} {lv b : Int64} {f_pushLimit f_historyLimit f_started : Int32} {f_walls f_goals f_boxes f_liveCells : Int64} {f_boxTotal f_pusherCell f_moves f_pushes f_historyNext f_historyTotal f_storedTotal f_nodeTotal : Int32} {a_editGrid a_liveRank : Nat → Int32} {a_historyBoxes : Nat → Int64} {a_historyPusher a_storedPushes : Nat → Int32} {a_nodeBoxes : Nat → Int64} {a_nodePusher a_nodeParent a_nodeCode a_nodeDepth a_nodeMet : Nat → Int32} (hlr : ∀ c, c < 64 → a_liveRank c = nI (ce_rk lv c)) (h : post (nI (gr_no L lv (b, p)))) :
    ∀ k i, i + k = 64 → wX_nodeNumber_6 post b (nI p) f_pushLimit f_historyLimit f_started f_walls f_goals f_boxes f_liveCells (nI L) f_boxTotal f_pusherCell f_moves f_pushes f_historyNext f_historyTotal f_storedTotal f_nodeTotal a_editGrid a_liveRank a_historyBoxes a_historyPusher a_storedPushes a_nodeBoxes a_nodePusher a_nodeParent a_nodeCode a_nodeDepth a_nodeMet (k + 1) (nI (gr_nm L lv b i)) (nI i) := by
  intro k
  induction k with
  | zero =>
    intro i hi
    have e : i = 64 := by omega
    subst e
    refine br_t (nI_le (a := 64) (by omega) (by omega)) ?_
    show post (nI (gr_nm L lv b 64) * nI 64 + nI p)
    rw [pk_mul, nI_add]
    exact h
  | succ k ih =>
    intro i hi
    have := ih (i + 1) (by omega)
    refine br_f (nI_ge (b := 64) (by omega) (by decide)) ?_
    cases hb : ce_b b i
    · rw [gr_nm, hb] at this
      exact br_t ((ce_has b (by omega)).mpr hb) (nm_r (nI_1 i) this)
    · rw [gr_nm, hb] at this
      refine br_f (fun q => by rw [(ce_has b (by omega)).mp q] at hb; cases hb) ⟨vp_in_nI (by omega) (by decide), nm_r (e' := nI (gr_nm L lv b i * L + ce_rk lv i)) (by rw [nI_clamp (n := i) (by omega), hlr i (by omega), pk_mul, nI_add]) (nm_r (nI_1 i) this)⟩
theorem xs_num {post : Int32 → Prop} {L p : Nat} {lv b : Int64} {f_pushLimit f_historyLimit f_started : Int32} {f_walls f_goals f_boxes f_liveCells : Int64} {f_boxTotal f_pusherCell f_moves f_pushes f_historyNext f_historyTotal f_storedTotal f_nodeTotal : Int32} {a_editGrid a_liveRank : Nat → Int32} {a_historyBoxes : Nat → Int64} {a_historyPusher a_storedPushes : Nat → Int32} {a_nodeBoxes : Nat → Int64} {a_nodePusher a_nodeParent a_nodeCode a_nodeDepth a_nodeMet : Nat → Int32} (hlr : ∀ c, c < 64 → a_liveRank c = nI (ce_rk lv c)) (h : post (nI (gr_no L lv (b, p)))) : wpX_nodeNumber post (f_pushLimit, f_historyLimit, f_started, f_walls, f_goals, f_boxes, f_liveCells, nI L, f_boxTotal, f_pusherCell, f_moves, f_pushes, f_historyNext, f_historyTotal, f_storedTotal, f_nodeTotal, a_editGrid, a_liveRank, a_historyBoxes, a_historyPusher, a_storedPushes, a_nodeBoxes, a_nodePusher, a_nodeParent, a_nodeCode, a_nodeDepth, a_nodeMet) b (nI p) :=
  ⟨65, xs_num0 hlr h 64 0 (by omega)⟩
theorem xs_107 {post : Int32 → SX → Prop} {f_pushLimit f_historyLimit f_started : Int32} {f_walls f_goals f_boxes f_liveCells : Int64} {f_liveTotal f_boxTotal f_pusherCell f_moves f_pushes f_historyNext f_historyTotal f_storedTotal : Int32} {a_editGrid a_liveRank : Nat → Int32} {a_historyBoxes : Nat → Int64} {a_historyPusher a_storedPushes : Nat → Int32} {a_nodeBoxes : Nat → Int64} {a_nodePusher a_nodeParent a_nodeCode a_nodeDepth a_nodeMet : Nat → Int32} {N : Nat} {z0 : Int32} (hN : N < 3840) (h : post 1 (f_pushLimit, f_historyLimit, f_started, f_walls, f_goals, f_boxes, f_liveCells, f_liveTotal, f_boxTotal, f_pusherCell, f_moves, f_pushes, f_historyNext, f_historyTotal, f_storedTotal, nI (N + 1), a_editGrid, a_liveRank, a_historyBoxes, a_historyPusher, a_storedPushes, a_nodeBoxes, a_nodePusher, a_nodeParent, a_nodeCode, upd a_nodeDepth N z0, a_nodeMet)) : wX_addNode_107 post z0 (nI N) f_pushLimit f_historyLimit f_started f_walls f_goals f_boxes f_liveCells f_liveTotal f_boxTotal f_pusherCell f_moves f_pushes f_historyNext f_historyTotal f_storedTotal (nI N) a_editGrid a_liveRank a_historyBoxes a_historyPusher a_storedPushes a_nodeBoxes a_nodePusher a_nodeParent a_nodeCode a_nodeDepth a_nodeMet :=
  ⟨vp_in_nI hN (by decide), nm_r (e' := upd a_nodeDepth N z0) (by rw [nI_clamp (by omega)]) (nm_r (nI_1 N) h)⟩
theorem xs_add {post : Int32 → SX → Prop} {L p N : Nat} {lv b : Int64} {mt : Nat → Bool} {par cod dep : Int32} {f_pushLimit f_historyLimit f_started : Int32} {f_walls f_goals f_boxes f_liveCells : Int64} {f_boxTotal f_pusherCell f_moves f_pushes f_historyNext f_historyTotal f_storedTotal : Int32} {a_editGrid a_liveRank : Nat → Int32} {a_historyBoxes : Nat → Int64} {a_historyPusher a_storedPushes : Nat → Int32} {a_nodeBoxes : Nat → Int64} {a_nodePusher a_nodeParent a_nodeCode a_nodeDepth a_nodeMet : Nat → Int32} (hlr : ∀ c, c < 64 → a_liveRank c = nI (ce_rk lv c)) (hno : gr_no L lv (b, p) < 13824) (hmt : ∀ x, x < 13824 → a_nodeMet x = rl_1 (mt x)) (hN : mt (gr_no L lv (b, p)) = false → N < 3840)
    (hdep : (par = -1 ∧ dep = 0) ∨ ∃ j, j < 3840 ∧ par = nI j ∧ dep = a_nodeDepth j + 1)
    (h0 : mt (gr_no L lv (b, p)) = true → post 0 (f_pushLimit, f_historyLimit, f_started, f_walls, f_goals, f_boxes, f_liveCells, nI L, f_boxTotal, f_pusherCell, f_moves, f_pushes, f_historyNext, f_historyTotal, f_storedTotal, nI N, a_editGrid, a_liveRank, a_historyBoxes, a_historyPusher, a_storedPushes, a_nodeBoxes, a_nodePusher, a_nodeParent, a_nodeCode, a_nodeDepth, a_nodeMet))
    (h1 : mt (gr_no L lv (b, p)) = false → post 1 (f_pushLimit, f_historyLimit, f_started, f_walls, f_goals, f_boxes, f_liveCells, nI L, f_boxTotal, f_pusherCell, f_moves, f_pushes, f_historyNext, f_historyTotal, f_storedTotal, nI (N + 1), a_editGrid, a_liveRank, a_historyBoxes, a_historyPusher, a_storedPushes, vp_updL a_nodeBoxes N b, upd a_nodePusher N (nI p), upd a_nodeParent N par, upd a_nodeCode N cod, upd a_nodeDepth N dep, upd a_nodeMet (gr_no L lv (b, p)) 1)) :
    wpX_addNode post (f_pushLimit, f_historyLimit, f_started, f_walls, f_goals, f_boxes, f_liveCells, nI L, f_boxTotal, f_pusherCell, f_moves, f_pushes, f_historyNext, f_historyTotal, f_storedTotal, nI N, a_editGrid, a_liveRank, a_historyBoxes, a_historyPusher, a_storedPushes, a_nodeBoxes, a_nodePusher, a_nodeParent, a_nodeCode, a_nodeDepth, a_nodeMet) b (nI p) par cod := by
  unfold wpX_addNode
  refine xs_num hlr ⟨vp_in_nI hno (by decide), ?_⟩
  have ec : (nI (gr_no L lv (b, p))).toNatClampNeg = gr_no L lv (b, p) := nI_clamp (by omega)
  rw [ec, hmt _ hno]
  refine rl_br (fun e => ?_) (fun e => h0 e)
  have hN := hN e
  have eN : (nI N).toNatClampNeg = N := nI_clamp (by omega)
  have vN : vp_in (nI N) 3840 := vp_in_nI hN (by decide)
  refine br_t (nI_lt (b := 3840) hN (by decide)) ⟨vp_in_nI hno (by decide), nm_r (e' := upd a_nodeMet (gr_no L lv (b, p)) 1) (by rw [rl_b1]) ⟨vN, nm_r (e' := vp_updL a_nodeBoxes N b) (by rw [eN]) ⟨vN, nm_r (e' := upd a_nodePusher N (nI p)) (by rw [eN]) ⟨vN, nm_r (e' := upd a_nodeParent N par) (by rw [eN]) ⟨vN, nm_r (e' := upd a_nodeCode N cod) (by rw [eN]) ?_⟩⟩⟩⟩⟩
  rcases hdep with ⟨e1, e2⟩ | ⟨j, hj, e1, e2⟩
  · subst e2
    exact br_t e1 (xs_107 hN (h1 e))
  · subst e1
    subst e2
    refine br_f (fun q => ?_) ⟨vp_in_nI hj (by decide), ?_⟩
    · have := nI_pos (n := j) (by omega)
      rw [q] at this
      exact this (by decide)
    · rw [nI_clamp (n := j) (by omega)]
      exact xs_107 hN (h1 e)
/-- what the arrays of the search hold -/
def xs_K (w g lv : Int64) (k L : Nat) (rt : Int64 × Nat) (N : Nat) (nb : Nat → Int64) (np pr cd dp me : Nat → Int32) (j c : Nat) (nd : Nat → Int64 × Nat) (pa co de : Nat → Nat) (mt : Nat → Bool) : Prop :=
  gr_B (gr_step w lv) (gr_so g) rt nd pa co de N j c ∧ (∀ i, i < N → nb i = (nd i).1 ∧ np i = nI (nd i).2 ∧ dp i = nI (de i) ∧ (0 < i → pr i = nI (pa i) ∧ cd i = nI (co i))) ∧ (∀ i, i < N → gr_ok w lv k (nd i)) ∧
  (∀ x, x < 13824 → me x = rl_1 (mt x)) ∧ (∀ x, mt x = true ↔ ∃ q, q < N ∧ gr_no L lv (nd q) = x) ∧ gr_ct mt (64 * L ^ k) = N
def xs_Fd (w g lv : Int64) (P : Nat) (rt : Int64 × Nat) (F : Nat) (pr cd dp : Nat → Int32) : Prop :=
  ∃ (nd : Nat → Int64 × Nat) (pa co de : Nat → Nat), gr_F (gr_step w lv) (gr_so g) rt nd pa co de F ∧ F < 3840 ∧ de F ≤ P ∧ dp F = nI (de F) ∧ ∀ i, 0 < i → i ≤ F → pr i = nI (pa i) ∧ cd i = nI (co i)
theorem xs_Kroom {w g lv : Int64} {k L : Nat} {rt : Int64 × Nat} {N : Nat} {nb : Nat → Int64} {np pr cd dp me : Nat → Int32} {j c : Nat} {nd : Nat → Int64 × Nat} {pa co de : Nat → Nat} {mt : Nat → Bool} (hL : ce_rk lv 64 = L) (hf : gr_fit k L) (h : xs_K w g lv k L rt N nb np pr cd dp me j c nd pa co de mt) : N ≤ 3840 ∧ ∀ t, gr_ok w lv k t → mt (gr_no L lv t) = false → N < 3840 := by
  obtain ⟨h1, h2, h3, h4, h5, h6⟩ := h
  have hm : ∀ i, mt i = true → gr_v L k (i / 64) = true ∧ i < 64 * L ^ k := by
    intro i hi
    obtain ⟨q, q1, q2⟩ := (h5 i).mp hi
    subst q2
    have := gr_no_v hL hf (h3 q q1)
    exact ⟨this.1, this.2.1⟩
  refine ⟨(gr_room (x := 0) hf hm h6).1, fun t ht hmt => ?_⟩
  have := gr_no_v hL hf ht
  exact (gr_room hf hm h6).2 this.1 this.2.1 hmt
theorem xs_Knext {w g lv : Int64} {k L : Nat} {rt : Int64 × Nat} {N : Nat} {nb : Nat → Int64} {np pr cd dp me : Nat → Int32} {j : Nat} {nd : Nat → Int64 × Nat} {pa co de : Nat → Nat} {mt : Nat → Bool} (h : xs_K w g lv k L rt N nb np pr cd dp me j 256 nd pa co de mt) : xs_K w g lv k L rt N nb np pr cd dp me (j + 1) 0 nd pa co de mt :=
  ⟨gr_Bnext _ _ h.1, h.2⟩
theorem xs_Knone {w g lv : Int64} {k L : Nat} {rt : Int64 × Nat} {N : Nat} {nb : Nat → Int64} {np pr cd dp me : Nat → Int32} {j c : Nat} {nd : Nat → Int64 × Nat} {pa co de : Nat → Nat} {mt : Nat → Bool} (h : xs_K w g lv k L rt N nb np pr cd dp me j c nd pa co de mt) (hs : gr_step w lv (nd j) c = none) : xs_K w g lv k L rt N nb np pr cd dp me j (c + 1) nd pa co de mt :=
  ⟨gr_Bnone _ _ h.1 hs, h.2⟩
theorem xs_Kmet {w g lv : Int64} {k L : Nat} {rt : Int64 × Nat} {N : Nat} {nb : Nat → Int64} {np pr cd dp me : Nat → Int32} {j c : Nat} {nd : Nat → Int64 × Nat} {pa co de : Nat → Nat} {mt : Nat → Bool} {t : Int64 × Nat} (hL : ce_rk lv 64 = L) (h : xs_K w g lv k L rt N nb np pr cd dp me j c nd pa co de mt) (hs : gr_step w lv (nd j) c = some t) (ht : gr_ok w lv k t) (hm : mt (gr_no L lv t) = true) : xs_K w g lv k L rt N nb np pr cd dp me j (c + 1) nd pa co de mt := by
  obtain ⟨q, q1, q2⟩ := (h.2.2.2.2.1 _).mp hm
  have e : nd q = t := gr_no_inj hL (h.2.2.1 q q1) ht q2
  rw [← e] at hs
  exact ⟨gr_Bmet _ _ h.1 q1 hs, h.2⟩
theorem xs_Kadd {w g lv : Int64} {k L : Nat} {rt : Int64 × Nat} {N : Nat} {nb : Nat → Int64} {np pr cd dp me : Nat → Int32} {j c : Nat} {nd : Nat → Int64 × Nat} {pa co de : Nat → Nat} {mt : Nat → Bool} {t : Int64 × Nat} (hL : ce_rk lv 64 = L) (hf : gr_fit k L) (h : xs_K w g lv k L rt N nb np pr cd dp me j c nd pa co de mt) (hj : j < N) (hc : c < 256) (hs : gr_step w lv (nd j) c = some t) (ht : gr_ok w lv k t) (hm : mt (gr_no L lv t) = false) :
    (gr_so g t → xs_Fd w g lv (de j + 1) rt N (upd pr N (nI j)) (upd cd N (nI c)) (upd dp N (nI (de j) + 1))) ∧
    (¬ gr_so g t → ∃ nd' pa' co' de' mt', xs_K w g lv k L rt (N + 1) (vp_updL nb N t.1) (upd np N (nI t.2)) (upd pr N (nI j)) (upd cd N (nI c)) (upd dp N (nI (de j) + 1)) (upd me (gr_no L lv t) 1) j (c + 1) nd' pa' co' de' mt' ∧ nd' j = nd j ∧ de' j = de j) := by
  obtain ⟨hN1, hN2⟩ := xs_Kroom hL hf h
  have hN := hN2 t ht hm
  obtain ⟨h1, h2, h3, h4, h5, h6⟩ := h
  have hv := gr_no_v hL hf ht
  have hk : ∀ i, i < N → (fun i => if i = N then t else nd i) i = nd i ∧ (fun i => if i = N then j else pa i) i = pa i ∧ (fun i => if i = N then c else co i) i = co i ∧ (fun i => if i = N then de j + 1 else de i) i = de i := by
    intro i hi
    have : ¬ i = N := by omega
    simp only [this, if_false, and_self]
  constructor
  · intro hso
    refine ⟨fun i => if i = N then t else nd i, fun i => if i = N then j else pa i, fun i => if i = N then c else co i, fun i => if i = N then de j + 1 else de i, gr_Bfound _ _ h1 hj hc hs hso hk (if_pos rfl) (if_pos rfl) (if_pos rfl) (if_pos rfl), hN, ?_, ?_, fun i hi0 hi => ?_⟩
    · show (if N = N then de j + 1 else de N) ≤ de j + 1
      rw [if_pos rfl]; exact Nat.le_refl _
    · show upd dp N (nI (de j) + 1) N = nI (if N = N then de j + 1 else de N)
      rw [pk_us, if_pos rfl, nI_1]
    · show upd pr N (nI j) i = nI (if i = N then j else pa i) ∧ upd cd N (nI c) i = nI (if i = N then c else co i)
      by_cases q : i = N
      · subst q; rw [pk_us, pk_us, if_pos rfl, if_pos rfl]; exact ⟨rfl, rfl⟩
      · rw [pk_un q, pk_un q, if_neg q, if_neg q]; exact (h2 i (by omega)).2.2.2 hi0
  · intro hso
    refine ⟨fun i => if i = N then t else nd i, fun i => if i = N then j else pa i, fun i => if i = N then c else co i, fun i => if i = N then de j + 1 else de i, fun x => decide (x = gr_no L lv t) || mt x, ⟨gr_Badd _ _ h1 hj hc hs hso hk (if_pos rfl) (if_pos rfl) (if_pos rfl) (if_pos rfl), fun i hi => ?_, fun i hi => ?_, fun x hx => ?_, fun x => ?_, ?_⟩, (hk j hj).1, (hk j hj).2.2.2⟩
    · show vp_updL nb N t.1 i = (if i = N then t else nd i).1 ∧ upd np N (nI t.2) i = nI (if i = N then t else nd i).2 ∧ upd dp N (nI (de j) + 1) i = nI (if i = N then de j + 1 else de i) ∧ (0 < i → upd pr N (nI j) i = nI (if i = N then j else pa i) ∧ upd cd N (nI c) i = nI (if i = N then c else co i))
      by_cases q : i = N
      · subst q
        simp only [pk_uLs, pk_us, if_true, nI_1]
        exact ⟨trivial, trivial, trivial, fun _ => ⟨trivial, trivial⟩⟩
      · rw [pk_uLn q, pk_un q, pk_un q, pk_un q, pk_un q, if_neg q, if_neg q, if_neg q, if_neg q]
        exact h2 i (by omega)
    · show gr_ok w lv k (if i = N then t else nd i)
      by_cases q : i = N
      · rw [if_pos q]; exact ht
      · rw [if_neg q]; exact h3 i (by omega)
    · show upd me (gr_no L lv t) 1 x = rl_1 (decide (x = gr_no L lv t) || mt x)
      by_cases q : x = gr_no L lv t
      · rw [q, pk_us, decide_eq_true rfl]; rfl
      · rw [pk_un q, decide_eq_false q]; exact h4 x hx
    · show (decide (x = gr_no L lv t) || mt x) = true ↔ ∃ q, q < N + 1 ∧ gr_no L lv (if q = N then t else nd q) = x
      rw [Bool.or_eq_true, decide_eq_true_eq, h5]
      constructor
      · rintro (q | ⟨q, q1, q2⟩)
        · exact ⟨N, by omega, by rw [if_pos rfl]; exact q.symm⟩
        · exact ⟨q, by omega, by rw [if_neg (by omega)]; exact q2⟩
      · rintro ⟨q, q1, q2⟩
        by_cases e : q = N
        · rw [if_pos e] at q2; exact Or.inl q2.symm
        · rw [if_neg e] at q2; exact Or.inr ⟨q, by omega, q2⟩
    · have := gr_ct_set (f := mt) (g := fun x => decide (x = gr_no L lv t) || mt x) (x := gr_no L lv t) hm (by simp) (fun i hi => by simp [hi]) (64 * L ^ k)
      rw [this, if_pos hv.2.1, h6]
end
section
/-! the class's search: expanding, finding, storing -/
theorem gr_step_n {w lv : Int64} {s : Int64 × Nat} {c : Nat} (h : ¬ (ce_b s.1 (c / 4) = true ∧ ce_n (c / 4) (c % 4) < 64 ∧ ce_b w (ce_n (c / 4) (c % 4)) = false ∧ ce_b s.1 (ce_n (c / 4) (c % 4)) = false ∧ ce_b (gr_area w s.1 s.2) (ce_n (c / 4) ((c % 4 + 2) % 4)) = true ∧ ce_b lv (ce_n (c / 4) (c % 4)) = true)) : gr_step w lv s c = none := if_neg h
theorem gr_step_s {w lv : Int64} {s : Int64 × Nat} {c : Nat} (h : ce_b s.1 (c / 4) = true ∧ ce_n (c / 4) (c % 4) < 64 ∧ ce_b w (ce_n (c / 4) (c % 4)) = false ∧ ce_b s.1 (ce_n (c / 4) (c % 4)) = false ∧ ce_b (gr_area w s.1 s.2) (ce_n (c / 4) ((c % 4 + 2) % 4)) = true ∧ ce_b lv (ce_n (c / 4) (c % 4)) = true) : gr_step w lv s c = some (gr_mv s.1 (c / 4) (ce_n (c / 4) (c % 4)), c / 4) := if_pos h
def xs_E (w g lv : Int64) (k L : Nat) (rt : Int64 × Nat) (N : Nat) (nb : Nat → Int64) (np pr cd dp me : Nat → Int32) (j c : Nat) (b0 : Int64) (p0 D0 : Nat) : Prop :=
  ∃ nd pa co de mt, xs_K w g lv k L rt N nb np pr cd dp me j c nd pa co de mt ∧ j < N ∧ nd j = (b0, p0) ∧ de j = D0
theorem xs_exp0 {post : Int32 → SX → Prop} {k L P j p0 D0 : Nat} {b0 : Int64} {rt : Int64 × Nat} {f_pushLimit f_historyLimit f_started : Int32} {f_walls f_goals f_boxes f_liveCells : Int64} {f_boxTotal f_pusherCell f_moves f_pushes f_historyNext f_historyTotal f_storedTotal : Int32} {a_editGrid a_liveRank : Nat → Int32} {a_historyBoxes : Nat → Int64} {a_historyPusher a_storedPushes : Nat → Int32} (hL : ce_rk f_liveCells 64 = L) (hf : gr_fit k L) (hlw : ∀ c, ce_b f_liveCells c = true → ce_b f_walls c = false) (hlr : ∀ c, c < 64 → a_liveRank c = nI (ce_rk f_liveCells c)) (hj : j < 3840) (hD : D0 < P)
    (hnone : ∀ N nb np pr cd dp me, xs_E f_walls f_goals f_liveCells k L rt N nb np pr cd dp me j 256 b0 p0 D0 → post (-1) (f_pushLimit, f_historyLimit, f_started, f_walls, f_goals, f_boxes, f_liveCells, nI L, f_boxTotal, f_pusherCell, f_moves, f_pushes, f_historyNext, f_historyTotal, f_storedTotal, nI N, a_editGrid, a_liveRank, a_historyBoxes, a_historyPusher, a_storedPushes, nb, np, pr, cd, dp, me))
    (hfound : ∀ F xN nb np pr cd dp me, xs_Fd f_walls f_goals f_liveCells P rt F pr cd dp → post (nI F) (f_pushLimit, f_historyLimit, f_started, f_walls, f_goals, f_boxes, f_liveCells, nI L, f_boxTotal, f_pusherCell, f_moves, f_pushes, f_historyNext, f_historyTotal, f_storedTotal, xN, a_editGrid, a_liveRank, a_historyBoxes, a_historyPusher, a_storedPushes, nb, np, pr, cd, dp, me)) :
    ∀ q c N nb np pr cd dp me, c + q = 256 → xs_E f_walls f_goals f_liveCells k L rt N nb np pr cd dp me j c b0 p0 D0 → wX_expandNode_23 post (nI j) b0 (gr_area f_walls b0 p0) (q + 1) (nI c) f_pushLimit f_historyLimit f_started f_walls f_goals f_boxes f_liveCells (nI L) f_boxTotal f_pusherCell f_moves f_pushes f_historyNext f_historyTotal f_storedTotal (nI N) a_editGrid a_liveRank a_historyBoxes a_historyPusher a_storedPushes (nb) (np) (pr) (cd) (dp) (me) := by
  intro q
  induction q with
  | zero =>
    intro c N nb np pr cd dp me hc h
    have e : c = 256 := by omega
    subst e
    exact br_t (nI_le (a := 256) (by omega) (by omega)) (hnone N nb np pr cd dp me h)
  | succ q ih =>
    intro c N nb np pr cd dp me hc h
    obtain ⟨nd, pa, co, de, mt, hK, hjN, hnd, hde⟩ := h
    have hok := hK.2.2.1 j hjN
    rw [hnd] at hok
    have e1 : nI c / 4 = nI (c / 4) := pk_div (d := 4) (by omega) (by decide) (by decide)
    have e2 : nI c - nI c / 4 * 4 = nI (c % 4) := pk_rem (d := 4) (by omega) (by decide) (by decide)
    have hx : c / 4 < 64 := by omega
    have hd : c % 4 < 4 := by omega
    have skip : gr_step f_walls f_liveCells (b0, p0) c = none → wX_expandNode_23 post (nI j) b0 (gr_area f_walls b0 p0) (q + 1) (nI (c + 1)) f_pushLimit f_historyLimit f_started f_walls f_goals f_boxes f_liveCells (nI L) f_boxTotal f_pusherCell f_moves f_pushes f_historyNext f_historyTotal f_storedTotal (nI N) a_editGrid a_liveRank a_historyBoxes a_historyPusher a_storedPushes (nb) (np) (pr) (cd) (dp) (me) := fun hs =>
      ih (c + 1) N nb np pr cd dp me (by omega) ⟨nd, pa, co, de, mt, xs_Knone hK (by rw [hnd]; exact hs), hjN, hnd, hde⟩
    refine br_f (nI_ge (b := 256) (by omega) (by decide)) ⟨by decide, nm_r e1 ⟨by decide, nm_r e2 (xs_hasN hx ?_)⟩⟩
    cases xb : ce_b b0 (c / 4)
    · exact br_t (ce_Af xb) (nm_r (nI_1 c) (skip (gr_step_n (fun z => by rw [xb] at z; cases z.1))))
    · refine br_f (by rw [ce_At xb]; decide) (xs_nb hx hd (xs_behind hx hd (xs_free (ce_n_le _ _) ?_)))
      have no97 : gr_step f_walls f_liveCells (b0, p0) c = none → wX_expandNode_97 post (wX_expandNode_23 post (nI j) b0 (gr_area f_walls b0 p0) (q + 1)) (nI j) b0 (gr_area f_walls b0 p0) (nI c) (nI (c / 4)) (ce_I (ce_n (c / 4) (c % 4))) f_pushLimit f_historyLimit f_started f_walls f_goals f_boxes f_liveCells (nI L) f_boxTotal f_pusherCell f_moves f_pushes f_historyNext f_historyTotal f_storedTotal (nI N) a_editGrid a_liveRank a_historyBoxes a_historyPusher a_storedPushes (nb) (np) (pr) (cd) (dp) (me) := fun hs => br_t rfl (nm_r (nI_1 c) (skip hs))
      refine br_c (fun z => no97 (gr_step_n (fun y => gr_fn z ⟨y.2.1, y.2.2.1, y.2.2.2.1⟩))) (fun z => xs_has (ce_n_le _ _) ?_)
      have hfr := gr_fz z
      cases ar : ce_b (gr_area f_walls b0 p0) (ce_n (c / 4) ((c % 4 + 2) % 4))
      · exact br_t (ce_Af ar) (no97 (gr_step_n (fun y => by rw [ar] at y; cases y.2.2.2.2.1)))
      · refine br_f (by rw [ce_At ar]; decide) (br_f (by decide) ?_)
        rw [ce_I_in hfr.1]
        refine xs_hasN hfr.1 ?_
        cases lv : ce_b f_liveCells (ce_n (c / 4) (c % 4))
        · exact br_t (ce_Af lv) (nm_r (nI_1 c) (skip (gr_step_n (fun y => by rw [lv] at y; cases y.2.2.2.2.2))))
        · have hs : gr_step f_walls f_liveCells (b0, p0) c = some (gr_mv b0 (c / 4) (ce_n (c / 4) (c % 4)), c / 4) := gr_step_s ⟨xb, hfr.1, hfr.2.1, hfr.2.2, ar, lv⟩
          have ht := gr_step_ok hlw hok hs
          have hs' := hs
          rw [← hnd] at hs'
          have hv := gr_no_v hL hf ht
          refine br_f (by rw [ce_At lv]; decide) (xs_bit (xs_bit (nm_r (e' := gr_mv b0 (c / 4) (ce_n (c / 4) (c % 4))) rfl ?_)))
          refine xs_add (mt := mt) (dep := dp j + 1) hlr hv.2.2 hK.2.2.2.1 (fun z => (xs_Kroom hL hf hK).2 _ ht z) (Or.inr ⟨j, hj, rfl, rfl⟩) (fun hm => ?_) (fun hm => ?_)
          · exact br_t rfl (nm_r (nI_1 c) (ih (c + 1) N nb np pr cd dp me (by omega) ⟨nd, pa, co, de, mt, xs_Kmet hL hK hs' ht hm, hjN, hnd, hde⟩))
          · have hA := xs_Kadd hL hf hK hjN (by omega) hs' ht hm
            rw [(hK.2.1 j hjN).2.2.1]
            refine br_f (by decide) (xs_goals ?_)
            by_cases so : gr_mv b0 (c / 4) (ce_n (c / 4) (c % 4)) &&& (f_goals ^^^ (-1)) = 0
            · rw [if_pos so]
              refine br_f (by decide) ?_
              obtain ⟨a1, a2, a3, a4, a5, a6, a7, a8, a9⟩ := hA.1 so
              rw [nI_pred N]
              exact hfound N _ _ _ _ _ _ _ ⟨a1, a2, a3, a4, a5, a6, by omega, a8, a9⟩
            · rw [if_neg so]
              obtain ⟨nd', pa', co', de', mt', k1, k2, k3⟩ := hA.2 so
              exact br_t rfl (nm_r (nI_1 c) (ih (c + 1) (N + 1) _ _ _ _ _ _ (by omega) ⟨nd', pa', co', de', mt', k1, by omega, by rw [k2]; exact hnd, by rw [k3]; exact hde⟩))
theorem gr_de_le {σ : Type} {st : σ → Nat → Option σ} {so : σ → Prop} {rt : σ} {nd : Nat → σ} {pa co de : Nat → Nat} {N j c : Nat} (h : gr_B st so rt nd pa co de N j c) : ∀ i, i < N → de i ≤ i := by
  obtain ⟨h1, h2, h3, h4, h5, h6, h7⟩ := h
  intro i
  induction i using Nat.strongRecOn with
  | ind i ih =>
    intro hi
    by_cases i0 : i = 0
    · subst i0; rw [h3]; exact Nat.le_refl 0
    · obtain ⟨a1, _, _, _, a5⟩ := h4 i (by omega) hi
      have := ih (pa i) a1 (by omega)
      omega
theorem xs_find64 {post : Int32 → SX → Prop} {k L P : Nat} {rt : Int64 × Nat} {f_historyLimit f_started : Int32} {f_walls f_goals f_boxes f_liveCells : Int64} {f_boxTotal f_pusherCell f_moves f_pushes f_historyNext f_historyTotal f_storedTotal : Int32} {a_editGrid a_liveRank : Nat → Int32} {a_historyBoxes : Nat → Int64} {a_historyPusher a_storedPushes : Nat → Int32} (hL : ce_rk f_liveCells 64 = L) (hf : gr_fit k L) (hlw : ∀ c, ce_b f_liveCells c = true → ce_b f_walls c = false) (hlr : ∀ c, c < 64 → a_liveRank c = nI (ce_rk f_liveCells c)) (hP : P ≤ 40)
    (hnone : ∀ xN nb np pr cd dp me, (∀ m, m ≤ P → ¬ gr_can (gr_step f_walls f_liveCells) (gr_so f_goals) m rt) → post (-1) (nI P, f_historyLimit, f_started, f_walls, f_goals, f_boxes, f_liveCells, nI L, f_boxTotal, f_pusherCell, f_moves, f_pushes, f_historyNext, f_historyTotal, f_storedTotal, xN, a_editGrid, a_liveRank, a_historyBoxes, a_historyPusher, a_storedPushes, nb, np, pr, cd, dp, me))
    (hfound : ∀ F xN nb np pr cd dp me, xs_Fd f_walls f_goals f_liveCells P rt F pr cd dp → post (nI F) (nI P, f_historyLimit, f_started, f_walls, f_goals, f_boxes, f_liveCells, nI L, f_boxTotal, f_pusherCell, f_moves, f_pushes, f_historyNext, f_historyTotal, f_storedTotal, xN, a_editGrid, a_liveRank, a_historyBoxes, a_historyPusher, a_storedPushes, nb, np, pr, cd, dp, me)) :
    ∀ q j N nb np pr cd dp me nd pa co de mt, j + q = 3840 → j ≤ N → xs_K f_walls f_goals f_liveCells k L rt N nb np pr cd dp me j 0 nd pa co de mt → wX_findSolvingNode_64 post (q + 1) (nI j) (nI P) f_historyLimit f_started f_walls f_goals f_boxes f_liveCells (nI L) f_boxTotal f_pusherCell f_moves f_pushes f_historyNext f_historyTotal f_storedTotal (nI N) a_editGrid a_liveRank a_historyBoxes a_historyPusher a_storedPushes (nb) (np) (pr) (cd) (dp) (me) := by
  intro q
  induction q with
  | zero =>
    intro j N nb np pr cd dp me nd pa co de mt hq hjN hK
    have hN := (xs_Kroom hL hf hK).1
    exact br_t (nI_le (a := 3840) (by omega) (by omega)) (hnone _ _ _ _ _ _ _ (gr_fail _ _ hK.1 (Or.inl (by omega))))
  | succ q ih =>
    intro j N nb np pr cd dp me nd pa co de mt hq hjN hK
    have hN := (xs_Kroom hL hf hK).1
    refine br_f (nI_ge (b := 3840) (by omega) (by decide)) (pk_le N j (fun z => ?_) (fun z => ⟨vp_in_nI (by omega) (by decide), ?_⟩))
    · exact hnone _ _ _ _ _ _ _ (gr_fail _ _ hK.1 (Or.inl (by omega)))
    · have hdj := gr_de_le hK.1 j z
      have hA := hK.2.1 j z
      rw [nI_clamp (n := j) (by omega), hA.2.2.1]
      refine pk_lt (de j) P (fun y => ?_) (fun y => hnone _ _ _ _ _ _ _ (gr_fail _ _ hK.1 (Or.inr ⟨z, y⟩)))
      have hok := hK.2.2.1 j z
      refine ⟨vp_in_nI (by omega) (by decide), nm_r (e' := (nd j).1) (by rw [nI_clamp (n := j) (by omega), hA.1]) ⟨vp_in_nI (by omega) (by decide), ?_⟩⟩
      rw [nI_clamp (n := j) (by omega), hA.2.1]
      refine xs_area ⟨257, xs_exp0 (P := P) hL hf hlw hlr (by omega) y (fun N' nb' np' pr' cd' dp' me' hE => ?_) (fun F xN nb' np' pr' cd' dp' me' hF => ?_) 256 0 N nb np pr cd dp me (by omega) ⟨nd, pa, co, de, mt, hK, z, rfl, rfl⟩⟩
      · obtain ⟨nd', pa', co', de', mt', hK', hj', _, _⟩ := hE
        exact br_t rfl (nm_r (nI_1 j) (ih (j + 1) N' nb' np' pr' cd' dp' me' nd' pa' co' de' mt' (by omega) (by omega) (xs_Knext hK')))
      · have hF3 : F < 3840 := by
          obtain ⟨_, _, _, _, _, h3, _⟩ := hF
          exact h3
        refine br_f (fun e => ?_) (hfound F xN nb' np' pr' cd' dp' me' hF)
        have := nI_pos (n := F) (by omega)
        rw [e] at this
        exact this (by decide)
theorem xs_find22 {post : Int32 → SX → Prop} {k L P p : Nat} {f_historyLimit f_started : Int32} {f_walls f_goals f_boxes f_liveCells : Int64} {f_boxTotal f_moves f_pushes f_historyNext f_historyTotal f_storedTotal : Int32} {a_editGrid a_liveRank : Nat → Int32} {a_historyBoxes : Nat → Int64} {a_historyPusher a_storedPushes : Nat → Int32} (hL : ce_rk f_liveCells 64 = L) (hf : gr_fit k L) (hlw : ∀ c, ce_b f_liveCells c = true → ce_b f_walls c = false) (hlr : ∀ c, c < 64 → a_liveRank c = nI (ce_rk f_liveCells c)) (hP : P ≤ 40) (hok : gr_ok f_walls f_liveCells k (f_boxes, p)) (hso : ¬ gr_so f_goals (f_boxes, p))
    (hnone : ∀ xN nb np pr cd dp me, (∀ m, m ≤ P → ¬ gr_can (gr_step f_walls f_liveCells) (gr_so f_goals) m (f_boxes, p)) → post (-1) (nI P, f_historyLimit, f_started, f_walls, f_goals, f_boxes, f_liveCells, nI L, f_boxTotal, nI p, f_moves, f_pushes, f_historyNext, f_historyTotal, f_storedTotal, xN, a_editGrid, a_liveRank, a_historyBoxes, a_historyPusher, a_storedPushes, nb, np, pr, cd, dp, me))
    (hfound : ∀ F xN nb np pr cd dp me, xs_Fd f_walls f_goals f_liveCells P (f_boxes, p) F pr cd dp → post (nI F) (nI P, f_historyLimit, f_started, f_walls, f_goals, f_boxes, f_liveCells, nI L, f_boxTotal, nI p, f_moves, f_pushes, f_historyNext, f_historyTotal, f_storedTotal, xN, a_editGrid, a_liveRank, a_historyBoxes, a_historyPusher, a_storedPushes, nb, np, pr, cd, dp, me))
    {xN : Int32} {nb : Nat → Int64} {np pr cd dp : Nat → Int32} :
    ∀ q i me, i + q = 13824 → (∀ x, x < i → me x = 0) → wX_findSolvingNode_22 post (nI P) f_historyLimit f_started f_walls f_goals f_boxes f_liveCells (nI L) f_boxTotal (nI p) f_moves f_pushes f_historyNext f_historyTotal f_storedTotal (xN) (q + 1) (nI i) a_editGrid a_liveRank a_historyBoxes a_historyPusher a_storedPushes (nb) (np) (pr) (cd) (dp) (me) := by
  intro q
  induction q with
  | zero =>
    intro i me hi hme
    refine br_t (nI_le (a := 13824) (by omega) (by omega)) ?_
    have hv := gr_no_v hL hf hok
    refine xs_add (N := 0) (mt := fun _ => false) (dep := 0) hlr hv.2.2 (fun x hx => hme x (by omega)) (fun _ => by decide) (Or.inl ⟨rfl, rfl⟩) (fun h => by cases h) (fun _ => ?_)
    refine ⟨3841, xs_find64 hL hf hlw hlr hP hnone hfound 3840 0 1 _ _ _ _ _ _ (fun _ => (f_boxes, p)) (fun _ => 0) (fun _ => 0) (fun _ => 0) (fun x => decide (x = gr_no L f_liveCells (f_boxes, p))) (by omega) (by omega) ⟨gr_B0 _ _ rfl rfl hso, fun i hi => ?_, fun i hi => hok, fun x hx => ?_, fun x => ?_, ?_⟩⟩
    · have : i = 0 := by omega
      subst this
      rw [pk_uLs, pk_us, pk_us]
      exact ⟨rfl, rfl, rfl, fun h => by omega⟩
    · show upd me (gr_no L f_liveCells (f_boxes, p)) 1 x = rl_1 (decide (x = gr_no L f_liveCells (f_boxes, p)))
      by_cases e : x = gr_no L f_liveCells (f_boxes, p)
      · rw [e, pk_us, decide_eq_true rfl]; rfl
      · rw [pk_un e, decide_eq_false e, hme x (by omega)]; rfl
    · rw [decide_eq_true_eq]
      exact ⟨fun e => ⟨0, by omega, e.symm⟩, fun ⟨_, _, e⟩ => e.symm⟩
    · have := gr_ct_set (f := fun _ => false) (g := fun x => decide (x = gr_no L f_liveCells (f_boxes, p))) (x := gr_no L f_liveCells (f_boxes, p)) rfl (by simp) (fun i hi => by simp [hi]) (64 * L ^ k)
      rw [this, if_pos hv.2.1, gr_ct_no]
  | succ q ih =>
    intro i me hi hme
    refine br_f (nI_ge (b := 13824) (by omega) (by decide)) ⟨vp_in_nI (by omega) (by decide), nm_r (e' := upd me i 0) (by rw [rl_b0, nI_clamp (by omega)]) (nm_r (nI_1 i) (ih (i + 1) _ (by omega) (fun x hx => ?_)))⟩
    by_cases e : x = i
    · rw [e, pk_us]
    · rw [pk_un e]; exact hme x (by omega)
end
section
/-! the class's solve -/
theorem xs_store19 {post : SX → Prop} {D F : Nat} {pa co : Nat → Nat} {f_pushLimit f_historyLimit f_started : Int32} {f_walls f_goals f_boxes f_liveCells : Int64} {f_liveTotal f_boxTotal f_pusherCell f_moves f_pushes f_historyNext f_historyTotal f_storedTotal f_nodeTotal : Int32} {a_editGrid a_liveRank : Nat → Int32} {a_historyBoxes : Nat → Int64} {a_historyPusher : Nat → Int32} {a_nodeBoxes : Nat → Int64} {a_nodePusher a_nodeParent a_nodeCode a_nodeDepth a_nodeMet : Nat → Int32} (hD : D ≤ 40) (hup : ∀ t, t < D → gr_up pa t F < 3840 ∧ a_nodeParent (gr_up pa t F) = nI (gr_up pa (t + 1) F) ∧ a_nodeCode (gr_up pa t F) = nI (co (gr_up pa t F)))
    (h : ∀ sp, (∀ i, i < D → sp i = nI (co (gr_up pa (D - 1 - i) F))) → post (f_pushLimit, f_historyLimit, f_started, f_walls, f_goals, f_boxes, f_liveCells, f_liveTotal, f_boxTotal, f_pusherCell, f_moves, f_pushes, f_historyNext, f_historyTotal, f_storedTotal, f_nodeTotal, a_editGrid, a_liveRank, a_historyBoxes, a_historyPusher, sp, a_nodeBoxes, a_nodePusher, a_nodeParent, a_nodeCode, a_nodeDepth, a_nodeMet)) :
    ∀ r t sp x2 x3, r + t = D → (0 < r → x2 = nI (gr_up pa t F)) → (r = 0 → x3 = -1) → (∀ q, r = q + 1 → x3 = nI q) → (∀ i, r ≤ i → i < D → sp i = nI (co (gr_up pa (D - 1 - i) F))) → wX_storePushesTo_19 post f_pushLimit f_historyLimit f_started f_walls f_goals f_boxes f_liveCells f_liveTotal f_boxTotal f_pusherCell f_moves f_pushes f_historyNext f_historyTotal f_storedTotal f_nodeTotal (r + 1) x2 x3 a_editGrid a_liveRank a_historyBoxes a_historyPusher (sp) a_nodeBoxes a_nodePusher a_nodeParent a_nodeCode a_nodeDepth a_nodeMet := by
  intro r
  induction r with
  | zero =>
    intro t sp x2 x3 ht h1 h2 h3 h4
    rw [h2 rfl]
    exact br_t (by decide) (h sp (fun i hi => h4 i (by omega) hi))
  | succ r ih =>
    intro t sp x2 x3 ht h1 h2 h3 h4
    rw [h1 (by omega), h3 r rfl]
    obtain ⟨u1, u2, u3⟩ := hup t (by omega)
    have ec : (nI (gr_up pa t F)).toNatClampNeg = gr_up pa t F := nI_clamp (by omega)
    refine br_f (nI_pos (by omega)) ⟨vp_in_nI u1 (by decide), vp_in_nI (by omega) (by decide), nm_r (e' := upd sp r (nI (co (gr_up pa t F)))) (by rw [ec, u3, nI_clamp (n := r) (by omega)]) ⟨vp_in_nI u1 (by decide), nm_r (e' := nI (gr_up pa (t + 1) F)) (by rw [ec, u2]) (nm_e ?_)⟩⟩
    refine ih (t + 1) _ _ _ (by omega) (fun _ => rfl) (fun e => ?_) (fun q e => ?_) (fun i hi hiD => ?_)
    · subst e; exact rl_m1
    · subst e; exact pk_m1 q
    · by_cases e : i = r
      · subst e
        rw [pk_us, show D - 1 - i = t by omega]
      · rw [pk_un e]; exact h4 i (by omega) hiD
theorem xs_store {post : SX → Prop} {F P : Nat} {w g lv : Int64} {rt : Int64 × Nat} {f_pushLimit f_historyLimit f_started : Int32} {f_walls f_goals f_boxes f_liveCells : Int64} {f_liveTotal f_boxTotal f_pusherCell f_moves f_pushes f_historyNext f_historyTotal f_storedTotal f_nodeTotal : Int32} {a_editGrid a_liveRank : Nat → Int32} {a_historyBoxes : Nat → Int64} {a_historyPusher a_storedPushes : Nat → Int32} {a_nodeBoxes : Nat → Int64} {a_nodePusher a_nodeParent a_nodeCode a_nodeDepth a_nodeMet : Nat → Int32} (hP : P ≤ 40) (hF : xs_Fd w g lv P rt F a_nodeParent a_nodeCode a_nodeDepth)
    (h : ∀ D l sp, 1 ≤ D → D ≤ P → gr_G (gr_step w lv) (gr_so g) D rt l → (∀ m, m < D → ¬ gr_can (gr_step w lv) (gr_so g) m rt) → (∀ i, i < D → sp i = nI (l i)) → post (f_pushLimit, f_historyLimit, f_started, f_walls, f_goals, f_boxes, f_liveCells, f_liveTotal, f_boxTotal, f_pusherCell, f_moves, f_pushes, f_historyNext, f_historyTotal, nI D, f_nodeTotal, a_editGrid, a_liveRank, a_historyBoxes, a_historyPusher, sp, a_nodeBoxes, a_nodePusher, a_nodeParent, a_nodeCode, a_nodeDepth, a_nodeMet)) : wpX_storePushesTo post (f_pushLimit, f_historyLimit, f_started, f_walls, f_goals, f_boxes, f_liveCells, f_liveTotal, f_boxTotal, f_pusherCell, f_moves, f_pushes, f_historyNext, f_historyTotal, f_storedTotal, f_nodeTotal, a_editGrid, a_liveRank, a_historyBoxes, a_historyPusher, a_storedPushes, a_nodeBoxes, a_nodePusher, a_nodeParent, a_nodeCode, a_nodeDepth, a_nodeMet) (nI F) := by
  obtain ⟨nd, pa, co, de, f1, f2, f3, f4, f5⟩ := hF
  have hup := gr_upF _ _ f1
  have g4 := f1.2.2.2.1
  have g3 := f1.2.2.1
  have hD1 : 1 ≤ de F := by
    have := (g4 F f1.1 (Nat.le_refl F)).2.2.2
    omega
  have hnode : ∀ t, t < de F → 0 < gr_up pa t F := by
    intro t ht
    apply Nat.pos_of_ne_zero
    intro z
    have := (hup t (by omega)).2
    rw [z, g3] at this
    omega
  refine ⟨vp_in_nI f2 (by decide), nm_r (e' := nI (de F)) (by rw [nI_clamp (by omega), f4]) (nm_r (e' := nI (de F - 1)) (pk_sub (b := 1) hD1) ⟨de F + 1, ?_⟩)⟩
  refine xs_store19 (D := de F) (F := F) (pa := pa) (co := co) (by omega) (fun t ht => ?_) (fun sp hsp => ?_) (de F) 0 _ _ _ (by omega) (fun _ => rfl) (fun e => by omega) (fun q e => by rw [e]; rfl) (fun i h1 h2 => by omega)
  · have a := (hup t (by omega)).1
    have b := f5 _ (hnode t ht) a
    exact ⟨by omega, b.1, b.2⟩
  · have dn := gr_done _ _ f1 (sp := fun i => co (gr_up pa (de F - 1 - i) F)) (fun i hi => rfl)
    exact h (de F) _ sp hD1 f3 dn.1 dn.2 hsp
theorem xs_size {post : Int32 → Prop} {B L : Nat} {f_pushLimit f_historyLimit f_started : Int32} {f_walls f_goals f_boxes f_liveCells : Int64} {f_pusherCell f_moves f_pushes f_historyNext f_historyTotal f_storedTotal f_nodeTotal : Int32} {a_editGrid a_liveRank : Nat → Int32} {a_historyBoxes : Nat → Int64} {a_historyPusher a_storedPushes : Nat → Int32} {a_nodeBoxes : Nat → Int64} {a_nodePusher a_nodeParent a_nodeCode a_nodeDepth a_nodeMet : Nat → Int32} (h1 : 1 ≤ B) (h2 : B ≤ 3) (hL : L ≤ 64) (ht : gr_fit B L → post 1) (hf : ¬ gr_fit B L → post 0) : wpX_isWithinSizeLimit post (f_pushLimit, f_historyLimit, f_started, f_walls, f_goals, f_boxes, f_liveCells, nI L, nI B, f_pusherCell, f_moves, f_pushes, f_historyNext, f_historyTotal, f_storedTotal, f_nodeTotal, a_editGrid, a_liveRank, a_historyBoxes, a_historyPusher, a_storedPushes, a_nodeBoxes, a_nodePusher, a_nodeParent, a_nodeCode, a_nodeDepth, a_nodeMet) := by
  refine pk_eq B 1 (fun e => ?_) (fun e => pk_eq B 2 (fun e' => ?_) (fun e' => ?_))
  · exact pk_lt 60 L (fun z => hf (by unfold gr_fit; omega)) (fun z => ht (by unfold gr_fit; omega))
  · exact pk_lt 8 L (fun z => hf (by unfold gr_fit; omega)) (fun z => ht (by unfold gr_fit; omega))
  · exact pk_lt 6 L (fun z => hf (by unfold gr_fit; omega)) (fun z => ht (by unfold gr_fit; omega))
theorem xs_solve {post : Int32 → SX → Prop} {P B p L : Nat} {f_historyLimit : Int32} {f_walls f_goals f_boxes f_liveCells : Int64} {f_moves f_pushes f_historyNext f_historyTotal f_storedTotal f_nodeTotal : Int32} {a_editGrid a_liveRank : Nat → Int32} {a_historyBoxes : Nat → Int64} {a_historyPusher a_storedPushes : Nat → Int32} {a_nodeBoxes : Nat → Int64} {a_nodePusher a_nodeParent a_nodeCode a_nodeDepth a_nodeMet : Nat → Int32} (hP : P ≤ 40) (hB1 : 1 ≤ B) (hB3 : B ≤ 3) (hL : ce_rk f_liveCells 64 = L) (hlr : ∀ c, c < 64 → a_liveRank c = nI (ce_rk f_liveCells c)) (hlw : ∀ c, ce_b f_liveCells c = true → ce_b f_walls c = false) (hV : rl_V f_walls B f_boxes p)
    (h1 : gr_so f_goals (f_boxes, p) → post 0 (nI P, f_historyLimit, 1, f_walls, f_goals, f_boxes, f_liveCells, nI L, nI B, nI p, f_moves, f_pushes, f_historyNext, f_historyTotal, 0, f_nodeTotal, a_editGrid, a_liveRank, a_historyBoxes, a_historyPusher, a_storedPushes, a_nodeBoxes, a_nodePusher, a_nodeParent, a_nodeCode, a_nodeDepth, a_nodeMet))
    (h2 : ¬ gr_so f_goals (f_boxes, p) → ¬ gr_fit B L → post (-6) (nI P, f_historyLimit, 1, f_walls, f_goals, f_boxes, f_liveCells, nI L, nI B, nI p, f_moves, f_pushes, f_historyNext, f_historyTotal, f_storedTotal, f_nodeTotal, a_editGrid, a_liveRank, a_historyBoxes, a_historyPusher, a_storedPushes, a_nodeBoxes, a_nodePusher, a_nodeParent, a_nodeCode, a_nodeDepth, a_nodeMet))
    (h3 : ¬ gr_so f_goals (f_boxes, p) → gr_fit B L → ¬ (∀ c, ce_b f_boxes c = true → ce_b f_liveCells c = true) → post (-7) (nI P, f_historyLimit, 1, f_walls, f_goals, f_boxes, f_liveCells, nI L, nI B, nI p, f_moves, f_pushes, f_historyNext, f_historyTotal, 0, f_nodeTotal, a_editGrid, a_liveRank, a_historyBoxes, a_historyPusher, a_storedPushes, a_nodeBoxes, a_nodePusher, a_nodeParent, a_nodeCode, a_nodeDepth, a_nodeMet))
    (h4 : ¬ gr_so f_goals (f_boxes, p) → gr_fit B L → (∀ c, ce_b f_boxes c = true → ce_b f_liveCells c = true) → (∀ m, m ≤ P → ¬ gr_can (gr_step f_walls f_liveCells) (gr_so f_goals) m (f_boxes, p)) → ∀ xN nb np pr cd dp me, post (-7) (nI P, f_historyLimit, 1, f_walls, f_goals, f_boxes, f_liveCells, nI L, nI B, nI p, f_moves, f_pushes, f_historyNext, f_historyTotal, 0, xN, a_editGrid, a_liveRank, a_historyBoxes, a_historyPusher, a_storedPushes, nb, np, pr, cd, dp, me))
    (h5 : ¬ gr_so f_goals (f_boxes, p) → gr_fit B L → (∀ c, ce_b f_boxes c = true → ce_b f_liveCells c = true) → ∀ D l sp, 1 ≤ D → D ≤ P → gr_G (gr_step f_walls f_liveCells) (gr_so f_goals) D (f_boxes, p) l → (∀ m, m < D → ¬ gr_can (gr_step f_walls f_liveCells) (gr_so f_goals) m (f_boxes, p)) → (∀ i, i < D → sp i = nI (l i)) → ∀ xN nb np pr cd dp me, post (nI D) (nI P, f_historyLimit, 1, f_walls, f_goals, f_boxes, f_liveCells, nI L, nI B, nI p, f_moves, f_pushes, f_historyNext, f_historyTotal, nI D, xN, a_editGrid, a_liveRank, a_historyBoxes, a_historyPusher, sp, nb, np, pr, cd, dp, me)) :
    wpX_solve post (nI P, f_historyLimit, 1, f_walls, f_goals, f_boxes, f_liveCells, nI L, nI B, nI p, f_moves, f_pushes, f_historyNext, f_historyTotal, f_storedTotal, f_nodeTotal, a_editGrid, a_liveRank, a_historyBoxes, a_historyPusher, a_storedPushes, a_nodeBoxes, a_nodePusher, a_nodeParent, a_nodeCode, a_nodeDepth, a_nodeMet) := by
  obtain ⟨v1, v2, v3, v4, v5⟩ := hV
  have hL64 : L ≤ 64 := by rw [← hL]; exact ce_rk_le _ _
  refine br_f (by decide) (xs_goals ?_)
  by_cases so : f_boxes &&& (f_goals ^^^ (-1)) = 0
  · rw [if_pos so]
    exact br_f (by decide) (h1 so)
  · rw [if_neg so]
    refine br_t rfl (xs_size hB1 hB3 hL64 (fun hf => ?_) (fun hf => br_t rfl (h2 so hf)))
    refine br_f (by decide) ?_
    by_cases bl : f_boxes &&& (f_liveCells ^^^ (-1)) = 0
    · have bl' := (gr_soI f_liveCells f_boxes).mp bl
      refine br_t bl ⟨13825, xs_find22 hL hf hlw hlr hP ⟨v1, v2, v3, bl', v5⟩ so (fun xN nb np pr cd dp me hn => ?_) (fun F xN nb np pr cd dp me hF => ?_) 13824 0 _ (by omega) (fun x hx => by omega)⟩
      · exact br_t rfl (h4 so hf bl' hn xN nb np pr cd dp me)
      · have hF3 : F < 3840 := by
          obtain ⟨_, _, _, _, _, h3, _⟩ := hF
          exact h3
        refine br_f (fun e => ?_) (xs_store hP hF (fun D l sp d1 d2 d3 d4 d5 => h5 so hf bl' D l sp d1 d2 d3 d4 d5 xN nb np pr cd dp me))
        have := nI_pos (n := F) (by omega)
        rw [e] at this
        exact this (by decide)
    · exact br_f bl (br_t rfl (h3 so hf (fun z => bl ((gr_soI f_liveCells f_boxes).mpr z))))
end
section
/-! the reference's states by their numbers -/
def ys_H (w lv : Int64) (B L : Nat) (lm li lc : Nat → Int32) : Prop :=
  1 ≤ B ∧ B ≤ 3 ∧ ce_rk lv 64 = L ∧ 1 ≤ L ∧ gr_fit B L ∧ (∀ c, ce_b lv c = true → ce_b w c = false) ∧ (∀ c, c < 64 → lm c = ce_A lv c) ∧ (∀ c, ce_b lv c = true → li c = nI (ce_rk lv c)) ∧ (∀ j, j < L → lc j = nI (gr_sel lv 64 j))
def ys_cl (lv : Int64) (L B s k : Nat) : Nat := gr_sel lv 64 (gr_dg L B (s / 64) k)
def ys_ab (lv : Int64) (L B s : Nat) : Int64 × Nat := (gr_ms (ys_cl lv L B s) B, s % 64)
def ys_V (w lv : Int64) (L B s : Nat) : Prop := (∀ i j, i < B → j < B → i ≠ j → ys_cl lv L B s i ≠ ys_cl lv L B s j) ∧ ce_b w (s % 64) = false ∧ ce_b (gr_ms (ys_cl lv L B s) B) (s % 64) = false
def ys_tp (lv : Int64) (L B s c : Nat) : Nat → Nat := fun j => if ys_cl lv L B s j = c / 4 then ce_n (c / 4) (c % 4) else ys_cl lv L B s j
def ys_en (lv : Int64) (L B s c : Nat) : Nat := gr_cd L (fun j => ce_rk lv (ys_tp lv L B s c j)) B * 64 + c / 4
theorem ys_cl_ok {lv : Int64} {L : Nat} (hL : ce_rk lv 64 = L) (h1 : 1 ≤ L) (B s k : Nat) : ce_b lv (ys_cl lv L B s k) = true ∧ ys_cl lv L B s k < 64 := by
  have := (gr_sel_ok (lv := lv) (j := gr_dg L B (s / 64) k) 64 (by rw [hL]; exact Nat.mod_lt _ h1)).1
  exact ⟨this, ce_lt this⟩
theorem ys_code {lv : Int64} {L B : Nat} {tp : Nat → Nat} (hL : ce_rk lv 64 = L) (hlv : ∀ j, j < B → ce_b lv (tp j) = true) {p : Nat} (hp : p < 64) :
    gr_cd L (fun j => ce_rk lv (tp j)) B * 64 + p < 64 * L ^ B ∧ (∀ j, j < B → ys_cl lv L B (gr_cd L (fun j => ce_rk lv (tp j)) B * 64 + p) j = tp j) ∧ (gr_cd L (fun j => ce_rk lv (tp j)) B * 64 + p) % 64 = p := by
  have hr : ∀ j, j < B → ce_rk lv (tp j) < L := fun j hj => by rw [← hL]; exact ce_rk_lt (hlv j hj) (ce_lt (hlv j hj))
  have h1 := gr_cd_lt (L := L) (ix := fun j => ce_rk lv (tp j)) B hr
  have h2 := gr_dg_cd (L := L) (ix := fun j => ce_rk lv (tp j)) B hr
  refine ⟨by omega, fun j hj => ?_, by omega⟩
  unfold ys_cl
  rw [show (gr_cd L (fun j => ce_rk lv (tp j)) B * 64 + p) / 64 = gr_cd L (fun j => ce_rk lv (tp j)) B by omega, h2 j hj]
  exact gr_sel_rk (hlv j hj) 64 (ce_lt (hlv j hj))
theorem ys_ok {w lv : Int64} {L B s : Nat} (hL : ce_rk lv 64 = L) (h1 : 1 ≤ L) (hV : ys_V w lv L B s) : gr_ok w lv B (ys_ab lv L B s) := by
  obtain ⟨v1, v2, v3⟩ := hV
  refine ⟨Nat.mod_lt _ (by decide), v2, v3, fun c hc => ?_, gr_ms_rk B (fun j _ => (ys_cl_ok hL h1 B s j).2) (fun i j hi hj => v1 i j (by omega) hj (by omega))⟩
  obtain ⟨j, _, e⟩ := (gr_msT B (fun j _ => (ys_cl_ok hL h1 B s j).2) c).mp hc
  rw [← e]
  exact (ys_cl_ok hL h1 B s j).1
theorem ys_tp_rp {lv : Int64} {L B s c k : Nat} (hd : ∀ i j, i < B → j < B → i ≠ j → ys_cl lv L B s i ≠ ys_cl lv L B s j) (hk : k < B) (e : ys_cl lv L B s k = c / 4) : ∀ j, j < B → ys_tp lv L B s c j = gr_rp (ys_cl lv L B s) k (ce_n (c / 4) (c % 4)) j := by
  intro j hj
  unfold ys_tp gr_rp
  by_cases q : j = k
  · subst q; rw [if_pos e, if_pos rfl]
  · rw [if_neg q, if_neg (fun z => hd j k hj hk q (z.trans e.symm))]
theorem ys_hen {w lv : Int64} {L B : Nat} (hL : ce_rk lv 64 = L) (h1 : 1 ≤ L) (hlw : ∀ c, ce_b lv c = true → ce_b w c = false) : ∀ s c t, s < 64 * L ^ B → ys_V w lv L B s → c < 256 → gr_step w lv (ys_ab lv L B s) c = some t → ys_en lv L B s c < 64 * L ^ B ∧ ys_V w lv L B (ys_en lv L B s c) ∧ ys_ab lv L B (ys_en lv L B s c) = t := by
  intro s c t hs hV hc hst
  have hok := ys_ok hL h1 hV
  have hokt := gr_step_ok hlw hok hst
  have hcl : ∀ j, j < B → ys_cl lv L B s j < 64 := fun j _ => (ys_cl_ok hL h1 B s j).2
  unfold gr_step at hst
  split at hst
  · rename_i z
    obtain ⟨z1, z2, z3, z4, z5, z6⟩ := z
    have et := (Option.some.inj hst).symm
    obtain ⟨k, hk, ek⟩ := (gr_msT B hcl (c / 4)).mp z1
    have tr := ys_tp_rp hV.1 hk ek
    have hlv : ∀ j, j < B → ce_b lv (ys_tp lv L B s c j) = true := by
      intro j hj
      unfold ys_tp
      split
      · exact z6
      · exact (ys_cl_ok hL h1 B s j).1
    obtain ⟨c1, c2, c3⟩ := ys_code (B := B) hL hlv (p := c / 4) (by omega)
    have em : gr_ms (ys_cl lv L B (ys_en lv L B s c)) B = gr_mv (gr_ms (ys_cl lv L B s) B) (c / 4) (ce_n (c / 4) (c % 4)) := by
      rw [← ek, ← gr_ms_mv hcl hV.1 hk (by rw [ek]; exact z2)]
      refine gr_ms_congr B (fun j hj => ?_)
      rw [ek]
      exact (c2 j hj).trans (tr j hj)
    have eab : ys_ab lv L B (ys_en lv L B s c) = t := by
      rw [et]
      unfold ys_ab
      rw [em]
      exact congrArg (Prod.mk _) c3
    refine ⟨c1, ⟨fun i j hi hj hij => ?_, ?_, ?_⟩, eab⟩
    · have ei : ys_cl lv L B (ys_en lv L B s c) i = _ := (c2 i hi).trans (tr i hi)
      have ej : ys_cl lv L B (ys_en lv L B s c) j = _ := (c2 j hj).trans (tr j hj)
      rw [ei, ej]
      have na : ∀ q, q < B → ys_cl lv L B s q ≠ ce_n (c / 4) (c % 4) := by
        intro q hq e
        have : ce_b (gr_ms (ys_cl lv L B s) B) (ce_n (c / 4) (c % 4)) = true := (gr_msT B hcl _).mpr ⟨q, hq, e⟩
        have z4' : ce_b (gr_ms (ys_cl lv L B s) B) (ce_n (c / 4) (c % 4)) = false := z4
        rw [this] at z4'
        cases z4'
      unfold gr_rp
      by_cases q1 : i = k
      · rw [if_pos q1, if_neg (by omega)]; exact (na j hj).symm
      · rw [if_neg q1]
        by_cases q2 : j = k
        · rw [if_pos q2]; exact na i hi
        · rw [if_neg q2]; exact hV.1 i j hi hj hij
    · have := hokt.2.1
      rw [← eab] at this
      exact this
    · have := hokt.2.2.1
      rw [← eab] at this
      exact this
  · cases hst
/-! encode -/
theorem ys_enc0 {post : Int32 → Prop} {lv : Int64} {B L k a p : Nat} {x1 x2 : Int32} {cl : Nat → Nat} {yf_lim yf_hs yf_started yf_pu yf_moves yf_pushes yf_hn yf_solLen yf_curP yf_nextState : Int32} {ya_edit ya_wall ya_goal ya_box ya_hFrom ya_hBf ya_hBt ya_sol ya_reach ya_stack ya_liveMark ya_liveIdx ya_liveCell ya_dist ya_sb ya_ob : Nat → Int32} (hB : B ≤ 3) (hx : ∀ j, j < B → (nI j = x1 ↔ j = k)) (hxa : k < B → x2 = nI a ∧ a < 64) (hsb : ∀ j, j < B → ya_sb j = nI (cl j) ∧ cl j < 64) (hli : ∀ j, j < B → ya_liveIdx (gr_rp cl k a j) = nI (ce_rk lv (gr_rp cl k a j)))
    (h : post (nI (gr_cd L (fun j => ce_rk lv (gr_rp cl k a j)) B * 64 + p))) :
    ∀ q i, i + q = B → wY_encode_6 post x1 x2 (nI p) yf_lim yf_hs yf_started yf_pu yf_moves yf_pushes yf_hn yf_solLen (nI B) (nI L) yf_curP yf_nextState ya_edit ya_wall ya_goal ya_box ya_hFrom ya_hBf ya_hBt ya_sol ya_reach ya_stack ya_liveMark ya_liveIdx ya_liveCell ya_dist ya_sb ya_ob (q + 1) (nI (gr_cd L (fun j => ce_rk lv (gr_rp cl k a j)) i)) (nI i) := by
  intro q
  induction q with
  | zero =>
    intro i hi
    have e : i = B := by omega
    subst e
    refine br_t (nI_le (Nat.le_refl i) (by omega)) ?_
    show post (nI _ * nI 64 + nI p)
    rw [pk_mul, nI_add]
    exact h
  | succ q ih =>
    intro i hi
    have := ih (i + 1) (by omega)
    have hl := hli i (by omega)
    refine br_f (nI_ge (by omega) (by omega)) (br_c (fun e => ?_) (fun e => ?_))
    · have ek := (hx i (by omega)).mp e
      obtain ⟨e2, ha⟩ := hxa (by omega)
      have er : gr_rp cl k a i = a := if_pos ek
      rw [er] at hl
      rw [e2] at this ⊢
      refine ⟨vp_in_nI ha (by decide), nm_r (e' := nI (gr_cd L (fun j => ce_rk lv (gr_rp cl k a j)) (i + 1))) ?_ (nm_r (nI_1 i) this)⟩
      rw [nI_clamp (n := a) (by omega), hl, pk_mul, nI_add, gr_cd, er]
    · have ek : ¬ i = k := fun z => e ((hx i (by omega)).mpr z)
      obtain ⟨s1, s2⟩ := hsb i (by omega)
      have er : gr_rp cl k a i = cl i := if_neg ek
      rw [er] at hl
      refine ⟨vp_in_nI (by omega) (by decide), ?_⟩
      rw [nI_clamp (n := i) (by omega), s1]
      refine ⟨vp_in_nI s2 (by decide), nm_r (e' := nI (gr_cd L (fun j => ce_rk lv (gr_rp cl k a j)) (i + 1))) ?_ (nm_r (nI_1 i) this)⟩
      rw [nI_clamp (n := cl i) (by omega), hl, pk_mul, nI_add, gr_cd, er]
theorem ys_enc {post : Int32 → Prop} {lv : Int64} {B L k a p : Nat} {x1 x2 : Int32} {cl : Nat → Nat} {yf_lim yf_hs yf_started yf_pu yf_moves yf_pushes yf_hn yf_solLen yf_curP yf_nextState : Int32} {ya_edit ya_wall ya_goal ya_box ya_hFrom ya_hBf ya_hBt ya_sol ya_reach ya_stack ya_liveMark ya_liveIdx ya_liveCell ya_dist ya_sb ya_ob : Nat → Int32} (hB : B ≤ 3) (hx : ∀ j, j < B → (nI j = x1 ↔ j = k)) (hxa : k < B → x2 = nI a ∧ a < 64) (hsb : ∀ j, j < B → ya_sb j = nI (cl j) ∧ cl j < 64) (hli : ∀ j, j < B → ya_liveIdx (gr_rp cl k a j) = nI (ce_rk lv (gr_rp cl k a j)))
    (h : post (nI (gr_cd L (fun j => ce_rk lv (gr_rp cl k a j)) B * 64 + p))) : wpY_encode post (yf_lim, yf_hs, yf_started, yf_pu, yf_moves, yf_pushes, yf_hn, yf_solLen, nI B, nI L, yf_curP, yf_nextState, ya_edit, ya_wall, ya_goal, ya_box, ya_hFrom, ya_hBf, ya_hBt, ya_sol, ya_reach, ya_stack, ya_liveMark, ya_liveIdx, ya_liveCell, ya_dist, ya_sb, ya_ob) x1 x2 (nI p) :=
  ⟨B + 1, ys_enc0 hB hx hxa hsb hli h B 0 (by omega)⟩
end
section
/-! load -/
def gr_cr (m : Int64) (cl : Nat → Nat) : Nat → Int64
  | 0 => m
  | i + 1 => gr_cr m cl i &&& (ce_bit (cl i) ^^^ (-1))
theorem gr_crT {m : Int64} {cl : Nat → Nat} : ∀ B, (∀ j, j < B → cl j < 64) → ∀ c, ce_b (gr_cr m cl B) c = true ↔ ce_b m c = true ∧ ∀ j, j < B → cl j ≠ c := by
  intro B
  induction B with
  | zero => intro _ c; exact ⟨fun h => ⟨h, fun j hj => by omega⟩, fun h => h.1⟩
  | succ B ih =>
    intro h c
    rcases Nat.lt_or_ge c 64 with z | z
    · rw [gr_cr, ce_clrB (h B (by omega)) z, Bool.and_eq_true, ih (fun j hj => h j (by omega)), Bool.not_eq_true', decide_eq_false_iff_not]
      constructor
      · rintro ⟨⟨h1, h2⟩, h3⟩
        refine ⟨h1, fun j hj => ?_⟩
        by_cases q : j = B
        · subst q; exact h3
        · exact h2 j (by omega)
      · rintro ⟨h1, h2⟩
        exact ⟨⟨h1, fun j hj => h2 j (by omega)⟩, h2 B (by omega)⟩
    · rw [ce_big z, ce_big z]
      exact ⟨fun q => (by cases q), fun q => (by cases q.1)⟩
theorem gr_cr0 {cl : Nat → Nat} {B : Nat} (h : ∀ j, j < B → cl j < 64) : gr_cr (gr_ms cl B) cl B = 0 := by
  apply ce_ext
  intro c _
  rw [ce_0]
  apply ts_nt
  intro z
  obtain ⟨z1, z2⟩ := (gr_crT B h c).mp z
  obtain ⟨j, j1, j2⟩ := (gr_msT B h c).mp z1
  exact z2 j j1 j2
theorem ys_185 {post : Int32 → SY → Prop} {w m : Int64} {p : Nat} {yf_lim yf_hs yf_started yf_pu yf_moves yf_pushes yf_hn yf_solLen yf_nB yf_nL yf_nextState : Int32} {ya_edit ya_goal ya_hFrom ya_hBf ya_hBt ya_sol ya_reach ya_stack ya_liveMark ya_liveIdx ya_liveCell ya_dist ya_sb ya_ob : Nat → Int32} (hp : p < 64) (ht : ce_b w p = false ∧ ce_b m p = false → post 1 (yf_lim, yf_hs, yf_started, yf_pu, yf_moves, yf_pushes, yf_hn, yf_solLen, yf_nB, yf_nL, nI p, yf_nextState, ya_edit, ce_A w, ya_goal, ce_A m, ya_hFrom, ya_hBf, ya_hBt, ya_sol, ya_reach, ya_stack, ya_liveMark, ya_liveIdx, ya_liveCell, ya_dist, ya_sb, ya_ob)) (hf : ¬ (ce_b w p = false ∧ ce_b m p = false) → post 0 (yf_lim, yf_hs, yf_started, yf_pu, yf_moves, yf_pushes, yf_hn, yf_solLen, yf_nB, yf_nL, nI p, yf_nextState, ya_edit, ce_A w, ya_goal, ce_A m, ya_hFrom, ya_hBf, ya_hBt, ya_sol, ya_reach, ya_stack, ya_liveMark, ya_liveIdx, ya_liveCell, ya_dist, ya_sb, ya_ob)) : wY_load_185 post yf_lim yf_hs yf_started yf_pu yf_moves yf_pushes yf_hn yf_solLen yf_nB yf_nL (nI p) yf_nextState ya_edit (ce_A w) ya_goal (ce_A m) ya_hFrom ya_hBf ya_hBt ya_sol ya_reach ya_stack ya_liveMark ya_liveIdx ya_liveCell ya_dist ya_sb ya_ob := by
  have e : (nI p).toNatClampNeg = p := nI_clamp (by omega)
  have v : vp_in (nI p) 64 := vp_in_nI hp (by decide)
  refine ⟨v, ?_⟩
  rw [e]
  cases hw : ce_b w p
  · refine br_t (ce_Af hw) ⟨v, ?_⟩
    cases hm : ce_b m p
    · exact br_t (ce_Af hm) (ht ⟨hw, hm⟩)
    · exact br_f (by rw [ce_At hm]; decide) (hf (fun z => by rw [hm] at z; cases z.2))
  · exact br_f (by rw [ce_At hw]; decide) (hf (fun z => by rw [hw] at z; cases z.1))
theorem ys_94 {post : Int32 → SY → Prop} {w : Int64} {B p : Nat} {cl : Nat → Nat} {yf_lim yf_hs yf_started yf_pu yf_moves yf_pushes yf_hn yf_solLen yf_nL yf_nextState : Int32} {ya_edit ya_goal ya_hFrom ya_hBf ya_hBt ya_sol ya_reach ya_stack ya_liveMark ya_liveIdx ya_liveCell ya_dist ya_sb ya_ob : Nat → Int32} (hB1 : 1 ≤ B) (hB : B ≤ 3) (hp : p < 64) (hsb : ∀ j, j < B → ya_sb j = nI (cl j) ∧ cl j < 64)
    (ht : (∀ i j, i < B → j < B → i ≠ j → cl i ≠ cl j) ∧ ce_b w p = false ∧ ce_b (gr_ms cl B) p = false → post 1 (yf_lim, yf_hs, yf_started, yf_pu, yf_moves, yf_pushes, yf_hn, yf_solLen, nI B, yf_nL, nI p, yf_nextState, ya_edit, ce_A w, ya_goal, ce_A (gr_ms cl B), ya_hFrom, ya_hBf, ya_hBt, ya_sol, ya_reach, ya_stack, ya_liveMark, ya_liveIdx, ya_liveCell, ya_dist, ya_sb, ya_ob))
    (hf : ¬ ((∀ i j, i < B → j < B → i ≠ j → cl i ≠ cl j) ∧ ce_b w p = false ∧ ce_b (gr_ms cl B) p = false) → post 0 (yf_lim, yf_hs, yf_started, yf_pu, yf_moves, yf_pushes, yf_hn, yf_solLen, nI B, yf_nL, nI p, yf_nextState, ya_edit, ce_A w, ya_goal, ce_A (gr_ms cl B), ya_hFrom, ya_hBf, ya_hBt, ya_sol, ya_reach, ya_stack, ya_liveMark, ya_liveIdx, ya_liveCell, ya_dist, ya_sb, ya_ob)) :
    ∀ q i, i + q = B → wY_load_94 post yf_lim yf_hs yf_started yf_pu yf_moves yf_pushes yf_hn yf_solLen (nI B) yf_nL (nI p) yf_nextState (q + 1) (nI i) ya_edit (ce_A w) ya_goal (ce_A (gr_ms cl i)) ya_hFrom ya_hBf ya_hBt ya_sol ya_reach ya_stack ya_liveMark ya_liveIdx ya_liveCell ya_dist ya_sb ya_ob := by
  intro q
  induction q with
  | zero =>
    intro i hi
    have e : i = B := by omega
    subst e
    refine br_t (nI_le (Nat.le_refl i) (by omega)) ?_
    have last : (∀ a b, a < i → b < i → a ≠ b → cl a ≠ cl b) → wY_load_185 post yf_lim yf_hs yf_started yf_pu yf_moves yf_pushes yf_hn yf_solLen (nI i) yf_nL (nI p) yf_nextState ya_edit (ce_A w) ya_goal (ce_A (gr_ms cl i)) ya_hFrom ya_hBf ya_hBt ya_sol ya_reach ya_stack ya_liveMark ya_liveIdx ya_liveCell ya_dist ya_sb ya_ob := fun hd => ys_185 hp (fun z => ht ⟨hd, z⟩) (fun z => hf (fun y => z y.2))
    have sbe : ∀ a b, a < i → b < i → (ya_sb a = ya_sb b ↔ cl a = cl b) := by
      intro a b ha hb
      rw [(hsb a ha).1, (hsb b hb).1]
      exact nI_eq (by have := (hsb a ha).2; omega) (by have := (hsb b hb).2; omega)
    refine pk_le i 1 (fun z => ?_) (fun z => ?_)
    · exact br_t (nI_le (b := 2) (by omega) (by decide)) (last (fun a b ha hb hab => by omega))
    · refine br_c (fun e => hf (fun y => y.1 0 1 (by omega) (by omega) (by omega) ((sbe 0 1 (by omega) (by omega)).mp e))) (fun e01 => ?_)
      refine pk_le i 2 (fun z2 => ?_) (fun z2 => ?_)
      · refine last (fun a b ha hb hab => ?_)
        have n01 : cl 0 ≠ cl 1 := fun e => e01 ((sbe 0 1 (by omega) (by omega)).mpr e)
        have : (a = 0 ∧ b = 1) ∨ (a = 1 ∧ b = 0) := by omega
        rcases this with ⟨rfl, rfl⟩ | ⟨rfl, rfl⟩
        · exact n01
        · exact n01.symm
      · refine br_c (fun e => hf (fun y => y.1 0 2 (by omega) (by omega) (by omega) ((sbe 0 2 (by omega) (by omega)).mp e))) (fun e02 => ?_)
        refine br_c (fun e => hf (fun y => y.1 1 2 (by omega) (by omega) (by omega) ((sbe 1 2 (by omega) (by omega)).mp e))) (fun e12 => ?_)
        refine last (fun a b ha hb hab => ?_)
        have n01 : cl 0 ≠ cl 1 := fun e => e01 ((sbe 0 1 (by omega) (by omega)).mpr e)
        have n02 : cl 0 ≠ cl 2 := fun e => e02 ((sbe 0 2 (by omega) (by omega)).mpr e)
        have n12 : cl 1 ≠ cl 2 := fun e => e12 ((sbe 1 2 (by omega) (by omega)).mpr e)
        have : (a = 0 ∧ b = 1) ∨ (a = 1 ∧ b = 0) ∨ (a = 0 ∧ b = 2) ∨ (a = 2 ∧ b = 0) ∨ (a = 1 ∧ b = 2) ∨ (a = 2 ∧ b = 1) := by omega
        rcases this with ⟨rfl, rfl⟩ | ⟨rfl, rfl⟩ | ⟨rfl, rfl⟩ | ⟨rfl, rfl⟩ | ⟨rfl, rfl⟩ | ⟨rfl, rfl⟩
        · exact n01
        · exact n01.symm
        · exact n02
        · exact n02.symm
        · exact n12
        · exact n12.symm
  | succ q ih =>
    intro i hi
    have := ih (i + 1) (by omega)
    obtain ⟨s1, s2⟩ := hsb i (by omega)
    refine br_f (nI_ge (by omega) (by omega)) ⟨vp_in_nI (by omega) (by decide), ?_⟩
    rw [nI_clamp (n := i) (by omega), s1]
    exact ⟨vp_in_nI s2 (by decide), nm_r (e' := ce_A (gr_ms cl (i + 1))) (by rw [rl_b1, nI_clamp (n := cl i) (by omega), ce_A_set s2]; rfl) (nm_r (nI_1 i) this)⟩
theorem ys_58 {post : Int32 → SY → Prop} {w lv : Int64} {B L s : Nat} {yf_lim yf_hs yf_started yf_pu yf_moves yf_pushes yf_hn yf_solLen yf_nextState : Int32} {ya_edit ya_goal ya_hFrom ya_hBf ya_hBt ya_sol ya_reach ya_stack ya_liveMark ya_liveIdx ya_liveCell ya_dist ya_ob : Nat → Int32} (hB1 : 1 ≤ B) (hB : B ≤ 3) (hL : ce_rk lv 64 = L) (h1 : 1 ≤ L) (hs : s < 2 ^ 31) (hlc : ∀ j, j < L → ya_liveCell j = nI (gr_sel lv 64 j))
    (ht : ∀ sb, (∀ j, j < B → sb j = nI (ys_cl lv L B s j)) → ys_V w lv L B s → post 1 (yf_lim, yf_hs, yf_started, yf_pu, yf_moves, yf_pushes, yf_hn, yf_solLen, nI B, nI L, nI (s % 64), yf_nextState, ya_edit, ce_A w, ya_goal, ce_A (gr_ms (ys_cl lv L B s) B), ya_hFrom, ya_hBf, ya_hBt, ya_sol, ya_reach, ya_stack, ya_liveMark, ya_liveIdx, ya_liveCell, ya_dist, sb, ya_ob))
    (hf : ∀ sb, (∀ j, j < B → sb j = nI (ys_cl lv L B s j)) → ¬ ys_V w lv L B s → post 0 (yf_lim, yf_hs, yf_started, yf_pu, yf_moves, yf_pushes, yf_hn, yf_solLen, nI B, nI L, nI (s % 64), yf_nextState, ya_edit, ce_A w, ya_goal, ce_A (gr_ms (ys_cl lv L B s) B), ya_hFrom, ya_hBf, ya_hBt, ya_sol, ya_reach, ya_stack, ya_liveMark, ya_liveIdx, ya_liveCell, ya_dist, sb, ya_ob)) :
    ∀ r t sb x3, r + t = B → (r = 0 → x3 = -1) → (∀ q, r = q + 1 → x3 = nI q) → (∀ j, r ≤ j → j < B → sb j = nI (ys_cl lv L B s j)) → wY_load_58 post yf_lim yf_hs yf_started yf_pu yf_moves yf_pushes yf_hn yf_solLen (nI B) (nI L) (nI (s % 64)) yf_nextState (r + 1) (nI (s / 64 / L ^ t)) x3 ya_edit (ce_A w) ya_goal (ce_A 0) ya_hFrom ya_hBf ya_hBt ya_sol ya_reach ya_stack ya_liveMark ya_liveIdx ya_liveCell ya_dist (sb) ya_ob := by
  have hL64 : L ≤ 64 := by rw [← hL]; exact ce_rk_le _ _
  intro r
  induction r with
  | zero =>
    intro t sb x3 ht' h2 h3 h4
    rw [h2 rfl]
    refine br_t (by decide) ⟨B + 1, ?_⟩
    have := ys_94 (post := post) (w := w) (cl := ys_cl lv L B s) (ya_sb := sb) hB1 hB (Nat.mod_lt s (by decide)) (fun j hj => ⟨h4 j (by omega) hj, (ys_cl_ok hL h1 B s j).2⟩) (ht sb (fun j hj => h4 j (by omega) hj)) (hf sb (fun j hj => h4 j (by omega) hj)) B 0 (by omega)
    exact this
  | succ r ih =>
    intro t sb x3 ht' h2 h3 h4
    rw [h3 r rfl]
    have hv : s / 64 / L ^ t < 2 ^ 31 := Nat.lt_of_le_of_lt (Nat.le_trans (Nat.div_le_self _ _) (Nat.div_le_self _ _)) hs
    have hL31 : L < 2 ^ 31 := by omega
    have er : nI (s / 64 / L ^ t) - nI (s / 64 / L ^ t) / nI L * nI L = nI (s / 64 / L ^ t % L) := pk_rem hv h1 hL31
    have ed : nI (s / 64 / L ^ t) / nI L = nI (s / 64 / L ^ (t + 1)) := by
      rw [pk_div hv h1 hL31, Nat.pow_succ, Nat.div_div_eq_div_mul (s / 64)]
    have hm : s / 64 / L ^ t % L < L := Nat.mod_lt _ h1
    have nz : ¬ nI L = 0 := nI_ne0 h1 hL31
    refine br_f (nI_pos (by omega)) ⟨nz, ?_⟩
    rw [er]
    refine ⟨vp_in_nI (by omega) (by decide), vp_in_nI (by omega) (by decide), nm_r (e' := upd sb r (nI (ys_cl lv L B s r))) ?_ ⟨nz, nm_r ed (nm_e ?_)⟩⟩
    · rw [nI_clamp (n := r) (by omega), nI_clamp (n := s / 64 / L ^ t % L) (by omega), hlc _ hm]
      unfold ys_cl gr_dg
      rw [show B - 1 - r = t by omega]
    · refine ih (t + 1) _ _ (by omega) (fun e => ?_) (fun q e => ?_) (fun j hj hjB => ?_)
      · subst e; exact rl_m1
      · subst e; exact pk_m1 q
      · by_cases e : j = r
        · subst e; rw [pk_us]
        · rw [pk_un e]; exact h4 j (by omega) hjB
theorem ys_load {post : Int32 → SY → Prop} {w lv : Int64} {B L s : Nat} {cl : Nat → Nat} {yf_lim yf_hs yf_started yf_pu yf_moves yf_pushes yf_hn yf_solLen yf_curP yf_nextState : Int32} {ya_edit ya_goal ya_hFrom ya_hBf ya_hBt ya_sol ya_reach ya_stack ya_liveMark ya_liveIdx ya_liveCell ya_dist ya_sb ya_ob : Nat → Int32} (hB1 : 1 ≤ B) (hB : B ≤ 3) (hL : ce_rk lv 64 = L) (h1 : 1 ≤ L) (hs : s < 2 ^ 31) (hlc : ∀ j, j < L → ya_liveCell j = nI (gr_sel lv 64 j)) (hsb : ∀ j, j < B → ya_sb j = nI (cl j) ∧ cl j < 64)
    (ht : ∀ sb, (∀ j, j < B → sb j = nI (ys_cl lv L B s j)) → ys_V w lv L B s → post 1 (yf_lim, yf_hs, yf_started, yf_pu, yf_moves, yf_pushes, yf_hn, yf_solLen, nI B, nI L, nI (s % 64), yf_nextState, ya_edit, ce_A w, ya_goal, ce_A (gr_ms (ys_cl lv L B s) B), ya_hFrom, ya_hBf, ya_hBt, ya_sol, ya_reach, ya_stack, ya_liveMark, ya_liveIdx, ya_liveCell, ya_dist, sb, ya_ob))
    (hf : ∀ sb, (∀ j, j < B → sb j = nI (ys_cl lv L B s j)) → ¬ ys_V w lv L B s → post 0 (yf_lim, yf_hs, yf_started, yf_pu, yf_moves, yf_pushes, yf_hn, yf_solLen, nI B, nI L, nI (s % 64), yf_nextState, ya_edit, ce_A w, ya_goal, ce_A (gr_ms (ys_cl lv L B s) B), ya_hFrom, ya_hBf, ya_hBt, ya_sol, ya_reach, ya_stack, ya_liveMark, ya_liveIdx, ya_liveCell, ya_dist, sb, ya_ob)) :
    wpY_load post (yf_lim, yf_hs, yf_started, yf_pu, yf_moves, yf_pushes, yf_hn, yf_solLen, nI B, nI L, yf_curP, yf_nextState, ya_edit, ce_A w, ya_goal, ce_A (gr_ms cl B), ya_hFrom, ya_hBf, ya_hBt, ya_sol, ya_reach, ya_stack, ya_liveMark, ya_liveIdx, ya_liveCell, ya_dist, ya_sb, ya_ob) (nI s) := by
  have hL64 : L ≤ 64 := by rw [← hL]; exact ce_rk_le _ _
  have key : ∀ q i, i + q = B → wY_load_12 post (nI s) yf_lim yf_hs yf_started yf_pu yf_moves yf_pushes yf_hn yf_solLen (nI B) (nI L) yf_curP yf_nextState (q + 1) (nI i) ya_edit (ce_A w) ya_goal (ce_A (gr_cr (gr_ms cl B) cl i)) ya_hFrom ya_hBf ya_hBt ya_sol ya_reach ya_stack ya_liveMark ya_liveIdx ya_liveCell ya_dist ya_sb ya_ob := by
    intro q
    induction q with
    | zero =>
      intro i hi
      have e : i = B := by omega
      subst e
      rw [gr_cr0 (fun j hj => (hsb j hj).2)]
      have e1 : nI s &&& 63 = nI (s % 64) := pk_andN (by omega) 6 (by decide)
      have e2 : nI s >>> ((6 : Int32) &&& 31) = nI (s / 64) := pk_shrN hs _ 6 (by decide)
      refine br_t (nI_le (Nat.le_refl i) (by omega)) (nm_r e1 (nm_r e2 (nm_r (pk_sub (b := 1) hB1) ⟨i + 1, ?_⟩)))
      have := ys_58 (post := post) (w := w) hB1 hB hL h1 hs hlc ht hf i 0 ya_sb (nI (i - 1)) (by omega) (fun e => by omega) (fun q e => by rw [e]; rfl) (fun j h1 h2 => by omega)
      rw [Nat.pow_zero, Nat.div_one] at this
      exact this
    | succ q ih =>
      intro i hi
      have := ih (i + 1) (by omega)
      obtain ⟨s1, s2⟩ := hsb i (by omega)
      refine br_f (nI_ge (by omega) (by omega)) ⟨vp_in_nI (by omega) (by decide), ?_⟩
      rw [nI_clamp (n := i) (by omega), s1]
      exact ⟨vp_in_nI s2 (by decide), nm_r (e' := ce_A (gr_cr (gr_ms cl B) cl (i + 1))) (by rw [rl_b0, nI_clamp (n := cl i) (by omega), ce_A_clr s2]; rfl) (nm_r (nI_1 i) this)⟩
  exact br_t (nI_le (a := 1) h1 (by omega)) ⟨B + 1, key B 0 (by omega)⟩
end
section
/-! onGoals, slot, target, relax, bestPush -/
theorem ys_goals0 {post : Int32 → Prop} {g : Int64} {B : Nat} {cl : Nat → Nat} {yf_lim yf_hs yf_started yf_pu yf_moves yf_pushes yf_hn yf_solLen yf_nL yf_curP yf_nextState : Int32} {ya_edit ya_wall ya_box ya_hFrom ya_hBf ya_hBt ya_sol ya_reach ya_stack ya_liveMark ya_liveIdx ya_liveCell ya_dist ya_sb ya_ob : Nat → Int32} (hB : B ≤ 3) (hsb : ∀ j, j < B → ya_sb j = nI (cl j) ∧ cl j < 64) (ht : (∀ j, j < B → ce_b g (cl j) = true) → post 1) (hf : ¬ (∀ j, j < B → ce_b g (cl j) = true) → post 0) :
    ∀ q i, i + q = B → (∀ j, j < i → ce_b g (cl j) = true) → wY_onGoals_2 post yf_lim yf_hs yf_started yf_pu yf_moves yf_pushes yf_hn yf_solLen (nI B) yf_nL yf_curP yf_nextState ya_edit ya_wall (ce_A g) ya_box ya_hFrom ya_hBf ya_hBt ya_sol ya_reach ya_stack ya_liveMark ya_liveIdx ya_liveCell ya_dist ya_sb ya_ob (q + 1) (nI i) := by
  intro q
  induction q with
  | zero =>
    intro i hi h
    have e : i = B := by omega
    subst e
    exact br_t (nI_le (Nat.le_refl i) (by omega)) (ht h)
  | succ q ih =>
    intro i hi h
    obtain ⟨s1, s2⟩ := hsb i (by omega)
    refine br_f (nI_ge (by omega) (by omega)) ⟨vp_in_nI (by omega) (by decide), ?_⟩
    rw [nI_clamp (n := i) (by omega), s1]
    refine ⟨vp_in_nI s2 (by decide), ?_⟩
    rw [nI_clamp (n := cl i) (by omega)]
    cases hg : ce_b g (cl i)
    · exact br_t (ce_Af hg) (hf (fun z => by rw [z i (by omega)] at hg; cases hg))
    · refine br_f (by rw [ce_At hg]; decide) (nm_r (nI_1 i) (ih (i + 1) (by omega) (fun j hj => ?_)))
      by_cases e : j = i
      · subst e; exact hg
      · exact h j (by omega)
theorem ys_goals {post : Int32 → Prop} {g : Int64} {B : Nat} {cl : Nat → Nat} {p : Nat} {yf_lim yf_hs yf_started yf_pu yf_moves yf_pushes yf_hn yf_solLen yf_nL yf_curP yf_nextState : Int32} {ya_edit ya_wall ya_box ya_hFrom ya_hBf ya_hBt ya_sol ya_reach ya_stack ya_liveMark ya_liveIdx ya_liveCell ya_dist ya_sb ya_ob : Nat → Int32} (hB : B ≤ 3) (hsb : ∀ j, j < B → ya_sb j = nI (cl j) ∧ cl j < 64) (ht : gr_so g (gr_ms cl B, p) → post 1) (hf : ¬ gr_so g (gr_ms cl B, p) → post 0) : wpY_onGoals post (yf_lim, yf_hs, yf_started, yf_pu, yf_moves, yf_pushes, yf_hn, yf_solLen, nI B, yf_nL, yf_curP, yf_nextState, ya_edit, ya_wall, ce_A g, ya_box, ya_hFrom, ya_hBf, ya_hBt, ya_sol, ya_reach, ya_stack, ya_liveMark, ya_liveIdx, ya_liveCell, ya_dist, ya_sb, ya_ob) := by
  have e : gr_so g (gr_ms cl B, p) ↔ ∀ j, j < B → ce_b g (cl j) = true := by
    refine (gr_soI g (gr_ms cl B)).trans ⟨fun h j hj => h _ ((gr_msT B (fun j hj => (hsb j hj).2) _).mpr ⟨j, hj, rfl⟩), fun h c hc => ?_⟩
    obtain ⟨j, j1, j2⟩ := (gr_msT B (fun j hj => (hsb j hj).2) c).mp hc
    rw [← j2]
    exact h j j1
  exact ⟨B + 1, ys_goals0 hB hsb (fun z => ht (e.mpr z)) (fun z => hf (fun y => z (e.mp y))) B 0 (by omega) (fun j hj => by omega)⟩
theorem ys_slot0 {post : Int32 → Prop} {B x : Nat} {cl : Nat → Nat} {yf_lim yf_hs yf_started yf_pu yf_moves yf_pushes yf_hn yf_solLen yf_nL yf_curP yf_nextState : Int32} {ya_edit ya_wall ya_goal ya_box ya_hFrom ya_hBf ya_hBt ya_sol ya_reach ya_stack ya_liveMark ya_liveIdx ya_liveCell ya_dist ya_sb ya_ob : Nat → Int32} (hB : B ≤ 3) (hx : x < 64) (hsb : ∀ j, j < B → ya_sb j = nI (cl j) ∧ cl j < 64) (ht : ∀ k, k < B → cl k = x → post (nI k)) (hf : (∀ k, k < B → cl k ≠ x) → post (-1)) :
    ∀ q i, i + q = B → (∀ j, j < i → cl j ≠ x) → wY_slot_2 post (nI x) yf_lim yf_hs yf_started yf_pu yf_moves yf_pushes yf_hn yf_solLen (nI B) yf_nL yf_curP yf_nextState ya_edit ya_wall ya_goal ya_box ya_hFrom ya_hBf ya_hBt ya_sol ya_reach ya_stack ya_liveMark ya_liveIdx ya_liveCell ya_dist ya_sb ya_ob (q + 1) (nI i) := by
  intro q
  induction q with
  | zero =>
    intro i hi h
    have e : i = B := by omega
    subst e
    exact br_t (nI_le (Nat.le_refl i) (by omega)) (hf h)
  | succ q ih =>
    intro i hi h
    obtain ⟨s1, s2⟩ := hsb i (by omega)
    refine br_f (nI_ge (by omega) (by omega)) ⟨vp_in_nI (by omega) (by decide), ?_⟩
    rw [nI_clamp (n := i) (by omega), s1]
    refine pk_eq (cl i) x (fun e => ht i (by omega) e) (fun e => nm_r (nI_1 i) (ih (i + 1) (by omega) (fun j hj => ?_)))
    by_cases z : j = i
    · subst z; exact e
    · exact h j (by omega)
theorem ys_slot {post : Int32 → Prop} {B x : Nat} {cl : Nat → Nat} {yf_lim yf_hs yf_started yf_pu yf_moves yf_pushes yf_hn yf_solLen yf_nL yf_curP yf_nextState : Int32} {ya_edit ya_wall ya_goal ya_box ya_hFrom ya_hBf ya_hBt ya_sol ya_reach ya_stack ya_liveMark ya_liveIdx ya_liveCell ya_dist ya_sb ya_ob : Nat → Int32} (hB : B ≤ 3) (hx : x < 64) (hsb : ∀ j, j < B → ya_sb j = nI (cl j) ∧ cl j < 64) (ht : ∀ k, k < B → cl k = x → post (nI k)) (hf : (∀ k, k < B → cl k ≠ x) → post (-1)) : wpY_slot post (yf_lim, yf_hs, yf_started, yf_pu, yf_moves, yf_pushes, yf_hn, yf_solLen, nI B, yf_nL, yf_curP, yf_nextState, ya_edit, ya_wall, ya_goal, ya_box, ya_hFrom, ya_hBf, ya_hBt, ya_sol, ya_reach, ya_stack, ya_liveMark, ya_liveIdx, ya_liveCell, ya_dist, ya_sb, ya_ob) (nI x) :=
  ⟨B + 1, ys_slot0 hB hx hsb ht hf B 0 (by omega) (fun j hj => by omega)⟩
/-- the state that load has laid, with the flood done -/
def ys_S (w lv : Int64) (B L s : Nat) (lm li re sb : Nat → Int32) : Prop :=
  B ≤ 3 ∧ ce_rk lv 64 = L ∧ 1 ≤ L ∧ ys_V w lv L B s ∧ (∀ c, c < 64 → lm c = ce_A lv c) ∧ (∀ c, ce_b lv c = true → li c = nI (ce_rk lv c)) ∧ (∀ c, c < 64 → re c = ce_A (gr_area w (gr_ms (ys_cl lv L B s) B) (s % 64)) c) ∧ (∀ j, j < B → sb j = nI (ys_cl lv L B s j))
theorem ys_tgt {post : Int32 → Prop} {w lv : Int64} {B L s k d : Nat} {yf_lim yf_hs yf_started yf_pu yf_moves yf_pushes yf_hn yf_solLen yf_curP yf_nextState : Int32} {ya_edit ya_goal ya_hFrom ya_hBf ya_hBt ya_sol ya_reach ya_stack ya_liveMark ya_liveIdx ya_liveCell ya_dist ya_sb ya_ob : Nat → Int32} (hS : ys_S w lv B L s ya_liveMark ya_liveIdx ya_reach ya_sb) (hk : k < B) (hd : d < 4)
    (ht : ∀ t, gr_step w lv (ys_ab lv L B s) (ys_cl lv L B s k * 4 + d) = some t → post (nI (ys_en lv L B s (ys_cl lv L B s k * 4 + d)))) (hf : gr_step w lv (ys_ab lv L B s) (ys_cl lv L B s k * 4 + d) = none → post (-1)) :
    wpY_target post (yf_lim, yf_hs, yf_started, yf_pu, yf_moves, yf_pushes, yf_hn, yf_solLen, nI B, nI L, yf_curP, yf_nextState, ya_edit, ce_A w, ya_goal, ce_A (gr_ms (ys_cl lv L B s) B), ya_hFrom, ya_hBf, ya_hBt, ya_sol, ya_reach, ya_stack, ya_liveMark, ya_liveIdx, ya_liveCell, ya_dist, ya_sb, ya_ob) (nI k) (nI (ys_cl lv L B s k)) (nI d) := by
  obtain ⟨hB, hL, h1, hV, hlm, hli, hre, hsb⟩ := hS
  have hcl : ∀ j, j < B → ys_cl lv L B s j < 64 := fun j _ => (ys_cl_ok hL h1 B s j).2
  have hx := hcl k hk
  have eq4 : (ys_cl lv L B s k * 4 + d) / 4 = ys_cl lv L B s k := by omega
  have em4 : (ys_cl lv L B s k * 4 + d) % 4 = d := by omega
  have hbx : ce_b (gr_ms (ys_cl lv L B s) B) (ys_cl lv L B s k) = true := (gr_msT B hcl _).mpr ⟨k, hk, rfl⟩
  unfold wpY_target
  rw [ys_opp hd]
  refine ys_nbN hx hd (ys_nbN hx (by omega) (ys_free (ce_n_le _ _) ?_))
  have no : ¬ (ce_b (gr_ms (ys_cl lv L B s) B) (ys_cl lv L B s k) = true ∧ ce_n (ys_cl lv L B s k) d < 64 ∧ ce_b w (ce_n (ys_cl lv L B s k) d) = false ∧ ce_b (gr_ms (ys_cl lv L B s) B) (ce_n (ys_cl lv L B s k) d) = false ∧ ce_b (gr_area w (gr_ms (ys_cl lv L B s) B) (s % 64)) (ce_n (ys_cl lv L B s k) ((d + 2) % 4)) = true ∧ ce_b lv (ce_n (ys_cl lv L B s k) d) = true) → post (-1) := by
    intro z
    apply hf
    apply gr_step_n
    rw [eq4, em4]
    exact z
  refine br_c (fun z => no (fun y => gr_fn z ⟨y.2.1, y.2.2.1, y.2.2.2.1⟩)) (fun z => ys_free (ce_n_le _ _) ?_)
  have fa := gr_fz z
  refine br_c (fun y => no (fun q => ?_)) (fun y => ?_)
  · have hm : s % 64 < 64 := Nat.mod_lt _ (by decide)
    have := gr_area_free hm hV.2.1 hV.2.2 q.2.2.2.2.1
    exact gr_fn y ⟨ce_lt q.2.2.2.2.1, this.1, this.2⟩
  · have fb := gr_fz y
    refine ⟨ce_I_vp fb.1, ?_⟩
    rw [ce_I_cl fb.1, hre _ fb.1]
    cases ar : ce_b (gr_area w (gr_ms (ys_cl lv L B s) B) (s % 64)) (ce_n (ys_cl lv L B s k) ((d + 2) % 4))
    · exact br_t (ce_Af ar) (no (fun q => by rw [ar] at q; cases q.2.2.2.2.1))
    · refine br_f (by rw [ce_At ar]; decide) ⟨ce_I_vp fa.1, ?_⟩
      rw [ce_I_cl fa.1, hlm _ fa.1]
      cases hl : ce_b lv (ce_n (ys_cl lv L B s k) d)
      · exact br_t (ce_Af hl) (no (fun q => by rw [hl] at q; cases q.2.2.2.2.2))
      · have hst : gr_step w lv (ys_ab lv L B s) (ys_cl lv L B s k * 4 + d) = some (gr_mv (gr_ms (ys_cl lv L B s) B) (ys_cl lv L B s k) (ce_n (ys_cl lv L B s k) d), ys_cl lv L B s k) := by
          have := gr_step_s (w := w) (lv := lv) (s := ys_ab lv L B s) (c := ys_cl lv L B s k * 4 + d) (by rw [eq4, em4]; exact ⟨hbx, fa.1, fa.2.1, fa.2.2, ar, hl⟩)
          rw [eq4, em4] at this
          exact this
        refine br_f (by rw [ce_At hl]; decide) ?_
        rw [ce_I_in fa.1]
        refine ys_enc (lv := lv) (k := k) (a := ce_n (ys_cl lv L B s k) d) (cl := ys_cl lv L B s) hB (fun j hj => nI_eq (by omega) (by omega)) (fun _ => ⟨rfl, fa.1⟩) (fun j hj => ⟨hsb j hj, hcl j hj⟩) (fun j hj => ?_) ?_
        · apply hli
          unfold gr_rp
          split
          · exact hl
          · exact (ys_cl_ok hL h1 B s j).1
        · have := ht _ hst
          unfold ys_en at this
          rw [eq4] at this
          have e : gr_cd L (fun j => ce_rk lv (ys_tp lv L B s (ys_cl lv L B s k * 4 + d) j)) B = gr_cd L (fun j => ce_rk lv (gr_rp (ys_cl lv L B s) k (ce_n (ys_cl lv L B s k) d) j)) B := by
            refine gr_cd_congr B (fun j hj => ?_)
            rw [ys_tp_rp hV.1 hk eq4.symm j hj, eq4, em4]
          rw [e] at this
          exact this
/-! relax -/
def ys_RB (w g lv : Int64) (B L s : Nat) (di : Nat → Nat) (be k d : Nat) : Prop :=
  be ≤ di s ∧ (∀ i e, i < B → e < 4 → (i < k ∨ (i = k ∧ e < d)) → ∀ t, gr_step w lv (ys_ab lv L B s) (ys_cl lv L B s i * 4 + e) = some t → be ≤ di (ys_en lv L B s (ys_cl lv L B s i * 4 + e)) + 1) ∧
  (be = di s ∨ ∃ c t, c < 256 ∧ gr_step w lv (ys_ab lv L B s) c = some t ∧ be = di (ys_en lv L B s c) + 1)
theorem ys_28r {post : Int32 → SY → Prop} {J : Int32 → Int32 → Prop} {w g lv : Int64} {B L s k : Nat} {di : Nat → Nat} {yf_lim yf_hs yf_started yf_pu yf_moves yf_pushes yf_hn yf_solLen yf_curP yf_nextState : Int32} {ya_edit ya_goal ya_hFrom ya_hBf ya_hBt ya_sol ya_reach ya_stack ya_liveMark ya_liveIdx ya_liveCell ya_dist ya_sb ya_ob : Nat → Int32} (hfit : gr_fit B L) (hS : ys_S w lv B L s ya_liveMark ya_liveIdx ya_reach ya_sb) (hs : s < 64 * L ^ B) (hlw : ∀ c, ce_b lv c = true → ce_b w c = false) (hk : k < B) (hdi : ∀ x, x < 64 * L ^ B → ya_dist x = nI (di x) ∧ di x ≤ 1000)
    (hJ : ∀ be, ys_RB w g lv B L s di be (k + 1) 0 → J (nI be) (nI (k + 1))) :
    ∀ q d be, d + q = 4 → ys_RB w g lv B L s di be k d → wY_relax_28 post J (nI s) (nI k) yf_lim yf_hs yf_started yf_pu yf_moves yf_pushes yf_hn yf_solLen (nI B) (nI L) yf_curP yf_nextState ya_edit (ce_A w) ya_goal (ce_A (gr_ms (ys_cl lv L B s) B)) ya_hFrom ya_hBf ya_hBt ya_sol ya_reach ya_stack ya_liveMark ya_liveIdx ya_liveCell ya_dist ya_sb ya_ob (q + 1) (nI be) (nI d) := by
  have hpw := gr_pw hfit
  intro q
  induction q with
  | zero =>
    intro d be hd h
    refine br_t (nI_le (a := 4) (by omega) (by omega)) (nm_r (nI_1 k) (hJ be ⟨h.1, fun i e hi he hik => h.2.1 i e hi he (by omega), h.2.2⟩))
  | succ q ih =>
    intro d be hd h
    have hdi_s := hdi s hs
    have hbe := h.1
    refine br_f (nI_ge (b := 4) (by omega) (by decide)) ⟨vp_in_nI (by have := hS.1; omega) (by decide), ?_⟩
    rw [nI_clamp (n := k) (by have := hS.1; omega), hS.2.2.2.2.2.2.2 k hk]
    have nx : ∀ be', be' ≤ be → (∀ t, gr_step w lv (ys_ab lv L B s) (ys_cl lv L B s k * 4 + d) = some t → be' ≤ di (ys_en lv L B s (ys_cl lv L B s k * 4 + d)) + 1) → (be' = be ∨ ∃ c t, c < 256 ∧ gr_step w lv (ys_ab lv L B s) c = some t ∧ be' = di (ys_en lv L B s c) + 1) → wY_relax_28 post J (nI s) (nI k) yf_lim yf_hs yf_started yf_pu yf_moves yf_pushes yf_hn yf_solLen (nI B) (nI L) yf_curP yf_nextState ya_edit (ce_A w) ya_goal (ce_A (gr_ms (ys_cl lv L B s) B)) ya_hFrom ya_hBf ya_hBt ya_sol ya_reach ya_stack ya_liveMark ya_liveIdx ya_liveCell ya_dist ya_sb ya_ob (q + 1) (nI be') (nI (d + 1)) := by
      intro be' n1 n2 n3
      refine ih (d + 1) be' (by omega) ⟨by omega, fun i e hi he hik t hst => ?_, ?_⟩
      · by_cases z : i = k ∧ e = d
        · obtain ⟨rfl, rfl⟩ := z
          exact n2 t hst
        · exact Nat.le_trans n1 (h.2.1 i e hi he (by omega) t hst)
      · rcases n3 with z | z
        · rw [z]; exact h.2.2
        · exact Or.inr z
    refine ys_tgt hS hk (by omega) (fun t hst => ?_) (fun hst => ?_)
    · have hc : ys_cl lv L B s k * 4 + d < 256 := by have := (ys_cl_ok hS.2.1 hS.2.2.1 B s k).2; omega
      obtain ⟨e1, e2, e3⟩ := ys_hen hS.2.1 hS.2.2.1 hlw s _ t hs hS.2.2.2.1 hc hst
      obtain ⟨d1, d2⟩ := hdi _ e1
      have ev : vp_in (nI (ys_en lv L B s (ys_cl lv L B s k * 4 + d))) 13824 := vp_in_nI (by omega) (by decide)
      refine br_f (nI_pos (by omega)) ⟨ev, ?_⟩
      rw [nI_clamp (n := ys_en lv L B s (ys_cl lv L B s k * 4 + d)) (by omega), d1, nI_1]
      refine pk_le be (di (ys_en lv L B s (ys_cl lv L B s k * 4 + d)) + 1) (fun z => nm_r (nI_1 d) (nx be (Nat.le_refl _) (fun _ _ => z) (Or.inl rfl))) (fun z => ⟨ev, nm_e (nm_r (nI_1 d) (nx _ (by omega) (fun _ _ => Nat.le_refl _) (Or.inr ⟨_, t, hc, hst, rfl⟩)))⟩)
    · exact br_t (by decide) (nm_r (nI_1 d) (nx be (Nat.le_refl _) (fun t z => by rw [hst] at z; cases z) (Or.inl rfl)))
theorem ys_17r {post : Int32 → SY → Prop} {w g lv : Int64} {B L s : Nat} {di : Nat → Nat} {yf_lim yf_hs yf_started yf_pu yf_moves yf_pushes yf_hn yf_solLen yf_curP yf_nextState : Int32} {ya_edit ya_goal ya_hFrom ya_hBf ya_hBt ya_sol ya_reach ya_stack ya_liveMark ya_liveIdx ya_liveCell ya_dist ya_sb ya_ob : Nat → Int32} (hfit : gr_fit B L) (hS : ys_S w lv B L s ya_liveMark ya_liveIdx ya_reach ya_sb) (hs : s < 64 * L ^ B) (hlw : ∀ c, ce_b lv c = true → ce_b w c = false) (hdi : ∀ x, x < 64 * L ^ B → ya_dist x = nI (di x) ∧ di x ≤ 1000)
    (h0 : gr_RX (gr_step w lv) (ys_ab lv L B) (ys_en lv L B) di s (di s) → post 0 (yf_lim, yf_hs, yf_started, yf_pu, yf_moves, yf_pushes, yf_hn, yf_solLen, nI B, nI L, yf_curP, yf_nextState, ya_edit, ce_A w, ya_goal, ce_A (gr_ms (ys_cl lv L B s) B), ya_hFrom, ya_hBf, ya_hBt, ya_sol, ya_reach, ya_stack, ya_liveMark, ya_liveIdx, ya_liveCell, ya_dist, ya_sb, ya_ob))
    (h1 : ∀ be, gr_RX (gr_step w lv) (ys_ab lv L B) (ys_en lv L B) di s be → be < di s → post 1 (yf_lim, yf_hs, yf_started, yf_pu, yf_moves, yf_pushes, yf_hn, yf_solLen, nI B, nI L, yf_curP, yf_nextState, ya_edit, ce_A w, ya_goal, ce_A (gr_ms (ys_cl lv L B s) B), ya_hFrom, ya_hBf, ya_hBt, ya_sol, ya_reach, ya_stack, ya_liveMark, ya_liveIdx, ya_liveCell, upd ya_dist s (nI be), ya_sb, ya_ob)) :
    ∀ q k be, k + q = B → ys_RB w g lv B L s di be k 0 → wY_relax_17 post (nI s) yf_lim yf_hs yf_started yf_pu yf_moves yf_pushes yf_hn yf_solLen (nI B) (nI L) yf_curP yf_nextState ya_edit (ce_A w) ya_goal (ce_A (gr_ms (ys_cl lv L B s) B)) ya_hFrom ya_hBf ya_hBt ya_sol ya_reach ya_stack ya_liveMark ya_liveIdx ya_liveCell ya_dist ya_sb ya_ob (q + 1) (nI be) (nI k) := by
  have hpw := gr_pw hfit
  have hB := hS.1
  intro q
  induction q with
  | zero =>
    intro k be hk h
    have e : k = B := by omega
    subst e
    have hcl : ∀ j, j < k → ys_cl lv L k s j < 64 := fun j _ => (ys_cl_ok hS.2.1 hS.2.2.1 k s j).2
    have rx : gr_RX (gr_step w lv) (ys_ab lv L k) (ys_en lv L k) di s be := by
      refine ⟨h.1, fun c t hc hst => ?_, h.2.2⟩
      have hst' := hst
      unfold gr_step at hst'
      split at hst'
      · rename_i z
        obtain ⟨i, hi, ei⟩ := (gr_msT k hcl (c / 4)).mp z.1
        have ec : ys_cl lv L k s i * 4 + c % 4 = c := by rw [ei]; omega
        have := h.2.1 i (c % 4) hi (by omega) (Or.inl hi) t (by rw [ec]; exact hst)
        rw [ec] at this
        exact this
      · cases hst'
    have ev : vp_in (nI s) 13824 := vp_in_nI (by omega) (by decide)
    have hbe := h.1
    have hd := hdi s hs
    refine br_t (nI_le (Nat.le_refl k) (by omega)) ⟨ev, ?_⟩
    rw [nI_clamp (n := s) (by omega), hd.1]
    refine pk_le (di s) be (fun z => ?_) (fun z => ⟨ev, nm_r (e' := upd ya_dist s (nI be)) rfl (h1 be rx z)⟩)
    have e : be = di s := by omega
    rw [e] at rx
    exact h0 rx
  | succ q ih =>
    intro k be hk h
    exact br_f (nI_ge (by omega) (by omega)) ⟨5, ys_28r hfit hS hs hlw (by omega) hdi (fun be' h' => ih (k + 1) be' (by omega) h') 4 0 be (by omega) h⟩
theorem ys_relax {post : Int32 → SY → Prop} {w g lv : Int64} {B L s : Nat} {di : Nat → Nat} {yf_lim yf_hs yf_started yf_pu yf_moves yf_pushes yf_hn yf_solLen yf_nextState : Int32} {ya_edit ya_goal ya_hFrom ya_hBf ya_hBt ya_sol ya_reach ya_stack ya_liveMark ya_liveIdx ya_liveCell ya_dist ya_sb ya_ob : Nat → Int32} (hfit : gr_fit B L) (hH : ys_H w lv B L ya_liveMark ya_liveIdx ya_liveCell) (hV : ys_V w lv L B s) (hsb : ∀ j, j < B → ya_sb j = nI (ys_cl lv L B s j)) (hs : s < 64 * L ^ B) (hdi : ∀ x, x < 64 * L ^ B → ya_dist x = nI (di x) ∧ di x ≤ 1000)
    (h0 : ∀ re sk, gr_RX (gr_step w lv) (ys_ab lv L B) (ys_en lv L B) di s (di s) → post 0 (yf_lim, yf_hs, yf_started, yf_pu, yf_moves, yf_pushes, yf_hn, yf_solLen, nI B, nI L, nI (s % 64), yf_nextState, ya_edit, ce_A w, ya_goal, ce_A (gr_ms (ys_cl lv L B s) B), ya_hFrom, ya_hBf, ya_hBt, ya_sol, re, sk, ya_liveMark, ya_liveIdx, ya_liveCell, ya_dist, ya_sb, ya_ob))
    (h1 : ∀ re sk be, gr_RX (gr_step w lv) (ys_ab lv L B) (ys_en lv L B) di s be → be < di s → post 1 (yf_lim, yf_hs, yf_started, yf_pu, yf_moves, yf_pushes, yf_hn, yf_solLen, nI B, nI L, nI (s % 64), yf_nextState, ya_edit, ce_A w, ya_goal, ce_A (gr_ms (ys_cl lv L B s) B), ya_hFrom, ya_hBf, ya_hBt, ya_sol, re, sk, ya_liveMark, ya_liveIdx, ya_liveCell, upd ya_dist s (nI be), ya_sb, ya_ob)) :
    wpY_relax post (yf_lim, yf_hs, yf_started, yf_pu, yf_moves, yf_pushes, yf_hn, yf_solLen, nI B, nI L, nI (s % 64), yf_nextState, ya_edit, ce_A w, ya_goal, ce_A (gr_ms (ys_cl lv L B s) B), ya_hFrom, ya_hBf, ya_hBt, ya_sol, ya_reach, ya_stack, ya_liveMark, ya_liveIdx, ya_liveCell, ya_dist, ya_sb, ya_ob) (nI s) := by
  obtain ⟨a1, a2, a3, a4, a5, a6, a7, a8, a9⟩ := hH
  have hpw := gr_pw hfit
  have hd := hdi s hs
  unfold wpY_relax
  refine ys_flood (Nat.mod_lt s (by decide)) hV.2.1 hV.2.2 (fun re sk hre => ?_)
  refine ⟨vp_in_nI (by omega) (by decide), nm_r (e' := nI (di s)) (by rw [nI_clamp (n := s) (by omega)]; exact hd.1) ⟨B + 1, ?_⟩⟩
  exact ys_17r (g := g) hfit ⟨a2, a3, a4, hV, a7, a8, hre, hsb⟩ hs a6 hdi (h0 re sk) (h1 re sk) B 0 (di s) (by omega) ⟨Nat.le_refl _, fun i e hi he hik => by omega, Or.inl rfl⟩
end
section
/-! bestPush and the ends of solve -/
theorem ys_best0 {post : Int32 → SY → Prop} {w lv : Int64} {B L s D l0 : Nat} {di : Nat → Nat} {t0 : Int64 × Nat} {yf_lim yf_hs yf_started yf_pu yf_moves yf_pushes yf_hn yf_solLen yf_curP yf_nextState : Int32} {ya_edit ya_goal ya_hFrom ya_hBf ya_hBt ya_sol ya_reach ya_stack ya_liveMark ya_liveIdx ya_liveCell ya_dist ya_sb ya_ob : Nat → Int32} (hfit : gr_fit B L) (hS : ys_S w lv B L s ya_liveMark ya_liveIdx ya_reach ya_sb) (hs : s < 64 * L ^ B) (hlw : ∀ c, ce_b lv c = true → ce_b w c = false) (hdi : ∀ x, x < 64 * L ^ B → ya_dist x = nI (di x) ∧ di x ≤ 1000)
    (hD : D < 999) (hl : l0 < 256) (hst0 : gr_step w lv (ys_ab lv L B s) l0 = some t0) (hd0 : di (ys_en lv L B s l0) = D) (hlt : ∀ c t, c < l0 → gr_step w lv (ys_ab lv L B s) c = some t → di (ys_en lv L B s c) ≠ D)
    (h : post (nI l0) (yf_lim, yf_hs, yf_started, yf_pu, yf_moves, yf_pushes, yf_hn, yf_solLen, nI B, nI L, yf_curP, nI (ys_en lv L B s l0), ya_edit, ce_A w, ya_goal, ce_A (gr_ms (ys_cl lv L B s) B), ya_hFrom, ya_hBf, ya_hBt, ya_sol, ya_reach, ya_stack, ya_liveMark, ya_liveIdx, ya_liveCell, ya_dist, ya_sb, ya_ob)) :
    ∀ q c, c + q = l0 → ∀ m, wY_bestPush_11 post (nI D) yf_lim yf_hs yf_started yf_pu yf_moves yf_pushes yf_hn yf_solLen (nI B) (nI L) yf_curP yf_nextState ya_edit (ce_A w) ya_goal (ce_A (gr_ms (ys_cl lv L B s) B)) ya_hFrom ya_hBf ya_hBt ya_sol ya_reach ya_stack ya_liveMark ya_liveIdx ya_liveCell ya_dist ya_sb ya_ob (q + 1 + m) (nI c) := by
  have hpw := gr_pw hfit
  have hB := hS.1
  have hL := hS.2.1
  have h1 := hS.2.2.1
  have hcl : ∀ j, j < B → ys_cl lv L B s j < 64 := fun j _ => (ys_cl_ok hL h1 B s j).2
  have hsb : ∀ j, j < B → ya_sb j = nI (ys_cl lv L B s j) ∧ ys_cl lv L B s j < 64 := fun j hj => ⟨hS.2.2.2.2.2.2.2 j hj, hcl j hj⟩
  have some4 : ∀ c t, gr_step w lv (ys_ab lv L B s) c = some t → ∃ k, k < B ∧ ys_cl lv L B s k = c / 4 := by
    intro c t hst
    unfold gr_step at hst
    split at hst
    · rename_i z
      exact (gr_msT B hcl (c / 4)).mp z.1
    · cases hst
  intro q
  induction q with
  | zero =>
    intro c hc m
    have e : c = l0 := by omega
    subst e
    rw [show 0 + 1 + m = m + 1 by omega]
    have e1 : nI c >>> ((2 : Int32) &&& 31) = nI (c / 4) := pk_shrN (by omega) _ 2 (by decide)
    have e2 : nI c &&& 3 = nI (c % 4) := pk_andN (by omega) 2 (by decide)
    refine br_f (nI_ge (b := 256) (by omega) (by decide)) ?_
    rw [e1, e2]
    refine ys_slot hB (by omega) hsb (fun k hk ek => ?_) (fun z => ?_)
    · refine br_f (nI_pos (by omega)) ?_
      have ec : ys_cl lv L B s k * 4 + c % 4 = c := by rw [ek]; omega
      rw [← ek]
      refine ys_tgt hS hk (by omega) (fun t hst => ?_) (fun hst => ?_)
      · rw [ec] at hst ⊢
        obtain ⟨x1, x2, x3⟩ := ys_hen hL h1 hlw s c t hs hS.2.2.2.1 hl hst
        have ev : vp_in (nI (ys_en lv L B s c)) 13824 := vp_in_nI (by omega) (by decide)
        refine br_f (nI_pos (by omega)) ⟨ev, ?_⟩
        rw [nI_clamp (n := ys_en lv L B s c) (by omega), (hdi _ x1).1, hd0]
        exact br_t rfl h
      · rw [ec, hst0] at hst
        cases hst
    · obtain ⟨k, hk, ek⟩ := some4 c t0 hst0
      exact absurd ek (z k hk)
  | succ q ih =>
    intro c hc m
    rw [show q + 1 + 1 + m = (q + 1 + m) + 1 by omega]
    have e1 : nI c >>> ((2 : Int32) &&& 31) = nI (c / 4) := pk_shrN (by omega) _ 2 (by decide)
    have e2 : nI c &&& 3 = nI (c % 4) := pk_andN (by omega) 2 (by decide)
    have nx := ih (c + 1) (by omega) m
    refine br_f (nI_ge (b := 256) (by omega) (by decide)) ?_
    rw [e1, e2]
    refine ys_slot hB (by omega) hsb (fun k hk ek => ?_) (fun z => br_t (by decide) (nm_r (nI_1 c) nx))
    refine br_f (nI_pos (by omega)) ?_
    have ec : ys_cl lv L B s k * 4 + c % 4 = c := by rw [ek]; omega
    rw [← ek]
    refine ys_tgt hS hk (by omega) (fun t hst => ?_) (fun hst => br_t (by decide) (nm_r (nI_1 c) nx))
    rw [ec] at hst ⊢
    obtain ⟨x1, x2, x3⟩ := ys_hen hL h1 hlw s c t hs hS.2.2.2.1 (by omega) hst
    have ev : vp_in (nI (ys_en lv L B s c)) 13824 := vp_in_nI (by omega) (by decide)
    have hdx := hdi _ x1
    refine br_f (nI_pos (by omega)) ⟨ev, ?_⟩
    rw [nI_clamp (n := ys_en lv L B s c) (by omega), hdx.1]
    exact br_f (fun z => hlt c t (by omega) hst ((nI_eq (by omega) (by omega)).mp z)) (nm_r (nI_1 c) nx)
theorem ys_best {post : Int32 → SY → Prop} {w lv : Int64} {B L s D l0 : Nat} {di : Nat → Nat} {t0 : Int64 × Nat} {yf_lim yf_hs yf_started yf_pu yf_moves yf_pushes yf_hn yf_solLen yf_curP yf_nextState : Int32} {ya_edit ya_goal ya_hFrom ya_hBf ya_hBt ya_sol ya_reach ya_stack ya_liveMark ya_liveIdx ya_liveCell ya_dist ya_sb ya_ob : Nat → Int32} (hfit : gr_fit B L) (hS : ys_S w lv B L s ya_liveMark ya_liveIdx ya_reach ya_sb) (hs : s < 64 * L ^ B) (hlw : ∀ c, ce_b lv c = true → ce_b w c = false) (hdi : ∀ x, x < 64 * L ^ B → ya_dist x = nI (di x) ∧ di x ≤ 1000)
    (hD : D < 999) (hds : di s = D + 1) (hl : l0 < 256) (hst0 : gr_step w lv (ys_ab lv L B s) l0 = some t0) (hd0 : di (ys_en lv L B s l0) = D) (hlt : ∀ c t, c < l0 → gr_step w lv (ys_ab lv L B s) c = some t → di (ys_en lv L B s c) ≠ D)
    (h : post (nI l0) (yf_lim, yf_hs, yf_started, yf_pu, yf_moves, yf_pushes, yf_hn, yf_solLen, nI B, nI L, yf_curP, nI (ys_en lv L B s l0), ya_edit, ce_A w, ya_goal, ce_A (gr_ms (ys_cl lv L B s) B), ya_hFrom, ya_hBf, ya_hBt, ya_sol, ya_reach, ya_stack, ya_liveMark, ya_liveIdx, ya_liveCell, ya_dist, ya_sb, ya_ob)) :
    wpY_bestPush post (yf_lim, yf_hs, yf_started, yf_pu, yf_moves, yf_pushes, yf_hn, yf_solLen, nI B, nI L, yf_curP, yf_nextState, ya_edit, ce_A w, ya_goal, ce_A (gr_ms (ys_cl lv L B s) B), ya_hFrom, ya_hBf, ya_hBt, ya_sol, ya_reach, ya_stack, ya_liveMark, ya_liveIdx, ya_liveCell, ya_dist, ya_sb, ya_ob) (nI s) := by
  have hpw := gr_pw hfit
  refine ⟨vp_in_nI (by omega) (by decide), nm_r (e' := nI D) (by rw [nI_clamp (n := s) (by omega), (hdi s hs).1, hds]; exact nI_pred D) ⟨l0 + 1 + 0, ys_best0 hfit hS hs hlw hdi hD hl hst0 hd0 hlt h l0 0 (by omega) 0⟩⟩
/-! the boxes are laid back -/
theorem ys_490 {post : Int32 → SY → Prop} {P B d0 : Nat} {x4 : Int32} {c0 : Nat → Nat} {yf_hs yf_started yf_pu yf_moves yf_pushes yf_hn yf_solLen yf_nL yf_curP yf_nextState : Int32} {ya_edit ya_wall ya_goal ya_hFrom ya_hBf ya_hBt ya_sol ya_reach ya_stack ya_liveMark ya_liveIdx ya_liveCell ya_dist ya_sb ya_ob : Nat → Int32} (hP : P ≤ 40) (hB : B ≤ 3) (hd : d0 ≤ 1000) (hob : ∀ j, j < B → ya_ob j = nI (c0 j) ∧ c0 j < 64)
    (h1 : d0 ≤ P → post (nI d0) (nI P, yf_hs, yf_started, yf_pu, yf_moves, yf_pushes, yf_hn, x4, nI B, yf_nL, yf_curP, yf_nextState, ya_edit, ya_wall, ya_goal, ce_A (gr_ms c0 B), ya_hFrom, ya_hBf, ya_hBt, ya_sol, ya_reach, ya_stack, ya_liveMark, ya_liveIdx, ya_liveCell, ya_dist, ya_sb, ya_ob)) (h2 : P < d0 → post (-7) (nI P, yf_hs, yf_started, yf_pu, yf_moves, yf_pushes, yf_hn, 0, nI B, yf_nL, yf_curP, yf_nextState, ya_edit, ya_wall, ya_goal, ce_A (gr_ms c0 B), ya_hFrom, ya_hBf, ya_hBt, ya_sol, ya_reach, ya_stack, ya_liveMark, ya_liveIdx, ya_liveCell, ya_dist, ya_sb, ya_ob)) :
    ∀ q i, i + q = B → wY_solve_490 post (nI d0) x4 (nI P) yf_hs yf_started yf_pu yf_moves yf_pushes yf_hn yf_solLen (nI B) yf_nL yf_curP yf_nextState (q + 1) (nI i) ya_edit ya_wall ya_goal (ce_A (gr_ms c0 i)) ya_hFrom ya_hBf ya_hBt ya_sol ya_reach ya_stack ya_liveMark ya_liveIdx ya_liveCell ya_dist ya_sb ya_ob := by
  intro q
  induction q with
  | zero =>
    intro i hi
    have e : i = B := by omega
    subst e
    exact br_t (nI_le (Nat.le_refl i) (by omega)) (pk_le d0 P h1 h2)
  | succ q ih =>
    intro i hi
    have := ih (i + 1) (by omega)
    obtain ⟨s1, s2⟩ := hob i (by omega)
    refine br_f (nI_ge (by omega) (by omega)) ⟨vp_in_nI (by omega) (by decide), ?_⟩
    rw [nI_clamp (n := i) (by omega), s1]
    exact ⟨vp_in_nI s2 (by decide), nm_r (e' := ce_A (gr_ms c0 (i + 1))) (by rw [rl_b1, nI_clamp (n := c0 i) (by omega), ce_A_set s2]; rfl) (nm_r (nI_1 i) this)⟩
theorem ys_459 {post : Int32 → SY → Prop} {P B d0 : Nat} {x4 : Int32} {c0 cl : Nat → Nat} {yf_hs yf_started yf_pu yf_moves yf_pushes yf_hn yf_solLen yf_nL yf_curP yf_nextState : Int32} {ya_edit ya_wall ya_goal ya_hFrom ya_hBf ya_hBt ya_sol ya_reach ya_stack ya_liveMark ya_liveIdx ya_liveCell ya_dist ya_sb ya_ob : Nat → Int32} (hP : P ≤ 40) (hB : B ≤ 3) (hd : d0 ≤ 1000) (hob : ∀ j, j < B → ya_ob j = nI (c0 j) ∧ c0 j < 64) (hsb : ∀ j, j < B → ya_sb j = nI (cl j) ∧ cl j < 64)
    (h1 : d0 ≤ P → post (nI d0) (nI P, yf_hs, yf_started, yf_pu, yf_moves, yf_pushes, yf_hn, x4, nI B, yf_nL, yf_curP, yf_nextState, ya_edit, ya_wall, ya_goal, ce_A (gr_ms c0 B), ya_hFrom, ya_hBf, ya_hBt, ya_sol, ya_reach, ya_stack, ya_liveMark, ya_liveIdx, ya_liveCell, ya_dist, ya_sb, ya_ob)) (h2 : P < d0 → post (-7) (nI P, yf_hs, yf_started, yf_pu, yf_moves, yf_pushes, yf_hn, 0, nI B, yf_nL, yf_curP, yf_nextState, ya_edit, ya_wall, ya_goal, ce_A (gr_ms c0 B), ya_hFrom, ya_hBf, ya_hBt, ya_sol, ya_reach, ya_stack, ya_liveMark, ya_liveIdx, ya_liveCell, ya_dist, ya_sb, ya_ob)) :
    ∃ n : Nat, wY_solve_459 post (nI d0) x4 (nI P) yf_hs yf_started yf_pu yf_moves yf_pushes yf_hn yf_solLen (nI B) yf_nL yf_curP yf_nextState n 0 ya_edit ya_wall ya_goal (ce_A (gr_ms cl B)) ya_hFrom ya_hBf ya_hBt ya_sol ya_reach ya_stack ya_liveMark ya_liveIdx ya_liveCell ya_dist ya_sb ya_ob := by
  have key : ∀ q i, i + q = B → wY_solve_459 post (nI d0) x4 (nI P) yf_hs yf_started yf_pu yf_moves yf_pushes yf_hn yf_solLen (nI B) yf_nL yf_curP yf_nextState (q + 1) (nI i) ya_edit ya_wall ya_goal (ce_A (gr_cr (gr_ms cl B) cl i)) ya_hFrom ya_hBf ya_hBt ya_sol ya_reach ya_stack ya_liveMark ya_liveIdx ya_liveCell ya_dist ya_sb ya_ob := by
    intro q
    induction q with
    | zero =>
      intro i hi
      have e : i = B := by omega
      subst e
      rw [gr_cr0 (fun j hj => (hsb j hj).2)]
      exact br_t (nI_le (Nat.le_refl i) (by omega)) ⟨i + 1, ys_490 hP hB hd hob h1 h2 i 0 (by omega)⟩
    | succ q ih =>
      intro i hi
      have := ih (i + 1) (by omega)
      obtain ⟨s1, s2⟩ := hsb i (by omega)
      refine br_f (nI_ge (by omega) (by omega)) ⟨vp_in_nI (by omega) (by decide), ?_⟩
      rw [nI_clamp (n := i) (by omega), s1]
      exact ⟨vp_in_nI s2 (by decide), nm_r (e' := ce_A (gr_cr (gr_ms cl B) cl (i + 1))) (by rw [rl_b0, nI_clamp (n := cl i) (by omega), ce_A_clr s2]; rfl) (nm_r (nI_1 i) this)⟩
  exact ⟨B + 1, key B 0 (by omega)⟩
/-! the list is read off the table -/
theorem ys_387 {post : Int32 → SY → Prop} {P B L D : Nat} {w g lv : Int64} {di : Nat → Nat} {l c0 : Nat → Nat} {yf_hs yf_started yf_pu yf_moves yf_pushes yf_hn yf_solLen : Int32} {ya_edit ya_goal ya_hFrom ya_hBf ya_hBt ya_liveMark ya_liveIdx ya_liveCell ya_dist ya_ob : Nat → Int32} (hP : P ≤ 40) (hDP : D ≤ P) (hH : ys_H w lv B L ya_liveMark ya_liveIdx ya_liveCell) (hob : ∀ j, j < B → ya_ob j = nI (c0 j) ∧ c0 j < 64) (hdi : ∀ x, x < 64 * L ^ B → ya_dist x = nI (di x) ∧ di x ≤ 1000)
    (hA : gr_VA (gr_step w lv) (gr_so g) (ys_V w lv L B) (ys_ab lv L B) (64 * L ^ B) di) (hBd : gr_VB (gr_step w lv) (gr_so g) (ys_V w lv L B) (ys_ab lv L B) (64 * L ^ B) di D)
    (h : ∀ cp ns so re sk sb, (∀ i, i < D → so i = nI (l i)) → post (nI D) (nI P, yf_hs, yf_started, yf_pu, yf_moves, yf_pushes, yf_hn, nI D, nI B, nI L, cp, ns, ya_edit, ce_A w, ya_goal, ce_A (gr_ms c0 B), ya_hFrom, ya_hBf, ya_hBt, so, re, sk, ya_liveMark, ya_liveIdx, ya_liveCell, ya_dist, sb, ya_ob)) :
    ∀ q i s cl cp ns so re sk sb, i + q = D → s < 64 * L ^ B → ys_V w lv L B s → di s = q → gr_G (gr_step w lv) (gr_so g) q (ys_ab lv L B s) (fun j => l (i + j)) → (∀ j, j < i → so j = nI (l j)) → (∀ j, j < B → sb j = nI (cl j) ∧ cl j < 64) →
      wY_solve_387 post (nI D) (q + 1) (nI i) (nI s) (nI i) (nI P) yf_hs yf_started yf_pu yf_moves yf_pushes yf_hn yf_solLen (nI B) (nI L) (cp) (ns) ya_edit (ce_A w) ya_goal (ce_A (gr_ms cl B)) ya_hFrom ya_hBf ya_hBt (so) (re) (sk) ya_liveMark ya_liveIdx ya_liveCell ya_dist (sb) ya_ob := by
  obtain ⟨a1, a2, a3, a4, a5, a6, a7, a8, a9⟩ := hH
  have hpw := gr_pw a5
  have hen := ys_hen (w := w) (B := B) a3 a4 a6
  intro q
  induction q with
  | zero =>
    intro i s cl cp ns so re sk sb hi hs hV hd hG hso hsb
    have e : i = D := by omega
    subst e
    refine br_t (nI_le (Nat.le_refl i) (by omega)) (ys_459 hP a2 (by omega) hob hsb (fun _ => h _ _ _ _ _ _ hso) (fun z => by omega))
  | succ q ih =>
    intro i s cl cp ns so re sk sb hi hs hV hd hG hso hsb
    have hb' : gr_VB (gr_step w lv) (gr_so g) (ys_V w lv L B) (ys_ab lv L B) (64 * L ^ B) di (q + 1) := fun s' h1 h2 m hm hc => hBd s' h1 h2 m (by omega) hc
    obtain ⟨n1, ⟨t, n2, n3, n4⟩, n5⟩ := gr_next (gr_step w lv) (gr_so g) (ys_V w lv L B) (ys_ab lv L B) (ys_en lv L B) (64 * L ^ B) hen hA hb' hs hV hd (by omega) hG
    refine br_f (nI_ge (by omega) (by omega)) (br_f (nI_nlt (by omega) (by omega)) ?_)
    refine ys_load (cl := cl) a1 a2 a3 a4 (by omega) a9 hsb (fun sb' hsb' _ => ?_) (fun sb' hsb' z => absurd hV z)
    refine ys_flood (Nat.mod_lt s (by decide)) hV.2.1 hV.2.2 (fun re' sk' hre => ?_)
    refine ys_best (di := di) (D := q) a5 ⟨a2, a3, a4, hV, a7, a8, hre, hsb'⟩ hs a6 hdi (by omega) hd n1 n2 n3 n5 ?_
    refine br_t (nI_pos' (by omega)) ⟨vp_in_nI (by omega) (by decide), nm_r (e' := upd so i (nI (l i))) (by rw [nI_clamp (n := i) (by omega)]; rfl) (nm_r (nI_1 i) (nm_r (nI_1 i) ?_))⟩
    obtain ⟨e1, e2, e3⟩ := hen s _ t hs hV n1 n2
    refine ih (i + 1) _ _ _ _ _ _ _ _ (by omega) e1 e2 n3 ?_ (fun j hj => ?_) (fun j hj => ⟨hsb' j hj, (ys_cl_ok a3 a4 B s j).2⟩)
    · have ef : (fun j => (fun j => l (i + j)) (j + 1)) = (fun j => l (i + 1 + j)) := by
        funext j
        show l (i + (j + 1)) = l (i + 1 + j)
        congr 1
        omega
      rw [← ef]
      exact n4
    · by_cases z : j = i
      · subst z; rw [pk_us]
      · rw [pk_un z]; exact hso j (by omega)
end
section
/-! the reference's solve: the table -/
/-- what is known of the answer when the table is done -/
def ys_R (w g lv : Int64) (P : Nat) (rt : Int64 × Nat) (none : Prop) (some : Nat → (Nat → Nat) → Prop) : Prop :=
  ((∀ m, m ≤ P → ¬ gr_can (gr_step w lv) (gr_so g) m rt) ∧ none) ∨ ∃ D l, 1 ≤ D ∧ D ≤ P ∧ gr_G (gr_step w lv) (gr_so g) D rt l ∧ (∀ m, m < D → ¬ gr_can (gr_step w lv) (gr_so g) m rt) ∧ some D l
theorem ys_371 {post : Int32 → SY → Prop} {P B L st : Nat} {w g lv : Int64} {rt : Int64 × Nat} {di : Nat → Nat} {c0 cl : Nat → Nat} {yf_hs yf_started yf_pu yf_moves yf_pushes yf_hn yf_solLen yf_curP yf_nextState : Int32} {ya_edit ya_goal ya_hFrom ya_hBf ya_hBt ya_sol ya_reach ya_stack ya_liveMark ya_liveIdx ya_liveCell ya_dist ya_sb ya_ob : Nat → Int32} (hP1 : 1 ≤ P) (hP : P ≤ 40) (hH : ys_H w lv B L ya_liveMark ya_liveIdx ya_liveCell) (hob : ∀ j, j < B → ya_ob j = nI (c0 j) ∧ c0 j < 64) (hst : st < 64 * L ^ B) (hsv : ys_V w lv L B st) (hsa : ys_ab lv L B st = rt)
    (hR : ys_R w g lv P rt (∀ cp ns re sk ds sb, post (-7) (nI P, yf_hs, yf_started, yf_pu, yf_moves, yf_pushes, yf_hn, 0, nI B, nI L, cp, ns, ya_edit, ce_A w, ya_goal, ce_A (gr_ms c0 B), ya_hFrom, ya_hBf, ya_hBt, ya_sol, re, sk, ya_liveMark, ya_liveIdx, ya_liveCell, ds, sb, ya_ob)) (fun D l => ∀ cp ns so re sk ds sb, (∀ i, i < D → so i = nI (l i)) → post (nI D) (nI P, yf_hs, yf_started, yf_pu, yf_moves, yf_pushes, yf_hn, nI D, nI B, nI L, cp, ns, ya_edit, ce_A w, ya_goal, ce_A (gr_ms c0 B), ya_hFrom, ya_hBf, ya_hBt, so, re, sk, ya_liveMark, ya_liveIdx, ya_liveCell, ds, sb, ya_ob)))
    (hdi : ∀ x, x < 64 * L ^ B → ya_dist x = nI (di x) ∧ di x ≤ 1000) (hsb : ∀ j, j < B → ya_sb j = nI (cl j) ∧ cl j < 64)
    (hA : gr_VA (gr_step w lv) (gr_so g) (ys_V w lv L B) (ys_ab lv L B) (64 * L ^ B) di)
    (hBd : (di st ≤ P → gr_VB (gr_step w lv) (gr_so g) (ys_V w lv L B) (ys_ab lv L B) (64 * L ^ B) di (di st)) ∧ (P < di st → gr_VB (gr_step w lv) (gr_so g) (ys_V w lv L B) (ys_ab lv L B) (64 * L ^ B) di P)) :
    wY_solve_371 post (nI st) (nI P) yf_hs yf_started yf_pu yf_moves yf_pushes yf_hn yf_solLen (nI B) (nI L) yf_curP yf_nextState ya_edit (ce_A w) ya_goal (ce_A (gr_ms cl B)) ya_hFrom ya_hBf ya_hBt ya_sol ya_reach ya_stack ya_liveMark ya_liveIdx ya_liveCell ya_dist ya_sb ya_ob := by
  have hH' := hH
  obtain ⟨a1, a2, a3, a4, a5, a6, a7, a8, a9⟩ := hH'
  have hpw := gr_pw a5
  have hd := hdi st hst
  have gd := gr_dist (gr_step w lv) (gr_so g) (ys_V w lv L B) (ys_ab lv L B) (64 * L ^ B) hA hst hsv hP hBd
  rw [hsa] at gd
  refine ⟨vp_in_nI (by omega) (by decide), nm_r (e' := nI (di st)) (by rw [nI_clamp (n := st) (by omega)]; exact hd.1) ?_⟩
  rcases hR with ⟨r1, r2⟩ | ⟨D, l, r1, r2, r3, r4, r5⟩
  · have hgt := gd.2 r1
    refine ⟨1, br_f (nI_ge (a := 0) (by omega) (by omega)) (br_t (nI_lt hgt (by omega)) ?_)⟩
    exact ys_459 hP a2 hd.2 hob hsb (fun z => by omega) (fun _ => r2 _ _ _ _ _ _)
  · have hD := gd.1 D r2 (gr_G_can _ _ _ _ _ r3) r4
    rw [hD]
    have hBD := hBd.1 (by omega)
    rw [hD] at hBD
    refine ⟨D + 1, ys_387 (g := g) (l := l) hP r2 hH hob hdi hA hBD (fun cp ns so re sk sb hso => r5 cp ns so re sk _ sb hso) D 0 st cl _ _ _ _ _ _ (by omega) hst hsv hD ?_ (fun j hj => by omega) hsb⟩
    rw [hsa]
    have ef : (fun j => l (0 + j)) = l := by
      funext j
      congr 1
      omega
    rw [ef]
    exact r3
theorem ys_304 {post : Int32 → SY → Prop} {J : Int32 → Int32 → Int32 → Int32 → Int32 → Int32 → Int32 → Int32 → Int32 → Int32 → Int32 → Int32 → Int32 → (Nat → Int32) → (Nat → Int32) → (Nat → Int32) → (Nat → Int32) → (Nat → Int32) → (Nat → Int32) → (Nat → Int32) → (Nat → Int32) → (Nat → Int32) → (Nat → Int32) → (Nat → Int32) → (Nat → Int32) → (Nat → Int32) → (Nat → Int32) → (Nat → Int32) → (Nat → Int32) → Prop} {P B L st r : Nat} {w g lv : Int64} {rt : Int64 × Nat} {d0 : Nat → Nat} {c0 : Nat → Nat} {yf_hs yf_started yf_pu yf_moves yf_pushes yf_hn yf_solLen yf_nextState : Int32} {ya_edit ya_goal ya_hFrom ya_hBf ya_hBt ya_sol ya_liveMark ya_liveIdx ya_liveCell ya_ob : Nat → Int32} (hP1 : 1 ≤ P) (hP : P ≤ 40) (hrP : r + 1 ≤ P) (hH : ys_H w lv B L ya_liveMark ya_liveIdx ya_liveCell) (hob : ∀ j, j < B → ya_ob j = nI (c0 j) ∧ c0 j < 64) (hst : st < 64 * L ^ B) (hsv : ys_V w lv L B st) (hsa : ys_ab lv L B st = rt)
    (hR : ys_R w g lv P rt (∀ cp ns re sk ds sb, post (-7) (nI P, yf_hs, yf_started, yf_pu, yf_moves, yf_pushes, yf_hn, 0, nI B, nI L, cp, ns, ya_edit, ce_A w, ya_goal, ce_A (gr_ms c0 B), ya_hFrom, ya_hBf, ya_hBt, ya_sol, re, sk, ya_liveMark, ya_liveIdx, ya_liveCell, ds, sb, ya_ob)) (fun D l => ∀ cp ns so re sk ds sb, (∀ i, i < D → so i = nI (l i)) → post (nI D) (nI P, yf_hs, yf_started, yf_pu, yf_moves, yf_pushes, yf_hn, nI D, nI B, nI L, cp, ns, ya_edit, ce_A w, ya_goal, ce_A (gr_ms c0 B), ya_hFrom, ya_hBf, ya_hBt, so, re, sk, ya_liveMark, ya_liveIdx, ya_liveCell, ds, sb, ya_ob)))
    (hJ : ∀ cp cl re sk ds sb di, (∀ x, x < 64 * L ^ B → ds x = nI (di x) ∧ di x ≤ 1000) → (∀ j, j < B → sb j = nI (cl j) ∧ cl j < 64) → gr_VA (gr_step w lv) (gr_so g) (ys_V w lv L B) (ys_ab lv L B) (64 * L ^ B) di → gr_VB (gr_step w lv) (gr_so g) (ys_V w lv L B) (ys_ab lv L B) (64 * L ^ B) di (r + 1) → J (nI (r + 2)) (nI P) yf_hs yf_started yf_pu yf_moves yf_pushes yf_hn yf_solLen (nI B) (nI L) (cp) yf_nextState ya_edit (ce_A w) ya_goal (ce_A (gr_ms cl B)) ya_hFrom ya_hBf ya_hBt ya_sol (re) (sk) ya_liveMark ya_liveIdx ya_liveCell (ds) (sb) ya_ob) :
    ∀ q s (ch : Bool) cp cl re sk ds sb di, s + q = 64 * L ^ B → (∀ x, x < 64 * L ^ B → ds x = nI (di x) ∧ di x ≤ 1000) → (∀ j, j < B → sb j = nI (cl j) ∧ cl j < 64) → gr_VR (gr_step w lv) (gr_so g) (ys_V w lv L B) (ys_ab lv L B) (ys_en lv L B) (64 * L ^ B) d0 di ch r s →
      wY_solve_304 post J (nI (64 * L ^ B)) (nI st) (nI (r + 1)) (q + 1) (rl_1 ch) (nI s) (nI P) yf_hs yf_started yf_pu yf_moves yf_pushes yf_hn yf_solLen (nI B) (nI L) (cp) yf_nextState ya_edit (ce_A w) ya_goal (ce_A (gr_ms cl B)) ya_hFrom ya_hBf ya_hBt ya_sol (re) (sk) ya_liveMark ya_liveIdx ya_liveCell (ds) (sb) ya_ob := by
  have hH' := hH
  obtain ⟨a1, a2, a3, a4, a5, a6, a7, a8, a9⟩ := hH'
  have hpw := gr_pw a5
  have hen := ys_hen (w := w) (B := B) a3 a4 a6
  intro q
  induction q with
  | zero =>
    intro s ch cp cl re sk ds sb di hq hdi hsb hVR
    have e : s = 64 * L ^ B := by omega
    subst e
    have hE := gr_VRend _ _ _ _ _ _ hVR
    have hd := hdi st hst
    refine br_t (nI_le (Nat.le_refl _) (by omega)) ⟨vp_in_nI (by omega) (by decide), ?_⟩
    rw [nI_clamp (n := st) (by omega), hd.1]
    refine pk_le (di st) (r + 1) (fun z => ?_) (fun z => ?_)
    · refine ys_371 (g := g) hP1 hP hH hob hst hsv hsa hR hdi hsb hE.1 ⟨fun _ s' h1 h2 m hm hc => hE.2 s' h1 h2 m (by omega) hc, fun y => by omega⟩
    · refine rl_br (fun ec => ?_) (fun ec => nm_r (nI_1 (r + 1)) (hJ cp cl re sk ds sb di hdi hsb hE.1 hE.2))
      subst ec
      have hfix := gr_VRfix _ _ _ _ _ _ hen hVR
      exact ys_371 (g := g) hP1 hP hH hob hst hsv hsa hR hdi hsb hE.1 ⟨fun _ => hfix _, fun _ => hfix _⟩
  | succ q ih =>
    intro s ch cp cl re sk ds sb di hq hdi hsb hVR
    have hs : s < 64 * L ^ B := by omega
    have hcl' : ∀ sb' : Nat → Int32, (∀ j, j < B → sb' j = nI (ys_cl lv L B s j)) → ∀ j, j < B → sb' j = nI (ys_cl lv L B s j) ∧ ys_cl lv L B s j < 64 := fun sb' h j hj => ⟨h j hj, (ys_cl_ok a3 a4 B s j).2⟩
    refine br_f (nI_ge (by omega) (by omega)) ?_
    refine ys_load (cl := cl) a1 a2 a3 a4 (by omega) a9 hsb (fun sb' hsb' hV => ?_) (fun sb' hsb' hV => ?_)
    · refine br_f (by decide) ⟨vp_in_nI (by omega) (by decide), ?_⟩
      have hd1000 := (hdi s hs).2
      rw [nI_clamp (n := s) (by omega), (hdi s hs).1]
      refine pk_le (di s) 0 (fun z => nm_r (nI_1 s) (ih (s + 1) ch _ _ _ _ _ _ di (by omega) hdi (hcl' sb' hsb') (gr_VRskip _ _ _ _ _ _ hVR (Or.inr (by omega))))) (fun z => ?_)
      refine ys_relax (g := g) a5 hH hV hsb' hs hdi (fun re' sk' hx => ?_) (fun re' sk' be hx hlt => ?_)
      · exact br_t rfl (nm_r (nI_1 s) (ih (s + 1) ch _ _ _ _ _ _ di (by omega) hdi (hcl' sb' hsb') (gr_VRkeep _ _ _ _ _ _ hen hVR hs hV hx z)))
      · refine br_f (by decide) (nm_r (nI_1 s) (ih (s + 1) true _ _ _ _ _ _ (fun x => if x = s then be else di x) (by omega) (fun x hx' => ?_) (hcl' sb' hsb') (gr_VRput _ _ _ _ _ _ hen hVR hs hV hx hlt (if_pos rfl) (fun x hx' => if_neg hx'))))
        show upd ds s (nI be) x = nI (if x = s then be else di x) ∧ (if x = s then be else di x) ≤ 1000
        by_cases y : x = s
        · subst y
          rw [pk_us, if_pos rfl]
          exact ⟨rfl, by have := (hdi x hs).2; omega⟩
        · rw [pk_un y, if_neg y]; exact hdi x hx'
    · exact br_t rfl (nm_r (nI_1 s) (ih (s + 1) ch _ _ _ _ _ _ di (by omega) hdi (hcl' sb' hsb') (gr_VRskip _ _ _ _ _ _ hVR (Or.inl hV))))
theorem ys_290 {post : Int32 → SY → Prop} {P B L st : Nat} {w g lv : Int64} {rt : Int64 × Nat} {c0 : Nat → Nat} {yf_hs yf_started yf_pu yf_moves yf_pushes yf_hn yf_solLen yf_nextState : Int32} {ya_edit ya_goal ya_hFrom ya_hBf ya_hBt ya_sol ya_liveMark ya_liveIdx ya_liveCell ya_ob : Nat → Int32} (hP1 : 1 ≤ P) (hP : P ≤ 40) (hH : ys_H w lv B L ya_liveMark ya_liveIdx ya_liveCell) (hob : ∀ j, j < B → ya_ob j = nI (c0 j) ∧ c0 j < 64) (hst : st < 64 * L ^ B) (hsv : ys_V w lv L B st) (hsa : ys_ab lv L B st = rt)
    (hR : ys_R w g lv P rt (∀ cp ns re sk ds sb, post (-7) (nI P, yf_hs, yf_started, yf_pu, yf_moves, yf_pushes, yf_hn, 0, nI B, nI L, cp, ns, ya_edit, ce_A w, ya_goal, ce_A (gr_ms c0 B), ya_hFrom, ya_hBf, ya_hBt, ya_sol, re, sk, ya_liveMark, ya_liveIdx, ya_liveCell, ds, sb, ya_ob)) (fun D l => ∀ cp ns so re sk ds sb, (∀ i, i < D → so i = nI (l i)) → post (nI D) (nI P, yf_hs, yf_started, yf_pu, yf_moves, yf_pushes, yf_hn, nI D, nI B, nI L, cp, ns, ya_edit, ce_A w, ya_goal, ce_A (gr_ms c0 B), ya_hFrom, ya_hBf, ya_hBt, so, re, sk, ya_liveMark, ya_liveIdx, ya_liveCell, ds, sb, ya_ob))) :
    ∀ q r cp cl re sk ds sb di, r + q = P → (∀ x, x < 64 * L ^ B → ds x = nI (di x) ∧ di x ≤ 1000) → (∀ j, j < B → sb j = nI (cl j) ∧ cl j < 64) → gr_VA (gr_step w lv) (gr_so g) (ys_V w lv L B) (ys_ab lv L B) (64 * L ^ B) di → gr_VB (gr_step w lv) (gr_so g) (ys_V w lv L B) (ys_ab lv L B) (64 * L ^ B) di r →
      wY_solve_290 post (nI (64 * L ^ B)) (nI st) (q + 1) (nI (r + 1)) (nI P) yf_hs yf_started yf_pu yf_moves yf_pushes yf_hn yf_solLen (nI B) (nI L) (cp) yf_nextState ya_edit (ce_A w) ya_goal (ce_A (gr_ms cl B)) ya_hFrom ya_hBf ya_hBt ya_sol (re) (sk) ya_liveMark ya_liveIdx ya_liveCell (ds) (sb) ya_ob := by
  intro q
  induction q with
  | zero =>
    intro r cp cl re sk ds sb di hq hdi hsb hA hB
    have e : r = P := by omega
    subst e
    exact br_t (nI_lt (by omega) (by omega)) (ys_371 (g := g) hP1 hP hH hob hst hsv hsa hR hdi hsb hA ⟨fun z s' h1 h2 m hm hc => hB s' h1 h2 m (by omega) hc, fun _ => hB⟩)
  | succ q ih =>
    intro r cp cl re sk ds sb di hq hdi hsb hA hB
    exact br_f (nI_nlt (by omega) (by omega)) ⟨64 * L ^ B + 1, ys_304 (g := g) (d0 := di) hP1 hP (by omega) hH hob hst hsv hsa hR (fun cp' cl' re' sk' ds' sb' di' k1 k2 k3 k4 => ih (r + 1) cp' cl' re' sk' ds' sb' di' (by omega) k1 k2 k3 k4) (64 * L ^ B) 0 false cp cl re sk ds sb di (by omega) hdi hsb (gr_VR0 _ _ _ _ _ _ hA hB)⟩
theorem ys_246 {post : Int32 → SY → Prop} {P B L st : Nat} {w g lv : Int64} {rt : Int64 × Nat} {c0 : Nat → Nat} {yf_hs yf_started yf_pu yf_moves yf_pushes yf_hn yf_solLen yf_nextState : Int32} {ya_edit ya_hFrom ya_hBf ya_hBt ya_sol ya_reach ya_stack ya_liveMark ya_liveIdx ya_liveCell ya_ob : Nat → Int32} (hP1 : 1 ≤ P) (hP : P ≤ 40) (hH : ys_H w lv B L ya_liveMark ya_liveIdx ya_liveCell) (hob : ∀ j, j < B → ya_ob j = nI (c0 j) ∧ c0 j < 64) (hst : st < 64 * L ^ B) (hsv : ys_V w lv L B st) (hsa : ys_ab lv L B st = rt)
    (hR : ys_R w g lv P rt (∀ cp ns re sk ds sb, post (-7) (nI P, yf_hs, yf_started, yf_pu, yf_moves, yf_pushes, yf_hn, 0, nI B, nI L, cp, ns, ya_edit, ce_A w, ce_A g, ce_A (gr_ms c0 B), ya_hFrom, ya_hBf, ya_hBt, ya_sol, re, sk, ya_liveMark, ya_liveIdx, ya_liveCell, ds, sb, ya_ob)) (fun D l => ∀ cp ns so re sk ds sb, (∀ i, i < D → so i = nI (l i)) → post (nI D) (nI P, yf_hs, yf_started, yf_pu, yf_moves, yf_pushes, yf_hn, nI D, nI B, nI L, cp, ns, ya_edit, ce_A w, ce_A g, ce_A (gr_ms c0 B), ya_hFrom, ya_hBf, ya_hBt, so, re, sk, ya_liveMark, ya_liveIdx, ya_liveCell, ds, sb, ya_ob))) :
    ∀ q s cp cl ds sb (di : Nat → Nat), s + q = 64 * L ^ B → (∀ x, x < s → ds x = nI (di x) ∧ (ys_V w lv L B x ∧ gr_so g (ys_ab lv L B x) → di x = 0) ∧ (¬ (ys_V w lv L B x ∧ gr_so g (ys_ab lv L B x)) → di x = 1000)) → (∀ j, j < B → sb j = nI (cl j) ∧ cl j < 64) →
      wY_solve_246 post (nI (64 * L ^ B)) (nI st) (q + 1) (nI s) (nI P) yf_hs yf_started yf_pu yf_moves yf_pushes yf_hn yf_solLen (nI B) (nI L) (cp) yf_nextState ya_edit (ce_A w) (ce_A g) (ce_A (gr_ms cl B)) ya_hFrom ya_hBf ya_hBt ya_sol ya_reach ya_stack ya_liveMark ya_liveIdx ya_liveCell (ds) (sb) ya_ob := by
  have hH' := hH
  obtain ⟨a1, a2, a3, a4, a5, a6, a7, a8, a9⟩ := hH'
  have hpw := gr_pw a5
  intro q
  induction q with
  | zero =>
    intro s cp cl ds sb di hq hdi hsb
    have e : s = 64 * L ^ B := by omega
    subst e
    refine br_t (nI_le (Nat.le_refl _) (by omega)) ⟨P + 1, ys_290 (g := g) hP1 hP hH hob hst hsv hsa hR P 0 cp cl _ _ ds sb di (by omega) (fun x hx => ?_) hsb (fun x hx hv => ?_) (fun x hx hv m hm hc => ?_)⟩
    · obtain ⟨h1, h2, h3⟩ := hdi x hx
      refine ⟨h1, ?_⟩
      by_cases z : ys_V w lv L B x ∧ gr_so g (ys_ab lv L B x)
      · rw [h2 z]; decide
      · rw [h3 z]; decide
    · obtain ⟨h1, h2, h3⟩ := hdi x hx
      by_cases z : ys_V w lv L B x ∧ gr_so g (ys_ab lv L B x)
      · rw [h2 z]; exact ⟨by decide, fun _ => z.2⟩
      · rw [h3 z]; exact ⟨by decide, fun y => absurd y (by decide)⟩
    · have : m = 0 := by omega
      subst this
      rw [(hdi x hx).2.1 ⟨hv, hc⟩]
      exact Nat.le_refl 0
  | succ q ih =>
    intro s cp cl ds sb di hq hdi hsb
    have hs : s < 64 * L ^ B := by omega
    have hcl' : ∀ sb' : Nat → Int32, (∀ j, j < B → sb' j = nI (ys_cl lv L B s j)) → ∀ j, j < B → sb' j = nI (ys_cl lv L B s j) ∧ ys_cl lv L B s j < 64 := fun sb' h j hj => ⟨h j hj, (ys_cl_ok a3 a4 B s j).2⟩
    have ec : (nI s).toNatClampNeg = s := nI_clamp (by omega)
    have ev : vp_in (nI s) 13824 := vp_in_nI (by omega) (by decide)
    have big : ∀ sb', (∀ j, j < B → sb' j = nI (ys_cl lv L B s j)) → ¬ (ys_V w lv L B s ∧ gr_so g (ys_ab lv L B s)) → wY_solve_246 post (nI (64 * L ^ B)) (nI st) (q + 1) (nI (s + 1)) (nI P) yf_hs yf_started yf_pu yf_moves yf_pushes yf_hn yf_solLen (nI B) (nI L) (nI (s % 64)) yf_nextState ya_edit (ce_A w) (ce_A g) (ce_A (gr_ms (ys_cl lv L B s) B)) ya_hFrom ya_hBf ya_hBt ya_sol ya_reach ya_stack ya_liveMark ya_liveIdx ya_liveCell (upd ds s 1000) (sb') ya_ob := by
      intro sb' hsb' hn
      refine ih (s + 1) _ _ _ _ (fun x => if x = s then 1000 else di x) (by omega) (fun x hx => ?_) (hcl' sb' hsb')
      by_cases y : x = s
      · subst y
        rw [pk_us, if_pos rfl]
        exact ⟨rfl, fun z => absurd z hn, fun _ => rfl⟩
      · rw [pk_un y, if_neg y]; exact hdi x (by omega)
    refine br_f (nI_ge (by omega) (by omega)) ⟨ev, nm_r (e' := upd ds s 1000) (by rw [ec]) ?_⟩
    refine ys_load (cl := cl) a1 a2 a3 a4 (by omega) a9 hsb (fun sb' hsb' hV => ?_) (fun sb' hsb' hV => ?_)
    · refine br_f (by decide) (ys_goals (cl := ys_cl lv L B s) (p := s % 64) a2 (hcl' sb' hsb') (fun hso => ?_) (fun hso => br_t rfl (nm_r (nI_1 s) (big sb' hsb' (fun z => hso z.2)))))
      refine br_f (by decide) ⟨ev, nm_r (e' := upd (upd ds s 1000) s 0) (by rw [ec]) (nm_r (nI_1 s) ?_)⟩
      refine ih (s + 1) _ _ _ _ (fun x => if x = s then 0 else di x) (by omega) (fun x hx => ?_) (hcl' sb' hsb')
      by_cases y : x = s
      · subst y
        rw [pk_us, if_pos rfl]
        exact ⟨rfl, fun _ => rfl, fun z => absurd ⟨hV, hso⟩ z⟩
      · rw [pk_un y, pk_un y, if_neg y]; exact hdi x (by omega)
    · exact br_t rfl (nm_r (nI_1 s) (big sb' hsb' (fun z => hV z.1)))
end
section
/-! the reference's solve: the way in -/
theorem gr_sel_ms {b : Int64} {B : Nat} (hB : ce_rk b 64 = B) : (∀ j, j < B → ce_b b (gr_sel b 64 j) = true ∧ gr_sel b 64 j < 64) ∧ gr_ms (gr_sel b 64) B = b ∧ (∀ i j, i < B → j < B → i ≠ j → gr_sel b 64 i ≠ gr_sel b 64 j) := by
  have h1 : ∀ j, j < B → ce_b b (gr_sel b 64 j) = true ∧ ce_rk b (gr_sel b 64 j) = j := fun j hj => gr_sel_ok 64 (by rw [hB]; exact hj)
  have h2 : ∀ j, j < B → gr_sel b 64 j < 64 := fun j hj => ce_lt (h1 j hj).1
  refine ⟨fun j hj => ⟨(h1 j hj).1, h2 j hj⟩, ?_, fun i j hi hj hij e => ?_⟩
  · apply ce_ext
    intro c _
    have e : ce_b (gr_ms (gr_sel b 64) B) c = true ↔ ce_b b c = true := by
      rw [gr_msT B h2]
      constructor
      · rintro ⟨j, j1, j2⟩
        rw [← j2]; exact (h1 j j1).1
      · intro hc
        exact ⟨ce_rk b c, by rw [← hB]; exact ce_rk_lt hc (ce_lt hc), gr_sel_rk hc 64 (ce_lt hc)⟩
    cases z1 : ce_b (gr_ms (gr_sel b 64) B) c <;> cases z2 : ce_b b c <;> simp_all
  · have e1 := (h1 i hi).2
    have e2 := (h1 j hj).2
    rw [e, e2] at e1
    exact hij e1.symm
theorem ys_212 {post : Int32 → SY → Prop} {P B L p : Nat} {w g lv b : Int64} {yf_hs yf_started yf_moves yf_pushes yf_hn yf_solLen yf_curP yf_nextState : Int32} {ya_edit ya_hFrom ya_hBf ya_hBt ya_sol ya_reach ya_stack ya_liveMark ya_liveIdx ya_liveCell ya_dist ya_sb ya_ob : Nat → Int32} (hP1 : 1 ≤ P) (hP : P ≤ 40) (hH : ys_H w lv B L ya_liveMark ya_liveIdx ya_liveCell) (hb : ce_rk b 64 = B) (hbl : ∀ c, ce_b b c = true → ce_b lv c = true) (hp : p < 64) (hpw : ce_b w p = false) (hpb : ce_b b p = false)
    (hob : ∀ j, j < B → ya_ob j = nI (gr_sel b 64 j)) (hsb : ∀ j, j < B → ya_sb j = nI (gr_sel b 64 j))
    (hR : ys_R w g lv P (b, p) (∀ cp ns re sk ds sb, post (-7) (nI P, yf_hs, yf_started, nI p, yf_moves, yf_pushes, yf_hn, 0, nI B, nI L, cp, ns, ya_edit, ce_A w, ce_A g, ce_A b, ya_hFrom, ya_hBf, ya_hBt, ya_sol, re, sk, ya_liveMark, ya_liveIdx, ya_liveCell, ds, sb, ya_ob)) (fun D l => ∀ cp ns so re sk ds sb, (∀ i, i < D → so i = nI (l i)) → post (nI D) (nI P, yf_hs, yf_started, nI p, yf_moves, yf_pushes, yf_hn, nI D, nI B, nI L, cp, ns, ya_edit, ce_A w, ce_A g, ce_A b, ya_hFrom, ya_hBf, ya_hBt, so, re, sk, ya_liveMark, ya_liveIdx, ya_liveCell, ds, sb, ya_ob))) :
    ∀ q i, i + q = B → wY_solve_212 post (nI P) yf_hs yf_started (nI p) yf_moves yf_pushes yf_hn yf_solLen (nI B) (nI L) yf_curP yf_nextState ya_edit (ce_A w) (ce_A g) (ce_A b) ya_hFrom ya_hBf ya_hBt ya_sol ya_reach ya_stack ya_liveMark ya_liveIdx ya_liveCell ya_dist ya_sb ya_ob (q + 1) (nI (64 * L ^ i)) (nI i) := by
  have hH' := hH
  obtain ⟨a1, a2, a3, a4, a5, a6, a7, a8, a9⟩ := hH'
  obtain ⟨s1, s2, s3⟩ := gr_sel_ms hb
  intro q
  induction q with
  | zero =>
    intro i hi
    have e : i = B := by omega
    subst e
    refine br_t (nI_le (Nat.le_refl i) (by omega)) ?_
    have rp : ∀ j, j < i → gr_rp (gr_sel b 64) i 0 j = gr_sel b 64 j := fun j hj => if_neg (by omega)
    have lvj : ∀ j, j < i → ce_b lv (gr_rp (gr_sel b 64) i 0 j) = true := fun j hj => by rw [rp j hj]; exact hbl _ (s1 j hj).1
    refine ys_enc (lv := lv) (k := i) (a := 0) (cl := gr_sel b 64) a2 (fun j hj => ⟨fun z => ?_, fun z => by omega⟩) (fun z => by omega) (fun j hj => ⟨hsb j hj, (s1 j hj).2⟩) (fun j hj => a8 _ (lvj j hj)) ?_
    · have := nI_pos (n := j) (by omega)
      rw [z] at this
      exact absurd (by decide) this
    · obtain ⟨c1, c2, c3⟩ := ys_code (B := i) a3 lvj hp
      have em : gr_ms (ys_cl lv L i (gr_cd L (fun j => ce_rk lv (gr_rp (gr_sel b 64) i 0 j)) i * 64 + p)) i = b := by
        exact (gr_ms_congr i (fun j hj => (c2 j hj).trans (rp j hj))).trans s2
      have := ys_246 (post := post) (yf_solLen := yf_solLen) (yf_nextState := yf_nextState) (ya_reach := ya_reach) (ya_stack := ya_stack) (c0 := gr_sel b 64) (w := w) (g := g) (lv := lv) (rt := (b, p)) (L := L) (B := i) (st := gr_cd L (fun j => ce_rk lv (gr_rp (gr_sel b 64) i 0 j)) i * 64 + p) hP1 hP hH (fun j hj => ⟨hob j hj, (s1 j hj).2⟩) c1 ⟨fun x y hx hy hxy => by rw [c2 x hx, c2 y hy, rp x hx, rp y hy]; exact s3 x y hx hy hxy, by rw [c3]; exact hpw, by rw [em, c3]; exact hpb⟩ (by unfold ys_ab; rw [em, c3]) (by rw [s2]; exact hR) (64 * L ^ i) 0 yf_curP (gr_sel b 64) ya_dist ya_sb (fun _ => 0) (by omega) (fun x hx => by omega) (fun j hj => ⟨hsb j hj, (s1 j hj).2⟩)
      rw [s2] at this
      exact ⟨64 * L ^ i + 1, this⟩
  | succ q ih =>
    intro i hi
    have := ih (i + 1) (by omega)
    exact br_f (nI_ge (by omega) (by omega)) (nm_r (e' := nI (64 * L ^ (i + 1))) (by rw [pk_mul, Nat.pow_succ, Nat.mul_assoc]) (nm_r (nI_1 i) this))
theorem ys_181 {post : Int32 → SY → Prop} {P B L p : Nat} {w g lv b : Int64} {yf_hs yf_started yf_moves yf_pushes yf_hn yf_solLen yf_curP yf_nextState : Int32} {ya_edit ya_hFrom ya_hBf ya_hBt ya_sol ya_reach ya_stack ya_liveMark ya_liveIdx ya_liveCell ya_dist ya_ob : Nat → Int32} (hP1 : 1 ≤ P) (hP : P ≤ 40) (hH : ys_H w lv B L ya_liveMark ya_liveIdx ya_liveCell) (hb : ce_rk b 64 = B) (hbl : ∀ c, ce_b b c = true → ce_b lv c = true) (hp : p < 64) (hpw : ce_b w p = false) (hpb : ce_b b p = false)
    (hob : ∀ j, j < B → ya_ob j = nI (gr_sel b 64 j))
    (hR : ys_R w g lv P (b, p) (∀ cp ns re sk ds sb, post (-7) (nI P, yf_hs, yf_started, nI p, yf_moves, yf_pushes, yf_hn, 0, nI B, nI L, cp, ns, ya_edit, ce_A w, ce_A g, ce_A b, ya_hFrom, ya_hBf, ya_hBt, ya_sol, re, sk, ya_liveMark, ya_liveIdx, ya_liveCell, ds, sb, ya_ob)) (fun D l => ∀ cp ns so re sk ds sb, (∀ i, i < D → so i = nI (l i)) → post (nI D) (nI P, yf_hs, yf_started, nI p, yf_moves, yf_pushes, yf_hn, nI D, nI B, nI L, cp, ns, ya_edit, ce_A w, ce_A g, ce_A b, ya_hFrom, ya_hBf, ya_hBt, so, re, sk, ya_liveMark, ya_liveIdx, ya_liveCell, ds, sb, ya_ob))) :
    ∀ q i sb, i + q = B → (∀ j, j < i → sb j = nI (gr_sel b 64 j)) → wY_solve_181 post (nI P) yf_hs yf_started (nI p) yf_moves yf_pushes yf_hn yf_solLen (nI B) (nI L) yf_curP yf_nextState (q + 1) (nI i) ya_edit (ce_A w) (ce_A g) (ce_A b) ya_hFrom ya_hBf ya_hBt ya_sol ya_reach ya_stack ya_liveMark ya_liveIdx ya_liveCell ya_dist (sb) ya_ob := by
  have hB := hH.2.1
  intro q
  induction q with
  | zero =>
    intro i sb hi hsb
    have e : i = B := by omega
    subst e
    have := ys_212 (post := post) (yf_solLen := yf_solLen) (yf_curP := yf_curP) (yf_nextState := yf_nextState) (ya_reach := ya_reach) (ya_stack := ya_stack) (ya_dist := ya_dist) (ya_sb := sb) hP1 hP hH hb hbl hp hpw hpb hob hsb hR i 0 (by omega)
    rw [Nat.pow_zero, Nat.mul_one] at this
    exact br_t (nI_le (Nat.le_refl i) (by omega)) ⟨i + 1, this⟩
  | succ q ih =>
    intro i sb hi hsb
    have v : vp_in (nI i) 3 := vp_in_nI (by omega) (by decide)
    refine br_f (nI_ge (by omega) (by omega)) ⟨v, v, nm_r (e' := upd sb i (nI (gr_sel b 64 i))) (by rw [nI_clamp (n := i) (by omega), hob i (by omega)]) (nm_r (nI_1 i) (ih (i + 1) _ (by omega) (fun j hj => ?_)))⟩
    by_cases z : j = i
    · subst z; rw [pk_us]
    · rw [pk_un z]; exact hsb j (by omega)
theorem ys_143 {post : Int32 → SY → Prop} {P B L p : Nat} {w g lv b : Int64} {yf_hs yf_started yf_moves yf_pushes yf_hn yf_solLen yf_curP yf_nextState : Int32} {ya_edit ya_hFrom ya_hBf ya_hBt ya_sol ya_reach ya_stack ya_liveMark ya_liveIdx ya_liveCell ya_dist ya_sb ya_ob : Nat → Int32} (hP1 : 1 ≤ P) (hP : P ≤ 40) (hH : ys_H w lv B L ya_liveMark ya_liveIdx ya_liveCell) (hb : ce_rk b 64 = B) (hp : p < 64) (hpw : ce_b w p = false) (hpb : ce_b b p = false)
    (hob : ∀ j, j < B → ya_ob j = nI (gr_sel b 64 j))
    (hN : ¬ (∀ c, ce_b b c = true → ce_b lv c = true) → post (-7) (nI P, yf_hs, yf_started, nI p, yf_moves, yf_pushes, yf_hn, 0, nI B, nI L, yf_curP, yf_nextState, ya_edit, ce_A w, ce_A g, ce_A b, ya_hFrom, ya_hBf, ya_hBt, ya_sol, ya_reach, ya_stack, ya_liveMark, ya_liveIdx, ya_liveCell, ya_dist, ya_sb, ya_ob))
    (hR : (∀ c, ce_b b c = true → ce_b lv c = true) → ys_R w g lv P (b, p) (∀ cp ns re sk ds sb, post (-7) (nI P, yf_hs, yf_started, nI p, yf_moves, yf_pushes, yf_hn, 0, nI B, nI L, cp, ns, ya_edit, ce_A w, ce_A g, ce_A b, ya_hFrom, ya_hBf, ya_hBt, ya_sol, re, sk, ya_liveMark, ya_liveIdx, ya_liveCell, ds, sb, ya_ob)) (fun D l => ∀ cp ns so re sk ds sb, (∀ i, i < D → so i = nI (l i)) → post (nI D) (nI P, yf_hs, yf_started, nI p, yf_moves, yf_pushes, yf_hn, nI D, nI B, nI L, cp, ns, ya_edit, ce_A w, ce_A g, ce_A b, ya_hFrom, ya_hBf, ya_hBt, so, re, sk, ya_liveMark, ya_liveIdx, ya_liveCell, ds, sb, ya_ob))) :
    ∀ q i, i + q = B → (∀ j, j < i → ce_b lv (gr_sel b 64 j) = true) → wY_solve_143 post (nI P) yf_hs yf_started (nI p) yf_moves yf_pushes yf_hn yf_solLen (nI B) (nI L) yf_curP yf_nextState ya_edit (ce_A w) (ce_A g) (ce_A b) ya_hFrom ya_hBf ya_hBt ya_sol ya_reach ya_stack ya_liveMark ya_liveIdx ya_liveCell ya_dist ya_sb ya_ob (q + 1) (nI i) := by
  have hB := hH.2.1
  have hlm := hH.2.2.2.2.2.2.1
  obtain ⟨s1, s2, s3⟩ := gr_sel_ms hb
  intro q
  induction q with
  | zero =>
    intro i hi h
    have e : i = B := by omega
    subst e
    have hbl : ∀ c, ce_b b c = true → ce_b lv c = true := by
      intro c hc
      have := h (ce_rk b c) (by rw [← hb]; exact ce_rk_lt hc (ce_lt hc))
      rw [gr_sel_rk hc 64 (ce_lt hc)] at this
      exact this
    exact br_t (nI_le (Nat.le_refl i) (by omega)) ⟨i + 1, ys_181 hP1 hP hH hb hbl hp hpw hpb hob (hR hbl) i 0 _ (by omega) (fun j hj => by omega)⟩
  | succ q ih =>
    intro i hi h
    obtain ⟨t1, t2⟩ := s1 i (by omega)
    refine br_f (nI_ge (by omega) (by omega)) ⟨vp_in_nI (by omega) (by decide), ?_⟩
    rw [nI_clamp (n := i) (by omega), hob i (by omega)]
    refine ⟨vp_in_nI t2 (by decide), ?_⟩
    rw [nI_clamp (n := gr_sel b 64 i) (by omega), hlm _ t2]
    cases hl : ce_b lv (gr_sel b 64 i)
    · exact br_t (ce_Af hl) (hN (fun z => by rw [z _ t1] at hl; cases hl))
    · refine br_f (by rw [ce_At hl]; decide) (nm_r (nI_1 i) (ih (i + 1) (by omega) (fun j hj => ?_)))
      by_cases z : j = i
      · subst z; exact hl
      · exact h j (by omega)
theorem ys_30 {post : Int32 → SY → Prop} {P B p : Nat} {w g b : Int64} {yf_hs yf_started yf_moves yf_pushes yf_hn yf_solLen yf_nL yf_curP yf_nextState : Int32} {ya_edit ya_hFrom ya_hBf ya_hBt ya_sol ya_reach ya_stack ya_liveMark ya_liveIdx ya_liveCell ya_dist ya_sb : Nat → Int32} (hP1 : 1 ≤ P) (hP : P ≤ 40) (hB1 : 1 ≤ B) (hB3 : B ≤ 3) (hg : ce_rk g 64 = B) (hgw : ∀ c, ce_b g c = true → ce_b w c = false) (hV : rl_V w B b p)
    (h2 : ¬ gr_fit B (ce_rk (gr_live w g) 64) → ∀ lm li lc ob, post (-6) (nI P, yf_hs, yf_started, nI p, yf_moves, yf_pushes, yf_hn, yf_solLen, nI B, nI (ce_rk (gr_live w g) 64), yf_curP, yf_nextState, ya_edit, ce_A w, ce_A g, ce_A b, ya_hFrom, ya_hBf, ya_hBt, ya_sol, ya_reach, ya_stack, lm, li, lc, ya_dist, ya_sb, ob))
    (hN : gr_fit B (ce_rk (gr_live w g) 64) → ¬ (∀ c, ce_b b c = true → ce_b (gr_live w g) c = true) → ∀ lm li lc ob, post (-7) (nI P, yf_hs, yf_started, nI p, yf_moves, yf_pushes, yf_hn, 0, nI B, nI (ce_rk (gr_live w g) 64), yf_curP, yf_nextState, ya_edit, ce_A w, ce_A g, ce_A b, ya_hFrom, ya_hBf, ya_hBt, ya_sol, ya_reach, ya_stack, lm, li, lc, ya_dist, ya_sb, ob))
    (hR : gr_fit B (ce_rk (gr_live w g) 64) → (∀ c, ce_b b c = true → ce_b (gr_live w g) c = true) → ∀ lm li lc ob, ys_R w g (gr_live w g) P (b, p) (∀ cp ns re sk ds sb, post (-7) (nI P, yf_hs, yf_started, nI p, yf_moves, yf_pushes, yf_hn, 0, nI B, nI (ce_rk (gr_live w g) 64), cp, ns, ya_edit, ce_A w, ce_A g, ce_A b, ya_hFrom, ya_hBf, ya_hBt, ya_sol, re, sk, lm, li, lc, ds, sb, ob)) (fun D l => ∀ cp ns so re sk ds sb, (∀ i, i < D → so i = nI (l i)) → post (nI D) (nI P, yf_hs, yf_started, nI p, yf_moves, yf_pushes, yf_hn, nI D, nI B, nI (ce_rk (gr_live w g) 64), cp, ns, ya_edit, ce_A w, ce_A g, ce_A b, ya_hFrom, ya_hBf, ya_hBt, so, re, sk, lm, li, lc, ds, sb, ob))) :
    ∀ q i ob, i + q = 64 → (∀ c, c < i → ce_b b c = true → ob (ce_rk b c) = nI c) → wY_solve_30 post (nI P) yf_hs yf_started (nI p) yf_moves yf_pushes yf_hn yf_solLen yf_nL yf_curP yf_nextState (q + 1) (nI i) (nI (ce_rk b i)) ya_edit (ce_A w) (ce_A g) (ce_A b) ya_hFrom ya_hBf ya_hBt ya_sol ya_reach ya_stack ya_liveMark ya_liveIdx ya_liveCell ya_dist ya_sb (ob) := by
  obtain ⟨v1, v2, v3, v4, v5⟩ := hV
  intro q
  induction q with
  | zero =>
    intro i ob hi hob
    have e : i = 64 := by omega
    subst e
    rw [v5]
    refine br_t (nI_le (a := 64) (by omega) (by omega)) (ys_live (fun lm li lc l1 l2 l3 => ?_))
    have hL64 := ce_rk_le (gr_live w g) 64
    have hL1 : 1 ≤ ce_rk (gr_live w g) 64 := by
      have := ce_sub_le (x := g) (y := gr_live w g) (fun c hc => gr_live_goal hc) 64
      omega
    have hob' : ∀ j, j < B → ob j = nI (gr_sel b 64 j) := by
      intro j hj
      have := gr_sel_ok (lv := b) (j := j) 64 (by rw [v5]; exact hj)
      have h := hob _ (ce_lt this.1) this.1
      rw [this.2] at h
      exact h
    have hlc : ∀ j, j < ce_rk (gr_live w g) 64 → lc j = nI (gr_sel (gr_live w g) 64 j) := by
      intro j hj
      have := gr_sel_ok (lv := gr_live w g) (j := j) 64 hj
      have h := l3 _ this.1
      rw [this.2] at h
      exact h
    have go : gr_fit B (ce_rk (gr_live w g) 64) → ∃ n : Nat, wY_solve_143 post (nI P) yf_hs yf_started (nI p) yf_moves yf_pushes yf_hn yf_solLen (nI B) (nI (ce_rk (gr_live w g) 64)) yf_curP yf_nextState ya_edit (ce_A w) (ce_A g) (ce_A b) ya_hFrom ya_hBf ya_hBt ya_sol ya_reach ya_stack (lm) (li) (lc) ya_dist ya_sb (ob) n 0 := fun hf =>
      ⟨B + 1, ys_143 (L := ce_rk (gr_live w g) 64) hP1 hP ⟨hB1, hB3, rfl, hL1, hf, fun c hc => gr_live_wall hgw hc, l1, l2, hlc⟩ v5 v1 v2 v3 hob' (fun z => hN hf z lm li lc ob) (fun z => hR hf z lm li lc ob) B 0 (by omega) (fun j hj => by omega)⟩
    have no : ¬ gr_fit B (ce_rk (gr_live w g) 64) → wY_solve_121 post (nI P) yf_hs yf_started (nI p) yf_moves yf_pushes yf_hn yf_solLen (nI B) (nI (ce_rk (gr_live w g) 64)) yf_curP yf_nextState ya_edit (ce_A w) (ce_A g) (ce_A b) ya_hFrom ya_hBf ya_hBt ya_sol ya_reach ya_stack (lm) (li) (lc) ya_dist ya_sb (ob) := fun hf =>
      pk_eq B 3 (fun e => pk_le (ce_rk (gr_live w g) 64) 6 (fun z => absurd (by unfold gr_fit; omega) hf) (fun z => h2 hf lm li lc ob)) (fun e => h2 hf lm li lc ob)
    have s104 : ¬ (B = 1 ∧ ce_rk (gr_live w g) 64 ≤ 60) → wY_solve_104 post (nI P) yf_hs yf_started (nI p) yf_moves yf_pushes yf_hn yf_solLen (nI B) (nI (ce_rk (gr_live w g) 64)) yf_curP yf_nextState ya_edit (ce_A w) (ce_A g) (ce_A b) ya_hFrom ya_hBf ya_hBt ya_sol ya_reach ya_stack (lm) (li) (lc) ya_dist ya_sb (ob) := by
      intro h1
      have s121 : ¬ (B = 2 ∧ ce_rk (gr_live w g) 64 ≤ 8) → wY_solve_121 post (nI P) yf_hs yf_started (nI p) yf_moves yf_pushes yf_hn yf_solLen (nI B) (nI (ce_rk (gr_live w g) 64)) yf_curP yf_nextState ya_edit (ce_A w) (ce_A g) (ce_A b) ya_hFrom ya_hBf ya_hBt ya_sol ya_reach ya_stack (lm) (li) (lc) ya_dist ya_sb (ob) := by
        intro h2'
        by_cases hf : gr_fit B (ce_rk (gr_live w g) 64)
        · have h3 : B = 3 ∧ ce_rk (gr_live w g) 64 ≤ 6 := by unfold gr_fit at hf; omega
          exact pk_eq B 3 (fun e => pk_le (ce_rk (gr_live w g) 64) 6 (fun z => go hf) (fun z => absurd h3.2 (by omega))) (fun e => absurd h3.1 e)
        · exact no hf
      refine pk_eq B 2 (fun e => pk_le (ce_rk (gr_live w g) 64) 8 (fun z => go (by unfold gr_fit; omega)) (fun z => s121 (by omega))) (fun e => s121 (by omega))
    exact pk_eq B 1 (fun e => pk_le (ce_rk (gr_live w g) 64) 60 (fun z => go (by unfold gr_fit; omega)) (fun z => s104 (by omega))) (fun e => s104 (by omega))
  | succ q ih =>
    intro i ob hi hob
    have hr := ce_rk_mono b (a := i) (b := 64) (by omega)
    refine br_f (nI_ge (b := 64) (by omega) (by decide)) ⟨vp_in_nI (by omega) (by decide), ?_⟩
    rw [nI_clamp (n := i) (by omega)]
    cases hb : ce_b b i
    · refine br_t (ce_Af hb) (nm_r (nI_1 i) ?_)
      have := ih (i + 1) ob (by omega) (fun c hc hbc => ?_)
      · rw [ce_rk_n hb] at this; exact this
      · by_cases z : c = i
        · rw [z, hb] at hbc; cases hbc
        · exact hob c (by omega) hbc
    · have hlt : ce_rk b i < 3 := by
        have := ce_rk_lt hb (b := 64) (by omega)
        omega
      refine br_f (by rw [ce_At hb]; decide) (br_f (nI_ge (b := 3) hlt (by decide)) ⟨vp_in_nI hlt (by decide), nm_r (e' := upd ob (ce_rk b i) (nI i)) (by rw [nI_clamp (by omega)]) (nm_r (nI_1 _) (nm_r (nI_1 i) ?_))⟩)
      have := ih (i + 1) (upd ob (ce_rk b i) (nI i)) (by omega) (fun c hc hbc => ?_)
      · rw [ce_rk_s hb] at this; exact this
      · by_cases z : c = i
        · rw [z, pk_us]
        · rw [pk_un (fun y => z (ce_rk_inj hbc hb y))]; exact hob c (by omega) hbc
theorem ys_solve {post : Int32 → SY → Prop} {P B p : Nat} {w g b : Int64} {yf_hs yf_moves yf_pushes yf_hn yf_solLen yf_nB yf_nL yf_curP yf_nextState : Int32} {ya_edit ya_hFrom ya_hBf ya_hBt ya_sol ya_reach ya_stack ya_liveMark ya_liveIdx ya_liveCell ya_dist ya_sb ya_ob : Nat → Int32} (hP1 : 1 ≤ P) (hP : P ≤ 40) (hB1 : 1 ≤ B) (hB3 : B ≤ 3) (hg : ce_rk g 64 = B) (hgw : ∀ c, ce_b g c = true → ce_b w c = false) (hV : rl_V w B b p)
    (h1 : gr_so g (b, p) → post 0 (nI P, yf_hs, 1, nI p, yf_moves, yf_pushes, yf_hn, 0, yf_nB, yf_nL, yf_curP, yf_nextState, ya_edit, ce_A w, ce_A g, ce_A b, ya_hFrom, ya_hBf, ya_hBt, ya_sol, ya_reach, ya_stack, ya_liveMark, ya_liveIdx, ya_liveCell, ya_dist, ya_sb, ya_ob))
    (h2 : ¬ gr_so g (b, p) → ¬ gr_fit B (ce_rk (gr_live w g) 64) → ∀ y1 y2 lm li lc ob, post (-6) (nI P, yf_hs, 1, nI p, yf_moves, yf_pushes, yf_hn, yf_solLen, y1, y2, yf_curP, yf_nextState, ya_edit, ce_A w, ce_A g, ce_A b, ya_hFrom, ya_hBf, ya_hBt, ya_sol, ya_reach, ya_stack, lm, li, lc, ya_dist, ya_sb, ob))
    (hN : ¬ gr_so g (b, p) → gr_fit B (ce_rk (gr_live w g) 64) → ¬ (∀ c, ce_b b c = true → ce_b (gr_live w g) c = true) → ∀ y1 y2 lm li lc ob, post (-7) (nI P, yf_hs, 1, nI p, yf_moves, yf_pushes, yf_hn, 0, y1, y2, yf_curP, yf_nextState, ya_edit, ce_A w, ce_A g, ce_A b, ya_hFrom, ya_hBf, ya_hBt, ya_sol, ya_reach, ya_stack, lm, li, lc, ya_dist, ya_sb, ob))
    (hR : ¬ gr_so g (b, p) → gr_fit B (ce_rk (gr_live w g) 64) → (∀ c, ce_b b c = true → ce_b (gr_live w g) c = true) → ys_R w g (gr_live w g) P (b, p) (∀ y1 y2 lm li lc ob cp ns re sk ds sb, post (-7) (nI P, yf_hs, 1, nI p, yf_moves, yf_pushes, yf_hn, 0, y1, y2, cp, ns, ya_edit, ce_A w, ce_A g, ce_A b, ya_hFrom, ya_hBf, ya_hBt, ya_sol, re, sk, lm, li, lc, ds, sb, ob)) (fun D l => ∀ y1 y2 lm li lc ob cp ns so re sk ds sb, (∀ i, i < D → so i = nI (l i)) → post (nI D) (nI P, yf_hs, 1, nI p, yf_moves, yf_pushes, yf_hn, nI D, y1, y2, cp, ns, ya_edit, ce_A w, ce_A g, ce_A b, ya_hFrom, ya_hBf, ya_hBt, so, re, sk, lm, li, lc, ds, sb, ob))) :
    wpY_solve post (nI P, yf_hs, 1, nI p, yf_moves, yf_pushes, yf_hn, yf_solLen, yf_nB, yf_nL, yf_curP, yf_nextState, ya_edit, ce_A w, ce_A g, ce_A b, ya_hFrom, ya_hBf, ya_hBt, ya_sol, ya_reach, ya_stack, ya_liveMark, ya_liveIdx, ya_liveCell, ya_dist, ya_sb, ya_ob) := by
  refine br_f (by decide) (ys_solved ?_)
  by_cases so : b &&& (g ^^^ (-1)) = 0
  · rw [if_pos so]
    exact br_f (by decide) (h1 so)
  · rw [if_neg so]
    refine br_t rfl ⟨65, ys_30 hP1 hP hB1 hB3 hg hgw hV (fun hf lm li lc ob => h2 so hf _ _ lm li lc ob) (fun hf hz lm li lc ob => hN so hf hz _ _ lm li lc ob) (fun hf hz lm li lc ob => ?_) 64 0 _ (by omega) (fun c hc => by omega)⟩
    rcases hR so hf hz with ⟨r1, r2⟩ | ⟨D, l, r1, r2, r3, r4, r5⟩
    · exact Or.inl ⟨r1, fun cp ns re sk ds sb => r2 _ _ lm li lc ob cp ns re sk ds sb⟩
    · exact Or.inr ⟨D, l, r1, r2, r3, r4, fun cp ns so re sk ds sb hs => r5 _ _ lm li lc ob cp ns so re sk ds sb hs⟩
end
section
/-! solve -/
theorem i_vc_solve {k : Nat} {u : SX} {v : SY} (I : i_Rel k u v) (hk : k + 4 ≤ 2050) : wpX_solve (fun r u' => wpY_solve (fun r' v' => r' = r ∧ i_Rel (k + 4) u' v') v) u := by
  obtain ⟨f_pushLimit, f_historyLimit, f_started, f_walls, f_goals, f_boxes, f_liveCells, f_liveTotal, f_boxTotal, f_pusherCell, f_moves, f_pushes, f_historyNext, f_historyTotal, f_storedTotal, f_nodeTotal, a_editGrid, a_liveRank, a_historyBoxes, a_historyPusher, a_storedPushes, a_nodeBoxes, a_nodePusher, a_nodeParent, a_nodeCode, a_nodeDepth, a_nodeMet⟩ := u
  obtain ⟨yf_lim, yf_hs, yf_started, yf_pu, yf_moves, yf_pushes, yf_hn, yf_solLen, yf_nB, yf_nL, yf_curP, yf_nextState, ya_edit, ya_wall, ya_goal, ya_box, ya_hFrom, ya_hBf, ya_hBt, ya_sol, ya_reach, ya_stack, ya_liveMark, ya_liveIdx, ya_liveCell, ya_dist, ya_sb, ya_ob⟩ := v
  have I0 := I
  obtain ⟨P, H, ⟨p1, p2, p3, p4, rfl, rfl, rfl, rfl, rfl, rfl, rfl, rfl, rfl⟩, hS⟩ := I
  rcases hS with ⟨rfl, rfl, rfl, rfl⟩ | ⟨B, p, n, nx, S, rfl, rfl, rfl, b1, b2, rfl, rfl, rfl, rfl, rfl, hlr, hgw, hgB, q1, q2, rfl, rfl, rfl, hH, s1, rfl, rfl, hsol⟩
  · exact br_t rfl (br_t rfl ⟨rfl, I0⟩)
  · have hV := rl_Hv hH
    have hlw : ∀ c, ce_b (gr_live f_walls f_goals) c = true → ce_b f_walls c = false := fun c hc => gr_live_wall hgw hc
    refine xs_solve p2 b1 b2 rfl hlr hlw hV (fun x1 => ?_) (fun x1 x2 => ?_) (fun x1 x2 x3 => ?_) (fun x1 x2 x3 x4 xN nb np pr cd dp me => ?_) (fun x1 x2 x3 D l sp x4 x5 x6 x7 x8 xN nb np pr cd dp me => ?_)
    · refine ys_solve p1 p2 b1 b2 hgB hgw hV (fun _ => ⟨rfl, ?_⟩) (fun z => absurd x1 z) (fun z => absurd x1 z) (fun z => absurd x1 z)
      exact ⟨P, H, ⟨p1, p2, p3, p4, rfl, rfl, rfl, rfl, rfl, rfl, rfl, rfl, rfl⟩, Or.inr ⟨B, p, n, nx, 0, rfl, rfl, rfl, b1, b2, rfl, rfl, rfl, rfl, rfl, hlr, hgw, hgB, q1, q2, rfl, rfl, rfl, hH, by omega, rfl, rfl, fun i hi => by omega⟩⟩
    · exact ys_solve p1 p2 b1 b2 hgB hgw hV (fun z => absurd z x1) (fun _ _ y1 y2 lm li lc ob => ⟨rfl, rl_keep I0⟩) (fun _ z => absurd z x2) (fun _ z => absurd z x2)
    · refine ys_solve p1 p2 b1 b2 hgB hgw hV (fun z => absurd z x1) (fun _ z => absurd x2 z) (fun _ _ _ y1 y2 lm li lc ob => ⟨rfl, ?_⟩) (fun _ _ z => absurd z x3)
      exact ⟨P, H, ⟨p1, p2, p3, p4, rfl, rfl, rfl, rfl, rfl, rfl, rfl, rfl, rfl⟩, Or.inr ⟨B, p, n, nx, 0, rfl, rfl, rfl, b1, b2, rfl, rfl, rfl, rfl, rfl, hlr, hgw, hgB, q1, q2, rfl, rfl, rfl, hH, by omega, rfl, rfl, fun i hi => by omega⟩⟩
    · refine ys_solve p1 p2 b1 b2 hgB hgw hV (fun z => absurd z x1) (fun _ z => absurd x2 z) (fun _ _ z => absurd x3 z) (fun _ _ _ => Or.inl ⟨x4, fun y1 y2 lm li lc ob cp ns re sk ds sb => ⟨rfl, ?_⟩⟩)
      exact ⟨P, H, ⟨p1, p2, p3, p4, rfl, rfl, rfl, rfl, rfl, rfl, rfl, rfl, rfl⟩, Or.inr ⟨B, p, n, nx, 0, rfl, rfl, rfl, b1, b2, rfl, rfl, rfl, rfl, rfl, hlr, hgw, hgB, q1, q2, rfl, rfl, rfl, hH, by omega, rfl, rfl, fun i hi => by omega⟩⟩
    · refine ys_solve p1 p2 b1 b2 hgB hgw hV (fun z => absurd z x1) (fun _ z => absurd x2 z) (fun _ _ z => absurd x3 z) (fun _ _ _ => Or.inr ⟨D, l, x4, x5, x6, x7, fun y1 y2 lm li lc ob cp ns so re sk ds sb hso => ⟨rfl, ?_⟩⟩)
      exact ⟨P, H, ⟨p1, p2, p3, p4, rfl, rfl, rfl, rfl, rfl, rfl, rfl, rfl, rfl⟩, Or.inr ⟨B, p, n, nx, D, rfl, rfl, rfl, b1, b2, rfl, rfl, rfl, rfl, rfl, hlr, hgw, hgB, q1, q2, rfl, rfl, rfl, hH, by omega, rfl, rfl, fun i hi => (hso i hi).trans (x8 i hi).symm⟩⟩
end
