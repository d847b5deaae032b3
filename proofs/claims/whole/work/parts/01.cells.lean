/-! cells as the bits of a long; counts; neighbours -/
theorem pk_us {f : Nat → Int32} {k : Nat} {x : Int32} : upd f k x k = x := if_pos rfl
theorem pk_un {f : Nat → Int32} {k j : Nat} {x : Int32} (h : j ≠ k) : upd f k x j = f j := if_neg h
theorem pk_uLs {f : Nat → Int64} {k : Nat} {x : Int64} : vp_updL f k x k = x := if_pos rfl
theorem pk_uLn {f : Nat → Int64} {k j : Nat} {x : Int64} (h : j ≠ k) : vp_updL f k x j = f j := if_neg h
theorem ts_nf {x : Bool} (h : ¬ x = false) : x = true := by cases x <;> first | rfl | exact absurd rfl h
theorem ts_nt {x : Bool} (h : ¬ x = true) : x = false := by cases x <;> first | rfl | exact absurd rfl h
theorem ts_sh {w : Int64} {s : UInt64} {j : Nat} (hj : j < 64) (hs : s.toNat = j) : (w.toUInt64 >>> s).toInt64.toBitVec = w.toBitVec >>> j := by
  apply BitVec.eq_of_toNat_eq
  show (w.toUInt64 >>> s).toNat = _
  rw [UInt64.toNat_shiftRight, hs, Nat.mod_eq_of_lt hj, BitVec.toNat_ushiftRight]
  rfl
theorem ts_bit {w : Int64} {s : UInt64} {j : Nat} (hj : j < 64) (hs : s.toNat = j) : ((w.toUInt64 >>> s).toInt64 &&& 1) = 0 ↔ w.toBitVec.getLsbD j = false := by
  have e : (w.toUInt64 >>> s).toInt64.toBitVec = w.toBitVec >>> j := ts_sh hj hs
  rw [← Int64.toBitVec_inj, Int64.toBitVec_and, e]
  show w.toBitVec >>> j &&& 1#64 = 0#64 ↔ _
  constructor
  · intro h
    have t := congrArg (fun x => x.getLsbD 0) h
    simpa using t
  · intro h
    apply BitVec.eq_of_getLsbD_eq
    intro i hi
    cases i with
    | zero => simp [h]
    | succ i => simp
def ce_b (m : Int64) (c : Nat) : Bool := m.toBitVec.getLsbD c
theorem ce_ext {x y : Int64} (h : ∀ c, c < 64 → ce_b x c = ce_b y c) : x = y := Int64.toBitVec_inj.mp (BitVec.eq_of_getLsbD_eq (fun i hi => h i hi))
theorem ce_or (x y : Int64) (c : Nat) : ce_b (x ||| y) c = (ce_b x c || ce_b y c) := by unfold ce_b; rw [Int64.toBitVec_or, BitVec.getLsbD_or]
theorem ce_and (x y : Int64) (c : Nat) : ce_b (x &&& y) c = (ce_b x c && ce_b y c) := by unfold ce_b; rw [Int64.toBitVec_and, BitVec.getLsbD_and]
theorem ce_xor (x y : Int64) (c : Nat) : ce_b (x ^^^ y) c = (ce_b x c ^^ ce_b y c) := by unfold ce_b; rw [Int64.toBitVec_xor, BitVec.getLsbD_xor]
theorem ce_big {m : Int64} {c : Nat} (h : 64 ≤ c) : ce_b m c = false := BitVec.getLsbD_of_ge _ _ h
theorem ce_lt {m : Int64} {c : Nat} (h : ce_b m c = true) : c < 64 := by
  rcases Nat.lt_or_ge c 64 with z | z
  · exact z
  · rw [ce_big z] at h; cases h
theorem ce_0 (c : Nat) : ce_b 0 c = false := BitVec.getLsbD_zero
theorem ce_m1 : ∀ c, c < 64 → ce_b (-1) c = true := by decide +kernel
theorem ce_not (x : Int64) {c : Nat} (h : c < 64) : ce_b (x ^^^ (-1)) c = !ce_b x c := by
  rw [ce_xor, ce_m1 c h]; cases ce_b x c <;> rfl
def ce_bit (c : Nat) : Int64 := (1 : Int64) <<< ((nI c).toInt64 &&& 63)
theorem ce_bitV : ∀ c, c < 64 → (ce_bit c).toBitVec = BitVec.twoPow 64 c := by decide +kernel
theorem ce_bitB {c : Nat} (h : c < 64) (j : Nat) : ce_b (ce_bit c) j = decide (c = j) := by
  unfold ce_b
  rw [ce_bitV c h, BitVec.getLsbD_twoPow]
  simp [h]
theorem ce_cu : ∀ k, k < 64 → ((nI k).toInt64.toUInt64 &&& Int64.toUInt64 63).toNat = k := by decide +kernel
theorem ce_has (m : Int64) {c : Nat} (h : c < 64) : ((m.toUInt64 >>> ((nI c).toInt64.toUInt64 &&& Int64.toUInt64 63)).toInt64 &&& 1) = 0 ↔ ce_b m c = false := ts_bit h (ce_cu c h)
/-- the four shifts as the class does them -/
def ce_up (m : Int64) : Int64 := (m.toUInt64 >>> ((8 : Int32).toInt64.toUInt64 &&& Int64.toUInt64 63)).toInt64
def ce_dn (m : Int64) : Int64 := m <<< ((8 : Int32).toInt64 &&& 63)
def ce_r0 (m : Int64) : Int64 := m <<< ((1 : Int32).toInt64 &&& 63)
def ce_l0 (m : Int64) : Int64 := (m.toUInt64 >>> ((1 : Int32).toInt64.toUInt64 &&& Int64.toUInt64 63)).toInt64
theorem ce_upB (m : Int64) (c : Nat) : ce_b (ce_up m) c = ce_b m (8 + c) := by
  unfold ce_b ce_up
  rw [ts_sh (j := 8) (by decide) (by decide), BitVec.getLsbD_ushiftRight]
theorem ce_l0B (m : Int64) (c : Nat) : ce_b (ce_l0 m) c = ce_b m (1 + c) := by
  unfold ce_b ce_l0
  rw [ts_sh (j := 1) (by decide) (by decide), BitVec.getLsbD_ushiftRight]
theorem ce_dnB (m : Int64) {c : Nat} (h : c < 64) : ce_b (ce_dn m) c = (decide (8 ≤ c) && ce_b m (c - 8)) := by
  have hs : (((8 : Int32).toInt64 &&& 63).toBitVec.smod 64).toNat = 8 := by decide
  show (m.toBitVec <<< (((8 : Int32).toInt64 &&& 63).toBitVec.smod 64).toNat).getLsbD c = _
  rw [hs, BitVec.getLsbD_shiftLeft]
  unfold ce_b
  rcases Nat.lt_or_ge c 8 with z | z
  · simp [z, Nat.not_le.mpr z]
  · simp [h, z, Nat.not_lt.mpr z]
theorem ce_r0B (m : Int64) {c : Nat} (h : c < 64) : ce_b (ce_r0 m) c = (decide (1 ≤ c) && ce_b m (c - 1)) := by
  have hs : (((1 : Int32).toInt64 &&& 63).toBitVec.smod 64).toNat = 1 := by decide
  show (m.toBitVec <<< (((1 : Int32).toInt64 &&& 63).toBitVec.smod 64).toNat).getLsbD c = _
  rw [hs, BitVec.getLsbD_shiftLeft]
  unfold ce_b
  rcases Nat.lt_or_ge c 1 with z | z
  · simp [z, Nat.not_le.mpr z]
  · simp [h, z, Nat.not_lt.mpr z]
/-- an array of the reference's that holds a set of cells -/
def ce_A (m : Int64) : Nat → Int32 := fun c => if ce_b m c then 1 else 0
theorem ce_A0 : ce_A 0 = fun _ => 0 := by
  funext c; unfold ce_A; rw [ce_0]; rfl
theorem ce_At {m : Int64} {c : Nat} (h : ce_b m c = true) : ce_A m c = 1 := by unfold ce_A; rw [h]; rfl
theorem ce_Af {m : Int64} {c : Nat} (h : ce_b m c = false) : ce_A m c = 0 := by unfold ce_A; rw [h]; rfl
theorem ce_Az {m : Int64} {c : Nat} : ce_A m c = 0 ↔ ce_b m c = false := by
  cases h : ce_b m c
  · rw [ce_Af h]; simp
  · rw [ce_At h]; simp
theorem ce_A1 {m : Int64} {c : Nat} : ce_A m c = 1 ↔ ce_b m c = true := by
  cases h : ce_b m c
  · rw [ce_Af h]; simp
  · rw [ce_At h]; simp
theorem ce_setB {m : Int64} {c : Nat} (h : c < 64) (j : Nat) : ce_b (m ||| ce_bit c) j = (ce_b m j || decide (c = j)) := by rw [ce_or, ce_bitB h]
theorem ce_clrB {m : Int64} {c : Nat} (h : c < 64) {j : Nat} (hj : j < 64) : ce_b (m &&& (ce_bit c ^^^ (-1))) j = (ce_b m j && !decide (c = j)) := by rw [ce_and, ce_not _ hj, ce_bitB h]
theorem ce_A_set {m : Int64} {c : Nat} (h : c < 64) : upd (ce_A m) c 1 = ce_A (m ||| ce_bit c) := by
  funext j
  unfold ce_A upd
  rw [ce_setB h]
  by_cases e : j = c
  · subst e; simp
  · simp [e, Ne.symm e]
theorem ce_A_clr {m : Int64} {c : Nat} (h : c < 64) : upd (ce_A m) c 0 = ce_A (m &&& (ce_bit c ^^^ (-1))) := by
  funext j
  rcases Nat.lt_or_ge j 64 with z | z
  · unfold ce_A upd
    rw [ce_clrB h z]
    by_cases e : j = c
    · subst e; simp
    · simp [e, Ne.symm e]
  · rw [pk_un (by omega), ce_Af (ce_big z), ce_Af (ce_big z)]
theorem ce_A_inj {x y : Int64} (h : ∀ c, c < 64 → ce_A x c = ce_A y c) : x = y := by
  apply ce_ext
  intro c hc
  have := h c hc
  cases hx : ce_b x c <;> cases hy : ce_b y c <;> first | rfl | (rw [ce_A, ce_A, hx, hy] at this; exact absurd this (by decide))
/-- how many cells of a set lie below n -/
def ce_rk (m : Int64) : Nat → Nat
  | 0 => 0
  | n + 1 => ce_rk m n + (if ce_b m n then 1 else 0)
theorem ce_rk_le (m : Int64) : ∀ n, ce_rk m n ≤ n := by
  intro n
  induction n with
  | zero => exact Nat.le_refl 0
  | succ n ih => unfold ce_rk; split <;> omega
theorem ce_rk_mono (m : Int64) : ∀ {a b : Nat}, a ≤ b → ce_rk m a ≤ ce_rk m b := by
  intro a b h
  induction h with
  | refl => exact Nat.le_refl _
  | step _ ih => exact Nat.le_trans ih (by show _ ≤ ce_rk m _ + _; omega)
theorem ce_rk_s {m : Int64} {n : Nat} (h : ce_b m n = true) : ce_rk m (n + 1) = ce_rk m n + 1 := by show ce_rk m n + _ = _; rw [h]; rfl
theorem ce_rk_n {m : Int64} {n : Nat} (h : ce_b m n = false) : ce_rk m (n + 1) = ce_rk m n := by show ce_rk m n + _ = _; rw [h]; rfl
theorem ce_rk_lt {m : Int64} {a b : Nat} (h : ce_b m a = true) (hb : a < b) : ce_rk m a < ce_rk m b := by
  have := ce_rk_mono m (a := a + 1) (b := b) hb
  rw [ce_rk_s h] at this
  exact this
theorem ce_rk_inj {m : Int64} {a b : Nat} (ha : ce_b m a = true) (hb : ce_b m b = true) (h : ce_rk m a = ce_rk m b) : a = b := by
  rcases Nat.lt_trichotomy a b with z | z | z
  · have := ce_rk_lt ha z; omega
  · exact z
  · have := ce_rk_lt hb z; omega
theorem ce_sub_le {x y : Int64} (h : ∀ c, ce_b x c = true → ce_b y c = true) : ∀ n, ce_rk x n ≤ ce_rk y n := by
  intro n
  induction n with
  | zero => exact Nat.le_refl 0
  | succ n ih =>
    cases hx : ce_b x n
    · rw [ce_rk_n hx]; exact Nat.le_trans ih (ce_rk_mono y (Nat.le_succ n))
    · rw [ce_rk_s hx, ce_rk_s (h n hx)]; omega
theorem ce_sub_lt {x y : Int64} (h : ∀ c, ce_b x c = true → ce_b y c = true) {c : Nat} (hc : ce_b y c = true) (hx : ce_b x c = false) : ∀ {n}, c < n → ce_rk x n < ce_rk y n := by
  intro n hn
  induction hn with
  | refl => rw [ce_rk_n hx, ce_rk_s hc]; have := ce_sub_le h c; omega
  | @step k hk ih =>
    show ce_rk x (k + 1) < ce_rk y (k + 1)
    cases hz : ce_b x k
    · rw [ce_rk_n hz]; exact Nat.lt_of_lt_of_le ih (ce_rk_mono y (Nat.le_succ k))
    · rw [ce_rk_s hz, ce_rk_s (h k hz)]; omega
theorem ce_ne {x y : Int64} (h : x ≠ y) : ∃ c, c < 64 ∧ ce_b x c ≠ ce_b y c := by
  apply Classical.byContradiction
  intro z
  apply h
  apply ce_ext
  intro c hc
  apply Classical.byContradiction
  intro w
  exact z ⟨c, hc, w⟩
theorem ce_rk_set {m : Int64} {c : Nat} (hc : c < 64) (h : ce_b m c = false) : ∀ n, ce_rk (m ||| ce_bit c) n = ce_rk m n + (if c < n then 1 else 0) := by
  intro n
  induction n with
  | zero => rfl
  | succ n ih =>
    unfold ce_rk
    rw [ih, ce_setB hc]
    by_cases e : c = n
    · subst e; rw [h]; simp
    · have : (c < n + 1) = (c < n) := propext ⟨fun z => by omega, fun z => by omega⟩
      simp only [e, decide_false, Bool.or_false, this]
      omega
theorem ce_rk_clr {m : Int64} {c : Nat} (hc : c < 64) (h : ce_b m c = true) : ∀ n, n ≤ 64 → ce_rk (m &&& (ce_bit c ^^^ (-1))) n + (if c < n then 1 else 0) = ce_rk m n := by
  intro n
  induction n with
  | zero => intro _; rfl
  | succ n ih =>
    intro hn
    have ih := ih (by omega)
    unfold ce_rk
    rw [ce_clrB hc (by omega)]
    by_cases e : c = n
    · subst e; rw [h]; simp at ih ⊢; omega
    · have : (c < n + 1) = (c < n) := propext ⟨fun z => by omega, fun z => by omega⟩
      simp only [e, decide_false, Bool.not_false, Bool.and_true, this]
      omega
theorem ce_full {m : Int64} : ∀ n, ce_rk m n = n → ∀ c, c < n → ce_b m c = true := by
  intro n
  induction n with
  | zero => intro _ c hc; omega
  | succ n ih =>
    intro h c hc
    cases hb : ce_b m n
    · rw [ce_rk_n hb] at h; have := ce_rk_le m n; omega
    · rw [ce_rk_s hb] at h
      rcases Nat.lt_or_ge c n with z | z
      · exact ih (by omega) c z
      · have : c = n := by omega
        subst this; exact hb
/-- the neighbour; 64 is outside -/
def ce_n (c d : Nat) : Nat :=
  if 64 ≤ c then 64
  else if d = 0 then (if 8 ≤ c then c - 8 else 64)
  else if d = 1 then (if c % 8 < 7 then c + 1 else 64)
  else if d = 2 then (if c < 56 then c + 8 else 64)
  else (if 0 < c % 8 then c - 1 else 64)
theorem ce_n_le (c d : Nat) : ce_n c d ≤ 64 := by
  unfold ce_n
  repeat' split
  all_goals omega
theorem ce_n_rev : ∀ c, c < 64 → ∀ d, d < 4 → ce_n c d < 64 → ce_n (ce_n c d) ((d + 2) % 4) = c := by decide +kernel
theorem ce_n_ne : ∀ c, c < 64 → ∀ d, d < 4 → ce_n c d ≠ c := by decide +kernel
theorem ce_n_64 (d : Nat) : ce_n 64 d = 64 := rfl
/-- a cell as the programs write it -/
def ce_I (c : Nat) : Int32 := if c < 64 then nI c else -1
theorem ce_I_in {c : Nat} (h : c < 64) : ce_I c = nI c := if_pos h
theorem ce_I_out {c : Nat} (h : 64 ≤ c) : ce_I c = -1 := if_neg (by omega)
