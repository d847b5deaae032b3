/-! the history: a ring of whole positions against a list of steps -/
def rl_V (w : Int64) (B : Nat) (b : Int64) (p : Nat) : Prop := p < 64 ∧ ce_b w p = false ∧ ce_b b p = false ∧ (∀ c, ce_b b c = true → ce_b w c = false) ∧ ce_rk b 64 = B
def rl_T (b b' : Int64) (f t : Int32) : Prop := (b' = b ∧ f = -1) ∨ ∃ x y, x < 64 ∧ y < 64 ∧ f = nI x ∧ t = nI y ∧ ce_b b' x = true ∧ ce_b b' y = false ∧ b = gr_mv b' x y
theorem gr_mv_back {b : Int64} {x y : Nat} (hx : ce_b b x = true) (hy : y < 64) (hb : ce_b b y = false) : gr_mv (gr_mv b x y) y x = b := by
  have hx64 := ce_lt hx
  apply ce_ext
  intro c hc
  rw [gr_mvB hy hx64 hc, gr_mvB hx64 hy hc]
  by_cases e1 : x = c
  · subst e1; rw [hx]; simp
  · by_cases e2 : y = c
    · subst e2; rw [hb]; simp [e1]
    · simp [e1, e2]
theorem gr_mv_ne {b : Int64} {x y : Nat} (hx : ce_b b x = true) (hy : y < 64) (hb : ce_b b y = false) : gr_mv b x y ≠ b := by
  intro h
  have hx64 := ce_lt hx
  have e : ce_b (gr_mv b x y) x = false := by
    rw [gr_mvB hx64 hy hx64]
    have : y ≠ x := fun z => by subst z; rw [hx] at hb; cases hb
    simp [this]
  rw [h, hx] at e
  cases e
def rl_pos (H nx j : Nat) : Nat := if j < nx then nx - 1 - j else nx + H - 1 - j
def rl_H (w : Int64) (B H n nx : Nat) (hb : Nat → Int64) (hp hF hf ht : Nat → Int32) (b : Int64) (p : Nat) : Prop :=
  ∃ gb : Nat → Int64, ∃ gp : Nat → Nat, gb 0 = b ∧ gp 0 = p ∧ (∀ j, j ≤ n → rl_V w B (gb j) (gp j)) ∧
    ∀ j, j < n → hb (rl_pos H nx j) = gb (j + 1) ∧ hp (rl_pos H nx j) = nI (gp (j + 1)) ∧ hF (n - 1 - j) = nI (gp (j + 1)) ∧ rl_T (gb j) (gb (j + 1)) (hf (n - 1 - j)) (ht (n - 1 - j))
theorem rl_H0 {w : Int64} {B H nx : Nat} {hb : Nat → Int64} {hp hF hf ht : Nat → Int32} {b : Int64} {p : Nat} (hv : rl_V w B b p) : rl_H w B H 0 nx hb hp hF hf ht b p :=
  ⟨fun _ => b, fun _ => p, rfl, rfl, fun _ _ => hv, fun j hj => by omega⟩
theorem rl_Hv {w : Int64} {B H n nx : Nat} {hb : Nat → Int64} {hp hF hf ht : Nat → Int32} {b : Int64} {p : Nat} (h : rl_H w B H n nx hb hp hF hf ht b p) : rl_V w B b p := by
  obtain ⟨gb, gp, h1, h2, h3, h4⟩ := h
  have := h3 0 (by omega)
  rw [h1, h2] at this
  exact this
theorem rl_Hpush {w : Int64} {B H n nx : Nat} {hb : Nat → Int64} {hp hF hf ht : Nat → Int32} {b b2 : Int64} {p p2 : Nat} {f t : Int32} (h : rl_H w B H n nx hb hp hF hf ht b p) (hx : nx < H) (hn : n < H) (hv : rl_V w B b2 p2) (hT : rl_T b2 b f t) :
    rl_H w B H (n + 1) (if nx = H - 1 then 0 else nx + 1) (vp_updL hb nx b) (upd hp nx (nI p)) (upd hF n (nI p)) (upd hf n f) (upd ht n t) b2 p2 := by
  obtain ⟨gb, gp, h1, h2, h3, h4⟩ := h
  refine ⟨fun j => Nat.casesOn j b2 gb, fun j => Nat.casesOn j p2 gp, rfl, rfl, fun j hj => ?_, fun j hj => ?_⟩
  · cases j with
    | zero => exact hv
    | succ j => exact h3 j (by omega)
  · cases j with
    | zero =>
      have e : rl_pos H (if nx = H - 1 then 0 else nx + 1) 0 = nx := by
        unfold rl_pos
        repeat' split
        all_goals omega
      rw [e, pk_uLs, pk_us, show n + 1 - 1 - 0 = n by omega, pk_us, pk_us, pk_us]
      refine ⟨h1.symm, by rw [← h2], by rw [← h2], ?_⟩
      show rl_T b2 (gb 0) f t
      rw [h1]; exact hT
    | succ j =>
      have e : rl_pos H (if nx = H - 1 then 0 else nx + 1) (j + 1) = rl_pos H nx j := by
        unfold rl_pos
        repeat' split
        all_goals omega
      have e2 : rl_pos H nx j ≠ nx := by
        unfold rl_pos
        split <;> omega
      rw [e, pk_uLn e2, pk_un e2, show n + 1 - 1 - (j + 1) = n - 1 - j by omega, pk_un (by omega), pk_un (by omega), pk_un (by omega)]
      exact h4 j (by omega)
theorem rl_Hdrop {w : Int64} {B H n nx : Nat} {hb : Nat → Int64} {hp hF hf ht hF' hf' ht' : Nat → Int32} {b : Int64} {p : Nat} (h : rl_H w B H (n + 1) nx hb hp hF hf ht b p) (e1 : ∀ i, i < n → hF' i = hF (i + 1)) (e2 : ∀ i, i < n → hf' i = hf (i + 1)) (e3 : ∀ i, i < n → ht' i = ht (i + 1)) : rl_H w B H n nx hb hp hF' hf' ht' b p := by
  obtain ⟨gb, gp, h1, h2, h3, h4⟩ := h
  refine ⟨gb, gp, h1, h2, fun j hj => h3 j (by omega), fun j hj => ?_⟩
  have := h4 j (by omega)
  rw [e1 _ (by omega), e2 _ (by omega), e3 _ (by omega), show n - 1 - j + 1 = n + 1 - 1 - j by omega]
  exact this
theorem rl_Hpop {w : Int64} {B H n nx : Nat} {hb : Nat → Int64} {hp hF hf ht : Nat → Int32} {b : Int64} {p : Nat} (h : rl_H w B H (n + 1) nx hb hp hF hf ht b p) (hx : nx < H) (hn : n < H) : ∃ b1 p1, hb (if nx = 0 then H - 1 else nx - 1) = b1 ∧ hp (if nx = 0 then H - 1 else nx - 1) = nI p1 ∧ hF n = nI p1 ∧ rl_T b b1 (hf n) (ht n) ∧ rl_H w B H n (if nx = 0 then H - 1 else nx - 1) hb hp hF hf ht b1 p1 := by
  obtain ⟨gb, gp, h1, h2, h3, h4⟩ := h
  have e : rl_pos H nx 0 = (if nx = 0 then H - 1 else nx - 1) := by
    unfold rl_pos
    repeat' split
    all_goals omega
  obtain ⟨a1, a2, a3, a4⟩ := h4 0 (by omega)
  rw [e] at a1 a2
  rw [show n + 1 - 1 - 0 = n by omega] at a3 a4
  rw [h1] at a4
  refine ⟨gb 1, gp 1, a1, a2, a3, a4, fun j => gb (j + 1), fun j => gp (j + 1), rfl, rfl, fun j hj => h3 (j + 1) (by omega), fun j hj => ?_⟩
  have e2 : rl_pos H (if nx = 0 then H - 1 else nx - 1) j = rl_pos H nx (j + 1) := by
    unfold rl_pos
    repeat' split
    all_goals omega
  have := h4 (j + 1) (by omega)
  rw [show n + 1 - 1 - (j + 1) = n - 1 - j by omega] at this
  rw [e2]
  exact this
