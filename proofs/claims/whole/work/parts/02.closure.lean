/-! least sets: the cells that the pusher reaches, the live cells -/
def gr_lc (I : Nat → Prop) (E : Nat → Nat → Prop) (c : Nat) : Prop := ∀ T : Nat → Prop, (∀ a, I a → T a) → (∀ a b, T a → E a b → T b) → T c
theorem gr_lc_i {I : Nat → Prop} {E : Nat → Nat → Prop} {c : Nat} (h : I c) : gr_lc I E c := fun _ h1 _ => h1 c h
theorem gr_lc_s {I : Nat → Prop} {E : Nat → Nat → Prop} {a b : Nat} (h : gr_lc I E a) (e : E a b) : gr_lc I E b := fun T h1 h2 => h2 a b (h T h1 h2) e
def ce_it (f : Int64 → Int64) : Nat → Int64 → Int64
  | 0, m => m
  | n + 1, m => ce_it f n (f m)
theorem ce_it_fix {f : Int64 → Int64} {m : Int64} (h : f m = m) : ∀ n, ce_it f n m = m := by
  intro n
  induction n with
  | zero => rfl
  | succ n ih => show ce_it f n (f m) = m; rw [h]; exact ih
theorem ce_it_grow {f : Int64 → Int64} (hf : ∀ m c, ce_b m c = true → ce_b (f m) c = true) : ∀ n m, f (ce_it f n m) = ce_it f n m ∨ ce_rk m 64 + n ≤ ce_rk (ce_it f n m) 64 := by
  intro n
  induction n with
  | zero => intro m; exact Or.inr (Nat.le_refl _)
  | succ n ih =>
    intro m
    by_cases e : f m = m
    · left
      rw [ce_it_fix e]; exact e
    · rcases ih (f m) with h | h
      · exact Or.inl h
      · right
        obtain ⟨c, hc, hne⟩ := ce_ne e
        have h1 : ce_b m c = false := by
          cases z : ce_b m c
          · rfl
          · exact absurd ((hf m c z).trans z.symm) hne
        have h2 : ce_b (f m) c = true := by
          cases z : ce_b (f m) c
          · exact absurd (z.trans h1.symm) hne
          · rfl
        have h3 := ce_sub_lt (hf m) h2 h1 hc
        show ce_rk m 64 + (n + 1) ≤ ce_rk (ce_it f n (f m)) 64
        omega
theorem ce_it_closed {f : Int64 → Int64} (hf : ∀ m c, ce_b m c = true → ce_b (f m) c = true) (m : Int64) : f (ce_it f 64 m) = ce_it f 64 m := by
  rcases ce_it_grow hf 64 m with h | h
  · exact h
  · have h1 := ce_rk_le (ce_it f 64 m) 64
    have h2 := ce_full 64 (Nat.le_antisymm h1 (by omega))
    apply ce_ext
    intro c hc
    rw [h2 c hc]
    exact hf _ _ (h2 c hc)
theorem ce_it_sub {f : Int64 → Int64} (hf : ∀ m c, ce_b m c = true → ce_b (f m) c = true) : ∀ n m c, ce_b m c = true → ce_b (ce_it f n m) c = true := by
  intro n
  induction n with
  | zero => exact fun m c h => h
  | succ n ih => exact fun m c h => ih (f m) c (hf m c h)
theorem ce_it_lc {f : Int64 → Int64} {E : Nat → Nat → Prop} {I : Nat → Prop} {m : Int64} (hf : ∀ m c, c < 64 → (ce_b (f m) c = true ↔ ce_b m c = true ∨ ∃ a, ce_b m a = true ∧ E a c)) (hE : ∀ a b, E a b → b < 64) (hI : ∀ c, ce_b m c = true ↔ I c) (c : Nat) : ce_b (ce_it f 64 m) c = true ↔ gr_lc I E c := by
  have hg : ∀ m c, ce_b m c = true → ce_b (f m) c = true := fun m c h => (hf m c (ce_lt h)).mpr (Or.inl h)
  constructor
  · have key : ∀ n m', (∀ c, ce_b m' c = true → gr_lc I E c) → ∀ c, ce_b (ce_it f n m') c = true → gr_lc I E c := by
      intro n
      induction n with
      | zero => exact fun m' h => h
      | succ n ih =>
        intro m' h
        apply ih (f m')
        intro c hc
        rcases (hf m' c (ce_lt hc)).mp hc with z | ⟨a, ha, he⟩
        · exact h c z
        · exact gr_lc_s (h a ha) he
    exact key 64 m (fun c hc => gr_lc_i ((hI c).mp hc)) c
  · intro h
    refine h (fun c => ce_b (ce_it f 64 m) c = true) ?_ ?_
    · exact fun a ha => ce_it_sub hg 64 m a ((hI a).mpr ha)
    · intro a b ha he
      have hb := hE a b he
      have := (hf (ce_it f 64 m) b hb).mpr (Or.inr ⟨a, ha, he⟩)
      rw [ce_it_closed hg m] at this
      exact this
/-! neighbours by cases -/
theorem ce_n_out {c d x : Nat} (hc : c < 64) (hd : d < 4) (h : ce_n c d = x) (hx : x < 64) : (d = 0 ∧ c = x + 8) ∨ (d = 1 ∧ x = c + 1 ∧ x % 8 ≠ 0) ∨ (d = 2 ∧ x = c + 8) ∨ (d = 3 ∧ c = x + 1 ∧ x % 8 ≠ 7) := by
  unfold ce_n at h
  rw [if_neg (by omega)] at h
  have hd' : d = 0 ∨ d = 1 ∨ d = 2 ∨ d = 3 := by omega
  rcases hd' with rfl | rfl | rfl | rfl
  · left
    simp at h
    split at h <;> omega
  · right; left
    simp at h
    split at h <;> omega
  · right; right; left
    simp at h
    split at h <;> omega
  · right; right; right
    simp at h
    split at h <;> omega
theorem ce_n0 {x : Nat} (h : x + 8 < 64) : ce_n (x + 8) 0 = x := by
  unfold ce_n; rw [if_neg (by omega), if_pos rfl, if_pos (by omega)]; omega
theorem ce_n1 {x : Nat} (h : x + 1 < 64) (h8 : (x + 1) % 8 ≠ 0) : ce_n x 1 = x + 1 := by
  unfold ce_n; rw [if_neg (by omega), if_neg (by omega), if_pos rfl, if_pos (by omega)]
theorem ce_n2 {x : Nat} (h : x + 8 < 64) : ce_n x 2 = x + 8 := by
  unfold ce_n; rw [if_neg (by omega), if_neg (by omega), if_neg (by omega), if_pos rfl, if_pos (by omega)]
theorem ce_n3 {x : Nat} (h : x + 1 < 64) (h8 : x % 8 ≠ 7) : ce_n (x + 1) 3 = x := by
  unfold ce_n; rw [if_neg (by omega), if_neg (by omega), if_neg (by omega), if_neg (by omega), if_pos (by omega)]; omega
def ce_rt (m : Int64) : Int64 := ce_r0 m &&& (-72340172838076674)
def ce_lf (m : Int64) : Int64 := ce_l0 m &&& 9187201950435737471
theorem ce_K1 : ∀ c, c < 64 → ce_b (-72340172838076674) c = !decide (c % 8 = 0) := by decide +kernel
theorem ce_K2 : ∀ c, c < 64 → ce_b 9187201950435737471 c = !decide (c % 8 = 7) := by decide +kernel
theorem ce_rtI (m : Int64) {c : Nat} (h : c < 64) : ce_b (ce_rt m) c = true ↔ ∃ x, c = x + 1 ∧ c % 8 ≠ 0 ∧ ce_b m x = true := by
  unfold ce_rt
  rw [ce_and, ce_r0B m h, ce_K1 c h]
  simp only [Bool.and_eq_true, Bool.not_eq_true', decide_eq_true_eq, decide_eq_false_iff_not]
  constructor
  · intro ⟨⟨h1, h2⟩, h3⟩
    exact ⟨c - 1, by omega, h3, h2⟩
  · intro ⟨x, h1, h2, h3⟩
    subst h1
    exact ⟨⟨by omega, h3⟩, h2⟩
theorem ce_lfI (m : Int64) {c : Nat} (h : c < 64) : ce_b (ce_lf m) c = true ↔ c % 8 ≠ 7 ∧ ce_b m (c + 1) = true := by
  unfold ce_lf
  rw [ce_and, ce_l0B, ce_K2 c h, Nat.add_comm 1 c]
  simp only [Bool.and_eq_true, Bool.not_eq_true', decide_eq_false_iff_not]
  exact ⟨fun z => ⟨z.2, z.1⟩, fun z => ⟨z.2, z.1⟩⟩
theorem ce_upI (m : Int64) (c : Nat) : ce_b (ce_up m) c = true ↔ ce_b m (c + 8) = true := by rw [ce_upB, Nat.add_comm 8 c]
theorem ce_dnI (m : Int64) {c : Nat} (h : c < 64) : ce_b (ce_dn m) c = true ↔ ∃ x, c = x + 8 ∧ ce_b m x = true := by
  rw [ce_dnB m h]
  simp only [Bool.and_eq_true, decide_eq_true_eq]
  constructor
  · intro ⟨h1, h2⟩
    exact ⟨c - 8, by omega, h2⟩
  · intro ⟨x, h1, h3⟩
    subst h1
    exact ⟨by omega, h3⟩
def gr_bs (m : Int64) : Int64 := ((ce_up m ||| ce_rt m) ||| ce_dn m) ||| ce_lf m
theorem gr_bsI (m : Int64) {c : Nat} (h : c < 64) : ce_b (gr_bs m) c = true ↔ ∃ a, ce_b m a = true ∧ ∃ d, d < 4 ∧ ce_n a d = c := by
  unfold gr_bs
  rw [ce_or, ce_or, ce_or, Bool.or_eq_true, Bool.or_eq_true, Bool.or_eq_true, ce_upI, ce_rtI m h, ce_dnI m h, ce_lfI m h]
  constructor
  · rintro (((z | ⟨x, h1, h2, h3⟩) | ⟨x, h1, h3⟩) | ⟨h1, h2⟩)
    · exact ⟨c + 8, z, 0, by omega, ce_n0 (ce_lt z)⟩
    · subst h1; exact ⟨x, h3, 1, by omega, ce_n1 h h2⟩
    · subst h1; exact ⟨x, h3, 2, by omega, ce_n2 h⟩
    · exact ⟨c + 1, h2, 3, by omega, ce_n3 (ce_lt h2) h1⟩
  · rintro ⟨a, ha, d, hd, e⟩
    rcases ce_n_out (ce_lt ha) hd e h with ⟨_, rfl⟩ | ⟨_, rfl, h2⟩ | ⟨_, rfl⟩ | ⟨_, rfl, h2⟩
    · exact Or.inl (Or.inl (Or.inl ha))
    · exact Or.inl (Or.inl (Or.inr ⟨a, rfl, h2, ha⟩))
    · exact Or.inl (Or.inr ⟨a, rfl, ha⟩)
    · exact Or.inr ⟨h2, ha⟩
/-- one round of the flood over the free cells fr -/
def gr_fl (fr m : Int64) : Int64 := m ||| (gr_bs m &&& fr)
def gr_area (w b : Int64) (p : Nat) : Int64 := ce_it (gr_fl ((w ||| b) ^^^ (-1))) 64 (ce_bit p)
def gr_Ea (fr : Int64) (a c : Nat) : Prop := ce_b fr c = true ∧ ∃ d, d < 4 ∧ ce_n a d = c
theorem gr_flI (fr m : Int64) (c : Nat) (h : c < 64) : ce_b (gr_fl fr m) c = true ↔ ce_b m c = true ∨ ∃ a, ce_b m a = true ∧ gr_Ea fr a c := by
  unfold gr_fl
  rw [ce_or, ce_and, Bool.or_eq_true, Bool.and_eq_true, gr_bsI m h]
  constructor
  · rintro (z | ⟨⟨a, ha, z⟩, w⟩)
    · exact Or.inl z
    · exact Or.inr ⟨a, ha, w, z⟩
  · rintro (z | ⟨a, ha, w, z⟩)
    · exact Or.inl z
    · exact Or.inr ⟨⟨a, ha, z⟩, w⟩
theorem gr_areaI (w b : Int64) {p : Nat} (hp : p < 64) (c : Nat) : ce_b (gr_area w b p) c = true ↔ gr_lc (fun x => x = p) (gr_Ea ((w ||| b) ^^^ (-1))) c := by
  refine ce_it_lc (gr_flI _) (fun a c h => ce_lt h.1) ?_ c
  intro c
  rw [ce_bitB hp, decide_eq_true_eq]
  exact ⟨fun h => h.symm, fun h => h.symm⟩
theorem gr_fr (w b : Int64) (c : Nat) : ce_b ((w ||| b) ^^^ (-1)) c = true ↔ c < 64 ∧ ce_b w c = false ∧ ce_b b c = false := by
  rcases Nat.lt_or_ge c 64 with z | z
  · rw [ce_not _ z, ce_or]
    cases ce_b w c <;> cases ce_b b c <;> simp [z]
  · rw [ce_big z]
    exact ⟨fun h => (by cases h), fun h => absurd h.1 (by omega)⟩
theorem gr_area_free {w b : Int64} {p c : Nat} (hp : p < 64) (hw : ce_b w p = false) (hb : ce_b b p = false) (h : ce_b (gr_area w b p) c = true) : ce_b w c = false ∧ ce_b b c = false := by
  refine (gr_areaI w b hp c).mp h (fun c => ce_b w c = false ∧ ce_b b c = false) ?_ ?_
  · intro a e; subst e; exact ⟨hw, hb⟩
  · intro a c _ e; exact ((gr_fr w b c).mp e.1).2
/-! the live cells -/
def gr_lf (w m : Int64) : Int64 := (((m ||| (ce_dn m &&& ((w ^^^ (-1)) &&& ce_up (w ^^^ (-1))))) ||| (ce_up m &&& ((w ^^^ (-1)) &&& ce_dn (w ^^^ (-1))))) ||| (ce_lf m &&& ((w ^^^ (-1)) &&& ce_rt (w ^^^ (-1))))) ||| (ce_rt m &&& ((w ^^^ (-1)) &&& ce_lf (w ^^^ (-1))))
def gr_live (w g : Int64) : Int64 := ce_it (gr_lf w) 64 g
def gr_Ev (w : Int64) (t s : Nat) : Prop := ∃ e, e < 4 ∧ ce_n t e = s ∧ s < 64 ∧ ce_n s e < 64 ∧ ce_b w s = false ∧ ce_b w (ce_n s e) = false
theorem gr_op (w : Int64) (c : Nat) : ce_b (w ^^^ (-1)) c = true ↔ c < 64 ∧ ce_b w c = false := by
  rcases Nat.lt_or_ge c 64 with z | z
  · rw [ce_not _ z]
    cases ce_b w c <;> simp [z]
  · rw [ce_big z]
    exact ⟨fun h => (by cases h), fun h => absurd h.1 (by omega)⟩
theorem gr_lfI (w m : Int64) (c : Nat) (h : c < 64) : ce_b (gr_lf w m) c = true ↔ ce_b m c = true ∨ ∃ a, ce_b m a = true ∧ gr_Ev w a c := by
  unfold gr_lf
  rw [ce_or, ce_or, ce_or, ce_or, Bool.or_eq_true, Bool.or_eq_true, Bool.or_eq_true, Bool.or_eq_true]
  simp only [ce_and, Bool.and_eq_true]
  rw [ce_dnI m h, ce_upI, ce_upI, ce_rtI m h, ce_dnI _ h, ce_lfI m h, ce_lfI _ h, ce_rtI _ h, gr_op, gr_op, gr_op]
  constructor
  · rintro ((((z | ⟨⟨x, h1, h2⟩, h3, h4⟩) | ⟨h2, h3, ⟨x, h1, h4⟩⟩) | ⟨⟨h1, h2⟩, h3, ⟨x, h4, h5, h6⟩⟩) | ⟨⟨x, h1, h2, h5⟩, h3, h4, h6⟩)
    · exact Or.inl z
    · subst h1
      refine Or.inr ⟨x, h2, 2, by omega, ce_n2 h, h, ?_⟩
      rw [ce_n2 h4.1]
      exact ⟨h4.1, h3.2, h4.2⟩
    · subst h1
      refine Or.inr ⟨x + 8 + 8, h2, 0, by omega, ce_n0 (ce_lt h2), h, ?_⟩
      rw [ce_n0 h]
      have := (gr_op w x).mp h4
      exact ⟨this.1, h3.2, this.2⟩
    · subst h4
      refine Or.inr ⟨x + 1 + 1, h2, 3, by omega, ce_n3 (ce_lt h2) h1, h, ?_⟩
      have := (gr_op w x).mp h6
      rw [ce_n3 h (by omega)]
      exact ⟨this.1, h3.2, this.2⟩
    · subst h1
      refine Or.inr ⟨x, h5, 1, by omega, ce_n1 h h2, h, ?_⟩
      rw [ce_n1 h6.1 (by omega)]
      exact ⟨h6.1, h3.2, h6.2⟩
  · rintro (z | ⟨a, ha, e, he, h1, h2, h3, h4, h5⟩)
    · exact Or.inl (Or.inl (Or.inl (Or.inl z)))
    · rcases ce_n_out (ce_lt ha) he h1 h with ⟨rfl, rfl⟩ | ⟨rfl, rfl, h6⟩ | ⟨rfl, rfl⟩ | ⟨rfl, rfl, h6⟩
      · rcases ce_n_out h (by omega) rfl h3 with ⟨_, h7⟩ | ⟨h7, _⟩ | ⟨h7, _⟩ | ⟨h7, _⟩
        · exact Or.inl (Or.inl (Or.inr ⟨ha, ⟨h, h4⟩, ⟨_, h7, (gr_op w _).mpr ⟨h3, h5⟩⟩⟩))
        all_goals exact absurd h7 (by decide)
      · rcases ce_n_out h (by omega) rfl h3 with ⟨h7, _⟩ | ⟨_, h7, h8⟩ | ⟨h7, _⟩ | ⟨h7, _⟩
        · exact absurd h7 (by decide)
        · refine Or.inr ⟨⟨a, rfl, h6, ha⟩, ⟨h, h4⟩, ?_, ?_⟩
          · rw [h7] at h8; omega
          · rw [h7] at h3 h5; exact ⟨h3, h5⟩
        all_goals exact absurd h7 (by decide)
      · rcases ce_n_out h (by omega) rfl h3 with ⟨h7, _⟩ | ⟨h7, _⟩ | ⟨_, h7⟩ | ⟨h7, _⟩
        · exact absurd h7 (by decide)
        · exact absurd h7 (by decide)
        · rw [h7] at h3 h5
          exact Or.inl (Or.inl (Or.inl (Or.inr ⟨⟨a, rfl, ha⟩, ⟨h, h4⟩, h3, h5⟩)))
        · exact absurd h7 (by decide)
      · rcases ce_n_out h (by omega) rfl h3 with ⟨h7, _⟩ | ⟨h7, _⟩ | ⟨h7, _⟩ | ⟨_, h7, h8⟩
        · exact absurd h7 (by decide)
        · exact absurd h7 (by decide)
        · exact absurd h7 (by decide)
        · exact Or.inl (Or.inr ⟨⟨h6, ha⟩, ⟨h, h4⟩, ⟨_, h7, by omega, (gr_op w _).mpr ⟨h3, h5⟩⟩⟩)
theorem gr_liveI (w g : Int64) (c : Nat) : ce_b (gr_live w g) c = true ↔ gr_lc (fun x => ce_b g x = true) (gr_Ev w) c :=
  ce_it_lc (gr_lfI w) (fun a c ⟨_, _, _, h, _⟩ => h) (fun c => Iff.rfl) c
theorem gr_live_wall {w g : Int64} (hg : ∀ c, ce_b g c = true → ce_b w c = false) {c : Nat} (h : ce_b (gr_live w g) c = true) : ce_b w c = false :=
  (gr_liveI w g c).mp h (fun c => ce_b w c = false) hg (fun _ _ _ ⟨_, _, _, _, _, h, _⟩ => h)
theorem gr_live_goal {w g : Int64} {c : Nat} (h : ce_b g c = true) : ce_b (gr_live w g) c = true := (gr_liveI w g c).mpr (gr_lc_i h)
