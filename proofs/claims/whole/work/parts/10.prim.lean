/-! the small methods of both sides -/
theorem rl_lt7 (x : Int32) : 7 < x ↔ 8 ≤ x := by
  rw [Int32.lt_iff_toInt_lt, Int32.le_iff_toInt_le, show (7 : Int32).toInt = 7 from by decide, show (8 : Int32).toInt = 8 from by decide]
  omega
theorem rl_le3 (x : Int32) : x ≤ 3 ↔ ¬ 4 ≤ x := by
  rw [Int32.le_iff_toInt_le, Int32.le_iff_toInt_le, show (3 : Int32).toInt = 3 from by decide, show (4 : Int32).toInt = 4 from by decide]
  omega
theorem rl_b0 : vp_nar .boolean 0 = 0 := by decide
theorem rl_b1 : vp_nar .boolean 1 = 1 := by decide
theorem rl_ne01 {x : Int32} (h : x = 0 ∨ x = 1) : narrow .boolean (.int x) = .int x := by
  rcases h with rfl | rfl <;> decide
theorem ce_A01 (m : Int64) (c : Nat) : ce_A m c = 0 ∨ ce_A m c = 1 := by
  unfold ce_A
  split
  · exact Or.inr rfl
  · exact Or.inl rfl
theorem ce_An (m : Int64) (c : Nat) : vp_nar .boolean (ce_A m c) = ce_A m c := by
  rcases ce_A01 m c with h | h <;> rw [h] <;> decide
def rl_oo (v1 v2 : Int32) : Prop := v1 < 0 ∨ 8 ≤ v1 ∨ v2 < 0 ∨ 8 ≤ v2
theorem rl_rc (v1 v2 : Int32) : rl_oo v1 v2 ∨ ∃ r c, r < 8 ∧ c < 8 ∧ v1 = nI r ∧ v2 = nI c := by
  by_cases h1 : v1 < 0
  · exact Or.inl (Or.inl h1)
  by_cases h2 : (8 : Int32) ≤ v1
  · exact Or.inl (Or.inr (Or.inl h2))
  by_cases h3 : v2 < 0
  · exact Or.inl (Or.inr (Or.inr (Or.inl h3)))
  by_cases h4 : (8 : Int32) ≤ v2
  · exact Or.inl (Or.inr (Or.inr (Or.inr h4)))
  obtain ⟨r, hr, rfl⟩ := nI_of h1
  obtain ⟨c, hc, rfl⟩ := nI_of h3
  refine Or.inr ⟨r, c, Nat.not_le.mp (fun q => h2 (nI_le (a := 8) q hr)), Nat.not_le.mp (fun q => h4 (nI_le (a := 8) q hc)), rfl, rfl⟩
theorem rl_ix (r c : Nat) : nI r * 8 + nI c = nI (r * 8 + c) := by
  show nI r * nI 8 + nI c = _
  rw [pk_mul, nI_add]
theorem xs_in_t {post : Int32 → Prop} {r c : Nat} (hr : r < 8) (hc : c < 8) (h : post 1) : wpX_inGrid post (nI r) (nI c) :=
  br_f (nI_pos (by omega)) (br_f (nI_ge (b := 8) hr (by decide)) (br_f (nI_pos (by omega)) (br_f (nI_ge (b := 8) hc (by decide)) h)))
theorem xs_in_f {post : Int32 → Prop} {v1 v2 : Int32} (ho : rl_oo v1 v2) (h : post 0) : wpX_inGrid post v1 v2 := by
  refine br_c (fun _ => h) (fun h1 => br_c (fun _ => h) (fun h2 => br_c (fun _ => h) (fun h3 => br_c (fun _ => h) (fun h4 => absurd ho ?_))))
  rintro (z | z | z | z)
  · exact h1 z
  · exact h2 z
  · exact h3 z
  · exact h4 z
theorem ys_in_t {post : Int32 → Prop} {v : SY} {r c : Nat} (hr : r < 8) (hc : c < 8) (h : post 1) : wpY_in post v (nI r) (nI c) :=
  br_f (nI_pos (by omega)) (br_f (fun z => nI_ge (b := 8) hr (by decide) ((rl_lt7 _).mp z)) (br_f (nI_pos (by omega)) (br_f (fun z => nI_ge (b := 8) hc (by decide) ((rl_lt7 _).mp z)) h)))
theorem ys_in_f {post : Int32 → Prop} {v : SY} {v1 v2 : Int32} (ho : rl_oo v1 v2) (h : post 0) : wpY_in post v v1 v2 := by
  refine br_c (fun _ => h) (fun h1 => br_c (fun _ => h) (fun h2 => br_c (fun _ => h) (fun h3 => br_c (fun _ => h) (fun h4 => absurd ho ?_))))
  rintro (z | z | z | z)
  · exact h1 z
  · exact h2 ((rl_lt7 _).mpr z)
  · exact h3 z
  · exact h4 ((rl_lt7 _).mpr z)
/-! directions -/
theorem rl_dir (x : Int32) : (x < 0 ∨ 4 ≤ x) ∨ ∃ d, d < 4 ∧ x = nI d := by
  by_cases h1 : x < 0
  · exact Or.inl (Or.inl h1)
  by_cases h2 : (4 : Int32) ≤ x
  · exact Or.inl (Or.inr h2)
  obtain ⟨r, hr, rfl⟩ := nI_of h1
  exact Or.inr ⟨r, Nat.not_le.mp (fun q => h2 (nI_le (a := 4) q hr)), rfl⟩
theorem xs_dir_t {post : Int32 → Prop} {d : Nat} (hd : d < 4) (h : post 1) : wpX_isDirection post (nI d) :=
  br_f (nI_pos (by omega)) (br_f (nI_ge (b := 4) hd (by decide)) h)
theorem xs_dir_f {post : Int32 → Prop} {x : Int32} (ho : x < 0 ∨ 4 ≤ x) (h : post 0) : wpX_isDirection post x := by
  refine br_c (fun _ => h) (fun h1 => br_c (fun _ => h) (fun h2 => absurd ho ?_))
  rintro (z | z)
  · exact h1 z
  · exact h2 z
/-! sets and neighbours -/
theorem ce_I_64 : ce_I 64 = -1 := rfl
theorem ce_I_ne {c : Nat} (h : c < 64) : ¬ ce_I c = -1 := by
  rw [ce_I_in h]
  intro z
  have := nI_pos (n := c) (by omega)
  rw [z] at this
  exact this (by decide)
theorem ce_I_neg {c : Nat} (h : c < 64) : ¬ ce_I c < 0 := by rw [ce_I_in h]; exact nI_pos (by omega)
theorem ce_I_m1 : (-1 : Int32) < 0 := by decide
theorem ce_I_cl {c : Nat} (h : c < 64) : (ce_I c).toNatClampNeg = c := by rw [ce_I_in h]; exact nI_clamp (by omega)
theorem ce_I_vp {c : Nat} (h : c < 64) : vp_in (ce_I c) 64 := by rw [ce_I_in h]; exact vp_in_nI h (by decide)
theorem ce_le64 {c : Nat} (h : c ≤ 64) : c < 64 ∨ c = 64 := by omega
theorem xs_has {post : Int32 → Prop} {m : Int64} {c : Nat} (hc : c ≤ 64) (h : post (ce_A m c)) : wpX_contains post m (ce_I c) := by
  rcases ce_le64 hc with z | z
  · rw [ce_I_in z]
    refine br_f ?_ ?_
    · have := ce_I_ne z
      rw [ce_I_in z] at this
      exact this
    · cases hb : ce_b m c
      · rw [ce_Af hb] at h
        exact br_t ((ce_has m z).mpr hb) h
      · rw [ce_At hb] at h
        exact br_f (fun q => by rw [(ce_has m z).mp q] at hb; cases hb) h
  · subst z
    rw [ce_Af (ce_big (Nat.le_refl 64))] at h
    exact br_t rfl h
theorem xs_hasN {post : Int32 → Prop} {m : Int64} {c : Nat} (hc : c < 64) (h : post (ce_A m c)) : wpX_contains post m (nI c) := by
  have := xs_has (Nat.le_of_lt hc) h
  rw [ce_I_in hc] at this
  exact this
theorem xs_nb {post : Int32 → Prop} {c d : Nat} (hc : c < 64) (hd : d < 4) (h : post (ce_I (ce_n c d))) : wpX_neighbour post (nI c) (nI d) := by
  have e1 : nI c / 8 = nI (c / 8) := pk_div (d := 8) (by omega) (by decide) (by decide)
  have e2 : nI c - nI c / 8 * 8 = nI (c % 8) := pk_rem (d := 8) (by omega) (by decide) (by decide)
  refine ⟨by decide, nm_r e1 ⟨by decide, nm_r e2 ?_⟩⟩
  have hd' : d = 0 ∨ d = 1 ∨ d = 2 ∨ d = 3 := by omega
  unfold ce_n at h
  rw [if_neg (by omega)] at h
  rcases hd' with rfl | rfl | rfl | rfl
  · refine br_t rfl (pk_le (c / 8) 0 (fun z => ?_) (fun z => ?_))
    · rw [if_pos rfl, if_neg (by omega)] at h; exact h
    · rw [if_pos rfl, if_pos (by omega), ce_I_in (by omega)] at h
      show post (nI c - nI 8)
      rw [pk_sub (by omega)]; exact h
  · refine br_f (by decide) (br_t rfl (pk_le 7 (c % 8) (fun z => ?_) (fun z => ?_)))
    · rw [if_neg (by omega), if_pos rfl, if_neg (by omega)] at h; exact h
    · rw [if_neg (by omega), if_pos rfl, if_pos (by omega), ce_I_in (by omega)] at h
      show post (nI c + 1)
      rw [nI_1]; exact h
  · refine br_f (by decide) (br_f (by decide) (br_t rfl (pk_le 7 (c / 8) (fun z => ?_) (fun z => ?_))))
    · rw [if_neg (by omega), if_neg (by omega), if_pos rfl, if_neg (by omega)] at h; exact h
    · rw [if_neg (by omega), if_neg (by omega), if_pos rfl, if_pos (by omega), ce_I_in (by omega)] at h
      show post (nI c + nI 8)
      rw [nI_add]; exact h
  · refine br_f (by decide) (br_f (by decide) (br_f (by decide) (pk_le (c % 8) 0 (fun z => ?_) (fun z => ?_))))
    · rw [if_neg (by omega), if_neg (by omega), if_neg (by omega), if_neg (by omega)] at h; exact h
    · rw [if_neg (by omega), if_neg (by omega), if_neg (by omega), if_pos (by omega), ce_I_in (by omega)] at h
      show post (nI c - nI 1)
      rw [pk_sub (by omega)]; exact h
theorem xs_nbI {post : Int32 → Prop} {c d : Nat} (hc : c < 64) (hd : d < 4) (h : post (ce_I (ce_n c d))) : wpX_neighbour post (ce_I c) (nI d) := by
  rw [ce_I_in hc]; exact xs_nb hc hd h
theorem xs_behind {post : Int32 → Prop} {c d : Nat} (hc : c < 64) (hd : d < 4) (h : post (ce_I (ce_n c ((d + 2) % 4)))) : wpX_neighbourBehind post (nI c) (nI d) := by
  refine pk_le 2 d (fun z => ?_) (fun z => ?_)
  · show wpX_neighbour (fun r => post r) (nI c) (nI d - nI 2)
    rw [pk_sub z]
    refine xs_nb hc (by omega) ?_
    rw [show d - 2 = (d + 2) % 4 by omega]; exact h
  · show wpX_neighbour (fun r => post r) (nI c) (nI d + nI 2)
    rw [nI_add]
    refine xs_nb hc (by omega) ?_
    rw [show d + 2 = (d + 2) % 4 by omega]; exact h
theorem ys_57 {post : Int32 → Prop} {yf_lim yf_hs yf_started yf_pu yf_moves yf_pushes yf_hn yf_solLen yf_nB yf_nL yf_curP yf_nextState : Int32} {ya_edit ya_wall ya_goal ya_box ya_hFrom ya_hBf ya_hBt ya_sol ya_reach ya_stack ya_liveMark ya_liveIdx ya_liveCell ya_dist ya_sb ya_ob : Nat → Int32} {r k : Nat} (hr : r < 8) (hk : k < 8) (h : post (nI (r * 8 + k))) : wY_nbr_57 post (nI r) (nI k) yf_lim yf_hs yf_started yf_pu yf_moves yf_pushes yf_hn yf_solLen yf_nB yf_nL yf_curP yf_nextState ya_edit ya_wall ya_goal ya_box ya_hFrom ya_hBf ya_hBt ya_sol ya_reach ya_stack ya_liveMark ya_liveIdx ya_liveCell ya_dist ya_sb ya_ob := by
  refine br_f (nI_pos (by omega)) (br_f (nI_nlt (a := 7) (by omega) (by decide)) (br_f (nI_pos (by omega)) (br_t (nI_le (b := 7) (by omega) (by decide)) ?_)))
  rw [rl_ix]; exact h
theorem ys_57a {post : Int32 → Prop} {yf_lim yf_hs yf_started yf_pu yf_moves yf_pushes yf_hn yf_solLen yf_nB yf_nL yf_curP yf_nextState : Int32} {ya_edit ya_wall ya_goal ya_box ya_hFrom ya_hBf ya_hBt ya_sol ya_reach ya_stack ya_liveMark ya_liveIdx ya_liveCell ya_dist ya_sb ya_ob : Nat → Int32} {x3 x4 : Int32} (ho : x3 < 0 ∨ 7 < x3 ∨ x4 < 0 ∨ 7 < x4) (h : post (-1)) : wY_nbr_57 post x3 x4 yf_lim yf_hs yf_started yf_pu yf_moves yf_pushes yf_hn yf_solLen yf_nB yf_nL yf_curP yf_nextState ya_edit ya_wall ya_goal ya_box ya_hFrom ya_hBf ya_hBt ya_sol ya_reach ya_stack ya_liveMark ya_liveIdx ya_liveCell ya_dist ya_sb ya_ob := by
  refine br_c (fun _ => h) (fun h1 => br_c (fun _ => h) (fun h2 => br_c (fun _ => h) (fun h3 => br_c (fun h4 => absurd ho ?_) (fun _ => h))))
  rintro (z | z | z | z)
  · exact h1 z
  · exact h2 z
  · exact h3 z
  · exact Int32.not_lt.mpr h4 z
theorem rl_m1 : nI 0 + (-1) = (-1 : Int32) := by decide
theorem ys_nb {post : Int32 → Prop} {v : SY} {c d : Nat} (hc : c ≤ 64) (hd : d < 4) (h : post (ce_I (ce_n c d))) : wpY_nbr post v (ce_I c) (nI d) := by
  obtain ⟨yf_lim, yf_hs, yf_started, yf_pu, yf_moves, yf_pushes, yf_hn, yf_solLen, yf_nB, yf_nL, yf_curP, yf_nextState, ya_edit, ya_wall, ya_goal, ya_box, ya_hFrom, ya_hBf, ya_hBt, ya_sol, ya_reach, ya_stack, ya_liveMark, ya_liveIdx, ya_liveCell, ya_dist, ya_sb, ya_ob⟩ := v
  rcases ce_le64 hc with z | z
  · rw [ce_I_in z]
    have e1 : nI c >>> ((3 : Int32) &&& 31) = nI (c / 8) := pk_shrN (by omega) _ 3 (by decide)
    have e2 : nI c &&& 7 = nI (c % 8) := pk_andN (by omega) 3 (by decide)
    refine br_f (nI_pos (by omega)) (br_t (nI_le (b := 63) (by omega) (by decide)) (nm_r e1 (nm_r e2 ?_)))
    have hd' : d = 0 ∨ d = 1 ∨ d = 2 ∨ d = 3 := by omega
    unfold ce_n at h
    rw [if_neg (by omega)] at h
    rcases hd' with rfl | rfl | rfl | rfl
    · rw [if_pos rfl] at h
      refine br_t rfl ?_
      by_cases q : 8 ≤ c
      · rw [if_pos q, ce_I_in (by omega)] at h
        refine nm_r (sb_m1 (p := c / 8) (by omega)) (ys_57 (by omega) (by omega) ?_)
        rw [show (c / 8 - 1) * 8 + c % 8 = c - 8 by omega]; exact h
      · rw [if_neg q] at h
        refine nm_r (e' := -1) (by rw [show c / 8 = 0 by omega]; exact rl_m1) (ys_57a (Or.inl (by decide)) h)
    · rw [if_neg (by omega), if_pos rfl] at h
      refine br_f (by decide) (br_t rfl ?_)
      by_cases q : c % 8 < 7
      · rw [if_pos q, ce_I_in (by omega)] at h
        refine nm_r (nI_1 _) (ys_57 (by omega) (by omega) ?_)
        rw [show c / 8 * 8 + (c % 8 + 1) = c + 1 by omega]; exact h
      · rw [if_neg q] at h
        refine nm_r (nI_1 _) (ys_57a (Or.inr (Or.inr (Or.inr (nI_lt (a := 7) (by omega) (by omega))))) h)
    · rw [if_neg (by omega), if_neg (by omega), if_pos rfl] at h
      refine br_f (by decide) (br_f (by decide) (br_t rfl ?_))
      by_cases q : c < 56
      · rw [if_pos q, ce_I_in (by omega)] at h
        refine nm_r (nI_1 _) (ys_57 (by omega) (by omega) ?_)
        rw [show (c / 8 + 1) * 8 + c % 8 = c + 8 by omega]; exact h
      · rw [if_neg q] at h
        refine nm_r (nI_1 _) (ys_57a (Or.inr (Or.inl (nI_lt (a := 7) (by omega) (by omega)))) h)
    · rw [if_neg (by omega), if_neg (by omega), if_neg (by omega)] at h
      refine br_f (by decide) (br_f (by decide) (br_f (by decide) ?_))
      by_cases q : 0 < c % 8
      · rw [if_pos q, ce_I_in (by omega)] at h
        refine nm_r (sb_m1 (p := c % 8) q) (ys_57 (by omega) (by omega) ?_)
        rw [show c / 8 * 8 + (c % 8 - 1) = c - 1 by omega]; exact h
      · rw [if_neg q] at h
        refine nm_r (e' := -1) (by rw [show c % 8 = 0 by omega]; exact rl_m1) (ys_57a (Or.inr (Or.inr (Or.inl (by decide)))) h)
  · subst z
    exact br_t (by decide) h
theorem ys_nbN {post : Int32 → Prop} {v : SY} {c d : Nat} (hc : c < 64) (hd : d < 4) (h : post (ce_I (ce_n c d))) : wpY_nbr post v (nI c) (nI d) := by
  have := ys_nb (v := v) (Nat.le_of_lt hc) hd h
  rw [ce_I_in hc] at this
  exact this
theorem ys_opp {d : Nat} (hd : d < 4) : (nI d + 2) &&& 3 = nI ((d + 2) % 4) := by
  show (nI d + nI 2) &&& 3 = _
  rw [nI_add]
  exact pk_andN (by omega) 2 (by decide)
/-! free cells -/
def gr_f (w b : Int64) (c : Nat) : Int32 := if c < 64 ∧ ce_b w c = false ∧ ce_b b c = false then 1 else 0
theorem gr_f0 {w b : Int64} {c : Nat} (h : ¬ (c < 64 ∧ ce_b w c = false ∧ ce_b b c = false)) : gr_f w b c = 0 := if_neg h
theorem gr_f1 {w b : Int64} {c : Nat} (h : c < 64 ∧ ce_b w c = false ∧ ce_b b c = false) : gr_f w b c = 1 := if_pos h
theorem gr_fz {w b : Int64} {c : Nat} (h : ¬ gr_f w b c = 0) : c < 64 ∧ ce_b w c = false ∧ ce_b b c = false := Classical.byContradiction (fun z => h (gr_f0 z))
theorem gr_fn {w b : Int64} {c : Nat} (h : gr_f w b c = 0) : ¬ (c < 64 ∧ ce_b w c = false ∧ ce_b b c = false) := fun z => by rw [gr_f1 z] at h; exact absurd h (by decide)
theorem xs_free {post : Int32 → Prop} {f_pushLimit f_historyLimit f_started : Int32} {f_walls f_goals f_boxes f_liveCells : Int64} {f_liveTotal f_boxTotal f_pusherCell f_moves f_pushes f_historyNext f_historyTotal f_storedTotal f_nodeTotal : Int32} {a_editGrid a_liveRank : Nat → Int32} {a_historyBoxes : Nat → Int64} {a_historyPusher a_storedPushes : Nat → Int32} {a_nodeBoxes : Nat → Int64} {a_nodePusher a_nodeParent a_nodeCode a_nodeDepth a_nodeMet : Nat → Int32} {b : Int64} {c : Nat} (hc : c ≤ 64) (h : post (gr_f f_walls b c)) : wpX_isFree post (f_pushLimit, f_historyLimit, f_started, f_walls, f_goals, f_boxes, f_liveCells, f_liveTotal, f_boxTotal, f_pusherCell, f_moves, f_pushes, f_historyNext, f_historyTotal, f_storedTotal, f_nodeTotal, a_editGrid, a_liveRank, a_historyBoxes, a_historyPusher, a_storedPushes, a_nodeBoxes, a_nodePusher, a_nodeParent, a_nodeCode, a_nodeDepth, a_nodeMet) (ce_I c) b := by
  rcases ce_le64 hc with z | z
  · refine br_f (ce_I_ne z) (xs_has hc ?_)
    have e := ce_or f_walls b c
    cases h1 : ce_b f_walls c <;> cases h2 : ce_b b c <;> rw [h1, h2] at e
    · rw [gr_f1 ⟨z, h1, h2⟩] at h
      exact br_t (ce_Af e) h
    · rw [gr_f0 (fun q => by rw [h2] at q; cases q.2.2)] at h
      exact br_f (by rw [ce_At e]; decide) h
    · rw [gr_f0 (fun q => by rw [h1] at q; cases q.2.1)] at h
      exact br_f (by rw [ce_At e]; decide) h
    · rw [gr_f0 (fun q => by rw [h1] at q; cases q.2.1)] at h
      exact br_f (by rw [ce_At e]; decide) h
  · subst z
    rw [gr_f0 (fun q => absurd q.1 (by decide))] at h
    exact br_t rfl h
theorem ys_free {post : Int32 → Prop} {yf_lim yf_hs yf_started yf_pu yf_moves yf_pushes yf_hn yf_solLen yf_nB yf_nL yf_curP yf_nextState : Int32} {ya_edit ya_goal ya_hFrom ya_hBf ya_hBt ya_sol ya_reach ya_stack ya_liveMark ya_liveIdx ya_liveCell ya_dist ya_sb ya_ob : Nat → Int32} {w b : Int64} {c : Nat} (hc : c ≤ 64) (h : post (gr_f w b c)) : wpY_free post (yf_lim, yf_hs, yf_started, yf_pu, yf_moves, yf_pushes, yf_hn, yf_solLen, yf_nB, yf_nL, yf_curP, yf_nextState, ya_edit, ce_A w, ya_goal, ce_A b, ya_hFrom, ya_hBf, ya_hBt, ya_sol, ya_reach, ya_stack, ya_liveMark, ya_liveIdx, ya_liveCell, ya_dist, ya_sb, ya_ob) (ce_I c) := by
  rcases ce_le64 hc with z | z
  · rw [ce_I_in z]
    have e : (nI c).toNatClampNeg = c := nI_clamp (by omega)
    refine br_f (nI_pos (by omega)) (br_f (nI_ge (b := 64) z (by decide)) ⟨vp_in_nI z (by decide), ?_⟩)
    rw [e]
    cases h1 : ce_b w c
    · refine br_t (ce_Af h1) ⟨vp_in_nI z (by decide), ?_⟩
      cases h2 : ce_b b c
      · rw [gr_f1 ⟨z, h1, h2⟩] at h
        exact br_t (ce_Af h2) h
      · rw [gr_f0 (fun q => by rw [h2] at q; cases q.2.2)] at h
        exact br_f (by rw [ce_At h2]; decide) h
    · rw [gr_f0 (fun q => by rw [h1] at q; cases q.2.1)] at h
      exact br_f (by rw [ce_At h1]; decide) h
  · subst z
    rw [gr_f0 (fun q => absurd q.1 (by decide))] at h
    exact br_t (by decide) h
/-! the class's area and goals -/
theorem xs_bit {post : Int64 → Prop} {c : Nat} (h : post (ce_bit c)) : wpX_bit post (nI c) := h
theorem xs_area0 {post : Int64 → Prop} (fr : Int64) {f_pushLimit f_historyLimit f_started : Int32} {f_walls f_goals f_boxes f_liveCells : Int64} {f_liveTotal f_boxTotal f_pusherCell f_moves f_pushes f_historyNext f_historyTotal f_storedTotal f_nodeTotal : Int32} {a_editGrid a_liveRank : Nat → Int32} {a_historyBoxes : Nat → Int64} {a_historyPusher a_storedPushes : Nat → Int32} {a_nodeBoxes : Nat → Int64} {a_nodePusher a_nodeParent a_nodeCode a_nodeDepth a_nodeMet : Nat → Int32} : ∀ k i m, i + k = 64 → post (ce_it (gr_fl fr) k m) → wX_reachableArea_21 post fr f_pushLimit f_historyLimit f_started f_walls f_goals f_boxes f_liveCells f_liveTotal f_boxTotal f_pusherCell f_moves f_pushes f_historyNext f_historyTotal f_storedTotal f_nodeTotal a_editGrid a_liveRank a_historyBoxes a_historyPusher a_storedPushes a_nodeBoxes a_nodePusher a_nodeParent a_nodeCode a_nodeDepth a_nodeMet (k + 1) m (nI i) := by
  intro k
  induction k with
  | zero =>
    intro i m hi h
    exact br_t (nI_le (a := 64) (by omega) (by omega)) h
  | succ k ih =>
    intro i m hi h
    refine br_f (nI_ge (b := 64) (by omega) (by decide)) ?_
    show ∀ x9, x9 = gr_bs m → ∀ x11, x11 = m ||| (x9 &&& fr) → ((x11 = m → post m) ∧ (¬ x11 = m → ∀ y, y = nI i + 1 → wX_reachableArea_21 post fr f_pushLimit f_historyLimit f_started f_walls f_goals f_boxes f_liveCells f_liveTotal f_boxTotal f_pusherCell f_moves f_pushes f_historyNext f_historyTotal f_storedTotal f_nodeTotal a_editGrid a_liveRank a_historyBoxes a_historyPusher a_storedPushes a_nodeBoxes a_nodePusher a_nodeParent a_nodeCode a_nodeDepth a_nodeMet (k + 1) x11 y))
    refine nm_e (nm_r (e' := gr_fl fr m) rfl (br_c (fun e => ?_) (fun e => nm_r (nI_1 i) (ih (i + 1) _ (by omega) h))))
    rw [ce_it_fix e] at h
    exact h
theorem xs_area {post : Int64 → Prop} {f_pushLimit f_historyLimit f_started : Int32} {f_walls f_goals f_boxes f_liveCells : Int64} {f_liveTotal f_boxTotal f_pusherCell f_moves f_pushes f_historyNext f_historyTotal f_storedTotal f_nodeTotal : Int32} {a_editGrid a_liveRank : Nat → Int32} {a_historyBoxes : Nat → Int64} {a_historyPusher a_storedPushes : Nat → Int32} {a_nodeBoxes : Nat → Int64} {a_nodePusher a_nodeParent a_nodeCode a_nodeDepth a_nodeMet : Nat → Int32} {b : Int64} {p : Nat} (h : post (gr_area f_walls b p)) : wpX_reachableArea post (f_pushLimit, f_historyLimit, f_started, f_walls, f_goals, f_boxes, f_liveCells, f_liveTotal, f_boxTotal, f_pusherCell, f_moves, f_pushes, f_historyNext, f_historyTotal, f_storedTotal, f_nodeTotal, a_editGrid, a_liveRank, a_historyBoxes, a_historyPusher, a_storedPushes, a_nodeBoxes, a_nodePusher, a_nodeParent, a_nodeCode, a_nodeDepth, a_nodeMet) (nI p) b := by
  show ∀ x4, x4 = (f_walls ||| b) ^^^ (-1) → ∃ n : Nat, wX_reachableArea_21 post x4 f_pushLimit f_historyLimit f_started f_walls f_goals f_boxes f_liveCells f_liveTotal f_boxTotal f_pusherCell f_moves f_pushes f_historyNext f_historyTotal f_storedTotal f_nodeTotal a_editGrid a_liveRank a_historyBoxes a_historyPusher a_storedPushes a_nodeBoxes a_nodePusher a_nodeParent a_nodeCode a_nodeDepth a_nodeMet n (ce_bit p) 0
  exact nm_e ⟨65, xs_area0 _ 64 0 _ (by omega) h⟩
theorem xs_goals {post : Int32 → Prop} {f_pushLimit f_historyLimit f_started : Int32} {f_walls f_goals f_boxes f_liveCells : Int64} {f_liveTotal f_boxTotal f_pusherCell f_moves f_pushes f_historyNext f_historyTotal f_storedTotal f_nodeTotal : Int32} {a_editGrid a_liveRank : Nat → Int32} {a_historyBoxes : Nat → Int64} {a_historyPusher a_storedPushes : Nat → Int32} {a_nodeBoxes : Nat → Int64} {a_nodePusher a_nodeParent a_nodeCode a_nodeDepth a_nodeMet : Nat → Int32} {b : Int64} (h : post (if b &&& (f_goals ^^^ (-1)) = 0 then 1 else 0)) : wpX_allOnGoals post (f_pushLimit, f_historyLimit, f_started, f_walls, f_goals, f_boxes, f_liveCells, f_liveTotal, f_boxTotal, f_pusherCell, f_moves, f_pushes, f_historyNext, f_historyTotal, f_storedTotal, f_nodeTotal, a_editGrid, a_liveRank, a_historyBoxes, a_historyPusher, a_storedPushes, a_nodeBoxes, a_nodePusher, a_nodeParent, a_nodeCode, a_nodeDepth, a_nodeMet) b := by
  refine br_c (fun z => ?_) (fun z => ?_)
  · rw [if_pos z] at h; exact h
  · rw [if_neg z] at h; exact h
