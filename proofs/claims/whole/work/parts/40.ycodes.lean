/-! the reference's states by their numbers -/
def ys_H (w lv : Int64) (B L : Nat) (lm li lc : Nat → Int32) : Prop :=
  1 ≤ B ∧ B ≤ 3 ∧ ce_rk lv 64 = L ∧ 1 ≤ L ∧ gr_fit B L ∧ (∀ c, ce_b lv c = true → ce_b w c = false) ∧ (∀ c, c < 64 → lm c = ce_A lv c) ∧ (∀ c, ce_b lv c = true → li c = nI (ce_rk lv c)) ∧ (∀ j, j < L → lc j = nI (gr_sel lv 64 j))
def ys_cl (lv : Int64) (L B s k : Nat) : Nat := gr_sel lv 64 (gr_dg L B (s / 64) k)
def ys_ab (lv : Int64) (L B s : Nat) : Int64 × Nat := (gr_ms (ys_cl lv L B s) B, s % 64)
def ys_V (w lv : Int64) (L B s : Nat) : Prop := (∀ i j, i < B → j < B → i ≠ j → ys_cl lv L B s i ≠ ys_cl lv L B s j) ∧ ce_b w (s % 64) = false ∧ ce_b (gr_ms (ys_cl lv L B s) B) (s % 64) = false
def ys_tp (lv : Int64) (L B s c : Nat) : Nat → Nat := fun j => if ys_cl lv L B s j = c / 4 then ce_n (c / 4) (c % 4) else ys_cl lv L B s j
def ys_en (lv : Int64) (L B s c : Nat) : Nat := gr_cd L (fun j => ce_rk lv (ys_tp lv L B s c j)) B * 64 + c / 4
theorem ys_cl_ok {lv : Int64} {L : Nat} (hL : ce_rk lv 64 = L) (h1 : 1 ≤ L) (B s k : Nat) : ce_b lv (ys_cl lv L B s k) = true ∧ ys_cl lv L B s k < 64 := by
  have := (gr_sel_ok (lv := lv) (j := gr_dg L B (s / 64) k) 64 (by rw [hL]; exact Nat.mod_lt _ h1)).1
  exact ⟨this, ce_lt this⟩
theorem ys_code {lv : Int64} {L B : Nat} {tp : Nat → Nat} (hL : ce_rk lv 64 = L) (hlv : ∀ j, j < B → ce_b lv (tp j) = true) {p : Nat} (hp : p < 64) :
    gr_cd L (fun j => ce_rk lv (tp j)) B * 64 + p < 64 * L ^ B ∧ (∀ j, j < B → ys_cl lv L B (gr_cd L (fun j => ce_rk lv (tp j)) B * 64 + p) j = tp j) ∧ (gr_cd L (fun j => ce_rk lv (tp j)) B * 64 + p) % 64 = p := by
  have hr : ∀ j, j < B → ce_rk lv (tp j) < L := fun j hj => by rw [← hL]; exact ce_rk_lt (hlv j hj) (ce_lt (hlv j hj))
  have h1 := gr_cd_lt (L := L) (ix := fun j => ce_rk lv (tp j)) B hr
  have h2 := gr_dg_cd (L := L) (ix := fun j => ce_rk lv (tp j)) B hr
  refine ⟨by omega, fun j hj => ?_, by omega⟩
  unfold ys_cl
  rw [show (gr_cd L (fun j => ce_rk lv (tp j)) B * 64 + p) / 64 = gr_cd L (fun j => ce_rk lv (tp j)) B by omega, h2 j hj]
  exact gr_sel_rk (hlv j hj) 64 (ce_lt (hlv j hj))
theorem ys_ok {w lv : Int64} {L B s : Nat} (hL : ce_rk lv 64 = L) (h1 : 1 ≤ L) (hV : ys_V w lv L B s) : gr_ok w lv B (ys_ab lv L B s) := by
  obtain ⟨v1, v2, v3⟩ := hV
  refine ⟨Nat.mod_lt _ (by decide), v2, v3, fun c hc => ?_, gr_ms_rk B (fun j _ => (ys_cl_ok hL h1 B s j).2) (fun i j hi hj => v1 i j (by omega) hj (by omega))⟩
  obtain ⟨j, _, e⟩ := (gr_msT B (fun j _ => (ys_cl_ok hL h1 B s j).2) c).mp hc
  rw [← e]
  exact (ys_cl_ok hL h1 B s j).1
theorem ys_tp_rp {lv : Int64} {L B s c k : Nat} (hd : ∀ i j, i < B → j < B → i ≠ j → ys_cl lv L B s i ≠ ys_cl lv L B s j) (hk : k < B) (e : ys_cl lv L B s k = c / 4) : ∀ j, j < B → ys_tp lv L B s c j = gr_rp (ys_cl lv L B s) k (ce_n (c / 4) (c % 4)) j := by
  intro j hj
  unfold ys_tp gr_rp
  by_cases q : j = k
  · subst q; rw [if_pos e, if_pos rfl]
  · rw [if_neg q, if_neg (fun z => hd j k hj hk q (z.trans e.symm))]
theorem ys_hen {w lv : Int64} {L B : Nat} (hL : ce_rk lv 64 = L) (h1 : 1 ≤ L) (hlw : ∀ c, ce_b lv c = true → ce_b w c = false) : ∀ s c t, s < 64 * L ^ B → ys_V w lv L B s → c < 256 → gr_step w lv (ys_ab lv L B s) c = some t → ys_en lv L B s c < 64 * L ^ B ∧ ys_V w lv L B (ys_en lv L B s c) ∧ ys_ab lv L B (ys_en lv L B s c) = t := by
  intro s c t hs hV hc hst
  have hok := ys_ok hL h1 hV
  have hokt := gr_step_ok hlw hok hst
  have hcl : ∀ j, j < B → ys_cl lv L B s j < 64 := fun j _ => (ys_cl_ok hL h1 B s j).2
  unfold gr_step at hst
  split at hst
  · rename_i z
    obtain ⟨z1, z2, z3, z4, z5, z6⟩ := z
    have et := (Option.some.inj hst).symm
    obtain ⟨k, hk, ek⟩ := (gr_msT B hcl (c / 4)).mp z1
    have tr := ys_tp_rp hV.1 hk ek
    have hlv : ∀ j, j < B → ce_b lv (ys_tp lv L B s c j) = true := by
      intro j hj
      unfold ys_tp
      split
      · exact z6
      · exact (ys_cl_ok hL h1 B s j).1
    obtain ⟨c1, c2, c3⟩ := ys_code (B := B) hL hlv (p := c / 4) (by omega)
    have em : gr_ms (ys_cl lv L B (ys_en lv L B s c)) B = gr_mv (gr_ms (ys_cl lv L B s) B) (c / 4) (ce_n (c / 4) (c % 4)) := by
      rw [← ek, ← gr_ms_mv hcl hV.1 hk (by rw [ek]; exact z2)]
      refine gr_ms_congr B (fun j hj => ?_)
      rw [ek]
      exact (c2 j hj).trans (tr j hj)
    have eab : ys_ab lv L B (ys_en lv L B s c) = t := by
      rw [et]
      unfold ys_ab
      rw [em]
      exact congrArg (Prod.mk _) c3
    refine ⟨c1, ⟨fun i j hi hj hij => ?_, ?_, ?_⟩, eab⟩
    · have ei : ys_cl lv L B (ys_en lv L B s c) i = _ := (c2 i hi).trans (tr i hi)
      have ej : ys_cl lv L B (ys_en lv L B s c) j = _ := (c2 j hj).trans (tr j hj)
      rw [ei, ej]
      have na : ∀ q, q < B → ys_cl lv L B s q ≠ ce_n (c / 4) (c % 4) := by
        intro q hq e
        have : ce_b (gr_ms (ys_cl lv L B s) B) (ce_n (c / 4) (c % 4)) = true := (gr_msT B hcl _).mpr ⟨q, hq, e⟩
        have z4' : ce_b (gr_ms (ys_cl lv L B s) B) (ce_n (c / 4) (c % 4)) = false := z4
        rw [this] at z4'
        cases z4'
      unfold gr_rp
      by_cases q1 : i = k
      · rw [if_pos q1, if_neg (by omega)]; exact (na j hj).symm
      · rw [if_neg q1]
        by_cases q2 : j = k
        · rw [if_pos q2]; exact na i hi
        · rw [if_neg q2]; exact hV.1 i j hi hj hij
    · have := hokt.2.1
      rw [← eab] at this
      exact this
    · have := hokt.2.2.1
      rw [← eab] at this
      exact this
  · cases hst
/-! encode -/
theorem ys_enc0 {post : Int32 → Prop} {lv : Int64} {B L k a p : Nat} {x1 x2 : Int32} {cl : Nat → Nat} {yf_lim yf_hs yf_started yf_pu yf_moves yf_pushes yf_hn yf_solLen yf_curP yf_nextState : Int32} {ya_edit ya_wall ya_goal ya_box ya_hFrom ya_hBf ya_hBt ya_sol ya_reach ya_stack ya_liveMark ya_liveIdx ya_liveCell ya_dist ya_sb ya_ob : Nat → Int32} (hB : B ≤ 3) (hx : ∀ j, j < B → (nI j = x1 ↔ j = k)) (hxa : k < B → x2 = nI a ∧ a < 64) (hsb : ∀ j, j < B → ya_sb j = nI (cl j) ∧ cl j < 64) (hli : ∀ j, j < B → ya_liveIdx (gr_rp cl k a j) = nI (ce_rk lv (gr_rp cl k a j)))
    (h : post (nI (gr_cd L (fun j => ce_rk lv (gr_rp cl k a j)) B * 64 + p))) :
    ∀ q i, i + q = B → wY_encode_6 post x1 x2 (nI p) yf_lim yf_hs yf_started yf_pu yf_moves yf_pushes yf_hn yf_solLen (nI B) (nI L) yf_curP yf_nextState ya_edit ya_wall ya_goal ya_box ya_hFrom ya_hBf ya_hBt ya_sol ya_reach ya_stack ya_liveMark ya_liveIdx ya_liveCell ya_dist ya_sb ya_ob (q + 1) (nI (gr_cd L (fun j => ce_rk lv (gr_rp cl k a j)) i)) (nI i) := by
  intro q
  induction q with
  | zero =>
    intro i hi
    have e : i = B := by omega
    subst e
    refine br_t (nI_le (Nat.le_refl i) (by omega)) ?_
    show post (nI _ * nI 64 + nI p)
    rw [pk_mul, nI_add]
    exact h
  | succ q ih =>
    intro i hi
    have := ih (i + 1) (by omega)
    have hl := hli i (by omega)
    refine br_f (nI_ge (by omega) (by omega)) (br_c (fun e => ?_) (fun e => ?_))
    · have ek := (hx i (by omega)).mp e
      obtain ⟨e2, ha⟩ := hxa (by omega)
      have er : gr_rp cl k a i = a := if_pos ek
      rw [er] at hl
      rw [e2] at this ⊢
      refine ⟨vp_in_nI ha (by decide), nm_r (e' := nI (gr_cd L (fun j => ce_rk lv (gr_rp cl k a j)) (i + 1))) ?_ (nm_r (nI_1 i) this)⟩
      rw [nI_clamp (n := a) (by omega), hl, pk_mul, nI_add, gr_cd, er]
    · have ek : ¬ i = k := fun z => e ((hx i (by omega)).mpr z)
      obtain ⟨s1, s2⟩ := hsb i (by omega)
      have er : gr_rp cl k a i = cl i := if_neg ek
      rw [er] at hl
      refine ⟨vp_in_nI (by omega) (by decide), ?_⟩
      rw [nI_clamp (n := i) (by omega), s1]
      refine ⟨vp_in_nI s2 (by decide), nm_r (e' := nI (gr_cd L (fun j => ce_rk lv (gr_rp cl k a j)) (i + 1))) ?_ (nm_r (nI_1 i) this)⟩
      rw [nI_clamp (n := cl i) (by omega), hl, pk_mul, nI_add, gr_cd, er]
theorem ys_enc {post : Int32 → Prop} {lv : Int64} {B L k a p : Nat} {x1 x2 : Int32} {cl : Nat → Nat} {yf_lim yf_hs yf_started yf_pu yf_moves yf_pushes yf_hn yf_solLen yf_curP yf_nextState : Int32} {ya_edit ya_wall ya_goal ya_box ya_hFrom ya_hBf ya_hBt ya_sol ya_reach ya_stack ya_liveMark ya_liveIdx ya_liveCell ya_dist ya_sb ya_ob : Nat → Int32} (hB : B ≤ 3) (hx : ∀ j, j < B → (nI j = x1 ↔ j = k)) (hxa : k < B → x2 = nI a ∧ a < 64) (hsb : ∀ j, j < B → ya_sb j = nI (cl j) ∧ cl j < 64) (hli : ∀ j, j < B → ya_liveIdx (gr_rp cl k a j) = nI (ce_rk lv (gr_rp cl k a j)))
    (h : post (nI (gr_cd L (fun j => ce_rk lv (gr_rp cl k a j)) B * 64 + p))) : wpY_encode post (yf_lim, yf_hs, yf_started, yf_pu, yf_moves, yf_pushes, yf_hn, yf_solLen, nI B, nI L, yf_curP, yf_nextState, ya_edit, ya_wall, ya_goal, ya_box, ya_hFrom, ya_hBf, ya_hBt, ya_sol, ya_reach, ya_stack, ya_liveMark, ya_liveIdx, ya_liveCell, ya_dist, ya_sb, ya_ob) x1 x2 (nI p) :=
  ⟨B + 1, ys_enc0 hB hx hxa hsb hli h B 0 (by omega)⟩
