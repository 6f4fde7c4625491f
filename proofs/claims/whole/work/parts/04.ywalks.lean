/-! the reference's inner methods, each by its value -/
section
variable {Fi s C : Int32} {tg nu it le cs : Nat → Int32}
theorem ok_y_text {post : Int32 → Prop} {f : Nat} (h1 : ok_bit s f 1 = true → post 1) (h0 : ok_bit s f 1 = false → post 0) : wpY_text post (Fi, s, C, tg, nu, it, le, cs) (nI f) := by
  cases e : ok_bit s f 1 with
  | true => exact br_t (ok_y1 e) (h1 e)
  | false => exact br_f (ok_n1 e) (h0 e)
theorem ok_dg_x {c i : Nat} (hc : c < 84) (hi : i < 6) (h : ok_tx (le c) (ok_ch cs c)) {P : Int32 → Prop} (hP : P (nI (ok_dg (le c) (ok_ch cs c) i) - 1)) : ((le (nI c).toNatClampNeg) ≤ nI i → P (-1)) ∧ (¬ (le (nI c).toNatClampNeg) ≤ nI i → vp_in (nI c * 6 + nI i) 504 ∧ P (cs (nI c * 6 + nI i).toNatClampNeg)) := by
  obtain ⟨l, hl, e, hq⟩ := h
  rw [nI_clamp (by omega), ok_idx6, nI_clamp (n := c * 6 + i) (by omega)]
  rw [e] at hP ⊢
  unfold ok_dg at hP
  rw [nI_clamp (by omega)] at hP
  refine pk_le l i (fun h1 => ?_) (fun h1 => ⟨vp_in_nI (by omega) (by omega), ?_⟩)
  · rw [if_neg (by omega)] at hP
    exact hP
  · obtain ⟨q, hq1, hq2⟩ := hq i h1
    have e3 : ok_ch cs c i = cs (c * 6 + i) := if_pos hi
    rw [if_pos h1, hq2, nI_clamp (by omega), nI_pred] at hP
    rw [← e3, hq2]
    exact hP
theorem ok_y_val {post : Int32 → Prop} {a b : Nat} (ha : a < 84) (hb : b < 84) (ta : ok_tx (le a) (ok_ch cs a)) (tb : ok_tx (le b) (ok_ch cs b))
    (hp : post (ok_sg (ok_pk (ok_dg (le a) (ok_ch cs a)) 6 : Nat) (ok_pk (ok_dg (le b) (ok_ch cs b)) 6 : Nat))) :
    ∀ d i : Nat, i + d = 6 → ok_H 512 (fun i => (ok_dg (le a) (ok_ch cs a) i : Int)) i = ok_H 512 (fun i => (ok_dg (le b) (ok_ch cs b) i : Int)) i →
      wY_values_47 post (nI a) (nI b) Fi s C tg nu it le cs (d + 1) (nI i) := by
  intro d
  induction d with
  | zero =>
    intro i hi h
    have hi6 : i = 6 := by omega
    subst hi6
    rw [← ok_pk_H, ← ok_pk_H] at h
    rw [ok_sg_eq h] at hp
    exact br_t (by decide) hp
  | succ d ih =>
    intro i hi h
    refine br_f (nI_ge (b := 6) (by omega) (by decide)) ⟨vp_in_nI ha (by omega), ?_⟩
    refine ok_dg_x (P := fun z => wY_values_81 post (wY_values_47 post (nI a) (nI b) Fi s C tg nu it le cs (d + 1)) (nI a) (nI b) (nI i) z Fi s C tg nu it le cs) ha (by omega) ta ?_
    refine ⟨vp_in_nI hb (by omega), ?_⟩
    refine ok_dg_x (P := fun z => wY_values_110 post (wY_values_47 post (nI a) (nI b) Fi s C tg nu it le cs (d + 1)) (nI a) (nI b) (nI i) (nI (ok_dg (le a) (ok_ch cs a) i) - 1) z Fi s C tg nu it le cs) hb (by omega) tb ?_
    have la := ok_dg_lt ta i
    have lb := ok_dg_lt tb i
    have hall : ∀ f, f < 6 → (ok_dg (le a) (ok_ch cs a) f : Int) - (ok_dg (le b) (ok_ch cs b) f : Int) < 512 ∧ (ok_dg (le b) (ok_ch cs b) f : Int) - (ok_dg (le a) (ok_ch cs a) f : Int) < 512 := fun f _ => by
      have h1 := ok_dg_lt ta f
      have h2 := ok_dg_lt tb f
      omega
    have hat := ok_H_at (B := 512) (K := fun i => (ok_dg (le a) (ok_ch cs a) i : Int)) (L := fun i => (ok_dg (le b) (ok_ch cs b) i : Int)) (by decide) h (show i < 6 by omega)
    have hs := ok_H_s (B := 512) (K := fun i => (ok_dg (le a) (ok_ch cs a) i : Int)) (L := fun i => (ok_dg (le b) (ok_ch cs b) i : Int)) h
    rw [← ok_pk_H, ← ok_pk_H] at hat
    try dsimp only at hat
    try dsimp only at hs
    generalize ok_dg (le a) (ok_ch cs a) i = x at *
    generalize ok_dg (le b) (ok_ch cs b) i = y at *
    have xt : (nI x - 1).toInt = (x : Int) - 1 := pk_sub_toInt (b := 1) (by omega) (by decide)
    have yt : (nI y - 1).toInt = (y : Int) - 1 := pk_sub_toInt (b := 1) (by omega) (by decide)
    by_cases e : x = y
    · subst e
      refine br_t rfl (nm_r (nI_1 i) ?_)
      exact ih (i + 1) (by omega) (hs rfl)
    · have hv := hat (by omega) hall
      rw [hv] at hp
      refine br_f (fun z => e (by have := congrArg Int32.toInt z; omega)) ?_
      by_cases e2 : y ≤ x
      · refine br_t (by rw [Int32.le_iff_toInt_le]; omega) ?_
        rw [ok_sg_gt (by omega)] at hp
        exact hp
      · refine br_f (by rw [Int32.le_iff_toInt_le]; omega) ?_
        rw [ok_sg_lt (by omega)] at hp
        exact hp
theorem ok_y_values {post : Int32 → Prop} {a b f : Nat} {t : Int32} (ha : a < 84) (hb : b < 84) (wa : ok_WF s f (ok_Y nu it le cs a)) (wb : ok_WF s f (ok_Y nu it le cs b)) (na : nu a = 0) (nb : nu b = 0)
    (ht : (ok_bit s f 1 = true ∧ t = 1) ∨ (ok_bit s f 1 = false ∧ t = 0)) (hp : post (ok_sg (ok_V s f (ok_Y nu it le cs a)) (ok_V s f (ok_Y nu it le cs b)))) :
    wpY_values post (Fi, s, C, tg, nu, it, le, cs) (nI a) (nI b) t := by
  unfold ok_V at hp
  rcases ht with ⟨e, rfl⟩ | ⟨e, rfl⟩
  · rw [e, if_pos rfl, if_pos rfl] at hp
    have hw := ok_y_val (Fi := Fi) (s := s) (C := C) (tg := tg) (nu := nu) (it := it) ha hb (wa.2 na e) (wb.2 nb e) hp 6 0 rfl (ok_H_0 _ _ _)
    rw [nI_0] at hw
    exact br_f (by decide) ⟨7, hw⟩
  · rw [e, if_neg (by decide), if_neg (by decide)] at hp
    have ia : vp_in (nI a) 84 := vp_in_nI ha (by omega)
    have ib : vp_in (nI b) 84 := vp_in_nI hb (by omega)
    have ca : (nI a).toNatClampNeg = a := nI_clamp (by omega)
    have cb : (nI b).toNatClampNeg = b := nI_clamp (by omega)
    have hp' : post (ok_sg (it a).toInt (it b).toInt) := hp
    refine br_t rfl ⟨ia, ib, ?_⟩
    rw [ca, cb]
    rcases ok_tri (it a).toInt (it b).toInt with h | h | h
    · rw [ok_sg_lt h] at hp'
      exact br_f (by rw [Int32.le_iff_toInt_le]; omega) hp'
    · rw [ok_sg_eq h] at hp'
      exact br_t (by rw [Int32.le_iff_toInt_le]; omega) ⟨ia, ib, br_t (by rw [Int32.le_iff_toInt_le]; omega) hp'⟩
    · rw [ok_sg_gt h] at hp'
      exact br_t (by rw [Int32.le_iff_toInt_le]; omega) ⟨ia, ib, br_f (by rw [Int32.le_iff_toInt_le]; omega) hp'⟩
theorem ok_K_null {f : Nat} {y : ok_CY} (h : y.1 = 1) : ok_K s f y = if ok_bit s f 4 = true then -9223372036854775808 else 9223372036854775808 := by
  unfold ok_K
  rw [if_neg (by rw [h]; decide)]
theorem ok_K_val {f : Nat} {y : ok_CY} (h : y.1 = 0) : ok_K s f y = if ok_bit s f 2 = true then - ok_V s f y else ok_V s f y := by
  unfold ok_K
  rw [if_pos h]
theorem ok_K_in {f : Nat} {y : ok_CY} (h : y.1 = 0) (w : ok_WF s f y) : -9223372036854775808 < ok_K s f y ∧ ok_K s f y < 9223372036854775808 := by
  have := ok_V_b w h
  rw [ok_K_val h]
  split <;> omega
/-- the join behind the two flags -/
theorem ok_y_78 {post : Int32 → Prop} {a b f : Nat} {x6 x7 : Int32} (ha : a < 84) (hb : b < 84) (wa : ok_WF s f (ok_Y nu it le cs a)) (wb : ok_WF s f (ok_Y nu it le cs b)) (hab : nu a = 0 ∨ nu b = 0)
    (h6 : (ok_bit s f 2 = true ∧ x6 = 1) ∨ (ok_bit s f 2 = false ∧ x6 = 0)) (h7 : (ok_bit s f 4 = true ∧ x7 = 1) ∨ (ok_bit s f 4 = false ∧ x7 = 0))
    (hp : post (ok_sg (ok_K s f (ok_Y nu it le cs a)) (ok_K s f (ok_Y nu it le cs b)))) :
    wY_field_78 post (nI f) (nI a) (nI b) x6 x7 Fi s C tg nu it le cs := by
  have ia : vp_in (nI a) 84 := vp_in_nI ha (by omega)
  have ib : vp_in (nI b) 84 := vp_in_nI hb (by omega)
  have ca : (nI a).toNatClampNeg = a := nI_clamp (by omega)
  have cb : (nI b).toNatClampNeg = b := nI_clamp (by omega)
  refine ⟨ia, ?_⟩
  rw [ca, cb]
  rcases wa.1 with na | na
  · have na' : nu a = 0 := na
    refine br_t na' ⟨ib, ?_⟩
    rcases wb.1 with nb | nb
    · have nb' : nu b = 0 := nb
      refine br_t nb' ?_
      have key : ∀ t : Int32, ((ok_bit s f 1 = true ∧ t = 1) ∨ (ok_bit s f 1 = false ∧ t = 0)) → wpY_values (fun r_20 => ((x6 = 0 → post r_20) ∧ (¬ x6 = 0 → post (-r_20)))) (Fi, s, C, tg, nu, it, le, cs) (nI a) (nI b) t := by
        intro t ht
        refine ok_y_values ha hb wa wb na' nb' ht ?_
        rw [ok_K_val na, ok_K_val nb] at hp
        rcases h6 with ⟨e, rfl⟩ | ⟨e, rfl⟩
        · rw [e, if_pos rfl, if_pos rfl] at hp
          refine br_f (by decide) ?_
          rw [ok_sg_neg]
          exact hp
        · rw [e, if_neg (by decide), if_neg (by decide)] at hp
          exact br_t rfl hp
      exact ok_y_text (fun e => key 1 (Or.inl ⟨e, rfl⟩)) (fun e => key 0 (Or.inr ⟨e, rfl⟩))
    · have nb' : nu b = 1 := nb
      refine br_f (by rw [nb']; decide) ?_
      have hk := ok_K_in na wa
      rw [ok_K_null nb] at hp
      rcases h7 with ⟨e, rfl⟩ | ⟨e, rfl⟩
      · rw [e, if_pos rfl, ok_sg_gt hk.1] at hp
        exact br_f (by decide) hp
      · rw [e, if_neg (by decide), ok_sg_lt hk.2] at hp
        exact br_t rfl hp
  · have na' : nu a = 1 := na
    refine br_f (by rw [na']; decide) ?_
    have nb : nu b = 0 := hab.resolve_left (by rw [na']; decide)
    have hk := ok_K_in nb wb
    rw [ok_K_null na] at hp
    rcases h7 with ⟨e, rfl⟩ | ⟨e, rfl⟩
    · rw [e, if_pos rfl, ok_sg_lt hk.1] at hp
      exact br_f (by decide) hp
    · rw [e, if_neg (by decide), ok_sg_gt hk.2] at hp
      exact br_t rfl hp
theorem ok_y_54 {post : Int32 → Prop} {a b f : Nat} {x6 x7 : Int32} (ha : a < 84) (hb : b < 84) (wa : ok_WF s f (ok_Y nu it le cs a)) (wb : ok_WF s f (ok_Y nu it le cs b))
    (h6 : (ok_bit s f 2 = true ∧ x6 = 1) ∨ (ok_bit s f 2 = false ∧ x6 = 0)) (h7 : (ok_bit s f 4 = true ∧ x7 = 1) ∨ (ok_bit s f 4 = false ∧ x7 = 0))
    (hp : post (ok_sg (ok_K s f (ok_Y nu it le cs a)) (ok_K s f (ok_Y nu it le cs b)))) :
    wY_field_54 post (nI f) (nI a) (nI b) x6 x7 Fi s C tg nu it le cs := by
  have ia : vp_in (nI a) 84 := vp_in_nI ha (by omega)
  have ib : vp_in (nI b) 84 := vp_in_nI hb (by omega)
  have ca : (nI a).toNatClampNeg = a := nI_clamp (by omega)
  have cb : (nI b).toNatClampNeg = b := nI_clamp (by omega)
  refine ⟨ia, ?_⟩
  rw [ca, cb]
  rcases wa.1 with na | na
  · have na' : nu a = 0 := na
    exact br_t na' (ok_y_78 ha hb wa wb (Or.inl na') h6 h7 hp)
  · have na' : nu a = 1 := na
    refine br_f (by rw [na']; decide) ⟨ib, ?_⟩
    rcases wb.1 with nb | nb
    · have nb' : nu b = 0 := nb
      exact br_t nb' (ok_y_78 ha hb wa wb (Or.inr nb') h6 h7 hp)
    · have nb' : nu b = 1 := nb
      rw [ok_K_null na, ok_K_null nb, ok_sg_eq rfl] at hp
      exact br_f (by rw [nb']; decide) hp
theorem ok_y_field {post : Int32 → Prop} {x y f : Nat} (hx : x < 21) (hy : y < 21) (hf : f < 4) (wa : ok_WF s f (ok_Y nu it le cs (x * 4 + f))) (wb : ok_WF s f (ok_Y nu it le cs (y * 4 + f)))
    (hp : post (ok_sg (ok_K s f (ok_Y nu it le cs (x * 4 + f))) (ok_K s f (ok_Y nu it le cs (y * 4 + f))))) :
    wpY_field post (Fi, s, C, tg, nu, it, le, cs) (nI x) (nI y) (nI f) := by
  refine nm_r (ok_idx x f) (nm_r (ok_idx y f) ?_)
  have k4 : ∀ x6 : Int32, ((ok_bit s f 2 = true ∧ x6 = 1) ∨ (ok_bit s f 2 = false ∧ x6 = 0)) → wY_field_33 post (nI f) (nI (x * 4 + f)) (nI (y * 4 + f)) x6 Fi s C tg nu it le cs := by
    intro x6 h6
    cases e : ok_bit s f 4 with
    | true => exact br_t (ok_y4 e) (ok_y_54 (by omega) (by omega) wa wb h6 (Or.inl ⟨e, rfl⟩) hp)
    | false => exact br_f (ok_n4 e) (ok_y_54 (by omega) (by omega) wa wb h6 (Or.inr ⟨e, rfl⟩) hp)
  cases e : ok_bit s f 2 with
  | true => exact br_t (ok_y2 e) (k4 1 (Or.inl ⟨e, rfl⟩))
  | false => exact br_f (ok_n2 e) (k4 0 (Or.inr ⟨e, rfl⟩))
theorem ok_y_cmpL {post : Int32 → Prop} {x y m : Nat} (hx : x < 21) (hy : y < 21) (hm : m ≤ 4) (wx : ∀ f, f < m → ok_WF s f (ok_Y nu it le cs (x * 4 + f))) (wy : ∀ f, f < m → ok_WF s f (ok_Y nu it le cs (y * 4 + f)))
    (hp : post (ok_sg (ok_T s nu it le cs m x) (ok_T s nu it le cs m y))) : ∀ d f : Nat, f + d = m → ok_T s nu it le cs f x = ok_T s nu it le cs f y →
      wY_compare_3 post (nI x) (nI y) (nI m) Fi s C tg nu it le cs (d + 1) (nI f) := by
  intro d
  induction d with
  | zero =>
    intro f hf h
    have : f = m := by omega
    subst this
    rw [ok_sg_eq h] at hp
    exact br_t (nI_le (Nat.le_refl _) (by omega)) hp
  | succ d ih =>
    intro f hf h
    refine br_f (nI_ge (by omega) (by omega)) ?_
    refine ok_y_field hx hy (by omega) (wx f (by omega)) (wy f (by omega)) ?_
    by_cases e : ok_K s f (ok_Y nu it le cs (x * 4 + f)) = ok_K s f (ok_Y nu it le cs (y * 4 + f))
    · refine br_t (ok_sg_eq e) (nm_r (nI_1 f) ?_)
      exact ih (f + 1) (by omega) (ok_H_s h e)
    · refine br_f (fun z => e ((ok_sg0 _ _).mp z)) ?_
      have := ok_H_at ok_B0 h (show f < m by omega) e (fun g hg => ok_Bb (ok_K_b (wx g hg)) (ok_K_b (wy g hg)))
      rw [← this]
      exact hp
theorem ok_y_cmp {post : Int32 → Prop} {x y m : Nat} (hx : x < 21) (hy : y < 21) (hm : m ≤ 4) (wx : ∀ f, f < m → ok_WF s f (ok_Y nu it le cs (x * 4 + f))) (wy : ∀ f, f < m → ok_WF s f (ok_Y nu it le cs (y * 4 + f)))
    (hp : post (ok_sg (ok_T s nu it le cs m x) (ok_T s nu it le cs m y))) : wpY_compare post (Fi, s, C, tg, nu, it, le, cs) (nI x) (nI y) (nI m) := by
  have hw := ok_y_cmpL (Fi := Fi) (C := C) (tg := tg) hx hy hm wx wy hp m 0 (by omega) (ok_H_0 _ _ _)
  rw [nI_0] at hw
  exact ⟨m + 1, hw⟩
end
