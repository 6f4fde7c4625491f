/-! place, at, copy and the shift of the reference -/
def ok_lt (T : Nat → Int) (i e : Nat) : Bool := decide (T i < T e ∨ (T i = T e ∧ i < e))
theorem ok_lt_iff {T : Nat → Int} {i e : Nat} : ok_lt T i e = true ↔ (T i < T e ∨ (T i = T e ∧ i < e)) := by
  simp [ok_lt]
theorem ok_lt_inj {T : Nat → Int} {n : Nat} {g : Nat → Nat} (hs : ∀ p q, p < q → q < n → ok_lt T (g p) (g q) = true) : ∀ p q, p < q → q < n → g p ≠ g q := by
  intro p q h1 h2 e
  have := ok_lt_iff.mp (hs p q h1 h2)
  rw [e] at this
  omega
theorem ok_pl {T : Nat → Int} {n : Nat} {g : Nat → Nat} (hm : ∀ p, p < n → g p < n) (hs : ∀ p q, p < q → q < n → ok_lt T (g p) (g q) = true) {p : Nat} (hp : p < n) : ok_cn (fun i => ok_lt T i (g p)) n = p := by
  rw [← ok_cn_perm (fun i => ok_lt T i (g p)) hm (ok_lt_inj hs)]
  have : ok_cn (fun i => ok_lt T (g i) (g p)) n = ok_cn (fun q => decide (q < p)) n := by
    refine ok_cn_congr (fun q hq => ?_)
    by_cases h : q < p
    · rw [hs q p h hp]; simp [h]
    · have e : ok_lt T (g q) (g p) = false := by
        cases e : ok_lt T (g q) (g p) with
        | false => rfl
        | true =>
          by_cases h2 : q = p
          · subst h2
            have := ok_lt_iff.mp e
            omega
          · have h3 := ok_lt_iff.mp (hs p q (by omega) hq)
            have h4 := ok_lt_iff.mp e
            omega
      rw [e]; simp [h]
  rw [this, ok_cn_lt p n (by omega)]
section
variable {Fi s C : Int32} {tg nu it le cs : Nat → Int32}
theorem ok_y_placeL {post : Int32 → Prop} {n F e : Nat} (hn : n ≤ 20) (he : e < 21) (hF : F ≤ 4) (hW : ∀ i, i < n → ∀ f, f < F → ok_WF s f (ok_Y nu it le cs (i * 4 + f))) (hE : ∀ f, f < F → ok_WF s f (ok_Y nu it le cs (e * 4 + f)))
    (hp : post (nI (ok_cn (fun i => ok_lt (ok_T s nu it le cs F) i e) n))) : ∀ d i : Nat, i + d = n →
      wY_place_4 post (nI e) (nI F) s (nI n) tg nu it le cs (d + 1) (nI (ok_cn (fun i => ok_lt (ok_T s nu it le cs F) i e) i)) (nI i) := by
  intro d
  induction d with
  | zero =>
    intro i hi
    have : i = n := by omega
    subst this
    exact br_t (nI_le (Nat.le_refl _) (by omega)) hp
  | succ d ih =>
    intro i hi
    refine br_f (nI_ge (by omega) (by omega)) ?_
    refine ok_y_cmp (by omega) he hF (hW i (by omega)) hE ?_
    have ih' := ih (i + 1) (by omega)
    cases e1 : ok_lt (ok_T s nu it le cs F) i e with
    | true =>
      rw [ok_cn_t (P := fun i => ok_lt (ok_T s nu it le cs F) i e) e1] at ih'
      rcases ok_lt_iff.mp e1 with h | ⟨h, h2⟩
      · exact br_t ((ok_sgN _ _).mpr h) (nm_r (nI_1 _) (nm_r (nI_1 i) ih'))
      · refine br_f (fun z => by have := (ok_sgN _ _).mp z; omega) (br_t ((ok_sg0 _ _).mpr h) ?_)
        exact br_f (nI_ge h2 (by omega)) (nm_r (nI_1 _) (nm_r (nI_1 i) ih'))
    | false =>
      rw [ok_cn_f (P := fun i => ok_lt (ok_T s nu it le cs F) i e) e1] at ih'
      have e2 : ¬ (ok_T s nu it le cs F i < ok_T s nu it le cs F e ∨ (ok_T s nu it le cs F i = ok_T s nu it le cs F e ∧ i < e)) := fun z => by
        rw [ok_lt_iff.mpr z] at e1
        exact absurd e1 (by decide)
      refine br_f (fun z => e2 (Or.inl ((ok_sgN _ _).mp z))) ?_
      refine br_c (fun z => ?_) (fun _ => nm_r (nI_1 i) ih')
      have h : ¬ i < e := fun y => e2 (Or.inr ⟨(ok_sg0 _ _).mp z, y⟩)
      exact br_t (nI_le (by omega) (by omega)) (nm_r (nI_1 i) ih')
theorem ok_y_place {post : Int32 → Prop} {n F e : Nat} (hn : n ≤ 20) (he : e < 21) (hF : F ≤ 4) (hW : ∀ i, i < n → ∀ f, f < F → ok_WF s f (ok_Y nu it le cs (i * 4 + f))) (hE : ∀ f, f < F → ok_WF s f (ok_Y nu it le cs (e * 4 + f)))
    (hp : post (nI (ok_cn (fun i => ok_lt (ok_T s nu it le cs F) i e) n))) : wpY_place post (nI F, s, nI n, tg, nu, it, le, cs) (nI e) := by
  have hw := ok_y_placeL (tg := tg) hn he hF hW hE hp n 0 (by omega)
  have h0 : ok_cn (fun i => ok_lt (ok_T s nu it le cs F) i e) 0 = 0 := rfl
  rw [h0, nI_0] at hw
  exact ⟨n + 1, hw⟩
theorem ok_y_at {post : Int32 → Prop} {n F : Nat} {g : Nat → Nat} (hn : n ≤ 20) (hF : F ≤ 4) (hW : ∀ i, i < n → ∀ f, f < F → ok_WF s f (ok_Y nu it le cs (i * 4 + f)))
    (hm : ∀ p, p < n → g p < n) (hs : ∀ p q, p < q → q < n → ok_lt (ok_T s nu it le cs F) (g p) (g q) = true) (x : Int32)
    (h1 : ∀ p, p < n → x = nI p → post (nI (g p))) (h0 : (∀ p, p < n → x ≠ nI p) → post (-1)) : wpY_at post (nI F, s, nI n, tg, nu, it, le, cs) x := by
  have hi := ok_lt_inj hs
  have pl : ∀ p, p < n → ok_cn (fun i => ok_lt (ok_T s nu it le cs F) i (g p)) n = p := fun p hp => ok_pl hm hs hp
  by_cases hx : ∃ p, p < n ∧ x = nI p
  · obtain ⟨p, hp, rfl⟩ := hx
    have hg := hm p hp
    have hL : ∀ d e : Nat, e + d = g p → wY_at_2 post (nI p) (nI F) s (nI n) tg nu it le cs (d + 1) (nI e) := by
      intro d
      induction d with
      | zero =>
        intro e he
        have : e = g p := by omega
        subst this
        refine br_f (nI_ge (by omega) (by omega)) ?_
        refine ok_y_place hn (by omega) hF hW (hW _ hg) ?_
        rw [pl p hp]
        exact br_t rfl (h1 p hp rfl)
      | succ d ih =>
        intro e he
        refine br_f (nI_ge (by omega) (by omega)) ?_
        refine ok_y_place hn (by omega) hF hW (hW _ (by omega)) ?_
        obtain ⟨q, hq, rfl⟩ := ok_surj hm hi e (by omega)
        rw [pl q hq]
        refine br_f (fun z => ?_) (nm_r (nI_1 _) (ih _ (by omega)))
        rw [nI_eq (by omega) (by omega)] at z
        subst z
        omega
    have hw := hL (g p) 0 (by omega)
    rw [nI_0] at hw
    exact ⟨_, hw⟩
  · have hx' : ∀ p, p < n → x ≠ nI p := fun p hp z => hx ⟨p, hp, z⟩
    have hL : ∀ d e : Nat, e + d = n → wY_at_2 post x (nI F) s (nI n) tg nu it le cs (d + 1) (nI e) := by
      intro d
      induction d with
      | zero =>
        intro e he
        have : e = n := by omega
        subst this
        exact br_t (nI_le (Nat.le_refl _) (by omega)) (h0 hx')
      | succ d ih =>
        intro e he
        refine br_f (nI_ge (by omega) (by omega)) ?_
        refine ok_y_place hn (by omega) hF hW (hW _ (by omega)) ?_
        obtain ⟨q, hq, rfl⟩ := ok_surj hm hi e (by omega)
        rw [pl q hq]
        exact br_f (fun z => hx' q hq z.symm) (nm_r (nI_1 _) (ih _ (by omega)))
    have hw := hL n 0 (by omega)
    rw [nI_0] at hw
    exact ⟨_, hw⟩
theorem ok_Yeq {nu' it' le' cs' : Nat → Int32} {c c' : Nat} {x : Int32} (h1 : nu' c' = x) (h2 : it' c' = it c) (h3 : le' c' = le c) (h4 : ∀ i, i < 6 → cs' (c' * 6 + i) = cs (c * 6 + i)) : ok_Y nu' it' le' cs' c' = (x, it c, le c, ok_ch cs c) := by
  have h5 : ok_ch cs' c' = ok_ch cs c := by
    funext i
    unfold ok_ch
    by_cases hi : i < 6
    · rw [if_pos hi, if_pos hi, h4 i hi]
    · rw [if_neg hi, if_neg hi]
  unfold ok_Y
  rw [h1, h2, h3, h5]
theorem ok_y_copy75 {post : SY → Prop} {a b : Nat} (ha : a < 21) (hb : b < 21) (hab : a ≠ b)
    (hp : post (Fi, s, C, tg, nu, it, le, ok_cp id cs (a * 24) (b * 24) 24)) :
    ∀ d k : Nat, k + d = 24 → wY_copy_75 post (nI a) (nI b) Fi s C (d + 1) (nI k) tg nu it le (ok_cp id cs (a * 24) (b * 24) k) := by
  intro d
  induction d with
  | zero =>
    intro k hk
    have : k = 24 := by omega
    subst this
    exact br_t (by decide) hp
  | succ d ih =>
    intro k hk
    refine br_f (nI_ge (b := 24) (by omega) (by decide)) ?_
    rw [ok_idx24 a k, ok_idx24 b k, nI_clamp (n := a * 24 + k) (by omega), nI_clamp (n := b * 24 + k) (by omega)]
    refine ⟨vp_in_nI (by omega) (by omega), vp_in_nI (by omega) (by omega), nm_r (ok_cp_s (g := id) (by omega)) (nm_r (nI_1 k) ?_)⟩
    exact ih (k + 1) (by omega)
theorem ok_y_copy2 {post : SY → Prop} {a b : Nat} (ha : a < 21) (hb : b < 21) (hab : a ≠ b)
    (hp : post (Fi, s, C, tg, ok_cp (vp_nar .boolean) nu (a * 4) (b * 4) 4, ok_cp id it (a * 4) (b * 4) 4, ok_cp id le (a * 4) (b * 4) 4, ok_cp id cs (a * 24) (b * 24) 24)) :
    ∀ d k : Nat, k + d = 4 → wY_copy_2 post (nI a) (nI b) Fi s C (d + 1) (nI k) tg (ok_cp (vp_nar .boolean) nu (a * 4) (b * 4) k) (ok_cp id it (a * 4) (b * 4) k) (ok_cp id le (a * 4) (b * 4) k) cs := by
  intro d
  induction d with
  | zero =>
    intro k hk
    have : k = 4 := by omega
    subst this
    have hw := ok_y_copy75 (Fi := Fi) (s := s) (C := C) (tg := tg) ha hb hab hp 24 0 (by omega)
    rw [nI_0, ok_cp_0] at hw
    exact br_t (by decide) ⟨25, hw⟩
  | succ d ih =>
    intro k hk
    refine br_f (nI_ge (b := 4) (by omega) (by decide)) ?_
    rw [ok_idx a k, ok_idx b k, nI_clamp (n := a * 4 + k) (by omega), nI_clamp (n := b * 4 + k) (by omega)]
    have ia : vp_in (nI (a * 4 + k)) 84 := vp_in_nI (by omega) (by omega)
    have ib : vp_in (nI (b * 4 + k)) 84 := vp_in_nI (by omega) (by omega)
    refine ⟨ia, ib, nm_r (ok_cp_s (g := vp_nar .boolean) (by omega)) ⟨ia, ib, nm_r (ok_cp_s (g := id) (by omega)) ⟨ia, ib, nm_r (ok_cp_s (g := id) (by omega)) (nm_r (nI_1 k) ?_)⟩⟩⟩
    exact ih (k + 1) (by omega)
theorem ok_y_copy {post : SY → Prop} {a b : Nat} (ha : a < 21) (hb : b < 21) (hab : a ≠ b)
    (hp : ∀ nu' it' le' cs' : Nat → Int32, (∀ f, f < 4 → ok_Y nu' it' le' cs' (b * 4 + f) = ok_nY (ok_Y nu it le cs (a * 4 + f))) → (∀ e f, e ≠ b → f < 4 → ok_Y nu' it' le' cs' (e * 4 + f) = ok_Y nu it le cs (e * 4 + f)) → post (Fi, s, C, tg, nu', it', le', cs')) :
    wpY_copy post (Fi, s, C, tg, nu, it, le, cs) (nI a) (nI b) := by
  have hw := ok_y_copy2 (Fi := Fi) (s := s) (C := C) (tg := tg) ha hb hab (hp (ok_cp (vp_nar .boolean) nu (a * 4) (b * 4) 4) (ok_cp id it (a * 4) (b * 4) 4) (ok_cp id le (a * 4) (b * 4) 4) (ok_cp id cs (a * 24) (b * 24) 24)
    (fun f hf => ok_Yeq (ok_cp_in _ _ _ _ _ hf) (ok_cp_in _ _ _ _ _ hf) (ok_cp_in _ _ _ _ _ hf) (fun i hi => by
      rw [show (b * 4 + f) * 6 + i = b * 24 + (f * 6 + i) by omega, show (a * 4 + f) * 6 + i = a * 24 + (f * 6 + i) by omega]
      exact ok_cp_in _ _ _ _ _ (by omega)))
    (fun e f he hf => ok_Yeq (ok_cp_out _ _ _ _ _ (by omega)) (ok_cp_out _ _ _ _ _ (by omega)) (ok_cp_out _ _ _ _ _ (by omega)) (fun i hi => ok_cp_out _ _ _ _ _ (by omega)))) 4 0 (by omega)
  rw [nI_0, ok_cp_0, ok_cp_0, ok_cp_0] at hw
  exact ⟨5, hw⟩
theorem ok_y_rem {post : Int32 → SY → Prop} {m F e : Nat} (hm : m < 20) (hF : F ≤ 4) (hW : ∀ i, i < m + 1 → ∀ f, f < F → ok_WF s f (ok_Y nu it le cs (i * 4 + f)))
    (hp : ∀ tg' nu' it' le' cs' : Nat → Int32, (∀ j, j < m → tg' j = if e ≤ j then tg (j + 1) else tg j) → (∀ j f, j < m → f < F → ok_Y nu' it' le' cs' (j * 4 + f) = if e ≤ j then ok_Y nu it le cs ((j + 1) * 4 + f) else ok_Y nu it le cs (j * 4 + f)) →
      (∀ f, f < F → ok_Y nu' it' le' cs' (80 + f) = ok_Y nu it le cs (80 + f)) → post (nI m) (nI F, s, nI m, tg', nu', it', le', cs')) :
    ∀ d i : Nat, i + d = m → e ≤ i → ∀ tg' nu' it' le' cs' : Nat → Int32, (∀ j, tg' j = if e ≤ j ∧ j < i then tg (j + 1) else tg j) →
      (∀ j f, f < F → ok_Y nu' it' le' cs' (j * 4 + f) = if e ≤ j ∧ j < i then ok_Y nu it le cs ((j + 1) * 4 + f) else ok_Y nu it le cs (j * 4 + f)) →
      wY_remove_15 post (d + 1) (nI i) (nI F) s (nI (m + 1)) tg' nu' it' le' cs' := by
  intro d
  induction d with
  | zero =>
    intro i hi he tg' nu' it' le' cs' h1 h2
    have : i = m := by omega
    subst this
    refine br_t (by rw [nI_pred]; exact nI_le (Nat.le_refl _) (by omega)) (nm_r (nI_pred i) ?_)
    refine hp tg' nu' it' le' cs' (fun j hj => ?_) (fun j f hj hf => ?_) (fun f hf => ?_)
    · rw [h1 j]
      by_cases h : e ≤ j
      · rw [if_pos h, if_pos ⟨h, hj⟩]
      · rw [if_neg h, if_neg (by omega)]
    · rw [h2 j f hf]
      by_cases h : e ≤ j
      · rw [if_pos h, if_pos ⟨h, hj⟩]
      · rw [if_neg h, if_neg (by omega)]
    · have := h2 20 f hf
      rw [if_neg (by omega)] at this
      exact this
  | succ d ih =>
    intro i hi he tg' nu' it' le' cs' h1 h2
    refine br_f (by rw [nI_pred]; exact nI_ge (by omega) (by omega)) ?_
    rw [nI_1 i]
    refine ok_y_copy (by omega) (by omega) (by omega) (fun nu2 it2 le2 cs2 c1 c2 => ?_)
    refine ⟨vp_in_nI (by omega) (by omega), vp_in_nI (by omega) (by omega), ?_⟩
    rw [nI_clamp (n := i) (by omega), nI_clamp (n := i + 1) (by omega)]
    refine nm_e (nm_e ?_)
    refine ih (i + 1) (by omega) (by omega) _ nu2 it2 le2 cs2 (fun j => ?_) (fun j f hf => ?_)
    · by_cases h : j = i
      · subst h
        rw [pk_us, h1 (j + 1), if_neg (by omega), if_pos (by omega)]
      · rw [pk_un h, h1 j]
        by_cases h3 : e ≤ j ∧ j < i
        · rw [if_pos h3, if_pos (by omega)]
        · rw [if_neg h3, if_neg (by omega)]
    · by_cases h : j = i
      · subst h
        rw [c1 f (by omega), h2 (j + 1) f hf, if_neg (by omega), if_pos (by omega)]
        exact ok_WF_n (hW (j + 1) (by omega) f hf)
      · rw [c2 j f h (by omega), h2 j f hf]
        by_cases h3 : e ≤ j ∧ j < i
        · rw [if_pos h3, if_pos (by omega)]
        · rw [if_neg h3, if_neg (by omega)]
end
