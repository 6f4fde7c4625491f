/-! the component's inner methods -/
theorem ok_sh (i : Nat) (h : i < 6) : 9 * (5 - nI i) = nI (9 * (5 - i)) := by
  show nI 9 * (nI 5 - nI i) = _
  rw [pk_sub (by omega), pk_mul]
theorem ok_512 (j : Nat) : 512 ^ j = 2 ^ (9 * j) := by
  rw [Nat.pow_mul]
section
variable {Fi s C : Int32} {rw tg fi : Nat → Int32} {va : Nat → Int64}
theorem ok_x_isSet {post : Int32 → Prop} {f : Nat} {m : Int32} (h1 : ok_bit s f m = true → post 1) (h0 : ok_bit s f m = false → post 0) : wpX_isSet post (Fi, s, C, rw, tg, fi, va) (nI f) m := by
  cases e : ok_bit s f m with
  | true => exact br_f (ok_b1 e) (h1 e)
  | false => exact br_t (ok_b0 e) (h0 e)
theorem ok_x_field1 {post : Int32 → Prop} {F f : Nat} (hF : F ≤ 4) (hf : f < F) (h : post 1) : wpX_isField post (nI F, s, C, rw, tg, fi, va) (nI f) :=
  br_f (nI_pos (by omega)) (br_f (nI_ge hf (by omega)) h)
theorem ok_x_field0 {post : Int32 → Prop} {F : Nat} {x : Int32} (hF : F ≤ 4) (hx : ∀ f, f < F → x ≠ nI f) (h : post 0) : wpX_isField post (nI F, s, C, rw, tg, fi, va) x := by
  rcases pk_ix x (show F < 2 ^ 31 by omega) with h1 | h1 | ⟨j, hj, e⟩
  · exact br_t h1 h
  · exact br_c (fun _ => h) (fun _ => br_t h1 h)
  · exact absurd e (hx j hj)
theorem ok_x_ent1 {post : Int32 → Prop} {n p : Nat} (hn : n ≤ 20) (hp : p < n) (h : post 1) : wpX_isEntry post (Fi, s, nI n, rw, tg, fi, va) (nI p) :=
  br_f (nI_pos (by omega)) (br_f (nI_ge hp (by omega)) h)
theorem ok_x_ent0 {post : Int32 → Prop} {n : Nat} {x : Int32} (hn : n ≤ 20) (hx : ∀ p, p < n → x ≠ nI p) (h : post 0) : wpX_isEntry post (Fi, s, nI n, rw, tg, fi, va) x := by
  rcases pk_ix x (show n < 2 ^ 31 by omega) with h1 | h1 | ⟨j, hj, e⟩
  · exact br_t h1 h
  · exact br_c (fun _ => h) (fun _ => br_t h1 h)
  · exact absurd e (hx j hj)
theorem ok_x_code {post : Int32 → Prop} {d : Nat → Nat} {i : Nat} (hi : i < 6) (hd : ∀ j, d j < 512) (h : post (nI (d i))) : wpX_letterCode post (lN (ok_pk d 6)) (nI i) := by
  unfold wpX_letterCode wpX_letterShift
  dsimp only
  have hk : 9 * (5 - i) < 64 := by omega
  have e1 : ((lN (9 * (5 - i))).toBitVec.smod 64).toNat = 9 * (5 - i) := by
    rw [wb_tb, wb_sm _ hk, BitVec.toNat_ofNat]
    exact Nat.mod_eq_of_lt (by omega)
  have h6 : ok_pk d 6 < 18014398509481984 := ok_pk_lt 6 (fun i _ => hd i)
  rw [ok_sh i hi, wb_c _ hk, pf_shr e1 (by omega), lN_i, ← ok_512, pk_and _ 9 (by decide)]
  have e2 : ok_pk d 6 / 512 ^ (5 - i) = ok_pk d (i + 1) := by
    have := ok_pk_div (d := d) (i + 1) (5 - i) (fun j _ => hd j)
    rw [show i + 1 + (5 - i) = 6 by omega] at this
    exact this
  have e3 : (nI (ok_pk d (i + 1))).toBitVec.toNat % 2 ^ 9 = d i := by
    show (BitVec.ofNat 32 (ok_pk d (i + 1))).toNat % 2 ^ 9 = d i
    rw [BitVec.toNat_ofNat]
    have h1 := hd i
    have h2 : ok_pk d (i + 1) = ok_pk d i * 512 + d i := rfl
    omega
  rw [e2, e3]
  exact h
theorem ok_x_len {post : Int32 → Prop} {d : Nat → Nat} {l : Nat} (hl : l ≤ 6) (hd : ∀ j, d j < 512) (h1 : ∀ i, i < l → d i ≠ 0) (h0 : ∀ i, l ≤ i → d i = 0) (h : post (nI l)) : wpX_textLength post (lN (ok_pk d 6)) := by
  have hL : ∀ k i : Nat, i + k = 6 → wX_textLength_4 post (lN (ok_pk d 6)) (k + 1) (nI (if i < l then i else l)) (nI i) := by
    intro k
    induction k with
    | zero =>
      intro i hi
      have : i = 6 := by omega
      subst this
      rw [if_neg (by omega)]
      exact br_t (by decide) h
    | succ k ih =>
      intro i hi
      have ih' := ih (i + 1) (by omega)
      refine br_f (nI_ge (b := 6) (by omega) (by decide)) ?_
      refine ok_x_code (by omega) hd ?_
      by_cases e : i < l
      · refine br_f (nI_ne0 (Nat.pos_of_ne_zero (h1 i e)) (by have := hd i; omega)) ?_
        rw [if_pos e]
        refine nm_r (nI_1 _) (nm_r (nI_1 _) ?_)
        rw [show (if i + 1 < l then i + 1 else l) = i + 1 by split <;> omega] at ih'
        exact ih'
      · rw [h0 i (by omega), if_neg e]
        rw [if_neg (by omega)] at ih'
        exact br_t nI_0 (nm_r (nI_1 _) ih')
  have hw := hL 6 0 (by omega)
  rw [show (if 0 < l then 0 else l) = 0 by split <;> omega, nI_0] at hw
  exact ⟨7, hw⟩
/-! comparisons with the stage -/
theorem ok_x_125 {post : Int32 → Prop} {f : Nat} {a b : ok_CY} {z : Int32} (na : a.1 = 0) (nb : b.1 = 0) (hz : (z = 1 ∧ ok_V s f a < ok_V s f b) ∨ (z = 0 ∧ ok_V s f b < ok_V s f a)) (hp : post (ok_sg (ok_K s f a) (ok_K s f b))) :
    wX_compareFieldToStage_125 post (nI f) z Fi s C rw tg fi va := by
  rw [ok_K_val na, ok_K_val nb] at hp
  refine ok_x_isSet (fun e => ?_) (fun e => ?_)
  · rw [e, if_pos rfl, if_pos rfl] at hp
    rcases hz with ⟨rfl, h⟩ | ⟨rfl, h⟩
    · rw [ok_sg_gt (by omega)] at hp
      exact br_t rfl hp
    · rw [ok_sg_lt (by omega)] at hp
      exact br_f (by decide) hp
  · rw [e, if_neg (by decide), if_neg (by decide)] at hp
    rcases hz with ⟨rfl, h⟩ | ⟨rfl, h⟩
    · rw [ok_sg_lt h] at hp
      exact br_f (by decide) hp
    · rw [ok_sg_gt h] at hp
      exact br_t rfl hp
theorem ok_x_35 {post : Int32 → Prop} {f a b : Nat} {ya yb : ok_CY} (ha : a < 84) (hb : b < 84) (ca : ok_CR s f (ok_X fi va a) ya) (cb : ok_CR s f (ok_X fi va b) yb) (hab : ya.1 = 0 ∨ yb.1 = 0)
    (hp : post (ok_sg (ok_K s f ya) (ok_K s f yb))) : wX_compareFieldToStage_35 post (nI f) (nI a) (nI b) Fi s C rw tg fi va := by
  have ia : vp_in (nI a) 84 := vp_in_nI ha (by omega)
  have ib : vp_in (nI b) 84 := vp_in_nI hb (by omega)
  have ka : (nI a).toNatClampNeg = a := nI_clamp (by omega)
  have kb : (nI b).toNatClampNeg = b := nI_clamp (by omega)
  have wa := ok_CR_WF ca
  have wb := ok_CR_WF cb
  have va' := ok_CR_V ca
  have vb' := ok_CR_V cb
  refine ⟨ia, ?_⟩
  rw [ka, kb]
  rcases ca with ⟨h1, n1⟩ | ⟨h1, n1, _⟩
  · have h1' : fi a = 0 := h1
    have n2 : yb.1 = 0 := hab.resolve_left (by rw [n1]; decide)
    have hk := ok_K_in n2 wb
    rw [ok_K_null n1] at hp
    refine br_t h1' (ok_x_isSet (fun e => ?_) (fun e => ?_))
    · rw [e, if_pos rfl, ok_sg_lt hk.1] at hp
      exact br_f (by decide) hp
    · rw [e, if_neg (by decide), ok_sg_gt hk.2] at hp
      exact br_t rfl hp
  · have h1' : fi a = 1 := h1
    refine br_f (by rw [h1']; decide) ⟨ib, ?_⟩
    have hk := ok_K_in n1 wa
    rcases cb with ⟨h2, n2⟩ | ⟨h2, n2, _⟩
    · have h2' : fi b = 0 := h2
      rw [ok_K_null n2] at hp
      refine br_t h2' (ok_x_isSet (fun e => ?_) (fun e => ?_))
      · rw [e, if_pos rfl, ok_sg_gt hk.1] at hp
        exact br_f (by decide) hp
      · rw [e, if_neg (by decide), ok_sg_lt hk.2] at hp
        exact br_t rfl hp
    · have h2' : fi b = 1 := h2
      refine br_f (by rw [h2']; decide) ⟨ia, ib, ?_⟩
      have v1 : (va a).toInt = ok_V s f ya := va' n1
      have v2 : (va b).toInt = ok_V s f yb := vb' n2
      by_cases e : va a = va b
      · have e2 : ok_K s f ya = ok_K s f yb := by
          rw [ok_K_val n1, ok_K_val n2, ← v1, ← v2, e]
        rw [ok_sg_eq e2] at hp
        exact br_t e hp
      · have e2 : (va a).toInt ≠ (va b).toInt := fun z => e (Int64.toInt_inj.mp z)
        refine br_f e ⟨ia, ib, ?_⟩
        by_cases h : va b ≤ va a
        · refine br_t h (ok_x_125 n1 n2 (Or.inr ⟨rfl, ?_⟩) hp)
          rw [Int64.le_iff_toInt_le] at h
          omega
        · refine br_f h (ok_x_125 n1 n2 (Or.inl ⟨rfl, ?_⟩) hp)
          rw [Int64.le_iff_toInt_le] at h
          omega
theorem ok_x_fld {post : Int32 → Prop} {f r : Nat} {ya yb : ok_CY} (hr : r < 20) (hf : f < 4) (ca : ok_CR s f (ok_X fi va (r * 4 + f)) ya) (cb : ok_CR s f (ok_X fi va (80 + f)) yb)
    (hp : post (ok_sg (ok_K s f ya) (ok_K s f yb))) : wpX_compareFieldToStage post (Fi, s, C, rw, tg, fi, va) (nI r) (nI f) := by
  unfold wpX_compareFieldToStage wpX_cell
  dsimp only
  rw [ok_idx, ok_20]
  have ia : vp_in (nI (r * 4 + f)) 84 := vp_in_nI (by omega) (by omega)
  have ib : vp_in (nI (80 + f)) 84 := vp_in_nI (by omega) (by omega)
  have ka : (nI (r * 4 + f)).toNatClampNeg = r * 4 + f := nI_clamp (by omega)
  have kb : (nI (80 + f)).toNatClampNeg = 80 + f := nI_clamp (by omega)
  refine ⟨ia, ?_⟩
  rw [ka, kb]
  have ca2 := ca
  have cb2 := cb
  rcases ca with ⟨h1, n1⟩ | ⟨h1, n1, _⟩
  · have h1' : fi (r * 4 + f) = 0 := h1
    refine br_t h1' ⟨ib, ?_⟩
    rcases cb with ⟨h2, n2⟩ | ⟨h2, n2, _⟩
    · have h2' : fi (80 + f) = 0 := h2
      rw [ok_K_null n1, ok_K_null n2, ok_sg_eq rfl] at hp
      exact br_t h2' hp
    · have h2' : fi (80 + f) = 1 := h2
      exact br_f (by rw [h2']; decide) (ok_x_35 (by omega) (by omega) ca2 cb2 (Or.inr n2) hp)
  · have h1' : fi (r * 4 + f) = 1 := h1
    exact br_f (by rw [h1']; decide) (ok_x_35 (by omega) (by omega) ca2 cb2 (Or.inl n1) hp)
theorem ok_x_cmpL {post : Int32 → Prop} {r m : Nat} {ya yb : Nat → ok_CY} (hr : r < 20) (hm : m ≤ 4) (ca : ∀ f, f < m → ok_CR s f (ok_X fi va (r * 4 + f)) (ya f)) (cb : ∀ f, f < m → ok_CR s f (ok_X fi va (80 + f)) (yb f))
    (hp : post (ok_sg (ok_H ok_B (fun f => ok_K s f (ya f)) m) (ok_H ok_B (fun f => ok_K s f (yb f)) m))) : ∀ d f : Nat, f + d = m → ok_H ok_B (fun f => ok_K s f (ya f)) f = ok_H ok_B (fun f => ok_K s f (yb f)) f →
      wX_compareToStage_2 post (nI r) (nI m) Fi s C rw tg fi va (d + 1) (nI f) := by
  intro d
  induction d with
  | zero =>
    intro f hf h
    have : f = m := by omega
    subst this
    rw [ok_sg_eq h] at hp
    exact br_t (nI_le (Nat.le_refl _) (by omega)) hp
  | succ d ih =>
    intro f hf h
    refine br_f (nI_ge (by omega) (by omega)) ?_
    refine ok_x_fld hr (by omega) (ca f (by omega)) (cb f (by omega)) ?_
    by_cases e : ok_K s f (ya f) = ok_K s f (yb f)
    · refine br_t (ok_sg_eq e) (nm_r (nI_1 f) ?_)
      exact ih (f + 1) (by omega) (ok_H_s h e)
    · refine br_f (fun z => e ((ok_sg0 _ _).mp z)) ?_
      have := ok_H_at ok_B0 h (show f < m by omega) e (fun g hg => ok_Bb (ok_K_b (ok_CR_WF (ca g hg))) (ok_K_b (ok_CR_WF (cb g hg))))
      rw [← this]
      exact hp
theorem ok_x_cmp {post : Int32 → Prop} {r m : Nat} {ya yb : Nat → ok_CY} (hr : r < 20) (hm : m ≤ 4) (ca : ∀ f, f < m → ok_CR s f (ok_X fi va (r * 4 + f)) (ya f)) (cb : ∀ f, f < m → ok_CR s f (ok_X fi va (80 + f)) (yb f))
    (hp : post (ok_sg (ok_H ok_B (fun f => ok_K s f (ya f)) m) (ok_H ok_B (fun f => ok_K s f (yb f)) m))) : wpX_compareToStage post (Fi, s, C, rw, tg, fi, va) (nI r) (nI m) := by
  have hw := ok_x_cmpL (Fi := Fi) (C := C) (rw := rw) (tg := tg) hr hm ca cb hp m 0 (by omega) (ok_H_0 _ _ _)
  rw [nI_0] at hw
  exact ⟨m + 1, hw⟩
/-! copies and shifts -/
theorem ok_Xeq {fi' : Nat → Int32} {va' : Nat → Int64} {c c' : Nat} {x : Int32} (h1 : fi' c' = x) (h2 : va' c' = va c) : ok_X fi' va' c' = (x, va c) := by
  unfold ok_X
  rw [h1, h2]
theorem ok_x_copyL {post : SX → Prop} {a b F : Nat} (ha : a < 21) (hb : b < 21) (hab : a ≠ b) (hF : F ≤ 4)
    (hp : post (nI F, s, C, rw, tg, ok_cp (vp_nar .boolean) fi (a * 4) (b * 4) F, ok_cp id va (a * 4) (b * 4) F)) :
    ∀ d k : Nat, k + d = F → wX_copyTuple_2 post (nI a) (nI b) (nI F) s C (d + 1) (nI k) rw tg (ok_cp (vp_nar .boolean) fi (a * 4) (b * 4) k) (ok_cp id va (a * 4) (b * 4) k) := by
  intro d
  induction d with
  | zero =>
    intro k hk
    have : k = F := by omega
    subst this
    exact br_t (nI_le (Nat.le_refl _) (by omega)) hp
  | succ d ih =>
    intro k hk
    refine br_f (nI_ge (by omega) (by omega)) ?_
    unfold wpX_cell
    dsimp only
    rw [ok_idx a k, ok_idx b k, nI_clamp (n := a * 4 + k) (by omega), nI_clamp (n := b * 4 + k) (by omega)]
    have ia : vp_in (nI (a * 4 + k)) 84 := vp_in_nI (by omega) (by omega)
    have ib : vp_in (nI (b * 4 + k)) 84 := vp_in_nI (by omega) (by omega)
    refine ⟨ia, ib, nm_r (ok_cp_s (g := vp_nar .boolean) (by omega)) ⟨ia, ib, nm_r (ok_cp_sL (g := id) (by omega)) (nm_r (nI_1 k) ?_)⟩⟩
    exact ih (k + 1) (by omega)
theorem ok_x_copy {post : SX → Prop} {a b F : Nat} (ha : a < 21) (hb : b < 21) (hab : a ≠ b) (hF : F ≤ 4)
    (hp : ∀ (fi' : Nat → Int32) (va' : Nat → Int64), (∀ f, f < F → ok_X fi' va' (b * 4 + f) = ok_nX (ok_X fi va (a * 4 + f))) → (∀ e f, e ≠ b → f < 4 → ok_X fi' va' (e * 4 + f) = ok_X fi va (e * 4 + f)) → post (nI F, s, C, rw, tg, fi', va')) :
    wpX_copyTuple post (nI F, s, C, rw, tg, fi, va) (nI a) (nI b) := by
  have hw := ok_x_copyL (s := s) (C := C) (rw := rw) (tg := tg) ha hb hab hF (hp (ok_cp (vp_nar .boolean) fi (a * 4) (b * 4) F) (ok_cp id va (a * 4) (b * 4) F)
    (fun f hf => ok_Xeq (ok_cp_in _ _ _ _ _ hf) (ok_cp_in _ _ _ _ _ hf))
    (fun e f he hf => ok_Xeq (ok_cp_out _ _ _ _ _ (by omega)) (ok_cp_out _ _ _ _ _ (by omega)))) F 0 (by omega)
  rw [nI_0, ok_cp_0, ok_cp_0] at hw
  exact ⟨F + 1, hw⟩
theorem ok_x_addL {post : Int32 → SX → Prop} {n c : Nat} {x : Int32} (hn : n < 20) (hc : c ≤ n)
    (hp : ∀ rw' : Nat → Int32, (∀ j, rw' j = if j < c then rw j else if j = c then x else if j ≤ n then rw (j - 1) else rw j) → post (nI c) (Fi, s, nI (n + 1), rw', tg, fi, va)) :
    ∀ d i : Nat, i = c + d → i ≤ n → ∀ rw' : Nat → Int32, (∀ j, rw' j = if i < j ∧ j ≤ n then rw (j - 1) else rw j) → wX_add_47 post x (nI c) Fi s (nI n) (d + 1) (nI i) rw' tg fi va := by
  intro d
  induction d with
  | zero =>
    intro i hi hin rw' h
    have : i = c := by omega
    subst this
    refine br_t (nI_le (Nat.le_refl _) (by omega)) ⟨vp_in_nI (by omega) (by omega), ?_⟩
    rw [nI_clamp (n := i) (by omega)]
    refine nm_e (nm_r (nI_1 n) (hp _ (fun j => ?_)))
    by_cases e : j = i
    · subst e
      rw [pk_us, if_neg (by omega), if_pos rfl]
    · rw [pk_un e, h j]
      by_cases e2 : j < i
      · rw [if_neg (by omega), if_pos e2]
      · rw [if_neg e2, if_neg e]
        by_cases e3 : j ≤ n
        · rw [if_pos (by omega), if_pos e3]
        · rw [if_neg (by omega), if_neg e3]
  | succ d ih =>
    intro i hi hin rw' h
    obtain ⟨k, rfl⟩ : ∃ k, i = k + 1 := ⟨i - 1, by omega⟩
    refine br_f (nI_ge (by omega) (by omega)) ?_
    rw [nI_pred k, nI_clamp (n := k) (by omega), nI_clamp (n := k + 1) (by omega)]
    refine ⟨vp_in_nI (by omega) (by omega), vp_in_nI (by omega) (by omega), nm_e (nm_r (pk_m1 k) ?_)⟩
    refine ih k (by omega) (by omega) _ (fun j => ?_)
    by_cases e : j = k + 1
    · subst e
      rw [pk_us, if_pos (by omega), h k, if_neg (by omega)]
      rfl
    · rw [pk_un e, h j]
      by_cases e2 : k + 1 < j ∧ j ≤ n
      · rw [if_pos e2, if_pos (by omega)]
      · rw [if_neg e2, if_neg (by omega)]
theorem ok_x_remL {post : Int32 → SX → Prop} {m p : Nat} {x : Int32} (hm : m < 20) (hpm : p ≤ m)
    (hp : ∀ rw' : Nat → Int32, (∀ j, rw' j = if j < p then rw j else if j < m then rw (j + 1) else if j = m then x else rw j) → post (nI m) (Fi, s, nI m, rw', tg, fi, va)) :
    ∀ d i : Nat, i + d = m → p ≤ i → ∀ rw' : Nat → Int32, (∀ j, rw' j = if p ≤ j ∧ j < i then rw (j + 1) else rw j) → wX_remove_30 post x Fi s (nI m) (d + 1) (nI i) rw' tg fi va := by
  intro d
  induction d with
  | zero =>
    intro i hi hin rw' h
    have : i = m := by omega
    subst this
    refine br_t (nI_le (Nat.le_refl _) (by omega)) ⟨vp_in_nI (by omega) (by omega), ?_⟩
    rw [nI_clamp (n := i) (by omega)]
    refine nm_e (hp _ (fun j => ?_))
    by_cases e : j = i
    · subst e
      rw [pk_us, if_neg (by omega), if_neg (by omega), if_pos rfl]
    · rw [pk_un e, h j]
      by_cases e2 : j < p
      · rw [if_neg (by omega), if_pos e2]
      · rw [if_neg e2]
        by_cases e3 : j < i
        · rw [if_pos (by omega), if_pos e3]
        · rw [if_neg (by omega), if_neg e3, if_neg e]
  | succ d ih =>
    intro i hi hin rw' h
    refine br_f (nI_ge (by omega) (by omega)) ?_
    rw [nI_1 i, nI_clamp (n := i) (by omega), nI_clamp (n := i + 1) (by omega)]
    refine ⟨vp_in_nI (by omega) (by omega), vp_in_nI (by omega) (by omega), nm_e (nm_e ?_)⟩
    refine ih (i + 1) (by omega) (by omega) _ (fun j => ?_)
    by_cases e : j = i
    · subst e
      rw [pk_us, if_pos (by omega), h (j + 1), if_neg (by omega)]
    · rw [pk_un e, h j]
      by_cases e2 : p ≤ j ∧ j < i
      · rw [if_pos e2, if_pos (by omega)]
      · rw [if_neg e2, if_neg (by omega)]
/-! counts -/
theorem ok_x_cnb {post : Int32 → Prop} {n F : Nat} {rho : Nat → Nat} {t : Nat → Int} {t0 : Int} (hn : n ≤ 20) (hr : ∀ p, p < n → rw p = nI (rho p))
    (hc : ∀ p, p < n → ∀ post : Int32 → Prop, post (ok_sg (t p) t0) → wpX_compareToStage post (nI F, s, nI n, rw, tg, fi, va) (nI (rho p)) (nI F))
    (hp : post (nI (ok_cn (fun p => decide (t p ≤ t0)) n))) : wpX_countNotBehindStage post (nI F, s, nI n, rw, tg, fi, va) := by
  have hL : ∀ d i : Nat, i + d = n → wX_countNotBehindStage_4 post (nI F) s (nI n) rw tg fi va (d + 1) (nI (ok_cn (fun p => decide (t p ≤ t0)) i)) (nI i) := by
    intro d
    induction d with
    | zero =>
      intro i hi
      have : i = n := by omega
      subst this
      exact br_t (nI_le (Nat.le_refl _) (by omega)) hp
    | succ d ih =>
      intro i hi
      have ih' := ih (i + 1) (by omega)
      refine br_f (nI_ge (by omega) (by omega)) ⟨vp_in_nI (by omega) (by omega), ?_⟩
      rw [nI_clamp (n := i) (by omega), hr i (by omega)]
      refine hc i (by omega) _ ?_
      by_cases e : t i ≤ t0
      · rw [ok_cn_t (P := fun p => decide (t p ≤ t0)) (by simp [e])] at ih'
        exact br_f (fun z => by have := (ok_sgP _ _).mp z; omega) (nm_r (nI_1 _) (nm_r (nI_1 _) ih'))
      · rw [ok_cn_f (P := fun p => decide (t p ≤ t0)) (by simp [e])] at ih'
        exact br_t ((ok_sgP _ _).mpr (by omega)) (nm_r (nI_1 _) ih')
  have hw := hL n 0 (by omega)
  have h0 : ok_cn (fun p => decide (t p ≤ t0)) 0 = 0 := rfl
  rw [h0, nI_0] at hw
  exact ⟨n + 1, hw⟩
theorem ok_x_below {post : Int32 → Prop} {n F : Nat} {rho : Nat → Nat} {t : Nat → Int} {t0 : Int} (hn : n ≤ 20) (hr : ∀ p, p < n → rw p = nI (rho p))
    (hc : ∀ p, p < n → ∀ post : Int32 → Prop, post (ok_sg (t p) t0) → wpX_compareToStage post (nI F, s, nI n, rw, tg, fi, va) (nI (rho p)) (nI F))
    (hp : post (nI (ok_cn (fun p => decide (t p < t0)) n))) : wpX_below post (nI F, s, nI n, rw, tg, fi, va) := by
  have hL : ∀ d i : Nat, i + d = n → wX_below_4 post (nI F) s (nI n) rw tg fi va (d + 1) (nI (ok_cn (fun p => decide (t p < t0)) i)) (nI i) := by
    intro d
    induction d with
    | zero =>
      intro i hi
      have : i = n := by omega
      subst this
      exact br_t (nI_le (Nat.le_refl _) (by omega)) hp
    | succ d ih =>
      intro i hi
      have ih' := ih (i + 1) (by omega)
      refine br_f (nI_ge (by omega) (by omega)) ⟨vp_in_nI (by omega) (by omega), ?_⟩
      rw [nI_clamp (n := i) (by omega), hr i (by omega)]
      refine hc i (by omega) _ ?_
      by_cases e : t i < t0
      · rw [ok_cn_t (P := fun p => decide (t p < t0)) (by simp [e])] at ih'
        exact br_f (fun z => by have := (ok_sgG _ _).mp z; omega) (nm_r (nI_1 _) (nm_r (nI_1 _) ih'))
      · rw [ok_cn_f (P := fun p => decide (t p < t0)) (by simp [e])] at ih'
        exact br_t ((ok_sgG _ _).mpr (by omega)) (nm_r (nI_1 _) ih')
  have hw := hL n 0 (by omega)
  have h0 : ok_cn (fun p => decide (t p < t0)) 0 = 0 := rfl
  rw [h0, nI_0] at hw
  exact ⟨n + 1, hw⟩
theorem ok_x_match {post : Int32 → Prop} {n m : Nat} {rho : Nat → Nat} {t : Nat → Int} {t0 : Int} (hn : n ≤ 20) (hr : ∀ p, p < n → rw p = nI (rho p))
    (hc : ∀ p, p < n → ∀ post : Int32 → Prop, post (ok_sg (t p) t0) → wpX_compareToStage post (Fi, s, nI n, rw, tg, fi, va) (nI (rho p)) (nI m))
    (hp : post (nI (ok_cn (fun p => decide (t p = t0)) n))) : ∃ k, wX_matching_18 post (nI m) Fi s (nI n) rw tg fi va k 0 0 := by
  have hL : ∀ d i : Nat, i + d = n → wX_matching_18 post (nI m) Fi s (nI n) rw tg fi va (d + 1) (nI (ok_cn (fun p => decide (t p = t0)) i)) (nI i) := by
    intro d
    induction d with
    | zero =>
      intro i hi
      have : i = n := by omega
      subst this
      exact br_t (nI_le (Nat.le_refl _) (by omega)) hp
    | succ d ih =>
      intro i hi
      have ih' := ih (i + 1) (by omega)
      refine br_f (nI_ge (by omega) (by omega)) ⟨vp_in_nI (by omega) (by omega), ?_⟩
      rw [nI_clamp (n := i) (by omega), hr i (by omega)]
      refine hc i (by omega) _ ?_
      by_cases e : t i = t0
      · rw [ok_cn_t (P := fun p => decide (t p = t0)) (by simp [e])] at ih'
        exact br_t ((ok_sg0 _ _).mpr e) (nm_r (nI_1 _) (nm_r (nI_1 _) ih'))
      · rw [ok_cn_f (P := fun p => decide (t p = t0)) (by simp [e])] at ih'
        exact br_f (fun z => e ((ok_sg0 _ _).mp z)) (nm_r (nI_1 _) ih')
  have hw := hL n 0 (by omega)
  have h0 : ok_cn (fun p => decide (t p = t0)) 0 = 0 := rfl
  rw [h0, nI_0] at hw
  exact ⟨n + 1, hw⟩
end
section
variable {Fi s C : Int32} {tg nu it le cs : Nat → Int32}
theorem ok_y_below {post : Int32 → Prop} {n F : Nat} {t : Nat → Int} {t0 : Int} (hn : n ≤ 20)
    (hc : ∀ p, p < n → ∀ post : Int32 → Prop, post (ok_sg (t p) t0) → wpY_compare post (nI F, s, nI n, tg, nu, it, le, cs) (nI p) 20 (nI F))
    (hp : post (nI (ok_cn (fun p => decide (t p < t0)) n))) : wpY_below post (nI F, s, nI n, tg, nu, it, le, cs) := by
  have hL : ∀ d i : Nat, i + d = n → wY_below_4 post (nI F) s (nI n) tg nu it le cs (d + 1) (nI (ok_cn (fun p => decide (t p < t0)) i)) (nI i) := by
    intro d
    induction d with
    | zero =>
      intro i hi
      have : i = n := by omega
      subst this
      exact br_t (nI_le (Nat.le_refl _) (by omega)) hp
    | succ d ih =>
      intro i hi
      have ih' := ih (i + 1) (by omega)
      refine br_f (nI_ge (by omega) (by omega)) ?_
      refine hc i (by omega) _ ?_
      by_cases e : t i < t0
      · rw [ok_cn_t (P := fun p => decide (t p < t0)) (by simp [e])] at ih'
        exact br_f (fun z => by have := (ok_sgG _ _).mp z; omega) (nm_r (nI_1 _) (nm_r (nI_1 _) ih'))
      · rw [ok_cn_f (P := fun p => decide (t p < t0)) (by simp [e])] at ih'
        exact br_t ((ok_sgG _ _).mpr (by omega)) (nm_r (nI_1 _) ih')
  have hw := hL n 0 (by omega)
  have h0 : ok_cn (fun p => decide (t p < t0)) 0 = 0 := rfl
  rw [h0, nI_0] at hw
  exact ⟨n + 1, hw⟩
theorem ok_y_match {post : Int32 → Prop} {n m : Nat} {t : Nat → Int} {t0 : Int} (hn : n ≤ 20)
    (hc : ∀ p, p < n → ∀ post : Int32 → Prop, post (ok_sg (t p) t0) → wpY_compare post (Fi, s, nI n, tg, nu, it, le, cs) (nI p) 20 (nI m))
    (hp : post (nI (ok_cn (fun p => decide (t p = t0)) n))) : ∃ k, wY_matching_18 post (nI m) Fi s (nI n) tg nu it le cs k 0 0 := by
  have hL : ∀ d i : Nat, i + d = n → wY_matching_18 post (nI m) Fi s (nI n) tg nu it le cs (d + 1) (nI (ok_cn (fun p => decide (t p = t0)) i)) (nI i) := by
    intro d
    induction d with
    | zero =>
      intro i hi
      have : i = n := by omega
      subst this
      exact br_t (nI_le (Nat.le_refl _) (by omega)) hp
    | succ d ih =>
      intro i hi
      have ih' := ih (i + 1) (by omega)
      refine br_f (nI_ge (by omega) (by omega)) ?_
      refine hc i (by omega) _ ?_
      by_cases e : t i = t0
      · rw [ok_cn_t (P := fun p => decide (t p = t0)) (by simp [e])] at ih'
        exact br_t ((ok_sg0 _ _).mpr e) (nm_r (nI_1 _) (nm_r (nI_1 _) ih'))
      · rw [ok_cn_f (P := fun p => decide (t p = t0)) (by simp [e])] at ih'
        exact br_f (fun z => e ((ok_sg0 _ _).mp z)) (nm_r (nI_1 _) ih')
  have hw := hL n 0 (by omega)
  have h0 : ok_cn (fun p => decide (t p = t0)) 0 = 0 := rfl
  rw [h0, nI_0] at hw
  exact ⟨n + 1, hw⟩
theorem ok_y_bad0 {post : Int32 → Prop} {F f : Nat} (hF : F ≤ 4) (hf : f < F) (h : post 0) : wpY_bad post (nI F, s, C, tg, nu, it, le, cs) (nI f) :=
  br_f (nI_pos (by omega)) (br_t (nI_lt hf (by omega)) h)
theorem ok_y_bad1 {post : Int32 → Prop} {F : Nat} {x : Int32} (hF : F ≤ 4) (hx : ∀ f, f < F → x ≠ nI f) (h : post 1) : wpY_bad post (nI F, s, C, tg, nu, it, le, cs) x := by
  rcases pk_ix x (show F < 2 ^ 31 by omega) with h1 | h1 | ⟨j, hj, e⟩
  · exact br_t h1 h
  · exact br_c (fun _ => h) (fun _ => br_f (Int32.not_lt.mpr h1) h)
  · exact absurd e (hx j hj)
end
