section
/-! rows pasted from kit/rows (starting texts given for pasting) -/
theorem pk_us {f : Nat → Int32} {k : Nat} {x : Int32} : upd f k x k = x := if_pos rfl
theorem pk_un {f : Nat → Int32} {k j : Nat} {x : Int32} (h : j ≠ k) : upd f k x j = f j := if_neg h
theorem pk_uLs {f : Nat → Int64} {k : Nat} {x : Int64} : vp_updL f k x k = x := if_pos rfl
theorem pk_uLn {f : Nat → Int64} {k j : Nat} {x : Int64} (h : j ≠ k) : vp_updL f k x j = f j := if_neg h
theorem pk_sub {a b : Nat} (h : b ≤ a) : nI a - nI b = nI (a - b) := by
  obtain ⟨c, rfl⟩ : ∃ c, a = c + b := ⟨a - b, by omega⟩
  rw [← nI_add, Int32.add_sub_cancel, Nat.add_sub_cancel]
theorem pk_m1 (n : Nat) : nI (n + 1) + (-1) = nI n := by
  rw [← nI_1, Int32.add_assoc, show (1 : Int32) + (-1) = 0 from rfl, Int32.add_zero]
theorem pk_mul (a b : Nat) : nI a * nI b = nI (a * b) := (Int32.ofNat_mul a b).symm
theorem pk_ix (x : Int32) {n : Nat} (hn : n < 2 ^ 31) : x < 0 ∨ nI n ≤ x ∨ ∃ j : Nat, j < n ∧ x = nI j := by
  by_cases h : x < 0
  · exact Or.inl h
  · obtain ⟨j, hj, rfl⟩ := nI_of h
    by_cases h2 : j < n
    · exact Or.inr (Or.inr ⟨j, h2, rfl⟩)
    · exact Or.inr (Or.inl (nI_le (by omega) hj))
theorem pk_le {x y : Int32} {A B : Prop} (a b : Nat) (f : a ≤ b → A) (g : b < a → B) (hx : x = nI a := by rfl) (hy : y = nI b := by rfl) (ha : a < 2 ^ 31 := by omega) (hb : b < 2 ^ 31 := by omega) : (x ≤ y → A) ∧ (¬ x ≤ y → B) := by
  subst hx hy
  rw [nI_leI ha hb]
  exact ⟨f, fun z => g (by omega)⟩
theorem pk_lt {x y : Int32} {A B : Prop} (a b : Nat) (f : a < b → A) (g : b ≤ a → B) (hx : x = nI a := by rfl) (hy : y = nI b := by rfl) (ha : a < 2 ^ 31 := by omega) (hb : b < 2 ^ 31 := by omega) : (x < y → A) ∧ (¬ x < y → B) := by
  subst hx hy
  rw [nI_ltI ha hb]
  exact ⟨f, fun z => g (by omega)⟩
theorem pk_eq {x y : Int32} {A B : Prop} (a b : Nat) (f : a = b → A) (g : a ≠ b → B) (hx : x = nI a := by rfl) (hy : y = nI b := by rfl) (ha : a < 2 ^ 31 := by omega) (hb : b < 2 ^ 31 := by omega) : (x = y → A) ∧ (¬ x = y → B) := by
  subst hx hy
  rw [nI_eq ha hb]
  exact ⟨f, g⟩
theorem pk_in {x : Int32} (n N : Nat) (h : n < N) (hx : x = nI n := by rfl) (hN : N < 2 ^ 31 := by omega) : vp_in x N := by
  subst hx
  exact vp_in_nI h hN
theorem pk_cl {x : Int32} (n : Nat) (hx : x = nI n := by rfl) (h : n < 2 ^ 31 := by omega) : x.toNatClampNeg = n := by
  subst hx
  exact nI_clamp h
theorem pk_tn {n : Nat} (h : n < 2 ^ 32) : (nI n).toBitVec.toNat = n := Nat.mod_eq_of_lt h
theorem pk_and (x : Int32) {m : Int32} (k : Nat) (hm : m.toBitVec.toNat = 2 ^ k - 1) : x &&& m = nI (x.toBitVec.toNat % 2 ^ k) := by
  apply Int32.toBitVec_inj.mp
  apply BitVec.eq_of_toNat_eq
  rw [Int32.toBitVec_and, BitVec.toNat_and, hm, Nat.and_two_pow_sub_one_eq_mod]
  show _ = (BitVec.ofNat 32 _).toNat
  rw [BitVec.toNat_ofNat]
  exact (Nat.mod_eq_of_lt (Nat.lt_of_le_of_lt (Nat.mod_le _ _) x.toBitVec.isLt)).symm
theorem pk_andE (x : Int32) {m : Int32} (k : Nat) (hm : m.toBitVec.toNat = 2 ^ k - 1) : ∃ j : Nat, j < 2 ^ k ∧ x &&& m = nI j := ⟨_, Nat.mod_lt _ (Nat.two_pow_pos k), pk_and x k hm⟩
theorem pk_lT {n : Nat} (h : n < 2 ^ 63) : (lN n).toInt = (n : Int) := lg_ofNat_toInt h
theorem pk_lLT {a b : Nat} (ha : a < 2 ^ 63) (hb : b < 2 ^ 63) : lN a < lN b ↔ a < b := by
  rw [Int64.lt_iff_toInt_lt, pk_lT ha, pk_lT hb]; omega
theorem pk_lLE {a b : Nat} (ha : a < 2 ^ 63) (hb : b < 2 ^ 63) : lN a ≤ lN b ↔ a ≤ b := by
  rw [Int64.le_iff_toInt_le, pk_lT ha, pk_lT hb]; omega
theorem pk_lEQ {a b : Nat} (ha : a < 2 ^ 63) (hb : b < 2 ^ 63) : lN a = lN b ↔ a = b := by
  rw [← Int64.toInt_inj, pk_lT ha, pk_lT hb]; omega
theorem wb_tb (n : Nat) : (lN n).toBitVec = BitVec.ofNat 64 n := rfl
theorem wb_inj {a b : Int64} (h : a.toBitVec = b.toBitVec) : a = b := Int64.toBitVec_inj.mp h
theorem wb_tn {n : Nat} (h : n < 2 ^ 64) : (lN n).toBitVec.toNat = n := by rw [wb_tb, BitVec.toNat_ofNat, Nat.mod_eq_of_lt h]
theorem wb_c : ∀ k, k < 64 → ((nI k).toInt64 &&& 63) = lN k := by decide +kernel
theorem wb_sm : ∀ k, k < 64 → (BitVec.ofNat 64 k).smod 64 = BitVec.ofNat 64 k := by decide +kernel
theorem wb_shl (n : Nat) {k : Nat} (hk : k < 64) : lN n <<< ((nI k).toInt64 &&& 63) = lN (n * 2 ^ k) := by
  rw [wb_c k hk]
  apply wb_inj
  rw [Int64.toBitVec_shiftLeft, wb_tb, wb_tb, wb_tb, wb_sm k hk]
  apply BitVec.eq_of_toNat_eq
  rw [BitVec.shiftLeft_eq', BitVec.toNat_shiftLeft, BitVec.toNat_ofNat, BitVec.toNat_ofNat, BitVec.toNat_ofNat, Nat.mod_eq_of_lt (show k < 2 ^ 64 by omega), Nat.shiftLeft_eq, Nat.mul_mod, Nat.mod_mod, ← Nat.mul_mod]
theorem u_tn {n : Nat} (h : n < 2 ^ 64) : (UInt64.ofNat n).toNat = n := Nat.mod_eq_of_lt h
theorem g_or {k p a b : Nat} (hp : 2 ^ k = p) (ha : a < p) (h : b * p + a < 2 ^ 64) : lN (b * p) ||| lN a = lN (b * p + a) := by
  subst hp
  have h1 : b * 2 ^ k ||| a = b * 2 ^ k + a := by rw [← Nat.shiftLeft_eq, Nat.shiftLeft_add_eq_or_of_lt ha]
  have h3 : UInt64.ofNat (b * 2 ^ k) ||| UInt64.ofNat a = UInt64.ofNat (b * 2 ^ k + a) := UInt64.toNat_inj.mp (by rw [UInt64.toNat_or, u_tn (by omega), u_tn (by omega), u_tn h, h1])
  have h2 := congrArg UInt64.toInt64 h3
  exact h2
theorem pf_lI {a : Nat} (h : a < 2 ^ 63) : (lN a).toInt = (a : Int) := lg_ofNat_toInt h
theorem pf_shr {a d : Nat} {D : Int64} (hD : (D.toBitVec.smod 64).toNat = d) (h : a < 2 ^ 62) : lN a >>> D = lN (a / 2 ^ d) := by
  have hd : a / 2 ^ d ≤ a := Nat.div_le_self _ _
  apply Int64.toInt_inj.mp
  have e : (lN a >>> D).toInt = (lN a).toInt >>> d := by
    rw [← hD]
    exact BitVec.toInt_sshiftRight ..
  rw [e, Int.shiftRight_eq_div_pow, pf_lI (by omega), pf_lI (by omega)]
  rfl
theorem pk_sub_toInt {a b : Nat} (ha : a < 2 ^ 30) (hb : b < 2 ^ 30) : (nI a - nI b).toInt = (a : Int) - b := by
  rw [Int32.toInt_sub, nI_toInt (by omega), nI_toInt (by omega)]
  exact Int.bmod_eq_of_le (by omega) (by omega)
end
section
/-! counting below a bound -/
def ok_cn (P : Nat → Bool) : Nat → Nat
  | 0 => 0
  | n + 1 => ok_cn P n + (P n).toNat
theorem ok_cn_t {P : Nat → Bool} {n : Nat} (h : P n = true) : ok_cn P (n + 1) = ok_cn P n + 1 := by
  show ok_cn P n + (P n).toNat = _
  rw [h]; rfl
theorem ok_cn_f {P : Nat → Bool} {n : Nat} (h : P n = false) : ok_cn P (n + 1) = ok_cn P n := by
  show ok_cn P n + (P n).toNat = _
  rw [h]; rfl
theorem ok_cn_le (P : Nat → Bool) (n : Nat) : ok_cn P n ≤ n := by
  induction n with
  | zero => exact Nat.le_refl _
  | succ n ih =>
    cases h : P n with
    | true => rw [ok_cn_t h]; omega
    | false => rw [ok_cn_f h]; omega
theorem ok_cn_congr {P Q : Nat → Bool} {n : Nat} (h : ∀ i, i < n → P i = Q i) : ok_cn P n = ok_cn Q n := by
  induction n with
  | zero => rfl
  | succ n ih =>
    show ok_cn P n + (P n).toNat = ok_cn Q n + (Q n).toNat
    rw [ih (fun i hi => h i (by omega)), h n (by omega)]
theorem ok_cn_not (P : Nat → Bool) (n : Nat) : ok_cn P n + ok_cn (fun i => !P i) n = n := by
  induction n with
  | zero => rfl
  | succ n ih =>
    cases h : P n with
    | true => rw [ok_cn_t h, ok_cn_f (P := fun i => !P i) (by simp [h])]; omega
    | false => rw [ok_cn_f h, ok_cn_t (P := fun i => !P i) (by simp [h])]; omega
theorem ok_cn_rm {P : Nat → Bool} {a : Nat} (hP : P a = true) : ∀ m, a < m → ok_cn P m = ok_cn (fun i => P i && decide (i ≠ a)) m + 1 := by
  intro m
  induction m with
  | zero => intro h; omega
  | succ m ih =>
    intro h
    by_cases e : a = m
    · subst e
      rw [ok_cn_t hP, ok_cn_f (P := fun i => P i && decide (i ≠ a)) (by simp)]
      congr 1
      exact ok_cn_congr (fun i hi => by simp [show i ≠ a by omega])
    · have ih' := ih (by omega)
      cases hm : P m with
      | true => rw [ok_cn_t hm, ok_cn_t (P := fun i => P i && decide (i ≠ a)) (by simp [hm]; omega), ih']
      | false => rw [ok_cn_f hm, ok_cn_f (P := fun i => P i && decide (i ≠ a)) (by simp [hm]), ih']
theorem ok_cn_inj {m : Nat} {g : Nat → Nat} : ∀ (n : Nat) (P : Nat → Bool), (∀ i, i < n → g i < m) → (∀ i j, i < j → j < n → g i ≠ g j) → ok_cn (fun i => P (g i)) n ≤ ok_cn P m := by
  intro n
  induction n with
  | zero => intro P _ _; exact Nat.zero_le _
  | succ n ih =>
    intro P hm hi
    cases h : P (g n) with
    | false =>
      rw [ok_cn_f (P := fun i => P (g i)) h]
      exact ih P (fun i hi => hm i (by omega)) (fun i j h1 h2 => hi i j h1 (by omega))
    | true =>
      rw [ok_cn_t (P := fun i => P (g i)) h, ok_cn_rm h m (hm n (by omega))]
      have e : ok_cn (fun i => P (g i)) n = ok_cn (fun i => P (g i) && decide (g i ≠ g n)) n := ok_cn_congr (fun i h1 => by
        have := hi i n h1 (by omega)
        simp [this])
      rw [e]
      have := ih (fun i => P i && decide (i ≠ g n)) (fun i hi => hm i (by omega)) (fun i j h1 h2 => hi i j h1 (by omega))
      omega
theorem ok_cn_perm {n : Nat} {g : Nat → Nat} (P : Nat → Bool) (hm : ∀ i, i < n → g i < n) (hi : ∀ i j, i < j → j < n → g i ≠ g j) : ok_cn (fun i => P (g i)) n = ok_cn P n := by
  have h1 := ok_cn_inj n P hm hi
  have h2 := ok_cn_inj n (fun i => !P i) hm hi
  have h3 := ok_cn_not P n
  have h4 := ok_cn_not (fun i => P (g i)) n
  have h5 : ok_cn (fun i => !(fun i => P (g i)) i) n = ok_cn (fun i => (fun i => !P i) (g i)) n := rfl
  omega
theorem ok_cn_lt (p : Nat) : ∀ n, p ≤ n → ok_cn (fun q => decide (q < p)) n = p := by
  intro n
  induction n with
  | zero => intro h; show 0 = p; omega
  | succ n ih =>
    intro h
    by_cases e : p = n + 1
    · subst e
      have : ok_cn (fun q => decide (q < n + 1)) n + ok_cn (fun i => !decide (i < n + 1)) n = n := ok_cn_not (fun q => decide (q < n + 1)) n
      have h0 : ∀ m, m ≤ n → ok_cn (fun i => !decide (i < n + 1)) m = 0 := by
        intro m
        induction m with
        | zero => intro _; rfl
        | succ m ihm => intro hm; rw [ok_cn_f (by simp; omega)]; exact ihm (by omega)
      rw [ok_cn_t (P := fun q => decide (q < n + 1)) (by simp)]
      have := h0 n (Nat.le_refl _)
      omega
    · rw [ok_cn_f (P := fun q => decide (q < p)) (by simp; omega)]
      exact ih (by omega)
theorem ok_cn_ex {P : Nat → Bool} : ∀ n, 0 < ok_cn P n → ∃ i, i < n ∧ P i = true := by
  intro n
  induction n with
  | zero => intro h; exact absurd h (Nat.lt_irrefl 0)
  | succ n ih =>
    intro h
    cases e : P n with
    | true => exact ⟨n, by omega, e⟩
    | false =>
      rw [ok_cn_f e] at h
      obtain ⟨i, h1, h2⟩ := ih h
      exact ⟨i, by omega, h2⟩
theorem ok_surj {n : Nat} {g : Nat → Nat} (hm : ∀ i, i < n → g i < n) (hi : ∀ i j, i < j → j < n → g i ≠ g j) (e : Nat) (he : e < n) : ∃ p, p < n ∧ g p = e := by
  have h1 := ok_cn_perm (fun i => decide (i = e)) hm hi
  have h2 := ok_cn_rm (P := fun i => decide (i = e)) (a := e) (by simp) n he
  obtain ⟨p, hp, h⟩ := ok_cn_ex (P := fun i => decide (g i = e)) n (by omega)
  exact ⟨p, hp, by simpa using h⟩
theorem ok_cn_mono {P : Nat → Bool} : ∀ n, (∀ i j, i < j → j < n → P j = true → P i = true) → ∀ p, p < n → (P p = true ↔ p < ok_cn P n) := by
  intro n
  induction n with
  | zero => intro _ p hp; omega
  | succ n ih =>
    intro h p hp
    have ih' := ih (fun i j h1 h2 => h i j h1 (by omega))
    have hle := ok_cn_le P n
    cases e : P n with
    | true =>
      have all : ∀ i, i < n → P i = true := fun i hi => h i n hi (by omega) e
      have hc : ok_cn P n = n := by
        have : ok_cn P n = ok_cn (fun q => decide (q < n)) n := ok_cn_congr (fun i hi => by rw [all i hi]; simp [hi])
        rw [this, ok_cn_lt n n (Nat.le_refl _)]
      rw [ok_cn_t e, hc]
      by_cases q : p = n
      · subst q; simp [e]
      · simp [all p (by omega)]; omega
    | false =>
      rw [ok_cn_f e]
      by_cases q : p = n
      · subst q
        simp [e]; omega
      · exact ih' p (by omega)
/-! the sign of a comparison, and numbers written by digits -/
def ok_sg (a b : Int) : Int32 := if a < b then -1 else if a = b then 0 else 1
theorem ok_sg_lt {a b : Int} (h : a < b) : ok_sg a b = -1 := if_pos h
theorem ok_sg_eq {a b : Int} (h : a = b) : ok_sg a b = 0 := by
  unfold ok_sg; rw [if_neg (by omega), if_pos h]
theorem ok_sg_gt {a b : Int} (h : b < a) : ok_sg a b = 1 := by
  unfold ok_sg; rw [if_neg (by omega), if_neg (by omega)]
theorem ok_tri (a b : Int) : a < b ∨ a = b ∨ b < a := by omega
theorem ok_sg0 (a b : Int) : ok_sg a b = 0 ↔ a = b := by
  rcases ok_tri a b with h | h | h
  · rw [ok_sg_lt h]; exact ⟨fun z => absurd z (by decide), fun z => by omega⟩
  · rw [ok_sg_eq h]; exact ⟨fun _ => h, fun _ => rfl⟩
  · rw [ok_sg_gt h]; exact ⟨fun z => absurd z (by decide), fun z => by omega⟩
theorem ok_sgN (a b : Int) : ok_sg a b < 0 ↔ a < b := by
  rcases ok_tri a b with h | h | h
  · rw [ok_sg_lt h]; exact ⟨fun _ => h, fun _ => by decide⟩
  · rw [ok_sg_eq h]; exact ⟨fun z => absurd z (by decide), fun z => by omega⟩
  · rw [ok_sg_gt h]; exact ⟨fun z => absurd z (by decide), fun z => by omega⟩
theorem ok_sgP (a b : Int) : 0 < ok_sg a b ↔ b < a := by
  rcases ok_tri a b with h | h | h
  · rw [ok_sg_lt h]; exact ⟨fun z => absurd z (by decide), fun z => by omega⟩
  · rw [ok_sg_eq h]; exact ⟨fun z => absurd z (by decide), fun z => by omega⟩
  · rw [ok_sg_gt h]; exact ⟨fun _ => h, fun _ => by decide⟩
theorem ok_sgG (a b : Int) : 0 ≤ ok_sg a b ↔ b ≤ a := by
  rcases ok_tri a b with h | h | h
  · rw [ok_sg_lt h]; exact ⟨fun z => absurd z (by decide), fun z => by omega⟩
  · rw [ok_sg_eq h]; exact ⟨fun _ => by omega, fun _ => by decide⟩
  · rw [ok_sg_gt h]; exact ⟨fun _ => by omega, fun _ => by decide⟩
theorem ok_sg_neg (a b : Int) : -(ok_sg a b) = ok_sg (-a) (-b) := by
  rcases ok_tri a b with h | h | h
  · rw [ok_sg_lt h, ok_sg_gt (by omega)]; decide
  · rw [ok_sg_eq h, ok_sg_eq (by omega)]; decide
  · rw [ok_sg_gt h, ok_sg_lt (by omega)]
theorem ok_hn {B x y a b : Int} (h : x - y < B) (hB : 0 ≤ B) (hab : a < b) : a * B + x < b * B + y := by
  have h1 : (a + 1) * B ≤ b * B := Int.mul_le_mul_of_nonneg_right (by omega) hB
  rw [Int.add_mul, Int.one_mul] at h1
  omega
theorem ok_sgB {B x y a b : Int} (h1 : x - y < B) (h2 : y - x < B) (hB : 0 ≤ B) : ok_sg (a * B + x) (b * B + y) = if a = b then ok_sg x y else ok_sg a b := by
  by_cases e : a = b
  · subst e
    rw [if_pos rfl]
    rcases ok_tri x y with h | h | h
    · rw [ok_sg_lt h, ok_sg_lt (by omega)]
    · rw [ok_sg_eq h, ok_sg_eq (by omega)]
    · rw [ok_sg_gt h, ok_sg_gt (by omega)]
  · rw [if_neg e]
    rcases ok_tri a b with h | h | h
    · rw [ok_sg_lt h, ok_sg_lt (ok_hn h1 hB h)]
    · exact absurd h e
    · rw [ok_sg_gt h, ok_sg_gt (ok_hn h2 hB h)]
def ok_H (B : Int) (K : Nat → Int) : Nat → Int
  | 0 => 0
  | f + 1 => ok_H B K f * B + K f
theorem ok_H_0 (B : Int) (K L : Nat → Int) : ok_H B K 0 = ok_H B L 0 := by
  have h1 : ok_H B K 0 = 0 := rfl
  have h2 : ok_H B L 0 = 0 := rfl
  rw [h1, h2]
theorem ok_H_congr {B : Int} {K L : Nat → Int} : ∀ m, (∀ f, f < m → K f = L f) → ok_H B K m = ok_H B L m := by
  intro m
  induction m with
  | zero => intro _; rfl
  | succ m ih =>
    intro h
    show ok_H B K m * B + K m = ok_H B L m * B + L m
    rw [ih (fun f hf => h f (by omega)), h m (by omega)]
theorem ok_H_ne {B : Int} {K L : Nat → Int} (hB : 0 ≤ B) (j : Nat) (hj : ok_H B K j ≠ ok_H B L j) : ∀ d, (∀ f, f < j + d → K f - L f < B ∧ L f - K f < B) → ok_sg (ok_H B K (j + d)) (ok_H B L (j + d)) = ok_sg (ok_H B K j) (ok_H B L j) := by
  intro d
  induction d with
  | zero => intro _; rfl
  | succ d ih =>
    intro h
    have ih' := ih (fun f hf => h f (by omega))
    have hd := h (j + d) (by omega)
    show ok_sg (ok_H B K (j + d) * B + K (j + d)) (ok_H B L (j + d) * B + L (j + d)) = _
    rw [ok_sgB hd.1 hd.2 hB]
    have hne : ok_H B K (j + d) ≠ ok_H B L (j + d) := fun z => by
      rw [ok_sg_eq z] at ih'
      exact hj ((ok_sg0 _ _).mp ih'.symm)
    rw [if_neg hne, ih']
theorem ok_H_at {B : Int} {K L : Nat → Int} (hB : 0 ≤ B) {j m : Nat} (hj : ok_H B K j = ok_H B L j) (hm : j < m) (hne : K j ≠ L j) (h : ∀ f, f < m → K f - L f < B ∧ L f - K f < B) : ok_sg (ok_H B K m) (ok_H B L m) = ok_sg (K j) (L j) := by
  have hd := h j hm
  have e : ok_sg (ok_H B K (j + 1)) (ok_H B L (j + 1)) = ok_sg (K j) (L j) := by
    show ok_sg (ok_H B K j * B + K j) (ok_H B L j * B + L j) = _
    rw [ok_sgB hd.1 hd.2 hB, if_pos hj]
  have hne' : ok_H B K (j + 1) ≠ ok_H B L (j + 1) := fun z => by
    rw [ok_sg_eq z] at e
    exact hne ((ok_sg0 _ _).mp e.symm)
  have := ok_H_ne hB (j + 1) hne' (m - (j + 1)) (fun f hf => h f (by omega))
  rw [show j + 1 + (m - (j + 1)) = m by omega, e] at this
  exact this
theorem ok_H_s {B : Int} {K L : Nat → Int} {j : Nat} (hj : ok_H B K j = ok_H B L j) (h : K j = L j) : ok_H B K (j + 1) = ok_H B L (j + 1) := by
  show ok_H B K j * B + K j = ok_H B L j * B + L j
  rw [hj, h]
/-! a text packed by nine bits a letter -/
def ok_pk (d : Nat → Nat) : Nat → Nat
  | 0 => 0
  | i + 1 => ok_pk d i * 512 + d i
theorem ok_pk_H (d : Nat → Nat) (m : Nat) : ((ok_pk d m : Nat) : Int) = ok_H 512 (fun i => (d i : Int)) m := by
  induction m with
  | zero => rfl
  | succ m ih =>
    show ((ok_pk d m * 512 + d m : Nat) : Int) = ok_H 512 (fun i => (d i : Int)) m * 512 + (d m : Int)
    rw [← ih, Int.natCast_add, Int.natCast_mul]
    rfl
theorem ok_pk_congr {d e : Nat → Nat} : ∀ m, (∀ i, i < m → d i = e i) → ok_pk d m = ok_pk e m := by
  intro m
  induction m with
  | zero => intro _; rfl
  | succ m ih =>
    intro h
    show ok_pk d m * 512 + d m = ok_pk e m * 512 + e m
    rw [ih (fun f hf => h f (by omega)), h m (by omega)]
theorem ok_pk_lt {d : Nat → Nat} : ∀ m, (∀ i, i < m → d i < 512) → ok_pk d m < 512 ^ m := by
  intro m
  induction m with
  | zero => intro _; exact Nat.zero_lt_one
  | succ m ih =>
    intro h
    have h1 := ih (fun i hi => h i (by omega))
    have h2 := h m (by omega)
    show ok_pk d m * 512 + d m < 512 ^ (m + 1)
    rw [Nat.pow_succ]
    omega
theorem ok_pk_div {d : Nat → Nat} (m : Nat) : ∀ j, (∀ i, i < m + j → d i < 512) → ok_pk d (m + j) / 512 ^ j = ok_pk d m := by
  intro j
  induction j with
  | zero => intro _; exact Nat.div_one _
  | succ j ih =>
    intro h
    have h1 := ih (fun i hi => h i (by omega))
    have h2 := h (m + j) (by omega)
    show (ok_pk d (m + j) * 512 + d (m + j)) / 512 ^ (j + 1) = _
    rw [Nat.pow_succ, Nat.mul_comm (512 ^ j) 512, ← Nat.div_div_eq_div_mul, show (ok_pk d (m + j) * 512 + d (m + j)) / 512 = ok_pk d (m + j) by omega, h1]
theorem ok_pk_0 {d : Nat → Nat} (m : Nat) (h : ∀ i, m ≤ i → d i = 0) : ∀ j, ok_pk d (m + j) = ok_pk d m * 512 ^ j := by
  intro j
  induction j with
  | zero => exact (Nat.mul_one _).symm
  | succ j ih =>
    show ok_pk d (m + j) * 512 + d (m + j) = _
    rw [ih, h (m + j) (by omega), Nat.pow_succ, Nat.add_zero, Nat.mul_assoc]
/-! copies of a stretch of cells -/
def ok_cp {A : Type} (g : A → A) (a : Nat → A) (src dst k : Nat) : Nat → A := fun c => if dst ≤ c ∧ c < dst + k then g (a (src + (c - dst))) else a c
theorem ok_cp_0 {A : Type} (g : A → A) (a : Nat → A) (src dst : Nat) : ok_cp g a src dst 0 = a := by
  funext c
  exact if_neg (by omega)
theorem ok_cp_in {A : Type} (g : A → A) (a : Nat → A) (src dst k : Nat) {i : Nat} (h : i < k) : ok_cp g a src dst k (dst + i) = g (a (src + i)) := by
  unfold ok_cp
  rw [if_pos (by omega), show dst + i - dst = i by omega]
theorem ok_cp_out {A : Type} (g : A → A) (a : Nat → A) (src dst k : Nat) {c : Nat} (h : c < dst ∨ dst + k ≤ c) : ok_cp g a src dst k c = a c := if_neg (by omega)
theorem ok_cp_s {g : Int32 → Int32} {a : Nat → Int32} {src dst k : Nat} (h : src + k < dst ∨ dst + k ≤ src + k) : upd (ok_cp g a src dst k) (dst + k) (g (ok_cp g a src dst k (src + k))) = ok_cp g a src dst (k + 1) := by
  rw [ok_cp_out g a src dst k h]
  funext c
  unfold upd ok_cp
  by_cases e : c = dst + k
  · subst e
    rw [if_pos rfl, if_pos (by omega), show src + (dst + k - dst) = src + k by omega]
  · rw [if_neg e]
    by_cases e2 : dst ≤ c ∧ c < dst + k
    · rw [if_pos e2, if_pos (by omega)]
    · rw [if_neg e2, if_neg (by omega)]
theorem ok_cp_sL {g : Int64 → Int64} {a : Nat → Int64} {src dst k : Nat} (h : src + k < dst ∨ dst + k ≤ src + k) : vp_updL (ok_cp g a src dst k) (dst + k) (g (ok_cp g a src dst k (src + k))) = ok_cp g a src dst (k + 1) := by
  rw [ok_cp_out g a src dst k h]
  funext c
  unfold vp_updL ok_cp
  by_cases e : c = dst + k
  · subst e
    rw [if_pos rfl, if_pos (by omega), show src + (dst + k - dst) = src + k by omega]
  · rw [if_neg e]
    by_cases e2 : dst ≤ c ∧ c < dst + k
    · rw [if_pos e2, if_pos (by omega)]
    · rw [if_neg e2, if_neg (by omega)]
end
section
/-! the flags of a field -/
def ok_bit (s : Int32) (f : Nat) (m : Int32) : Bool := decide (¬ ((s >>> ((4 * nI f) &&& 31)) &&& m) = 0)
theorem ok_two (x : Int32) (i : Nat) (m : Int32) (hm : m.toBitVec = BitVec.twoPow 32 i) : x &&& m = 0 ∨ x &&& m = m := by
  have h : (x &&& m).toBitVec = if x.toBitVec.getLsbD i then BitVec.twoPow 32 i else 0#32 := by
    rw [Int32.toBitVec_and, hm, BitVec.and_twoPow]
  cases e : x.toBitVec.getLsbD i with
  | true => rw [e, if_pos rfl, ← hm] at h; exact Or.inr (Int32.toBitVec_inj.mp h)
  | false => rw [e] at h; exact Or.inl (Int32.toBitVec_inj.mp h)
theorem ok_b0 {s : Int32} {f : Nat} {m : Int32} (h : ok_bit s f m = false) : ((s >>> ((4 * nI f) &&& 31)) &&& m) = 0 := by
  simpa [ok_bit] using h
theorem ok_b1 {s : Int32} {f : Nat} {m : Int32} (h : ok_bit s f m = true) : ¬ ((s >>> ((4 * nI f) &&& 31)) &&& m) = 0 := by
  simpa [ok_bit] using h
theorem ok_y1 {s : Int32} {f : Nat} (h : ok_bit s f 1 = true) : ((s >>> ((4 * nI f) &&& 31)) &&& 1) = 1 :=
  (ok_two _ 0 1 (by decide)).resolve_left (ok_b1 h)
theorem ok_n1 {s : Int32} {f : Nat} (h : ok_bit s f 1 = false) : ¬ ((s >>> ((4 * nI f) &&& 31)) &&& 1) = 1 := by
  rw [ok_b0 h]; decide
theorem ok_y2 {s : Int32} {f : Nat} (h : ok_bit s f 2 = true) : ((s >>> ((4 * nI f) &&& 31)) &&& 2) = 2 :=
  (ok_two _ 1 2 (by decide)).resolve_left (ok_b1 h)
theorem ok_n2 {s : Int32} {f : Nat} (h : ok_bit s f 2 = false) : ¬ ((s >>> ((4 * nI f) &&& 31)) &&& 2) = 2 := by
  rw [ok_b0 h]; decide
theorem ok_y4 {s : Int32} {f : Nat} (h : ok_bit s f 4 = true) : ((s >>> ((4 * nI f) &&& 31)) &&& 4) = 4 :=
  (ok_two _ 2 4 (by decide)).resolve_left (ok_b1 h)
theorem ok_n4 {s : Int32} {f : Nat} (h : ok_bit s f 4 = false) : ¬ ((s >>> ((4 * nI f) &&& 31)) &&& 4) = 4 := by
  rw [ok_b0 h]; decide
/-! the content of a cell: of the component (filled, value), of the reference (null, int, length, letters) -/
abbrev ok_CX : Type := Int32 × Int64
abbrev ok_CY : Type := Int32 × Int32 × Int32 × (Nat → Int32)
def ok_X (fi : Nat → Int32) (va : Nat → Int64) (c : Nat) : ok_CX := (fi c, va c)
def ok_ch (cs : Nat → Int32) (c : Nat) : Nat → Int32 := fun i => if i < 6 then cs (c * 6 + i) else 0
def ok_Y (nu it le cs : Nat → Int32) (c : Nat) : ok_CY := (nu c, it c, le c, ok_ch cs c)
def ok_dg (le : Int32) (ch : Nat → Int32) (i : Nat) : Nat := if i < le.toNatClampNeg then (ch i).toNatClampNeg + 1 else 0
def ok_tx (le : Int32) (ch : Nat → Int32) : Prop := ∃ l : Nat, l ≤ 6 ∧ le = nI l ∧ ∀ i, i < l → ∃ q : Nat, q < 256 ∧ ch i = nI q
theorem ok_dg_lt {le : Int32} {ch : Nat → Int32} (h : ok_tx le ch) (i : Nat) : ok_dg le ch i < 512 := by
  obtain ⟨l, hl, rfl, hc⟩ := h
  unfold ok_dg
  rw [nI_clamp (by omega)]
  by_cases e : i < l
  · obtain ⟨q, hq, e2⟩ := hc i e
    rw [if_pos e, e2, nI_clamp (by omega)]; omega
  · rw [if_neg e]; omega
theorem ok_pk54 {le : Int32} {ch : Nat → Int32} (h : ok_tx le ch) : ok_pk (ok_dg le ch) 6 < 18014398509481984 :=
  ok_pk_lt 6 (fun i _ => ok_dg_lt h i)
def ok_V (s : Int32) (f : Nat) (y : ok_CY) : Int := if ok_bit s f 1 = true then (ok_pk (ok_dg y.2.2.1 y.2.2.2) 6 : Nat) else y.2.1.toInt
def ok_K (s : Int32) (f : Nat) (y : ok_CY) : Int := if y.1 = 0 then (if ok_bit s f 2 = true then - ok_V s f y else ok_V s f y) else (if ok_bit s f 4 = true then -9223372036854775808 else 9223372036854775808)
def ok_WF (s : Int32) (f : Nat) (y : ok_CY) : Prop := (y.1 = 0 ∨ y.1 = 1) ∧ (y.1 = 0 → ok_bit s f 1 = true → ok_tx y.2.2.1 y.2.2.2)
def ok_CR (s : Int32) (f : Nat) (x : ok_CX) (y : ok_CY) : Prop := (x.1 = 0 ∧ y.1 = 1) ∨ (x.1 = 1 ∧ y.1 = 0 ∧ (ok_bit s f 1 = false → x.2 = y.2.1.toInt64) ∧ (ok_bit s f 1 = true → ok_tx y.2.2.1 y.2.2.2 ∧ x.2 = lN (ok_pk (ok_dg y.2.2.1 y.2.2.2) 6)))
theorem ok_CR_WF {s : Int32} {f : Nat} {x : ok_CX} {y : ok_CY} (h : ok_CR s f x y) : ok_WF s f y := by
  rcases h with ⟨_, h⟩ | ⟨_, h, _, h2⟩
  · exact ⟨Or.inr h, fun z => absurd (h.symm.trans z) (by decide)⟩
  · exact ⟨Or.inl h, fun _ z => (h2 z).1⟩
theorem ok_V_b {s : Int32} {f : Nat} {y : ok_CY} (h : ok_WF s f y) (h0 : y.1 = 0) : -9223372036854775808 < ok_V s f y ∧ ok_V s f y < 9223372036854775808 := by
  unfold ok_V
  by_cases e : ok_bit s f 1 = true
  · rw [if_pos e]
    have := ok_pk54 (h.2 h0 e)
    omega
  · rw [if_neg e]
    have h1 := Int32.toInt_lt y.2.1
    have h2 := Int32.le_toInt y.2.1
    omega
theorem ok_K_b {s : Int32} {f : Nat} {y : ok_CY} (h : ok_WF s f y) : -9223372036854775808 ≤ ok_K s f y ∧ ok_K s f y ≤ 9223372036854775808 := by
  unfold ok_K
  by_cases e : y.1 = 0
  · have := ok_V_b h e
    rw [if_pos e]
    split <;> omega
  · rw [if_neg e]
    split <;> omega
theorem ok_CR_V {s : Int32} {f : Nat} {x : ok_CX} {y : ok_CY} (h : ok_CR s f x y) (h0 : y.1 = 0) : x.2.toInt = ok_V s f y := by
  rcases h with ⟨_, h⟩ | ⟨_, h, h1, h2⟩
  · exact absurd (h.symm.trans h0) (by decide)
  · unfold ok_V
    cases e : ok_bit s f 1 with
    | true =>
      obtain ⟨h3, h4⟩ := h2 e
      rw [if_pos rfl, h4, pk_lT (Nat.lt_trans (ok_pk54 h3) (by decide))]
    | false =>
      rw [if_neg (by decide), h1 e, Int32.toInt_toInt64]
def ok_nX (x : ok_CX) : ok_CX := (vp_nar .boolean x.1, x.2)
def ok_nY (y : ok_CY) : ok_CY := (vp_nar .boolean y.1, y.2)
theorem ok_nar0 : vp_nar .boolean 0 = 0 := by decide
theorem ok_nar1 : vp_nar .boolean 1 = 1 := by decide
theorem ok_nar_of {x : Int32} (h : x = 0 ∨ x = 1) : vp_nar .boolean x = x := by
  rcases h with h | h
  · rw [h]; exact ok_nar0
  · rw [h]; exact ok_nar1
theorem ok_WF_n {s : Int32} {f : Nat} {y : ok_CY} (h : ok_WF s f y) : ok_nY y = y := Prod.ext (ok_nar_of h.1) rfl
theorem ok_CR_n {s : Int32} {f : Nat} {x : ok_CX} {y : ok_CY} (h : ok_CR s f x y) : ok_nX x = x ∧ ok_nY y = y :=
  ⟨Prod.ext (ok_nar_of (h.elim (fun z => Or.inl z.1) (fun z => Or.inr z.1))) rfl, ok_WF_n (ok_CR_WF h)⟩
/-! the rank of a tuple's first m fields -/
def ok_B : Int := 73786976294838206464
theorem ok_B0 : 0 ≤ ok_B := by decide
theorem ok_Bb {a b : Int} (ha : -9223372036854775808 ≤ a ∧ a ≤ 9223372036854775808) (hb : -9223372036854775808 ≤ b ∧ b ≤ 9223372036854775808) : a - b < ok_B ∧ b - a < ok_B := by
  unfold ok_B; omega
def ok_T (s : Int32) (nu it le cs : Nat → Int32) (m e : Nat) : Int := ok_H ok_B (fun f => ok_K s f (ok_Y nu it le cs (e * 4 + f))) m
theorem ok_T_congr {s : Int32} {nu it le cs nu' it' le' cs' : Nat → Int32} {m e e' : Nat} (h : ∀ f, f < m → ok_Y nu' it' le' cs' (e' * 4 + f) = ok_Y nu it le cs (e * 4 + f)) : ok_T s nu' it' le' cs' m e' = ok_T s nu it le cs m e :=
  ok_H_congr m (fun f hf => by rw [h f hf])
theorem ok_idx (r f : Nat) : nI r * 4 + nI f = nI (r * 4 + f) := by
  show nI r * nI 4 + nI f = _
  rw [pk_mul, nI_add]
theorem ok_idx6 (c i : Nat) : nI c * 6 + nI i = nI (c * 6 + i) := by
  show nI c * nI 6 + nI i = _
  rw [pk_mul, nI_add]
theorem ok_idx24 (c i : Nat) : nI c * 24 + nI i = nI (c * 24 + i) := by
  show nI c * nI 24 + nI i = _
  rw [pk_mul, nI_add]
theorem ok_80 (f : Nat) : 80 + nI f = nI (80 + f) := by
  show nI 80 + nI f = _
  rw [nI_add]
theorem ok_20 (f : Nat) : 20 * 4 + nI f = nI (80 + f) := by
  show nI 20 * nI 4 + nI f = _
  rw [pk_mul, nI_add]
end
section
/-! the reference's inner methods, each by its value -/
section
variable {Fi s C : Int32} {tg nu it le cs : Nat → Int32}
theorem ok_y_text {post : Int32 → Prop} {f : Nat} (h1 : ok_bit s f 1 = true → post 1) (h0 : ok_bit s f 1 = false → post 0) : wpY_text post (Fi, s, C, tg, nu, it, le, cs) (nI f) := by
  cases e : ok_bit s f 1 with
  | true => exact br_t (ok_y1 e) (h1 e)
  | false => exact br_f (ok_n1 e) (h0 e)
theorem ok_dg_x {c i : Nat} (hc : c < 84) (hi : i < 6) (h : ok_tx (le c) (ok_ch cs c)) {P : Int32 → Prop} (hP : P (nI (ok_dg (le c) (ok_ch cs c) i) - 1)) : ((le (nI c).toNatClampNeg) ≤ nI i → P (-1)) ∧ (¬ (le (nI c).toNatClampNeg) ≤ nI i → vp_in (nI c * 6 + nI i) 504 ∧ P (cs (nI c * 6 + nI i).toNatClampNeg)) := by
  obtain ⟨l, hl, e, hq⟩ := h
  rw [nI_clamp (by omega), ok_idx6, nI_clamp (n := c * 6 + i) (by omega)]
  rw [e] at hP ⊢
  unfold ok_dg at hP
  rw [nI_clamp (by omega)] at hP
  refine pk_le l i (fun h1 => ?_) (fun h1 => ⟨vp_in_nI (by omega) (by omega), ?_⟩)
  · rw [if_neg (by omega)] at hP
    exact hP
  · obtain ⟨q, hq1, hq2⟩ := hq i h1
    have e3 : ok_ch cs c i = cs (c * 6 + i) := if_pos hi
    rw [if_pos h1, hq2, nI_clamp (by omega), nI_pred] at hP
    rw [← e3, hq2]
    exact hP
theorem ok_y_val {post : Int32 → Prop} {a b : Nat} (ha : a < 84) (hb : b < 84) (ta : ok_tx (le a) (ok_ch cs a)) (tb : ok_tx (le b) (ok_ch cs b))
    (hp : post (ok_sg (ok_pk (ok_dg (le a) (ok_ch cs a)) 6 : Nat) (ok_pk (ok_dg (le b) (ok_ch cs b)) 6 : Nat))) :
    ∀ d i : Nat, i + d = 6 → ok_H 512 (fun i => (ok_dg (le a) (ok_ch cs a) i : Int)) i = ok_H 512 (fun i => (ok_dg (le b) (ok_ch cs b) i : Int)) i →
      wY_values_47 post (nI a) (nI b) Fi s C tg nu it le cs (d + 1) (nI i) := by
  intro d
  induction d with
  | zero =>
    intro i hi h
    have hi6 : i = 6 := by omega
    subst hi6
    rw [← ok_pk_H, ← ok_pk_H] at h
    rw [ok_sg_eq h] at hp
    exact br_t (by decide) hp
  | succ d ih =>
    intro i hi h
    refine br_f (nI_ge (b := 6) (by omega) (by decide)) ⟨vp_in_nI ha (by omega), ?_⟩
    refine ok_dg_x (P := fun z => wY_values_81 post (wY_values_47 post (nI a) (nI b) Fi s C tg nu it le cs (d + 1)) (nI a) (nI b) (nI i) z Fi s C tg nu it le cs) ha (by omega) ta ?_
    refine ⟨vp_in_nI hb (by omega), ?_⟩
    refine ok_dg_x (P := fun z => wY_values_110 post (wY_values_47 post (nI a) (nI b) Fi s C tg nu it le cs (d + 1)) (nI a) (nI b) (nI i) (nI (ok_dg (le a) (ok_ch cs a) i) - 1) z Fi s C tg nu it le cs) hb (by omega) tb ?_
    have la := ok_dg_lt ta i
    have lb := ok_dg_lt tb i
    have hall : ∀ f, f < 6 → (ok_dg (le a) (ok_ch cs a) f : Int) - (ok_dg (le b) (ok_ch cs b) f : Int) < 512 ∧ (ok_dg (le b) (ok_ch cs b) f : Int) - (ok_dg (le a) (ok_ch cs a) f : Int) < 512 := fun f _ => by
      have h1 := ok_dg_lt ta f
      have h2 := ok_dg_lt tb f
      omega
    have hat := ok_H_at (B := 512) (K := fun i => (ok_dg (le a) (ok_ch cs a) i : Int)) (L := fun i => (ok_dg (le b) (ok_ch cs b) i : Int)) (by decide) h (show i < 6 by omega)
    have hs := ok_H_s (B := 512) (K := fun i => (ok_dg (le a) (ok_ch cs a) i : Int)) (L := fun i => (ok_dg (le b) (ok_ch cs b) i : Int)) h
    rw [← ok_pk_H, ← ok_pk_H] at hat
    try dsimp only at hat
    try dsimp only at hs
    generalize ok_dg (le a) (ok_ch cs a) i = x at *
    generalize ok_dg (le b) (ok_ch cs b) i = y at *
    have xt : (nI x - 1).toInt = (x : Int) - 1 := pk_sub_toInt (b := 1) (by omega) (by decide)
    have yt : (nI y - 1).toInt = (y : Int) - 1 := pk_sub_toInt (b := 1) (by omega) (by decide)
    by_cases e : x = y
    · subst e
      refine br_t rfl (nm_r (nI_1 i) ?_)
      exact ih (i + 1) (by omega) (hs rfl)
    · have hv := hat (by omega) hall
      rw [hv] at hp
      refine br_f (fun z => e (by have := congrArg Int32.toInt z; omega)) ?_
      by_cases e2 : y ≤ x
      · refine br_t (by rw [Int32.le_iff_toInt_le]; omega) ?_
        rw [ok_sg_gt (by omega)] at hp
        exact hp
      · refine br_f (by rw [Int32.le_iff_toInt_le]; omega) ?_
        rw [ok_sg_lt (by omega)] at hp
        exact hp
theorem ok_y_values {post : Int32 → Prop} {a b f : Nat} {t : Int32} (ha : a < 84) (hb : b < 84) (wa : ok_WF s f (ok_Y nu it le cs a)) (wb : ok_WF s f (ok_Y nu it le cs b)) (na : nu a = 0) (nb : nu b = 0)
    (ht : (ok_bit s f 1 = true ∧ t = 1) ∨ (ok_bit s f 1 = false ∧ t = 0)) (hp : post (ok_sg (ok_V s f (ok_Y nu it le cs a)) (ok_V s f (ok_Y nu it le cs b)))) :
    wpY_values post (Fi, s, C, tg, nu, it, le, cs) (nI a) (nI b) t := by
  unfold ok_V at hp
  rcases ht with ⟨e, rfl⟩ | ⟨e, rfl⟩
  · rw [e, if_pos rfl, if_pos rfl] at hp
    have hw := ok_y_val (Fi := Fi) (s := s) (C := C) (tg := tg) (nu := nu) (it := it) ha hb (wa.2 na e) (wb.2 nb e) hp 6 0 rfl (ok_H_0 _ _ _)
    rw [nI_0] at hw
    exact br_f (by decide) ⟨7, hw⟩
  · rw [e, if_neg (by decide), if_neg (by decide)] at hp
    have ia : vp_in (nI a) 84 := vp_in_nI ha (by omega)
    have ib : vp_in (nI b) 84 := vp_in_nI hb (by omega)
    have ca : (nI a).toNatClampNeg = a := nI_clamp (by omega)
    have cb : (nI b).toNatClampNeg = b := nI_clamp (by omega)
    have hp' : post (ok_sg (it a).toInt (it b).toInt) := hp
    refine br_t rfl ⟨ia, ib, ?_⟩
    rw [ca, cb]
    rcases ok_tri (it a).toInt (it b).toInt with h | h | h
    · rw [ok_sg_lt h] at hp'
      exact br_f (by rw [Int32.le_iff_toInt_le]; omega) hp'
    · rw [ok_sg_eq h] at hp'
      exact br_t (by rw [Int32.le_iff_toInt_le]; omega) ⟨ia, ib, br_t (by rw [Int32.le_iff_toInt_le]; omega) hp'⟩
    · rw [ok_sg_gt h] at hp'
      exact br_t (by rw [Int32.le_iff_toInt_le]; omega) ⟨ia, ib, br_f (by rw [Int32.le_iff_toInt_le]; omega) hp'⟩
theorem ok_K_null {f : Nat} {y : ok_CY} (h : y.1 = 1) : ok_K s f y = if ok_bit s f 4 = true then -9223372036854775808 else 9223372036854775808 := by
  unfold ok_K
  rw [if_neg (by rw [h]; decide)]
theorem ok_K_val {f : Nat} {y : ok_CY} (h : y.1 = 0) : ok_K s f y = if ok_bit s f 2 = true then - ok_V s f y else ok_V s f y := by
  unfold ok_K
  rw [if_pos h]
theorem ok_K_in {f : Nat} {y : ok_CY} (h : y.1 = 0) (w : ok_WF s f y) : -9223372036854775808 < ok_K s f y ∧ ok_K s f y < 9223372036854775808 := by
  have := ok_V_b w h
  rw [ok_K_val h]
  split <;> omega
/-- the join behind the two flags -/
theorem ok_y_78 {post : Int32 → Prop} {a b f : Nat} {x6 x7 : Int32} (ha : a < 84) (hb : b < 84) (wa : ok_WF s f (ok_Y nu it le cs a)) (wb : ok_WF s f (ok_Y nu it le cs b)) (hab : nu a = 0 ∨ nu b = 0)
    (h6 : (ok_bit s f 2 = true ∧ x6 = 1) ∨ (ok_bit s f 2 = false ∧ x6 = 0)) (h7 : (ok_bit s f 4 = true ∧ x7 = 1) ∨ (ok_bit s f 4 = false ∧ x7 = 0))
    (hp : post (ok_sg (ok_K s f (ok_Y nu it le cs a)) (ok_K s f (ok_Y nu it le cs b)))) :
    wY_field_78 post (nI f) (nI a) (nI b) x6 x7 Fi s C tg nu it le cs := by
  have ia : vp_in (nI a) 84 := vp_in_nI ha (by omega)
  have ib : vp_in (nI b) 84 := vp_in_nI hb (by omega)
  have ca : (nI a).toNatClampNeg = a := nI_clamp (by omega)
  have cb : (nI b).toNatClampNeg = b := nI_clamp (by omega)
  refine ⟨ia, ?_⟩
  rw [ca, cb]
  rcases wa.1 with na | na
  · have na' : nu a = 0 := na
    refine br_t na' ⟨ib, ?_⟩
    rcases wb.1 with nb | nb
    · have nb' : nu b = 0 := nb
      refine br_t nb' ?_
      have key : ∀ t : Int32, ((ok_bit s f 1 = true ∧ t = 1) ∨ (ok_bit s f 1 = false ∧ t = 0)) → wpY_values (fun r_20 => ((x6 = 0 → post r_20) ∧ (¬ x6 = 0 → post (-r_20)))) (Fi, s, C, tg, nu, it, le, cs) (nI a) (nI b) t := by
        intro t ht
        refine ok_y_values ha hb wa wb na' nb' ht ?_
        rw [ok_K_val na, ok_K_val nb] at hp
        rcases h6 with ⟨e, rfl⟩ | ⟨e, rfl⟩
        · rw [e, if_pos rfl, if_pos rfl] at hp
          refine br_f (by decide) ?_
          rw [ok_sg_neg]
          exact hp
        · rw [e, if_neg (by decide), if_neg (by decide)] at hp
          exact br_t rfl hp
      exact ok_y_text (fun e => key 1 (Or.inl ⟨e, rfl⟩)) (fun e => key 0 (Or.inr ⟨e, rfl⟩))
    · have nb' : nu b = 1 := nb
      refine br_f (by rw [nb']; decide) ?_
      have hk := ok_K_in na wa
      rw [ok_K_null nb] at hp
      rcases h7 with ⟨e, rfl⟩ | ⟨e, rfl⟩
      · rw [e, if_pos rfl, ok_sg_gt hk.1] at hp
        exact br_f (by decide) hp
      · rw [e, if_neg (by decide), ok_sg_lt hk.2] at hp
        exact br_t rfl hp
  · have na' : nu a = 1 := na
    refine br_f (by rw [na']; decide) ?_
    have nb : nu b = 0 := hab.resolve_left (by rw [na']; decide)
    have hk := ok_K_in nb wb
    rw [ok_K_null na] at hp
    rcases h7 with ⟨e, rfl⟩ | ⟨e, rfl⟩
    · rw [e, if_pos rfl, ok_sg_lt hk.1] at hp
      exact br_f (by decide) hp
    · rw [e, if_neg (by decide), ok_sg_gt hk.2] at hp
      exact br_t rfl hp
theorem ok_y_54 {post : Int32 → Prop} {a b f : Nat} {x6 x7 : Int32} (ha : a < 84) (hb : b < 84) (wa : ok_WF s f (ok_Y nu it le cs a)) (wb : ok_WF s f (ok_Y nu it le cs b))
    (h6 : (ok_bit s f 2 = true ∧ x6 = 1) ∨ (ok_bit s f 2 = false ∧ x6 = 0)) (h7 : (ok_bit s f 4 = true ∧ x7 = 1) ∨ (ok_bit s f 4 = false ∧ x7 = 0))
    (hp : post (ok_sg (ok_K s f (ok_Y nu it le cs a)) (ok_K s f (ok_Y nu it le cs b)))) :
    wY_field_54 post (nI f) (nI a) (nI b) x6 x7 Fi s C tg nu it le cs := by
  have ia : vp_in (nI a) 84 := vp_in_nI ha (by omega)
  have ib : vp_in (nI b) 84 := vp_in_nI hb (by omega)
  have ca : (nI a).toNatClampNeg = a := nI_clamp (by omega)
  have cb : (nI b).toNatClampNeg = b := nI_clamp (by omega)
  refine ⟨ia, ?_⟩
  rw [ca, cb]
  rcases wa.1 with na | na
  · have na' : nu a = 0 := na
    exact br_t na' (ok_y_78 ha hb wa wb (Or.inl na') h6 h7 hp)
  · have na' : nu a = 1 := na
    refine br_f (by rw [na']; decide) ⟨ib, ?_⟩
    rcases wb.1 with nb | nb
    · have nb' : nu b = 0 := nb
      exact br_t nb' (ok_y_78 ha hb wa wb (Or.inr nb') h6 h7 hp)
    · have nb' : nu b = 1 := nb
      rw [ok_K_null na, ok_K_null nb, ok_sg_eq rfl] at hp
      exact br_f (by rw [nb']; decide) hp
theorem ok_y_field {post : Int32 → Prop} {x y f : Nat} (hx : x < 21) (hy : y < 21) (hf : f < 4) (wa : ok_WF s f (ok_Y nu it le cs (x * 4 + f))) (wb : ok_WF s f (ok_Y nu it le cs (y * 4 + f)))
    (hp : post (ok_sg (ok_K s f (ok_Y nu it le cs (x * 4 + f))) (ok_K s f (ok_Y nu it le cs (y * 4 + f))))) :
    wpY_field post (Fi, s, C, tg, nu, it, le, cs) (nI x) (nI y) (nI f) := by
  refine nm_r (ok_idx x f) (nm_r (ok_idx y f) ?_)
  have k4 : ∀ x6 : Int32, ((ok_bit s f 2 = true ∧ x6 = 1) ∨ (ok_bit s f 2 = false ∧ x6 = 0)) → wY_field_33 post (nI f) (nI (x * 4 + f)) (nI (y * 4 + f)) x6 Fi s C tg nu it le cs := by
    intro x6 h6
    cases e : ok_bit s f 4 with
    | true => exact br_t (ok_y4 e) (ok_y_54 (by omega) (by omega) wa wb h6 (Or.inl ⟨e, rfl⟩) hp)
    | false => exact br_f (ok_n4 e) (ok_y_54 (by omega) (by omega) wa wb h6 (Or.inr ⟨e, rfl⟩) hp)
  cases e : ok_bit s f 2 with
  | true => exact br_t (ok_y2 e) (k4 1 (Or.inl ⟨e, rfl⟩))
  | false => exact br_f (ok_n2 e) (k4 0 (Or.inr ⟨e, rfl⟩))
theorem ok_y_cmpL {post : Int32 → Prop} {x y m : Nat} (hx : x < 21) (hy : y < 21) (hm : m ≤ 4) (wx : ∀ f, f < m → ok_WF s f (ok_Y nu it le cs (x * 4 + f))) (wy : ∀ f, f < m → ok_WF s f (ok_Y nu it le cs (y * 4 + f)))
    (hp : post (ok_sg (ok_T s nu it le cs m x) (ok_T s nu it le cs m y))) : ∀ d f : Nat, f + d = m → ok_T s nu it le cs f x = ok_T s nu it le cs f y →
      wY_compare_3 post (nI x) (nI y) (nI m) Fi s C tg nu it le cs (d + 1) (nI f) := by
  intro d
  induction d with
  | zero =>
    intro f hf h
    have : f = m := by omega
    subst this
    rw [ok_sg_eq h] at hp
    exact br_t (nI_le (Nat.le_refl _) (by omega)) hp
  | succ d ih =>
    intro f hf h
    refine br_f (nI_ge (by omega) (by omega)) ?_
    refine ok_y_field hx hy (by omega) (wx f (by omega)) (wy f (by omega)) ?_
    by_cases e : ok_K s f (ok_Y nu it le cs (x * 4 + f)) = ok_K s f (ok_Y nu it le cs (y * 4 + f))
    · refine br_t (ok_sg_eq e) (nm_r (nI_1 f) ?_)
      exact ih (f + 1) (by omega) (ok_H_s h e)
    · refine br_f (fun z => e ((ok_sg0 _ _).mp z)) ?_
      have := ok_H_at ok_B0 h (show f < m by omega) e (fun g hg => ok_Bb (ok_K_b (wx g hg)) (ok_K_b (wy g hg)))
      rw [← this]
      exact hp
theorem ok_y_cmp {post : Int32 → Prop} {x y m : Nat} (hx : x < 21) (hy : y < 21) (hm : m ≤ 4) (wx : ∀ f, f < m → ok_WF s f (ok_Y nu it le cs (x * 4 + f))) (wy : ∀ f, f < m → ok_WF s f (ok_Y nu it le cs (y * 4 + f)))
    (hp : post (ok_sg (ok_T s nu it le cs m x) (ok_T s nu it le cs m y))) : wpY_compare post (Fi, s, C, tg, nu, it, le, cs) (nI x) (nI y) (nI m) := by
  have hw := ok_y_cmpL (Fi := Fi) (C := C) (tg := tg) hx hy hm wx wy hp m 0 (by omega) (ok_H_0 _ _ _)
  rw [nI_0] at hw
  exact ⟨m + 1, hw⟩
end
end
section
/-! place, at, copy and the shift of the reference -/
def ok_lt (T : Nat → Int) (i e : Nat) : Bool := decide (T i < T e ∨ (T i = T e ∧ i < e))
theorem ok_lt_iff {T : Nat → Int} {i e : Nat} : ok_lt T i e = true ↔ (T i < T e ∨ (T i = T e ∧ i < e)) := by
  simp [ok_lt]
theorem ok_lt_inj {T : Nat → Int} {n : Nat} {g : Nat → Nat} (hs : ∀ p q, p < q → q < n → ok_lt T (g p) (g q) = true) : ∀ p q, p < q → q < n → g p ≠ g q := by
  intro p q h1 h2 e
  have := ok_lt_iff.mp (hs p q h1 h2)
  rw [e] at this
  omega
theorem ok_pl {T : Nat → Int} {n : Nat} {g : Nat → Nat} (hm : ∀ p, p < n → g p < n) (hs : ∀ p q, p < q → q < n → ok_lt T (g p) (g q) = true) {p : Nat} (hp : p < n) : ok_cn (fun i => ok_lt T i (g p)) n = p := by
  rw [← ok_cn_perm (fun i => ok_lt T i (g p)) hm (ok_lt_inj hs)]
  have : ok_cn (fun i => ok_lt T (g i) (g p)) n = ok_cn (fun q => decide (q < p)) n := by
    refine ok_cn_congr (fun q hq => ?_)
    by_cases h : q < p
    · rw [hs q p h hp]; simp [h]
    · have e : ok_lt T (g q) (g p) = false := by
        cases e : ok_lt T (g q) (g p) with
        | false => rfl
        | true =>
          by_cases h2 : q = p
          · subst h2
            have := ok_lt_iff.mp e
            omega
          · have h3 := ok_lt_iff.mp (hs p q (by omega) hq)
            have h4 := ok_lt_iff.mp e
            omega
      rw [e]; simp [h]
  rw [this, ok_cn_lt p n (by omega)]
section
variable {Fi s C : Int32} {tg nu it le cs : Nat → Int32}
theorem ok_y_placeL {post : Int32 → Prop} {n F e : Nat} (hn : n ≤ 20) (he : e < 21) (hF : F ≤ 4) (hW : ∀ i, i < n → ∀ f, f < F → ok_WF s f (ok_Y nu it le cs (i * 4 + f))) (hE : ∀ f, f < F → ok_WF s f (ok_Y nu it le cs (e * 4 + f)))
    (hp : post (nI (ok_cn (fun i => ok_lt (ok_T s nu it le cs F) i e) n))) : ∀ d i : Nat, i + d = n →
      wY_place_4 post (nI e) (nI F) s (nI n) tg nu it le cs (d + 1) (nI (ok_cn (fun i => ok_lt (ok_T s nu it le cs F) i e) i)) (nI i) := by
  intro d
  induction d with
  | zero =>
    intro i hi
    have : i = n := by omega
    subst this
    exact br_t (nI_le (Nat.le_refl _) (by omega)) hp
  | succ d ih =>
    intro i hi
    refine br_f (nI_ge (by omega) (by omega)) ?_
    refine ok_y_cmp (by omega) he hF (hW i (by omega)) hE ?_
    have ih' := ih (i + 1) (by omega)
    cases e1 : ok_lt (ok_T s nu it le cs F) i e with
    | true =>
      rw [ok_cn_t (P := fun i => ok_lt (ok_T s nu it le cs F) i e) e1] at ih'
      rcases ok_lt_iff.mp e1 with h | ⟨h, h2⟩
      · exact br_t ((ok_sgN _ _).mpr h) (nm_r (nI_1 _) (nm_r (nI_1 i) ih'))
      · refine br_f (fun z => by have := (ok_sgN _ _).mp z; omega) (br_t ((ok_sg0 _ _).mpr h) ?_)
        exact br_f (nI_ge h2 (by omega)) (nm_r (nI_1 _) (nm_r (nI_1 i) ih'))
    | false =>
      rw [ok_cn_f (P := fun i => ok_lt (ok_T s nu it le cs F) i e) e1] at ih'
      have e2 : ¬ (ok_T s nu it le cs F i < ok_T s nu it le cs F e ∨ (ok_T s nu it le cs F i = ok_T s nu it le cs F e ∧ i < e)) := fun z => by
        rw [ok_lt_iff.mpr z] at e1
        exact absurd e1 (by decide)
      refine br_f (fun z => e2 (Or.inl ((ok_sgN _ _).mp z))) ?_
      refine br_c (fun z => ?_) (fun _ => nm_r (nI_1 i) ih')
      have h : ¬ i < e := fun y => e2 (Or.inr ⟨(ok_sg0 _ _).mp z, y⟩)
      exact br_t (nI_le (by omega) (by omega)) (nm_r (nI_1 i) ih')
theorem ok_y_place {post : Int32 → Prop} {n F e : Nat} (hn : n ≤ 20) (he : e < 21) (hF : F ≤ 4) (hW : ∀ i, i < n → ∀ f, f < F → ok_WF s f (ok_Y nu it le cs (i * 4 + f))) (hE : ∀ f, f < F → ok_WF s f (ok_Y nu it le cs (e * 4 + f)))
    (hp : post (nI (ok_cn (fun i => ok_lt (ok_T s nu it le cs F) i e) n))) : wpY_place post (nI F, s, nI n, tg, nu, it, le, cs) (nI e) := by
  have hw := ok_y_placeL (tg := tg) hn he hF hW hE hp n 0 (by omega)
  have h0 : ok_cn (fun i => ok_lt (ok_T s nu it le cs F) i e) 0 = 0 := rfl
  rw [h0, nI_0] at hw
  exact ⟨n + 1, hw⟩
theorem ok_y_at {post : Int32 → Prop} {n F : Nat} {g : Nat → Nat} (hn : n ≤ 20) (hF : F ≤ 4) (hW : ∀ i, i < n → ∀ f, f < F → ok_WF s f (ok_Y nu it le cs (i * 4 + f)))
    (hm : ∀ p, p < n → g p < n) (hs : ∀ p q, p < q → q < n → ok_lt (ok_T s nu it le cs F) (g p) (g q) = true) (x : Int32)
    (h1 : ∀ p, p < n → x = nI p → post (nI (g p))) (h0 : (∀ p, p < n → x ≠ nI p) → post (-1)) : wpY_at post (nI F, s, nI n, tg, nu, it, le, cs) x := by
  have hi := ok_lt_inj hs
  have pl : ∀ p, p < n → ok_cn (fun i => ok_lt (ok_T s nu it le cs F) i (g p)) n = p := fun p hp => ok_pl hm hs hp
  by_cases hx : ∃ p, p < n ∧ x = nI p
  · obtain ⟨p, hp, rfl⟩ := hx
    have hg := hm p hp
    have hL : ∀ d e : Nat, e + d = g p → wY_at_2 post (nI p) (nI F) s (nI n) tg nu it le cs (d + 1) (nI e) := by
      intro d
      induction d with
      | zero =>
        intro e he
        have : e = g p := by omega
        subst this
        refine br_f (nI_ge (by omega) (by omega)) ?_
        refine ok_y_place hn (by omega) hF hW (hW _ hg) ?_
        rw [pl p hp]
        exact br_t rfl (h1 p hp rfl)
      | succ d ih =>
        intro e he
        refine br_f (nI_ge (by omega) (by omega)) ?_
        refine ok_y_place hn (by omega) hF hW (hW _ (by omega)) ?_
        obtain ⟨q, hq, rfl⟩ := ok_surj hm hi e (by omega)
        rw [pl q hq]
        refine br_f (fun z => ?_) (nm_r (nI_1 _) (ih _ (by omega)))
        rw [nI_eq (by omega) (by omega)] at z
        subst z
        omega
    have hw := hL (g p) 0 (by omega)
    rw [nI_0] at hw
    exact ⟨_, hw⟩
  · have hx' : ∀ p, p < n → x ≠ nI p := fun p hp z => hx ⟨p, hp, z⟩
    have hL : ∀ d e : Nat, e + d = n → wY_at_2 post x (nI F) s (nI n) tg nu it le cs (d + 1) (nI e) := by
      intro d
      induction d with
      | zero =>
        intro e he
        have : e = n := by omega
        subst this
        exact br_t (nI_le (Nat.le_refl _) (by omega)) (h0 hx')
      | succ d ih =>
        intro e he
        refine br_f (nI_ge (by omega) (by omega)) ?_
        refine ok_y_place hn (by omega) hF hW (hW _ (by omega)) ?_
        obtain ⟨q, hq, rfl⟩ := ok_surj hm hi e (by omega)
        rw [pl q hq]
        exact br_f (fun z => hx' q hq z.symm) (nm_r (nI_1 _) (ih _ (by omega)))
    have hw := hL n 0 (by omega)
    rw [nI_0] at hw
    exact ⟨_, hw⟩
theorem ok_Yeq {nu' it' le' cs' : Nat → Int32} {c c' : Nat} {x : Int32} (h1 : nu' c' = x) (h2 : it' c' = it c) (h3 : le' c' = le c) (h4 : ∀ i, i < 6 → cs' (c' * 6 + i) = cs (c * 6 + i)) : ok_Y nu' it' le' cs' c' = (x, it c, le c, ok_ch cs c) := by
  have h5 : ok_ch cs' c' = ok_ch cs c := by
    funext i
    unfold ok_ch
    by_cases hi : i < 6
    · rw [if_pos hi, if_pos hi, h4 i hi]
    · rw [if_neg hi, if_neg hi]
  unfold ok_Y
  rw [h1, h2, h3, h5]
theorem ok_y_copy75 {post : SY → Prop} {a b : Nat} (ha : a < 21) (hb : b < 21) (hab : a ≠ b)
    (hp : post (Fi, s, C, tg, nu, it, le, ok_cp id cs (a * 24) (b * 24) 24)) :
    ∀ d k : Nat, k + d = 24 → wY_copy_75 post (nI a) (nI b) Fi s C (d + 1) (nI k) tg nu it le (ok_cp id cs (a * 24) (b * 24) k) := by
  intro d
  induction d with
  | zero =>
    intro k hk
    have : k = 24 := by omega
    subst this
    exact br_t (by decide) hp
  | succ d ih =>
    intro k hk
    refine br_f (nI_ge (b := 24) (by omega) (by decide)) ?_
    rw [ok_idx24 a k, ok_idx24 b k, nI_clamp (n := a * 24 + k) (by omega), nI_clamp (n := b * 24 + k) (by omega)]
    refine ⟨vp_in_nI (by omega) (by omega), vp_in_nI (by omega) (by omega), nm_r (ok_cp_s (g := id) (by omega)) (nm_r (nI_1 k) ?_)⟩
    exact ih (k + 1) (by omega)
theorem ok_y_copy2 {post : SY → Prop} {a b : Nat} (ha : a < 21) (hb : b < 21) (hab : a ≠ b)
    (hp : post (Fi, s, C, tg, ok_cp (vp_nar .boolean) nu (a * 4) (b * 4) 4, ok_cp id it (a * 4) (b * 4) 4, ok_cp id le (a * 4) (b * 4) 4, ok_cp id cs (a * 24) (b * 24) 24)) :
    ∀ d k : Nat, k + d = 4 → wY_copy_2 post (nI a) (nI b) Fi s C (d + 1) (nI k) tg (ok_cp (vp_nar .boolean) nu (a * 4) (b * 4) k) (ok_cp id it (a * 4) (b * 4) k) (ok_cp id le (a * 4) (b * 4) k) cs := by
  intro d
  induction d with
  | zero =>
    intro k hk
    have : k = 4 := by omega
    subst this
    have hw := ok_y_copy75 (Fi := Fi) (s := s) (C := C) (tg := tg) ha hb hab hp 24 0 (by omega)
    rw [nI_0, ok_cp_0] at hw
    exact br_t (by decide) ⟨25, hw⟩
  | succ d ih =>
    intro k hk
    refine br_f (nI_ge (b := 4) (by omega) (by decide)) ?_
    rw [ok_idx a k, ok_idx b k, nI_clamp (n := a * 4 + k) (by omega), nI_clamp (n := b * 4 + k) (by omega)]
    have ia : vp_in (nI (a * 4 + k)) 84 := vp_in_nI (by omega) (by omega)
    have ib : vp_in (nI (b * 4 + k)) 84 := vp_in_nI (by omega) (by omega)
    refine ⟨ia, ib, nm_r (ok_cp_s (g := vp_nar .boolean) (by omega)) ⟨ia, ib, nm_r (ok_cp_s (g := id) (by omega)) ⟨ia, ib, nm_r (ok_cp_s (g := id) (by omega)) (nm_r (nI_1 k) ?_)⟩⟩⟩
    exact ih (k + 1) (by omega)
theorem ok_y_copy {post : SY → Prop} {a b : Nat} (ha : a < 21) (hb : b < 21) (hab : a ≠ b)
    (hp : ∀ nu' it' le' cs' : Nat → Int32, (∀ f, f < 4 → ok_Y nu' it' le' cs' (b * 4 + f) = ok_nY (ok_Y nu it le cs (a * 4 + f))) → (∀ e f, e ≠ b → f < 4 → ok_Y nu' it' le' cs' (e * 4 + f) = ok_Y nu it le cs (e * 4 + f)) → post (Fi, s, C, tg, nu', it', le', cs')) :
    wpY_copy post (Fi, s, C, tg, nu, it, le, cs) (nI a) (nI b) := by
  have hw := ok_y_copy2 (Fi := Fi) (s := s) (C := C) (tg := tg) ha hb hab (hp (ok_cp (vp_nar .boolean) nu (a * 4) (b * 4) 4) (ok_cp id it (a * 4) (b * 4) 4) (ok_cp id le (a * 4) (b * 4) 4) (ok_cp id cs (a * 24) (b * 24) 24)
    (fun f hf => ok_Yeq (ok_cp_in _ _ _ _ _ hf) (ok_cp_in _ _ _ _ _ hf) (ok_cp_in _ _ _ _ _ hf) (fun i hi => by
      rw [show (b * 4 + f) * 6 + i = b * 24 + (f * 6 + i) by omega, show (a * 4 + f) * 6 + i = a * 24 + (f * 6 + i) by omega]
      exact ok_cp_in _ _ _ _ _ (by omega)))
    (fun e f he hf => ok_Yeq (ok_cp_out _ _ _ _ _ (by omega)) (ok_cp_out _ _ _ _ _ (by omega)) (ok_cp_out _ _ _ _ _ (by omega)) (fun i hi => ok_cp_out _ _ _ _ _ (by omega)))) 4 0 (by omega)
  rw [nI_0, ok_cp_0, ok_cp_0, ok_cp_0] at hw
  exact ⟨5, hw⟩
theorem ok_y_rem {post : Int32 → SY → Prop} {m F e : Nat} (hm : m < 20) (hF : F ≤ 4) (hW : ∀ i, i < m + 1 → ∀ f, f < F → ok_WF s f (ok_Y nu it le cs (i * 4 + f)))
    (hp : ∀ tg' nu' it' le' cs' : Nat → Int32, (∀ j, j < m → tg' j = if e ≤ j then tg (j + 1) else tg j) → (∀ j f, j < m → f < F → ok_Y nu' it' le' cs' (j * 4 + f) = if e ≤ j then ok_Y nu it le cs ((j + 1) * 4 + f) else ok_Y nu it le cs (j * 4 + f)) →
      (∀ f, f < F → ok_Y nu' it' le' cs' (80 + f) = ok_Y nu it le cs (80 + f)) → post (nI m) (nI F, s, nI m, tg', nu', it', le', cs')) :
    ∀ d i : Nat, i + d = m → e ≤ i → ∀ tg' nu' it' le' cs' : Nat → Int32, (∀ j, tg' j = if e ≤ j ∧ j < i then tg (j + 1) else tg j) →
      (∀ j f, f < F → ok_Y nu' it' le' cs' (j * 4 + f) = if e ≤ j ∧ j < i then ok_Y nu it le cs ((j + 1) * 4 + f) else ok_Y nu it le cs (j * 4 + f)) →
      wY_remove_15 post (d + 1) (nI i) (nI F) s (nI (m + 1)) tg' nu' it' le' cs' := by
  intro d
  induction d with
  | zero =>
    intro i hi he tg' nu' it' le' cs' h1 h2
    have : i = m := by omega
    subst this
    refine br_t (by rw [nI_pred]; exact nI_le (Nat.le_refl _) (by omega)) (nm_r (nI_pred i) ?_)
    refine hp tg' nu' it' le' cs' (fun j hj => ?_) (fun j f hj hf => ?_) (fun f hf => ?_)
    · rw [h1 j]
      by_cases h : e ≤ j
      · rw [if_pos h, if_pos ⟨h, hj⟩]
      · rw [if_neg h, if_neg (by omega)]
    · rw [h2 j f hf]
      by_cases h : e ≤ j
      · rw [if_pos h, if_pos ⟨h, hj⟩]
      · rw [if_neg h, if_neg (by omega)]
    · have := h2 20 f hf
      rw [if_neg (by omega)] at this
      exact this
  | succ d ih =>
    intro i hi he tg' nu' it' le' cs' h1 h2
    refine br_f (by rw [nI_pred]; exact nI_ge (by omega) (by omega)) ?_
    rw [nI_1 i]
    refine ok_y_copy (by omega) (by omega) (by omega) (fun nu2 it2 le2 cs2 c1 c2 => ?_)
    refine ⟨vp_in_nI (by omega) (by omega), vp_in_nI (by omega) (by omega), ?_⟩
    rw [nI_clamp (n := i) (by omega), nI_clamp (n := i + 1) (by omega)]
    refine nm_e (nm_e ?_)
    refine ih (i + 1) (by omega) (by omega) _ nu2 it2 le2 cs2 (fun j => ?_) (fun j f hf => ?_)
    · by_cases h : j = i
      · subst h
        rw [pk_us, h1 (j + 1), if_neg (by omega), if_pos (by omega)]
      · rw [pk_un h, h1 j]
        by_cases h3 : e ≤ j ∧ j < i
        · rw [if_pos h3, if_pos (by omega)]
        · rw [if_neg h3, if_neg (by omega)]
    · by_cases h : j = i
      · subst h
        rw [c1 f (by omega), h2 (j + 1) f hf, if_neg (by omega), if_pos (by omega)]
        exact ok_WF_n (hW (j + 1) (by omega) f hf)
      · rw [c2 j f h (by omega), h2 j f hf]
        by_cases h3 : e ≤ j ∧ j < i
        · rw [if_pos h3, if_pos (by omega)]
        · rw [if_neg h3, if_neg (by omega)]
end
end
section
/-! the component's inner methods -/
theorem ok_sh (i : Nat) (h : i < 6) : 9 * (5 - nI i) = nI (9 * (5 - i)) := by
  show nI 9 * (nI 5 - nI i) = _
  rw [pk_sub (by omega), pk_mul]
theorem ok_512 (j : Nat) : 512 ^ j = 2 ^ (9 * j) := by
  rw [Nat.pow_mul]
section
variable {Fi s C : Int32} {rw tg fi : Nat → Int32} {va : Nat → Int64}
theorem ok_x_isSet {post : Int32 → Prop} {f : Nat} {m : Int32} (h1 : ok_bit s f m = true → post 1) (h0 : ok_bit s f m = false → post 0) : wpX_isSet post (Fi, s, C, rw, tg, fi, va) (nI f) m := by
  cases e : ok_bit s f m with
  | true => exact br_f (ok_b1 e) (h1 e)
  | false => exact br_t (ok_b0 e) (h0 e)
theorem ok_x_field1 {post : Int32 → Prop} {F f : Nat} (hF : F ≤ 4) (hf : f < F) (h : post 1) : wpX_isField post (nI F, s, C, rw, tg, fi, va) (nI f) :=
  br_f (nI_pos (by omega)) (br_f (nI_ge hf (by omega)) h)
theorem ok_x_field0 {post : Int32 → Prop} {F : Nat} {x : Int32} (hF : F ≤ 4) (hx : ∀ f, f < F → x ≠ nI f) (h : post 0) : wpX_isField post (nI F, s, C, rw, tg, fi, va) x := by
  rcases pk_ix x (show F < 2 ^ 31 by omega) with h1 | h1 | ⟨j, hj, e⟩
  · exact br_t h1 h
  · exact br_c (fun _ => h) (fun _ => br_t h1 h)
  · exact absurd e (hx j hj)
theorem ok_x_ent1 {post : Int32 → Prop} {n p : Nat} (hn : n ≤ 20) (hp : p < n) (h : post 1) : wpX_isEntry post (Fi, s, nI n, rw, tg, fi, va) (nI p) :=
  br_f (nI_pos (by omega)) (br_f (nI_ge hp (by omega)) h)
theorem ok_x_ent0 {post : Int32 → Prop} {n : Nat} {x : Int32} (hn : n ≤ 20) (hx : ∀ p, p < n → x ≠ nI p) (h : post 0) : wpX_isEntry post (Fi, s, nI n, rw, tg, fi, va) x := by
  rcases pk_ix x (show n < 2 ^ 31 by omega) with h1 | h1 | ⟨j, hj, e⟩
  · exact br_t h1 h
  · exact br_c (fun _ => h) (fun _ => br_t h1 h)
  · exact absurd e (hx j hj)
theorem ok_x_code {post : Int32 → Prop} {d : Nat → Nat} {i : Nat} (hi : i < 6) (hd : ∀ j, d j < 512) (h : post (nI (d i))) : wpX_letterCode post (lN (ok_pk d 6)) (nI i) := by
  unfold wpX_letterCode wpX_letterShift
  dsimp only
  have hk : 9 * (5 - i) < 64 := by omega
  have e1 : ((lN (9 * (5 - i))).toBitVec.smod 64).toNat = 9 * (5 - i) := by
    rw [wb_tb, wb_sm _ hk, BitVec.toNat_ofNat]
    exact Nat.mod_eq_of_lt (by omega)
  have h6 : ok_pk d 6 < 18014398509481984 := ok_pk_lt 6 (fun i _ => hd i)
  rw [ok_sh i hi, wb_c _ hk, pf_shr e1 (by omega), lN_i, ← ok_512, pk_and _ 9 (by decide)]
  have e2 : ok_pk d 6 / 512 ^ (5 - i) = ok_pk d (i + 1) := by
    have := ok_pk_div (d := d) (i + 1) (5 - i) (fun j _ => hd j)
    rw [show i + 1 + (5 - i) = 6 by omega] at this
    exact this
  have e3 : (nI (ok_pk d (i + 1))).toBitVec.toNat % 2 ^ 9 = d i := by
    show (BitVec.ofNat 32 (ok_pk d (i + 1))).toNat % 2 ^ 9 = d i
    rw [BitVec.toNat_ofNat]
    have h1 := hd i
    have h2 : ok_pk d (i + 1) = ok_pk d i * 512 + d i := rfl
    omega
  rw [e2, e3]
  exact h
theorem ok_x_len {post : Int32 → Prop} {d : Nat → Nat} {l : Nat} (hl : l ≤ 6) (hd : ∀ j, d j < 512) (h1 : ∀ i, i < l → d i ≠ 0) (h0 : ∀ i, l ≤ i → d i = 0) (h : post (nI l)) : wpX_textLength post (lN (ok_pk d 6)) := by
  have hL : ∀ k i : Nat, i + k = 6 → wX_textLength_4 post (lN (ok_pk d 6)) (k + 1) (nI (if i < l then i else l)) (nI i) := by
    intro k
    induction k with
    | zero =>
      intro i hi
      have : i = 6 := by omega
      subst this
      rw [if_neg (by omega)]
      exact br_t (by decide) h
    | succ k ih =>
      intro i hi
      have ih' := ih (i + 1) (by omega)
      refine br_f (nI_ge (b := 6) (by omega) (by decide)) ?_
      refine ok_x_code (by omega) hd ?_
      by_cases e : i < l
      · refine br_f (nI_ne0 (Nat.pos_of_ne_zero (h1 i e)) (by have := hd i; omega)) ?_
        rw [if_pos e]
        refine nm_r (nI_1 _) (nm_r (nI_1 _) ?_)
        rw [show (if i + 1 < l then i + 1 else l) = i + 1 by split <;> omega] at ih'
        exact ih'
      · rw [h0 i (by omega), if_neg e]
        rw [if_neg (by omega)] at ih'
        exact br_t nI_0 (nm_r (nI_1 _) ih')
  have hw := hL 6 0 (by omega)
  rw [show (if 0 < l then 0 else l) = 0 by split <;> omega, nI_0] at hw
  exact ⟨7, hw⟩
/-! comparisons with the stage -/
theorem ok_x_125 {post : Int32 → Prop} {f : Nat} {a b : ok_CY} {z : Int32} (na : a.1 = 0) (nb : b.1 = 0) (hz : (z = 1 ∧ ok_V s f a < ok_V s f b) ∨ (z = 0 ∧ ok_V s f b < ok_V s f a)) (hp : post (ok_sg (ok_K s f a) (ok_K s f b))) :
    wX_compareFieldToStage_125 post (nI f) z Fi s C rw tg fi va := by
  rw [ok_K_val na, ok_K_val nb] at hp
  refine ok_x_isSet (fun e => ?_) (fun e => ?_)
  · rw [e, if_pos rfl, if_pos rfl] at hp
    rcases hz with ⟨rfl, h⟩ | ⟨rfl, h⟩
    · rw [ok_sg_gt (by omega)] at hp
      exact br_t rfl hp
    · rw [ok_sg_lt (by omega)] at hp
      exact br_f (by decide) hp
  · rw [e, if_neg (by decide), if_neg (by decide)] at hp
    rcases hz with ⟨rfl, h⟩ | ⟨rfl, h⟩
    · rw [ok_sg_lt h] at hp
      exact br_f (by decide) hp
    · rw [ok_sg_gt h] at hp
      exact br_t rfl hp
theorem ok_x_35 {post : Int32 → Prop} {f a b : Nat} {ya yb : ok_CY} (ha : a < 84) (hb : b < 84) (ca : ok_CR s f (ok_X fi va a) ya) (cb : ok_CR s f (ok_X fi va b) yb) (hab : ya.1 = 0 ∨ yb.1 = 0)
    (hp : post (ok_sg (ok_K s f ya) (ok_K s f yb))) : wX_compareFieldToStage_35 post (nI f) (nI a) (nI b) Fi s C rw tg fi va := by
  have ia : vp_in (nI a) 84 := vp_in_nI ha (by omega)
  have ib : vp_in (nI b) 84 := vp_in_nI hb (by omega)
  have ka : (nI a).toNatClampNeg = a := nI_clamp (by omega)
  have kb : (nI b).toNatClampNeg = b := nI_clamp (by omega)
  have wa := ok_CR_WF ca
  have wb := ok_CR_WF cb
  have va' := ok_CR_V ca
  have vb' := ok_CR_V cb
  refine ⟨ia, ?_⟩
  rw [ka, kb]
  rcases ca with ⟨h1, n1⟩ | ⟨h1, n1, _⟩
  · have h1' : fi a = 0 := h1
    have n2 : yb.1 = 0 := hab.resolve_left (by rw [n1]; decide)
    have hk := ok_K_in n2 wb
    rw [ok_K_null n1] at hp
    refine br_t h1' (ok_x_isSet (fun e => ?_) (fun e => ?_))
    · rw [e, if_pos rfl, ok_sg_lt hk.1] at hp
      exact br_f (by decide) hp
    · rw [e, if_neg (by decide), ok_sg_gt hk.2] at hp
      exact br_t rfl hp
  · have h1' : fi a = 1 := h1
    refine br_f (by rw [h1']; decide) ⟨ib, ?_⟩
    have hk := ok_K_in n1 wa
    rcases cb with ⟨h2, n2⟩ | ⟨h2, n2, _⟩
    · have h2' : fi b = 0 := h2
      rw [ok_K_null n2] at hp
      refine br_t h2' (ok_x_isSet (fun e => ?_) (fun e => ?_))
      · rw [e, if_pos rfl, ok_sg_gt hk.1] at hp
        exact br_f (by decide) hp
      · rw [e, if_neg (by decide), ok_sg_lt hk.2] at hp
        exact br_t rfl hp
    · have h2' : fi b = 1 := h2
      refine br_f (by rw [h2']; decide) ⟨ia, ib, ?_⟩
      have v1 : (va a).toInt = ok_V s f ya := va' n1
      have v2 : (va b).toInt = ok_V s f yb := vb' n2
      by_cases e : va a = va b
      · have e2 : ok_K s f ya = ok_K s f yb := by
          rw [ok_K_val n1, ok_K_val n2, ← v1, ← v2, e]
        rw [ok_sg_eq e2] at hp
        exact br_t e hp
      · have e2 : (va a).toInt ≠ (va b).toInt := fun z => e (Int64.toInt_inj.mp z)
        refine br_f e ⟨ia, ib, ?_⟩
        by_cases h : va b ≤ va a
        · refine br_t h (ok_x_125 n1 n2 (Or.inr ⟨rfl, ?_⟩) hp)
          rw [Int64.le_iff_toInt_le] at h
          omega
        · refine br_f h (ok_x_125 n1 n2 (Or.inl ⟨rfl, ?_⟩) hp)
          rw [Int64.le_iff_toInt_le] at h
          omega
theorem ok_x_fld {post : Int32 → Prop} {f r : Nat} {ya yb : ok_CY} (hr : r < 20) (hf : f < 4) (ca : ok_CR s f (ok_X fi va (r * 4 + f)) ya) (cb : ok_CR s f (ok_X fi va (80 + f)) yb)
    (hp : post (ok_sg (ok_K s f ya) (ok_K s f yb))) : wpX_compareFieldToStage post (Fi, s, C, rw, tg, fi, va) (nI r) (nI f) := by
  unfold wpX_compareFieldToStage wpX_cell
  dsimp only
  rw [ok_idx, ok_20]
  have ia : vp_in (nI (r * 4 + f)) 84 := vp_in_nI (by omega) (by omega)
  have ib : vp_in (nI (80 + f)) 84 := vp_in_nI (by omega) (by omega)
  have ka : (nI (r * 4 + f)).toNatClampNeg = r * 4 + f := nI_clamp (by omega)
  have kb : (nI (80 + f)).toNatClampNeg = 80 + f := nI_clamp (by omega)
  refine ⟨ia, ?_⟩
  rw [ka, kb]
  have ca2 := ca
  have cb2 := cb
  rcases ca with ⟨h1, n1⟩ | ⟨h1, n1, _⟩
  · have h1' : fi (r * 4 + f) = 0 := h1
    refine br_t h1' ⟨ib, ?_⟩
    rcases cb with ⟨h2, n2⟩ | ⟨h2, n2, _⟩
    · have h2' : fi (80 + f) = 0 := h2
      rw [ok_K_null n1, ok_K_null n2, ok_sg_eq rfl] at hp
      exact br_t h2' hp
    · have h2' : fi (80 + f) = 1 := h2
      exact br_f (by rw [h2']; decide) (ok_x_35 (by omega) (by omega) ca2 cb2 (Or.inr n2) hp)
  · have h1' : fi (r * 4 + f) = 1 := h1
    exact br_f (by rw [h1']; decide) (ok_x_35 (by omega) (by omega) ca2 cb2 (Or.inl n1) hp)
theorem ok_x_cmpL {post : Int32 → Prop} {r m : Nat} {ya yb : Nat → ok_CY} (hr : r < 20) (hm : m ≤ 4) (ca : ∀ f, f < m → ok_CR s f (ok_X fi va (r * 4 + f)) (ya f)) (cb : ∀ f, f < m → ok_CR s f (ok_X fi va (80 + f)) (yb f))
    (hp : post (ok_sg (ok_H ok_B (fun f => ok_K s f (ya f)) m) (ok_H ok_B (fun f => ok_K s f (yb f)) m))) : ∀ d f : Nat, f + d = m → ok_H ok_B (fun f => ok_K s f (ya f)) f = ok_H ok_B (fun f => ok_K s f (yb f)) f →
      wX_compareToStage_2 post (nI r) (nI m) Fi s C rw tg fi va (d + 1) (nI f) := by
  intro d
  induction d with
  | zero =>
    intro f hf h
    have : f = m := by omega
    subst this
    rw [ok_sg_eq h] at hp
    exact br_t (nI_le (Nat.le_refl _) (by omega)) hp
  | succ d ih =>
    intro f hf h
    refine br_f (nI_ge (by omega) (by omega)) ?_
    refine ok_x_fld hr (by omega) (ca f (by omega)) (cb f (by omega)) ?_
    by_cases e : ok_K s f (ya f) = ok_K s f (yb f)
    · refine br_t (ok_sg_eq e) (nm_r (nI_1 f) ?_)
      exact ih (f + 1) (by omega) (ok_H_s h e)
    · refine br_f (fun z => e ((ok_sg0 _ _).mp z)) ?_
      have := ok_H_at ok_B0 h (show f < m by omega) e (fun g hg => ok_Bb (ok_K_b (ok_CR_WF (ca g hg))) (ok_K_b (ok_CR_WF (cb g hg))))
      rw [← this]
      exact hp
theorem ok_x_cmp {post : Int32 → Prop} {r m : Nat} {ya yb : Nat → ok_CY} (hr : r < 20) (hm : m ≤ 4) (ca : ∀ f, f < m → ok_CR s f (ok_X fi va (r * 4 + f)) (ya f)) (cb : ∀ f, f < m → ok_CR s f (ok_X fi va (80 + f)) (yb f))
    (hp : post (ok_sg (ok_H ok_B (fun f => ok_K s f (ya f)) m) (ok_H ok_B (fun f => ok_K s f (yb f)) m))) : wpX_compareToStage post (Fi, s, C, rw, tg, fi, va) (nI r) (nI m) := by
  have hw := ok_x_cmpL (Fi := Fi) (C := C) (rw := rw) (tg := tg) hr hm ca cb hp m 0 (by omega) (ok_H_0 _ _ _)
  rw [nI_0] at hw
  exact ⟨m + 1, hw⟩
/-! copies and shifts -/
theorem ok_Xeq {fi' : Nat → Int32} {va' : Nat → Int64} {c c' : Nat} {x : Int32} (h1 : fi' c' = x) (h2 : va' c' = va c) : ok_X fi' va' c' = (x, va c) := by
  unfold ok_X
  rw [h1, h2]
theorem ok_x_copyL {post : SX → Prop} {a b F : Nat} (ha : a < 21) (hb : b < 21) (hab : a ≠ b) (hF : F ≤ 4)
    (hp : post (nI F, s, C, rw, tg, ok_cp (vp_nar .boolean) fi (a * 4) (b * 4) F, ok_cp id va (a * 4) (b * 4) F)) :
    ∀ d k : Nat, k + d = F → wX_copyTuple_2 post (nI a) (nI b) (nI F) s C (d + 1) (nI k) rw tg (ok_cp (vp_nar .boolean) fi (a * 4) (b * 4) k) (ok_cp id va (a * 4) (b * 4) k) := by
  intro d
  induction d with
  | zero =>
    intro k hk
    have : k = F := by omega
    subst this
    exact br_t (nI_le (Nat.le_refl _) (by omega)) hp
  | succ d ih =>
    intro k hk
    refine br_f (nI_ge (by omega) (by omega)) ?_
    unfold wpX_cell
    dsimp only
    rw [ok_idx a k, ok_idx b k, nI_clamp (n := a * 4 + k) (by omega), nI_clamp (n := b * 4 + k) (by omega)]
    have ia : vp_in (nI (a * 4 + k)) 84 := vp_in_nI (by omega) (by omega)
    have ib : vp_in (nI (b * 4 + k)) 84 := vp_in_nI (by omega) (by omega)
    refine ⟨ia, ib, nm_r (ok_cp_s (g := vp_nar .boolean) (by omega)) ⟨ia, ib, nm_r (ok_cp_sL (g := id) (by omega)) (nm_r (nI_1 k) ?_)⟩⟩
    exact ih (k + 1) (by omega)
theorem ok_x_copy {post : SX → Prop} {a b F : Nat} (ha : a < 21) (hb : b < 21) (hab : a ≠ b) (hF : F ≤ 4)
    (hp : ∀ (fi' : Nat → Int32) (va' : Nat → Int64), (∀ f, f < F → ok_X fi' va' (b * 4 + f) = ok_nX (ok_X fi va (a * 4 + f))) → (∀ e f, e ≠ b → f < 4 → ok_X fi' va' (e * 4 + f) = ok_X fi va (e * 4 + f)) → post (nI F, s, C, rw, tg, fi', va')) :
    wpX_copyTuple post (nI F, s, C, rw, tg, fi, va) (nI a) (nI b) := by
  have hw := ok_x_copyL (s := s) (C := C) (rw := rw) (tg := tg) ha hb hab hF (hp (ok_cp (vp_nar .boolean) fi (a * 4) (b * 4) F) (ok_cp id va (a * 4) (b * 4) F)
    (fun f hf => ok_Xeq (ok_cp_in _ _ _ _ _ hf) (ok_cp_in _ _ _ _ _ hf))
    (fun e f he hf => ok_Xeq (ok_cp_out _ _ _ _ _ (by omega)) (ok_cp_out _ _ _ _ _ (by omega)))) F 0 (by omega)
  rw [nI_0, ok_cp_0, ok_cp_0] at hw
  exact ⟨F + 1, hw⟩
theorem ok_x_addL {post : Int32 → SX → Prop} {n c : Nat} {x : Int32} (hn : n < 20) (hc : c ≤ n)
    (hp : ∀ rw' : Nat → Int32, (∀ j, rw' j = if j < c then rw j else if j = c then x else if j ≤ n then rw (j - 1) else rw j) → post (nI c) (Fi, s, nI (n + 1), rw', tg, fi, va)) :
    ∀ d i : Nat, i = c + d → i ≤ n → ∀ rw' : Nat → Int32, (∀ j, rw' j = if i < j ∧ j ≤ n then rw (j - 1) else rw j) → wX_add_47 post x (nI c) Fi s (nI n) (d + 1) (nI i) rw' tg fi va := by
  intro d
  induction d with
  | zero =>
    intro i hi hin rw' h
    have : i = c := by omega
    subst this
    refine br_t (nI_le (Nat.le_refl _) (by omega)) ⟨vp_in_nI (by omega) (by omega), ?_⟩
    rw [nI_clamp (n := i) (by omega)]
    refine nm_e (nm_r (nI_1 n) (hp _ (fun j => ?_)))
    by_cases e : j = i
    · subst e
      rw [pk_us, if_neg (by omega), if_pos rfl]
    · rw [pk_un e, h j]
      by_cases e2 : j < i
      · rw [if_neg (by omega), if_pos e2]
      · rw [if_neg e2, if_neg e]
        by_cases e3 : j ≤ n
        · rw [if_pos (by omega), if_pos e3]
        · rw [if_neg (by omega), if_neg e3]
  | succ d ih =>
    intro i hi hin rw' h
    obtain ⟨k, rfl⟩ : ∃ k, i = k + 1 := ⟨i - 1, by omega⟩
    refine br_f (nI_ge (by omega) (by omega)) ?_
    rw [nI_pred k, nI_clamp (n := k) (by omega), nI_clamp (n := k + 1) (by omega)]
    refine ⟨vp_in_nI (by omega) (by omega), vp_in_nI (by omega) (by omega), nm_e (nm_r (pk_m1 k) ?_)⟩
    refine ih k (by omega) (by omega) _ (fun j => ?_)
    by_cases e : j = k + 1
    · subst e
      rw [pk_us, if_pos (by omega), h k, if_neg (by omega)]
      rfl
    · rw [pk_un e, h j]
      by_cases e2 : k + 1 < j ∧ j ≤ n
      · rw [if_pos e2, if_pos (by omega)]
      · rw [if_neg e2, if_neg (by omega)]
theorem ok_x_remL {post : Int32 → SX → Prop} {m p : Nat} {x : Int32} (hm : m < 20) (hpm : p ≤ m)
    (hp : ∀ rw' : Nat → Int32, (∀ j, rw' j = if j < p then rw j else if j < m then rw (j + 1) else if j = m then x else rw j) → post (nI m) (Fi, s, nI m, rw', tg, fi, va)) :
    ∀ d i : Nat, i + d = m → p ≤ i → ∀ rw' : Nat → Int32, (∀ j, rw' j = if p ≤ j ∧ j < i then rw (j + 1) else rw j) → wX_remove_30 post x Fi s (nI m) (d + 1) (nI i) rw' tg fi va := by
  intro d
  induction d with
  | zero =>
    intro i hi hin rw' h
    have : i = m := by omega
    subst this
    refine br_t (nI_le (Nat.le_refl _) (by omega)) ⟨vp_in_nI (by omega) (by omega), ?_⟩
    rw [nI_clamp (n := i) (by omega)]
    refine nm_e (hp _ (fun j => ?_))
    by_cases e : j = i
    · subst e
      rw [pk_us, if_neg (by omega), if_neg (by omega), if_pos rfl]
    · rw [pk_un e, h j]
      by_cases e2 : j < p
      · rw [if_neg (by omega), if_pos e2]
      · rw [if_neg e2]
        by_cases e3 : j < i
        · rw [if_pos (by omega), if_pos e3]
        · rw [if_neg (by omega), if_neg e3, if_neg e]
  | succ d ih =>
    intro i hi hin rw' h
    refine br_f (nI_ge (by omega) (by omega)) ?_
    rw [nI_1 i, nI_clamp (n := i) (by omega), nI_clamp (n := i + 1) (by omega)]
    refine ⟨vp_in_nI (by omega) (by omega), vp_in_nI (by omega) (by omega), nm_e (nm_e ?_)⟩
    refine ih (i + 1) (by omega) (by omega) _ (fun j => ?_)
    by_cases e : j = i
    · subst e
      rw [pk_us, if_pos (by omega), h (j + 1), if_neg (by omega)]
    · rw [pk_un e, h j]
      by_cases e2 : p ≤ j ∧ j < i
      · rw [if_pos e2, if_pos (by omega)]
      · rw [if_neg e2, if_neg (by omega)]
/-! counts -/
theorem ok_x_cnb {post : Int32 → Prop} {n F : Nat} {rho : Nat → Nat} {t : Nat → Int} {t0 : Int} (hn : n ≤ 20) (hr : ∀ p, p < n → rw p = nI (rho p))
    (hc : ∀ p, p < n → ∀ post : Int32 → Prop, post (ok_sg (t p) t0) → wpX_compareToStage post (nI F, s, nI n, rw, tg, fi, va) (nI (rho p)) (nI F))
    (hp : post (nI (ok_cn (fun p => decide (t p ≤ t0)) n))) : wpX_countNotBehindStage post (nI F, s, nI n, rw, tg, fi, va) := by
  have hL : ∀ d i : Nat, i + d = n → wX_countNotBehindStage_4 post (nI F) s (nI n) rw tg fi va (d + 1) (nI (ok_cn (fun p => decide (t p ≤ t0)) i)) (nI i) := by
    intro d
    induction d with
    | zero =>
      intro i hi
      have : i = n := by omega
      subst this
      exact br_t (nI_le (Nat.le_refl _) (by omega)) hp
    | succ d ih =>
      intro i hi
      have ih' := ih (i + 1) (by omega)
      refine br_f (nI_ge (by omega) (by omega)) ⟨vp_in_nI (by omega) (by omega), ?_⟩
      rw [nI_clamp (n := i) (by omega), hr i (by omega)]
      refine hc i (by omega) _ ?_
      by_cases e : t i ≤ t0
      · rw [ok_cn_t (P := fun p => decide (t p ≤ t0)) (by simp [e])] at ih'
        exact br_f (fun z => by have := (ok_sgP _ _).mp z; omega) (nm_r (nI_1 _) (nm_r (nI_1 _) ih'))
      · rw [ok_cn_f (P := fun p => decide (t p ≤ t0)) (by simp [e])] at ih'
        exact br_t ((ok_sgP _ _).mpr (by omega)) (nm_r (nI_1 _) ih')
  have hw := hL n 0 (by omega)
  have h0 : ok_cn (fun p => decide (t p ≤ t0)) 0 = 0 := rfl
  rw [h0, nI_0] at hw
  exact ⟨n + 1, hw⟩
theorem ok_x_below {post : Int32 → Prop} {n F : Nat} {rho : Nat → Nat} {t : Nat → Int} {t0 : Int} (hn : n ≤ 20) (hr : ∀ p, p < n → rw p = nI (rho p))
    (hc : ∀ p, p < n → ∀ post : Int32 → Prop, post (ok_sg (t p) t0) → wpX_compareToStage post (nI F, s, nI n, rw, tg, fi, va) (nI (rho p)) (nI F))
    (hp : post (nI (ok_cn (fun p => decide (t p < t0)) n))) : wpX_below post (nI F, s, nI n, rw, tg, fi, va) := by
  have hL : ∀ d i : Nat, i + d = n → wX_below_4 post (nI F) s (nI n) rw tg fi va (d + 1) (nI (ok_cn (fun p => decide (t p < t0)) i)) (nI i) := by
    intro d
    induction d with
    | zero =>
      intro i hi
      have : i = n := by omega
      subst this
      exact br_t (nI_le (Nat.le_refl _) (by omega)) hp
    | succ d ih =>
      intro i hi
      have ih' := ih (i + 1) (by omega)
      refine br_f (nI_ge (by omega) (by omega)) ⟨vp_in_nI (by omega) (by omega), ?_⟩
      rw [nI_clamp (n := i) (by omega), hr i (by omega)]
      refine hc i (by omega) _ ?_
      by_cases e : t i < t0
      · rw [ok_cn_t (P := fun p => decide (t p < t0)) (by simp [e])] at ih'
        exact br_f (fun z => by have := (ok_sgG _ _).mp z; omega) (nm_r (nI_1 _) (nm_r (nI_1 _) ih'))
      · rw [ok_cn_f (P := fun p => decide (t p < t0)) (by simp [e])] at ih'
        exact br_t ((ok_sgG _ _).mpr (by omega)) (nm_r (nI_1 _) ih')
  have hw := hL n 0 (by omega)
  have h0 : ok_cn (fun p => decide (t p < t0)) 0 = 0 := rfl
  rw [h0, nI_0] at hw
  exact ⟨n + 1, hw⟩
theorem ok_x_match {post : Int32 → Prop} {n m : Nat} {rho : Nat → Nat} {t : Nat → Int} {t0 : Int} (hn : n ≤ 20) (hr : ∀ p, p < n → rw p = nI (rho p))
    (hc : ∀ p, p < n → ∀ post : Int32 → Prop, post (ok_sg (t p) t0) → wpX_compareToStage post (Fi, s, nI n, rw, tg, fi, va) (nI (rho p)) (nI m))
    (hp : post (nI (ok_cn (fun p => decide (t p = t0)) n))) : ∃ k, wX_matching_18 post (nI m) Fi s (nI n) rw tg fi va k 0 0 := by
  have hL : ∀ d i : Nat, i + d = n → wX_matching_18 post (nI m) Fi s (nI n) rw tg fi va (d + 1) (nI (ok_cn (fun p => decide (t p = t0)) i)) (nI i) := by
    intro d
    induction d with
    | zero =>
      intro i hi
      have : i = n := by omega
      subst this
      exact br_t (nI_le (Nat.le_refl _) (by omega)) hp
    | succ d ih =>
      intro i hi
      have ih' := ih (i + 1) (by omega)
      refine br_f (nI_ge (by omega) (by omega)) ⟨vp_in_nI (by omega) (by omega), ?_⟩
      rw [nI_clamp (n := i) (by omega), hr i (by omega)]
      refine hc i (by omega) _ ?_
      by_cases e : t i = t0
      · rw [ok_cn_t (P := fun p => decide (t p = t0)) (by simp [e])] at ih'
        exact br_t ((ok_sg0 _ _).mpr e) (nm_r (nI_1 _) (nm_r (nI_1 _) ih'))
      · rw [ok_cn_f (P := fun p => decide (t p = t0)) (by simp [e])] at ih'
        exact br_f (fun z => e ((ok_sg0 _ _).mp z)) (nm_r (nI_1 _) ih')
  have hw := hL n 0 (by omega)
  have h0 : ok_cn (fun p => decide (t p = t0)) 0 = 0 := rfl
  rw [h0, nI_0] at hw
  exact ⟨n + 1, hw⟩
end
section
variable {Fi s C : Int32} {tg nu it le cs : Nat → Int32}
theorem ok_y_below {post : Int32 → Prop} {n F : Nat} {t : Nat → Int} {t0 : Int} (hn : n ≤ 20)
    (hc : ∀ p, p < n → ∀ post : Int32 → Prop, post (ok_sg (t p) t0) → wpY_compare post (nI F, s, nI n, tg, nu, it, le, cs) (nI p) 20 (nI F))
    (hp : post (nI (ok_cn (fun p => decide (t p < t0)) n))) : wpY_below post (nI F, s, nI n, tg, nu, it, le, cs) := by
  have hL : ∀ d i : Nat, i + d = n → wY_below_4 post (nI F) s (nI n) tg nu it le cs (d + 1) (nI (ok_cn (fun p => decide (t p < t0)) i)) (nI i) := by
    intro d
    induction d with
    | zero =>
      intro i hi
      have : i = n := by omega
      subst this
      exact br_t (nI_le (Nat.le_refl _) (by omega)) hp
    | succ d ih =>
      intro i hi
      have ih' := ih (i + 1) (by omega)
      refine br_f (nI_ge (by omega) (by omega)) ?_
      refine hc i (by omega) _ ?_
      by_cases e : t i < t0
      · rw [ok_cn_t (P := fun p => decide (t p < t0)) (by simp [e])] at ih'
        exact br_f (fun z => by have := (ok_sgG _ _).mp z; omega) (nm_r (nI_1 _) (nm_r (nI_1 _) ih'))
      · rw [ok_cn_f (P := fun p => decide (t p < t0)) (by simp [e])] at ih'
        exact br_t ((ok_sgG _ _).mpr (by omega)) (nm_r (nI_1 _) ih')
  have hw := hL n 0 (by omega)
  have h0 : ok_cn (fun p => decide (t p < t0)) 0 = 0 := rfl
  rw [h0, nI_0] at hw
  exact ⟨n + 1, hw⟩
theorem ok_y_match {post : Int32 → Prop} {n m : Nat} {t : Nat → Int} {t0 : Int} (hn : n ≤ 20)
    (hc : ∀ p, p < n → ∀ post : Int32 → Prop, post (ok_sg (t p) t0) → wpY_compare post (Fi, s, nI n, tg, nu, it, le, cs) (nI p) 20 (nI m))
    (hp : post (nI (ok_cn (fun p => decide (t p = t0)) n))) : ∃ k, wY_matching_18 post (nI m) Fi s (nI n) tg nu it le cs k 0 0 := by
  have hL : ∀ d i : Nat, i + d = n → wY_matching_18 post (nI m) Fi s (nI n) tg nu it le cs (d + 1) (nI (ok_cn (fun p => decide (t p = t0)) i)) (nI i) := by
    intro d
    induction d with
    | zero =>
      intro i hi
      have : i = n := by omega
      subst this
      exact br_t (nI_le (Nat.le_refl _) (by omega)) hp
    | succ d ih =>
      intro i hi
      have ih' := ih (i + 1) (by omega)
      refine br_f (nI_ge (by omega) (by omega)) ?_
      refine hc i (by omega) _ ?_
      by_cases e : t i = t0
      · rw [ok_cn_t (P := fun p => decide (t p = t0)) (by simp [e])] at ih'
        exact br_t ((ok_sg0 _ _).mpr e) (nm_r (nI_1 _) (nm_r (nI_1 _) ih'))
      · rw [ok_cn_f (P := fun p => decide (t p = t0)) (by simp [e])] at ih'
        exact br_f (fun z => e ((ok_sg0 _ _).mp z)) (nm_r (nI_1 _) ih')
  have hw := hL n 0 (by omega)
  have h0 : ok_cn (fun p => decide (t p = t0)) 0 = 0 := rfl
  rw [h0, nI_0] at hw
  exact ⟨n + 1, hw⟩
theorem ok_y_bad0 {post : Int32 → Prop} {F f : Nat} (hF : F ≤ 4) (hf : f < F) (h : post 0) : wpY_bad post (nI F, s, C, tg, nu, it, le, cs) (nI f) :=
  br_f (nI_pos (by omega)) (br_t (nI_lt hf (by omega)) h)
theorem ok_y_bad1 {post : Int32 → Prop} {F : Nat} {x : Int32} (hF : F ≤ 4) (hx : ∀ f, f < F → x ≠ nI f) (h : post 1) : wpY_bad post (nI F, s, C, tg, nu, it, le, cs) x := by
  rcases pk_ix x (show F < 2 ^ 31 by omega) with h1 | h1 | ⟨j, hj, e⟩
  · exact br_t h1 h
  · exact br_c (fun _ => h) (fun _ => br_f (Int32.not_lt.mpr h1) h)
  · exact absurd e (hx j hj)
end
end
section
/-! the relation: row rho p of the component and entry g p of the reference are position p; the entries are in order -/
def ok_R (F n : Nat) (s : Int32) (ro tg fi : Nat → Int32) (va : Nat → Int64) (ty nu it le cs : Nat → Int32) (rho g : Nat → Nat) : Prop :=
  F ≤ 4 ∧ n ≤ 20 ∧ (∀ p, p < 20 → ro p = nI (rho p) ∧ rho p < 20) ∧ (∀ p q, p < q → q < 20 → rho p ≠ rho q) ∧ (∀ p, p < n → g p < n) ∧ (∀ p, p < n → tg (rho p) = ty (g p)) ∧
  (∀ p f, p < n → f < F → ok_CR s f (ok_X fi va (rho p * 4 + f)) (ok_Y nu it le cs (g p * 4 + f))) ∧ (∀ f, f < F → ok_CR s f (ok_X fi va (80 + f)) (ok_Y nu it le cs (80 + f))) ∧
  (∀ p q, p < q → q < n → ok_lt (ok_T s nu it le cs F) (g p) (g q) = true)
def i_Rel (_ : Nat) (u : SX) (v : SY) : Prop := ∃ (F n : Nat) (s : Int32) (ro tg fi : Nat → Int32) (va : Nat → Int64) (ty nu it le cs : Nat → Int32) (rho g : Nat → Nat),
  u = (nI F, s, nI n, ro, tg, fi, va) ∧ v = (nI F, s, nI n, ty, nu, it, le, cs) ∧ ok_R F n s ro tg fi va ty nu it le cs rho g
theorem i_up {k : Nat} {u : SX} {v : SY} (h : i_Rel k u v) : i_Rel (k + 4) u v := h
section
variable {F n : Nat} {s : Int32} {ro tg fi : Nat → Int32} {va : Nat → Int64} {ty nu it le cs : Nat → Int32} {rho g : Nat → Nat}
theorem ok_RI {k : Nat} (R : ok_R F n s ro tg fi va ty nu it le cs rho g) : i_Rel k (nI F, s, nI n, ro, tg, fi, va) (nI F, s, nI n, ty, nu, it, le, cs) :=
  ⟨F, n, s, ro, tg, fi, va, ty, nu, it, le, cs, rho, g, rfl, rfl, R⟩
theorem ok_lt_congr {T T' : Nat → Int} {i e : Nat} (h1 : T' i = T i) (h2 : T' e = T e) : ok_lt T' i e = ok_lt T i e := by
  unfold ok_lt
  rw [h1, h2]
theorem ok_R_WF (R : ok_R F n s ro tg fi va ty nu it le cs rho g) : ∀ i, i < n → ∀ f, f < F → ok_WF s f (ok_Y nu it le cs (i * 4 + f)) := by
  obtain ⟨hF, hn, hr, hri, hg, ht, hc, hst, hs⟩ := R
  intro i hi f hf
  obtain ⟨p, hp, rfl⟩ := ok_surj hg (ok_lt_inj hs) i hi
  exact ok_CR_WF (hc p f hp hf)
theorem ok_y_at1 {post : Int32 → Prop} {p : Nat} (R : ok_R F n s ro tg fi va ty nu it le cs rho g) (hp : p < n) (h : post (nI (g p))) : wpY_at post (nI F, s, nI n, ty, nu, it, le, cs) (nI p) := by
  have W := ok_R_WF R
  obtain ⟨hF, hn, hr, hri, hg, ht, hc, hst, hs⟩ := R
  refine ok_y_at hn hF W hg hs (nI p) (fun q hq e => ?_) (fun z => absurd rfl (z p hp))
  rw [nI_eq (by omega) (by omega)] at e
  subst e
  exact h
theorem ok_y_at0 {post : Int32 → Prop} {x : Int32} (R : ok_R F n s ro tg fi va ty nu it le cs rho g) (hx : ∀ p, p < n → x ≠ nI p) (h : post (-1)) : wpY_at post (nI F, s, nI n, ty, nu, it, le, cs) x := by
  have W := ok_R_WF R
  obtain ⟨hF, hn, hr, hri, hg, ht, hc, hst, hs⟩ := R
  exact ok_y_at hn hF W hg hs x (fun q hq e => absurd e (hx q hq)) (fun _ => h)
theorem ok_R_stage {fi' nu' it' le' cs' : Nat → Int32} {va' : Nat → Int64} (R : ok_R F n s ro tg fi va ty nu it le cs rho g)
    (hX : ∀ e f, e < 20 → f < 4 → ok_X fi' va' (e * 4 + f) = ok_X fi va (e * 4 + f)) (hY : ∀ e f, e < 20 → f < 4 → ok_Y nu' it' le' cs' (e * 4 + f) = ok_Y nu it le cs (e * 4 + f))
    (hS : ∀ f, f < F → ok_CR s f (ok_X fi' va' (80 + f)) (ok_Y nu' it' le' cs' (80 + f))) : ok_R F n s ro tg fi' va' ty nu' it' le' cs' rho g := by
  obtain ⟨hF, hn, hr, hri, hg, ht, hc, hst, hs⟩ := R
  refine ⟨hF, hn, hr, hri, hg, ht, fun p f hp hf => ?_, hS, fun p q h1 h2 => ?_⟩
  · have a := (hr p (by omega)).2
    have b := hg p hp
    rw [hX _ f a (by omega), hY _ f (by omega) (by omega)]
    exact hc p f hp hf
  · have a := hg p (by omega)
    have b := hg q h2
    rw [ok_lt_congr (ok_T_congr (e := g p) (fun f hf => hY _ f (by omega) (by omega))) (ok_T_congr (e := g q) (fun f hf => hY _ f (by omega) (by omega)))]
    exact hs p q h1 h2
theorem ok_R_cell {fi' nu' it' le' cs' : Nat → Int32} {va' : Nat → Int64} {f0 : Nat} (R : ok_R F n s ro tg fi va ty nu it le cs rho g) (hf0 : f0 < F)
    (hX : ∀ c, c ≠ 80 + f0 → ok_X fi' va' c = ok_X fi va c) (hY : ∀ c, c ≠ 80 + f0 → ok_Y nu' it' le' cs' c = ok_Y nu it le cs c)
    (hS : ok_CR s f0 (ok_X fi' va' (80 + f0)) (ok_Y nu' it' le' cs' (80 + f0))) : ok_R F n s ro tg fi' va' ty nu' it' le' cs' rho g := by
  refine ok_R_stage R (fun e f he hf => hX _ (by omega)) (fun e f he hf => hY _ (by omega)) (fun f hf => ?_)
  obtain ⟨hF, hn, hr, hri, hg, ht, hc, hst, hs⟩ := R
  by_cases e : f = f0
  · subst e; exact hS
  · rw [hX _ (by omega), hY _ (by omega)]
    exact hst f hf
theorem ok_Yu {c : Nat} {nu' it' le' cs' : Nat → Int32} (h1 : nu' c = nu c) (h2 : it' c = it c) (h3 : le' c = le c) (h4 : ∀ i, i < 6 → cs' (c * 6 + i) = cs (c * 6 + i)) : ok_Y nu' it' le' cs' c = ok_Y nu it le cs c :=
  ok_Yeq h1 h2 h3 h4
theorem ok_x_init {post : SX → Prop} {Fi : Int32} (hp : ∀ ro : Nat → Int32, (∀ j, j < 20 → ro j = nI j) → post (Fi, s, 0, ro, fun _ => 0, fun _ => 0, fun _ => 0)) :
    ∃ k, wX_init_71 post Fi s 0 k 0 (fun _ => 0) (fun _ => 0) (fun _ => 0) (fun _ => 0) := by
  have hL : ∀ d i : Nat, i + d = 20 → ∀ ro : Nat → Int32, (∀ j, j < i → ro j = nI j) → wX_init_71 post Fi s 0 (d + 1) (nI i) ro (fun _ => 0) (fun _ => 0) (fun _ => 0) := by
    intro d
    induction d with
    | zero =>
      intro i hi ro h
      have : i = 20 := by omega
      subst this
      exact br_t (by decide) (hp ro h)
    | succ d ih =>
      intro i hi ro h
      refine br_f (nI_ge (b := 20) (by omega) (by decide)) ⟨vp_in_nI (by omega) (by omega), ?_⟩
      rw [nI_clamp (n := i) (by omega)]
      refine nm_e (nm_r (nI_1 i) (ih (i + 1) (by omega) _ (fun j hj => ?_)))
      by_cases e : j = i
      · subst e; exact pk_us
      · rw [pk_un e]; exact h j (by omega)
  have hw := hL 20 0 (by omega) (fun _ => 0) (fun j hj => absurd hj (Nat.not_lt_zero j))
  rw [nI_0] at hw
  exact ⟨21, hw⟩
theorem ok_y_init {post : SY → Prop} {Fi : Int32} (hp : ∀ nu : Nat → Int32, (∀ j, j < 84 → nu j = 1) → post (Fi, s, 0, fun _ => 0, nu, fun _ => 0, fun _ => 0, fun _ => 0)) :
    wY_init_61 post s Fi 0 0 0 (fun _ => 0) (fun _ => 0) (fun _ => 0) (fun _ => 0) (fun _ => 0) := by
  have hL : ∀ d i : Nat, i + d = 84 → ∀ nu : Nat → Int32, (∀ j, j < i → nu j = 1) → wY_init_74 post Fi s 0 (d + 1) (nI i) (fun _ => 0) nu (fun _ => 0) (fun _ => 0) (fun _ => 0) := by
    intro d
    induction d with
    | zero =>
      intro i hi nu h
      have : i = 84 := by omega
      subst this
      exact br_t (by decide) (hp nu h)
    | succ d ih =>
      intro i hi nu h
      refine br_f (nI_ge (b := 84) (by omega) (by decide)) ⟨vp_in_nI (by omega) (by omega), ?_⟩
      rw [nI_clamp (n := i) (by omega), ok_nar1]
      refine nm_e (nm_r (nI_1 i) (ih (i + 1) (by omega) _ (fun j hj => ?_)))
      by_cases e : j = i
      · subst e; exact pk_us
      · rw [pk_un e]; exact h j (by omega)
  have hw := hL 84 0 (by omega) (fun _ => 0) (fun j hj => absurd hj (Nat.not_lt_zero j))
  rw [nI_0] at hw
  exact ⟨85, hw⟩
end
theorem ok_init {F : Nat} {Fi s : Int32} (hF : F ≤ 4) (e : Fi = nI F) {ro nu : Nat → Int32} (hr : ∀ j, j < 20 → ro j = nI j) (hn : ∀ j, j < 84 → nu j = 1) :
    i_Rel 2 (Fi, s, 0, ro, fun _ => 0, fun _ => 0, fun _ => 0) (Fi, s, 0, fun _ => 0, nu, fun _ => 0, fun _ => 0, fun _ => 0) := by
  subst e
  rw [← nI_0]
  refine ok_RI (rho := id) (g := id) ⟨hF, by omega, fun p hp => ⟨hr p hp, hp⟩, fun p q h1 _ => ?_, fun p hp => hp, fun p hp => absurd hp (Nat.not_lt_zero p), fun p f hp => absurd hp (Nat.not_lt_zero p), fun f hf => Or.inl ⟨?_, hn _ (by omega)⟩, fun p q _ h2 => absurd h2 (Nat.not_lt_zero q)⟩
  · show p ≠ q
    omega
  · exact nI_0
theorem i_vc0 (k0 : Int32) (k1 : Int32) : wpX_init (fun u => wpY_init (fun v => i_Rel 2 u v) k0 k1) k0 k1 := by
  by_cases h1 : 1 ≤ k0
  · by_cases h4 : k0 ≤ 4
    · obtain ⟨F, hF, e⟩ := nI_of2 (M := 4) (n := 4) (by decide) (x := k0) (fun z => by
        rw [Int32.lt_iff_toInt_lt] at z
        rw [Int32.le_iff_toInt_le] at h1
        have a : (0 : Int32).toInt = 0 := by decide
        have b : (1 : Int32).toInt = 1 := by decide
        omega) h4
      refine br_t h1 (br_t h4 (ok_x_init (fun ro hr => ?_)))
      exact br_t h1 (br_t h4 (ok_y_init (fun nu hn => ok_init hF e hr hn)))
    · refine br_t h1 (br_f h4 (ok_x_init (fun ro hr => ?_)))
      exact br_t h1 (br_f h4 (ok_y_init (fun nu hn => ok_init (F := 4) (by omega) (by decide) hr hn)))
  · refine br_f h1 (ok_x_init (fun ro hr => ?_))
    exact br_f h1 (br_t (by decide) (ok_y_init (fun nu hn => ok_init (F := 1) (by omega) (by decide) hr hn)))
theorem i_vc_setNull {k : Nat} {u : SX} {v : SY} (I : i_Rel k u v) (hk : k + 4 ≤ 2050) (v1 : Int32) : wpX_setNull (fun r u' => wpY_setNull (fun r' v' => r' = r ∧ i_Rel (k + 4) u' v') v v1) u v1 := by
  obtain ⟨F, n, s, ro, tg, fi, va, ty, nu, it, le, cs, rho, g, rfl, rfl, R⟩ := I
  have hF := R.1
  unfold wpX_setNull wpY_setNull
  dsimp only
  by_cases hx : ∃ f, f < F ∧ v1 = nI f
  · obtain ⟨f, hf, rfl⟩ := hx
    refine ok_x_field1 hF hf (br_f (by decide) ?_)
    unfold wpX_cell
    dsimp only
    rw [ok_20, ok_80, nI_clamp (n := 80 + f) (by omega), ok_nar0, ok_nar1]
    refine ⟨vp_in_nI (by omega) (by omega), nm_e (ok_y_bad0 hF hf (br_t rfl ⟨vp_in_nI (by omega) (by omega), nm_e ⟨rfl, ok_RI (ok_R_cell R hf (fun c hc => ?_) (fun c hc => ?_) ?_)⟩⟩))⟩
    · exact ok_Xeq (pk_un hc) rfl
    · exact ok_Yu (pk_un hc) rfl rfl (fun _ _ => rfl)
    · exact Or.inl ⟨pk_us, pk_us⟩
  · have hx' : ∀ f, f < F → v1 ≠ nI f := fun f hf z => hx ⟨f, hf, z⟩
    exact ok_x_field0 hF hx' (br_t rfl (ok_y_bad1 hF hx' (br_f (by decide) ⟨rfl, ok_RI R⟩)))
theorem i_vc_setInt {k : Nat} {u : SX} {v : SY} (I : i_Rel k u v) (hk : k + 4 ≤ 2050) (v1 : Int32) (v2 : Int32) : wpX_setInt (fun r u' => wpY_setInt (fun r' v' => r' = r ∧ i_Rel (k + 4) u' v') v v1 v2) u v1 v2 := by
  obtain ⟨F, n, s, ro, tg, fi, va, ty, nu, it, le, cs, rho, g, rfl, rfl, R⟩ := I
  have hF := R.1
  unfold wpX_setInt wpY_setInt
  dsimp only
  by_cases hx : ∃ f, f < F ∧ v1 = nI f
  · obtain ⟨f, hf, rfl⟩ := hx
    refine ok_x_field1 hF hf (br_f (by decide) (ok_x_isSet (fun e => ?_) (fun e => ?_)))
    · exact br_f (by decide) (ok_y_bad0 hF hf (br_t rfl (ok_y_text (fun _ => br_f (by decide) ⟨rfl, ok_RI R⟩) (fun z => absurd (e.symm.trans z) (by decide)))))
    · refine br_t rfl ?_
      unfold wpX_fillStage wpX_cell
      dsimp only
      rw [ok_20, ok_80, nI_clamp (n := 80 + f) (by omega), ok_nar0, ok_nar1]
      have ii : vp_in (nI (80 + f)) 84 := vp_in_nI (by omega) (by omega)
      refine ⟨ii, nm_e ⟨ii, nm_e (ok_y_bad0 hF hf (br_t rfl (ok_y_text (fun z => absurd (e.symm.trans z) (by decide)) (fun _ => br_t rfl ⟨ii, nm_e ⟨ii, nm_e ⟨rfl, ok_RI (ok_R_cell R hf (fun c hc => ?_) (fun c hc => ?_) ?_)⟩⟩⟩))))⟩⟩
      · exact ok_Xeq (pk_un hc) (pk_uLn hc)
      · exact ok_Yu (pk_un hc) (pk_un hc) rfl (fun _ _ => rfl)
      · refine Or.inr ⟨pk_us, pk_us, fun _ => ?_, fun z => absurd (e.symm.trans z) (by decide)⟩
        show vp_updL va (80 + f) v2.toInt64 (80 + f) = (upd it (80 + f) v2 (80 + f)).toInt64
        rw [pk_us, pk_uLs]
  · have hx' : ∀ f, f < F → v1 ≠ nI f := fun f hf z => hx ⟨f, hf, z⟩
    exact ok_x_field0 hF hx' (br_t rfl (ok_y_bad1 hF hx' (br_f (by decide) ⟨rfl, ok_RI R⟩)))
theorem i_vc_setText {k : Nat} {u : SX} {v : SY} (I : i_Rel k u v) (hk : k + 4 ≤ 2050) (v1 : Int32) : wpX_setText (fun r u' => wpY_setText (fun r' v' => r' = r ∧ i_Rel (k + 4) u' v') v v1) u v1 := by
  obtain ⟨F, n, s, ro, tg, fi, va, ty, nu, it, le, cs, rho, g, rfl, rfl, R⟩ := I
  have hF := R.1
  unfold wpX_setText wpY_setText
  dsimp only
  by_cases hx : ∃ f, f < F ∧ v1 = nI f
  · obtain ⟨f, hf, rfl⟩ := hx
    refine ok_x_field1 hF hf (br_f (by decide) (ok_x_isSet (fun e => ?_) (fun e => ?_)))
    · refine br_f (by decide) ?_
      unfold wpX_fillStage wpX_cell
      dsimp only
      rw [ok_20, ok_80, nI_clamp (n := 80 + f) (by omega), ok_nar0, ok_nar1]
      have ii : vp_in (nI (80 + f)) 84 := vp_in_nI (by omega) (by omega)
      refine ⟨ii, nm_e ⟨ii, nm_e (ok_y_bad0 hF hf (br_t rfl (ok_y_text (fun _ => br_f (by decide) ⟨ii, nm_e ⟨ii, nm_e ⟨rfl, ok_RI (ok_R_cell R hf (fun c hc => ?_) (fun c hc => ?_) ?_)⟩⟩⟩) (fun z => absurd (e.symm.trans z) (by decide)))))⟩⟩
      · exact ok_Xeq (pk_un hc) (pk_uLn hc)
      · exact ok_Yu (pk_un hc) rfl (pk_un hc) (fun _ _ => rfl)
      · refine Or.inr ⟨pk_us, pk_us, fun z => absurd (e.symm.trans z) (by decide), fun _ => ?_⟩
        show ok_tx (upd le (80 + f) 0 (80 + f)) (ok_ch cs (80 + f)) ∧ vp_updL va (80 + f) 0 (80 + f) = lN (ok_pk (ok_dg (upd le (80 + f) 0 (80 + f)) (ok_ch cs (80 + f))) 6)
        rw [pk_us, pk_uLs]
        refine ⟨⟨0, by omega, nI_0.symm, fun i hi => absurd hi (Nat.not_lt_zero i)⟩, ?_⟩
        have h0 : ok_pk (ok_dg 0 (ok_ch cs (80 + f))) 6 = 0 := by
          have := ok_pk_0 (d := ok_dg 0 (ok_ch cs (80 + f))) 0 (fun i _ => if_neg (by
            have : (0 : Int32).toNatClampNeg = 0 := by decide
            omega)) 6
          rw [Nat.zero_add] at this
          rw [this]
          exact Nat.zero_mul _
        rw [h0]
        decide
    · exact br_t rfl (ok_y_bad0 hF hf (br_t rfl (ok_y_text (fun z => absurd (e.symm.trans z) (by decide)) (fun _ => br_t rfl ⟨rfl, ok_RI R⟩))))
  · have hx' : ∀ f, f < F → v1 ≠ nI f := fun f hf z => hx ⟨f, hf, z⟩
    exact ok_x_field0 hF hx' (br_t rfl (ok_y_bad1 hF hx' (br_f (by decide) ⟨rfl, ok_RI R⟩)))
end
section
/-! append, and the methods that only read -/
theorem ok_app {l q : Nat} {le : Int32} {ch ch' : Nat → Int32} (hl : l < 6) (hle : le = nI l) (hq : q < 256) (ht : ok_tx le ch) (h1 : ch' l = nI q) (h2 : ∀ i, i < l → ch' i = ch i) :
    ok_tx (nI (l + 1)) ch' ∧ lN (ok_pk (ok_dg le ch) 6) ||| lN ((q + 1) * 2 ^ (9 * (5 - l))) = lN (ok_pk (ok_dg (nI (l + 1)) ch') 6) := by
  obtain ⟨l', hl', e', hc⟩ := ht
  have e2 : l' = l := by
    rw [hle, nI_eq (by omega) (by omega)] at e'
    exact e'.symm
  subst e2
  have tx : ok_tx (nI (l' + 1)) ch' := ⟨l' + 1, by omega, rfl, fun i hi => by
    by_cases e : i = l'
    · subst e; exact ⟨q, hq, h1⟩
    · rw [h2 i (by omega)]; exact hc i (by omega)⟩
  refine ⟨tx, ?_⟩
  have d0 : ∀ i, l' ≤ i → ok_dg le ch i = 0 := fun i hi => if_neg (by rw [hle, nI_clamp (by omega)]; omega)
  have d1 : ∀ i, l' + 1 ≤ i → ok_dg (nI (l' + 1)) ch' i = 0 := fun i hi => if_neg (by rw [nI_clamp (by omega)]; omega)
  have dl : ok_dg (nI (l' + 1)) ch' l' = q + 1 := by
    unfold ok_dg
    rw [nI_clamp (by omega), if_pos (by omega), h1, nI_clamp (by omega)]
  have dc : ∀ i, i < l' → ok_dg (nI (l' + 1)) ch' i = ok_dg le ch i := fun i hi => by
    unfold ok_dg
    rw [hle, nI_clamp (by omega), nI_clamp (by omega), if_pos (by omega), if_pos hi, h2 i hi]
  have p0 : ok_pk (ok_dg le ch) 6 = ok_pk (ok_dg le ch) l' * 512 ^ (6 - l') := by
    have := ok_pk_0 l' d0 (6 - l')
    rw [show l' + (6 - l') = 6 by omega] at this
    exact this
  have p1 : ok_pk (ok_dg (nI (l' + 1)) ch') 6 = (ok_pk (ok_dg le ch) l' * 512 + (q + 1)) * 512 ^ (5 - l') := by
    have := ok_pk_0 (l' + 1) d1 (5 - l')
    rw [show l' + 1 + (5 - l') = 6 by omega] at this
    rw [this]
    show (ok_pk (ok_dg (nI (l' + 1)) ch') l' * 512 + ok_dg (nI (l' + 1)) ch' l') * _ = _
    rw [dl, ok_pk_congr l' dc]
  have b6 : ok_pk (ok_dg (nI (l' + 1)) ch') 6 < 18014398509481984 := ok_pk54 tx
  have e5 : 512 ^ (6 - l') = 512 * 512 ^ (5 - l') := by
    rw [show 6 - l' = (5 - l') + 1 by omega, Nat.pow_succ, Nat.mul_comm]
  have e6 : (ok_pk (ok_dg le ch) l' * 512 + (q + 1)) * 512 ^ (5 - l') = ok_pk (ok_dg le ch) l' * 512 ^ (6 - l') + (q + 1) * 512 ^ (5 - l') := by
    rw [Nat.add_mul, e5, Nat.mul_assoc]
  rw [e6] at p1
  rw [p1] at b6 ⊢
  rw [p0, ← ok_512]
  refine g_or (k := 9 * (6 - l')) (ok_512 _).symm ?_ (Nat.lt_trans b6 (by decide))
  rw [e5]
  exact Nat.mul_lt_mul_of_pos_right (by omega) (Nat.pow_pos (by decide))
theorem ok_dg_ne {le : Int32} {ch : Nat → Int32} {l : Nat} (hl : l ≤ 6) (hle : le = nI l) : (∀ i, i < l → ok_dg le ch i ≠ 0) ∧ (∀ i, l ≤ i → ok_dg le ch i = 0) := by
  subst hle
  unfold ok_dg
  rw [nI_clamp (by omega)]
  exact ⟨fun i hi => by rw [if_pos hi]; omega, fun i hi => if_neg (by omega)⟩
theorem i_vc_append {k : Nat} {u : SX} {v : SY} (I : i_Rel k u v) (hk : k + 4 ≤ 2050) (v1 : Int32) (v2 : Int32) : wpX_append (fun r u' => wpY_append (fun r' v' => r' = r ∧ i_Rel (k + 4) u' v') v v1 v2) u v1 v2 := by
  obtain ⟨F, n, s, ro, tg, fi, va, ty, nu, it, le, cs, rho, g, rfl, rfl, R⟩ := I
  have hF := R.1
  unfold wpX_append wpY_append
  dsimp only
  by_cases hx : ∃ f, f < F ∧ v1 = nI f
  · obtain ⟨f, hf, rfl⟩ := hx
    have ii : vp_in (nI (80 + f)) 84 := vp_in_nI (by omega) (by omega)
    have hst : ok_CR s f (ok_X fi va (80 + f)) (ok_Y nu it le cs (80 + f)) := R.2.2.2.2.2.2.2.1 f hf
    refine ok_x_field1 hF hf (br_f (by decide) ?_)
    unfold wpX_cell
    dsimp only
    rw [ok_20, ok_80, nI_clamp (n := 80 + f) (by omega)]
    refine ok_x_isSet (fun e => ?_) (fun e => ?_)
    · refine br_f (by decide) ⟨ii, ?_⟩
      rcases hst with ⟨h1, h2⟩ | ⟨h1, h2, _, h3⟩
      · have h1' : fi (80 + f) = 0 := h1
        have h2' : nu (80 + f) = 1 := h2
        exact br_t h1' (ok_y_bad0 hF hf (br_t rfl (ok_y_text (fun _ => br_f (by decide) ⟨ii, br_f (by rw [h2']; decide) ⟨rfl, ok_RI R⟩⟩) (fun z => absurd (e.symm.trans z) (by decide)))))
      · have h1' : fi (80 + f) = 1 := h1
        have h2' : nu (80 + f) = 0 := h2
        obtain ⟨tx, hv⟩ := h3 e
        have hv' : va (80 + f) = lN (ok_pk (ok_dg (le (80 + f)) (ok_ch cs (80 + f))) 6) := hv
        have tx' : ok_tx (le (80 + f)) (ok_ch cs (80 + f)) := tx
        have TX := tx'
        obtain ⟨l, hl, hle, hch⟩ := tx'
        refine br_f (by rw [h1']; decide) ?_
        by_cases c0 : v2 < 0
        · exact br_t c0 (ok_y_bad0 hF hf (br_t rfl (ok_y_text (fun _ => br_f (by decide) ⟨ii, br_t h2' (br_t c0 ⟨rfl, ok_RI R⟩)⟩) (fun z => absurd (e.symm.trans z) (by decide)))))
        · refine br_f c0 ?_
          by_cases c1 : v2 ≤ 255
          · obtain ⟨q, hq, rfl⟩ := nI_of2 (M := 255) (n := 255) (by decide) c0 c1
            refine br_t c1 ⟨ii, ?_⟩
            rw [hv']
            refine ok_x_len (l := l) hl (ok_dg_lt TX) (ok_dg_ne hl hle).1 (ok_dg_ne hl hle).2 ?_
            by_cases c6 : l < 6
            · refine br_t (nI_lt (b := 6) c6 (by decide)) ⟨ii, ?_⟩
              unfold wpX_letterShift
              dsimp only
              rw [ok_sh l c6]
              refine ⟨ii, ?_⟩
              rw [nI_l (n := q) (by omega), lN_1, wb_shl _ (by omega), nI_1]
              refine nm_e (ok_y_bad0 hF hf (br_t rfl (ok_y_text (fun _ => br_f (by decide) ⟨ii, br_t h2' (br_f c0 (br_t c1 ⟨ii, ?_⟩))⟩) (fun z => absurd (e.symm.trans z) (by decide)))))
              refine nm_r hle (br_f (fun z => ?_) ?_)
              · have : l = 6 := (nI_eq (b := 6) (by omega) (by decide)).mp z
                omega
              · rw [ok_idx6, nI_clamp (n := (80 + f) * 6 + l) (by omega), nI_1]
                refine ⟨vp_in_nI (by omega) (by omega), nm_e ⟨ii, nm_e ⟨rfl, ok_RI (ok_R_cell R hf (fun c hc => ?_) (fun c hc => ?_) ?_)⟩⟩⟩
                · exact ok_Xeq rfl (pk_uLn hc)
                · exact ok_Yu rfl rfl (pk_un hc) (fun i hi => pk_un (by omega))
                · refine Or.inr ⟨h1', h2', fun z => absurd (e.symm.trans z) (by decide), fun _ => ?_⟩
                  show ok_tx (upd le (80 + f) (nI (l + 1)) (80 + f)) (ok_ch (upd cs ((80 + f) * 6 + l) (nI q)) (80 + f)) ∧ vp_updL va (80 + f) _ (80 + f) = lN (ok_pk (ok_dg (upd le (80 + f) (nI (l + 1)) (80 + f)) (ok_ch (upd cs ((80 + f) * 6 + l) (nI q)) (80 + f))) 6)
                  rw [pk_us, pk_uLs]
                  refine ok_app c6 hle (by omega) TX ?_ (fun i hi => ?_)
                  · unfold ok_ch
                    rw [if_pos c6]
                    exact pk_us
                  · unfold ok_ch
                    rw [if_pos (by omega), if_pos (by omega)]
                    exact pk_un (by omega)
            · have : l = 6 := by omega
              subst this
              refine br_f (by decide) (ok_y_bad0 hF hf (br_t rfl (ok_y_text (fun _ => br_f (by decide) ⟨ii, br_t h2' (br_f c0 (br_t c1 ⟨ii, ?_⟩))⟩) (fun z => absurd (e.symm.trans z) (by decide)))))
              exact nm_r hle (br_t (by decide) ⟨rfl, ok_RI R⟩)
          · exact br_f c1 (ok_y_bad0 hF hf (br_t rfl (ok_y_text (fun _ => br_f (by decide) ⟨ii, br_t h2' (br_f c0 (br_f c1 ⟨rfl, ok_RI R⟩))⟩) (fun z => absurd (e.symm.trans z) (by decide)))))
    · exact br_t rfl (ok_y_bad0 hF hf (br_t rfl (ok_y_text (fun z => absurd (e.symm.trans z) (by decide)) (fun _ => br_t rfl ⟨rfl, ok_RI R⟩))))
  · have hx' : ∀ f, f < F → v1 ≠ nI f := fun f hf z => hx ⟨f, hf, z⟩
    exact ok_x_field0 hF hx' (br_t rfl (ok_y_bad1 hF hx' (br_f (by decide) ⟨rfl, ok_RI R⟩)))
theorem i_vc_size {k : Nat} {u : SX} {v : SY} (I : i_Rel k u v) (hk : k + 4 ≤ 2050) : wpX_size (fun r => wpY_size (fun r' => r' = r ∧ i_Rel (k + 4) u v) v) u := by
  obtain ⟨F, n, s, ro, tg, fi, va, ty, nu, it, le, cs, rho, g, rfl, rfl, R⟩ := I
  exact ⟨rfl, ok_RI R⟩
theorem i_vc_tag {k : Nat} {u : SX} {v : SY} (I : i_Rel k u v) (hk : k + 4 ≤ 2050) (v1 : Int32) : wpX_tag (fun r => wpY_tag (fun r' => r' = r ∧ i_Rel (k + 4) u v) v v1) u v1 := by
  obtain ⟨F, n, s, ro, tg, fi, va, ty, nu, it, le, cs, rho, g, rfl, rfl, R⟩ := I
  have R0 := R
  obtain ⟨hF, hn, hr, hri, hg, ht, hc, hst, hs⟩ := R0
  unfold wpX_tag wpY_tag
  dsimp only
  by_cases hx : ∃ p, p < n ∧ v1 = nI p
  · obtain ⟨p, hp, rfl⟩ := hx
    have hrp := hr p (by omega)
    have hgp := hg p hp
    refine ok_x_ent1 hn hp (br_f (by decide) ⟨vp_in_nI (by omega) (by omega), ?_⟩)
    rw [nI_clamp (n := p) (by omega), hrp.1, nI_clamp (n := rho p) (by omega)]
    refine ⟨vp_in_nI hrp.2 (by omega), ok_y_at1 R hp (br_t (nI_pos' (by omega)) ⟨vp_in_nI (by omega) (by omega), ?_⟩)⟩
    rw [nI_clamp (n := g p) (by omega)]
    exact ⟨(ht p hp).symm, ok_RI R⟩
  · have hx' : ∀ p, p < n → v1 ≠ nI p := fun p hp z => hx ⟨p, hp, z⟩
    exact ok_x_ent0 hn hx' (br_t rfl (ok_y_at0 R hx' (br_f (by decide) ⟨rfl, ok_RI R⟩)))
theorem ok_has {F n : Nat} {s : Int32} {ro tg fi : Nat → Int32} {va : Nat → Int64} {rho : Nat → Nat} {post : Int32 → Prop} {p f : Nat} (hF : F ≤ 4) (hn : n ≤ 20) (hp : p < n) (hf : f < F) (hr : ro p = nI (rho p) ∧ rho p < 20)
    (h0 : fi (rho p * 4 + f) = 0 → post 0) (h1 : ¬ fi (rho p * 4 + f) = 0 → post 1) : wpX_hasValue post (nI F, s, nI n, ro, tg, fi, va) (nI p) (nI f) := by
  unfold wpX_hasValue
  dsimp only
  refine ok_x_ent1 hn hp (br_f (by decide) (ok_x_field1 hF hf (br_f (by decide) ⟨vp_in_nI (by omega) (by omega), ?_⟩)))
  unfold wpX_cell
  dsimp only
  rw [nI_clamp (n := p) (by omega), hr.1, ok_idx, nI_clamp (n := rho p * 4 + f) (by omega)]
  exact ⟨vp_in_nI (by omega) (by omega), br_c h0 h1⟩
theorem i_vc_intAt {k : Nat} {u : SX} {v : SY} (I : i_Rel k u v) (hk : k + 4 ≤ 2050) (v1 : Int32) (v2 : Int32) : wpX_intAt (fun r => wpY_intAt (fun r' => r' = r ∧ i_Rel (k + 4) u v) v v1 v2) u v1 v2 := by
  obtain ⟨F, n, s, ro, tg, fi, va, ty, nu, it, le, cs, rho, g, rfl, rfl, R⟩ := I
  have R0 := R
  obtain ⟨hF, hn, hr, hri, hg, ht, hc, hst, hs⟩ := R0
  unfold wpX_intAt wpY_intAt
  dsimp only
  by_cases hx : ∃ p, p < n ∧ v1 = nI p
  · obtain ⟨p, hp, rfl⟩ := hx
    have hrp := hr p (by omega)
    have hgp := hg p hp
    have gp0 : ¬ nI (g p) < 0 := nI_pos (by omega)
    by_cases hy : ∃ f, f < F ∧ v2 = nI f
    · obtain ⟨f, hf, rfl⟩ := hy
      have hcf := hc p f hp hf
      have ig : vp_in (nI (g p * 4 + f)) 84 := vp_in_nI (by omega) (by omega)
      refine ok_has hF hn hp hf hrp (fun z => ?_) (fun z => ?_)
      · have hz : nu (g p * 4 + f) = 1 := by
          rcases hcf with ⟨_, h⟩ | ⟨h, _⟩
          · exact h
          · exact absurd (z.symm.trans h) (by decide)
        refine br_t rfl (ok_y_at1 R hp (br_f gp0 (ok_y_bad0 hF hf (br_t rfl (ok_y_text (fun _ => br_f (by decide) ⟨rfl, ok_RI R⟩) (fun _ => br_t rfl ?_))))))
        rw [ok_idx, nI_clamp (n := g p * 4 + f) (by omega)]
        exact ⟨ig, br_f (by rw [hz]; decide) ⟨rfl, ok_RI R⟩⟩
      · obtain ⟨hz, h3⟩ : nu (g p * 4 + f) = 0 ∧ (ok_bit s f 1 = false → va (rho p * 4 + f) = (it (g p * 4 + f)).toInt64) := by
          rcases hcf with ⟨h, _⟩ | ⟨_, h, h3, _⟩
          · exact absurd h z
          · exact ⟨h, h3⟩
        refine br_f (by decide) (ok_x_isSet (fun e => ?_) (fun e => ?_))
        · exact br_f (by decide) (ok_y_at1 R hp (br_f gp0 (ok_y_bad0 hF hf (br_t rfl (ok_y_text (fun _ => br_f (by decide) ⟨rfl, ok_RI R⟩) (fun z => absurd (e.symm.trans z) (by decide)))))))
        · refine br_t rfl ⟨vp_in_nI (by omega) (by omega), ?_⟩
          unfold wpX_cell
          dsimp only
          rw [nI_clamp (n := p) (by omega), hrp.1, ok_idx, nI_clamp (n := rho p * 4 + f) (by omega), h3 e]
          refine ⟨vp_in_nI (by omega) (by omega), ok_y_at1 R hp (br_f gp0 (ok_y_bad0 hF hf (br_t rfl (ok_y_text (fun z => absurd (e.symm.trans z) (by decide)) (fun _ => br_t rfl ?_)))))⟩
          rw [ok_idx, nI_clamp (n := g p * 4 + f) (by omega)]
          refine ⟨ig, br_t hz ⟨ig, ?_, ok_RI R⟩⟩
          simp
    · have hy' : ∀ f, f < F → v2 ≠ nI f := fun f hf z => hy ⟨f, hf, z⟩
      unfold wpX_hasValue
      exact ok_x_ent1 hn hp (br_f (by decide) (ok_x_field0 hF hy' (br_t rfl (br_t rfl (ok_y_at1 R hp (br_f gp0 (ok_y_bad1 hF hy' (br_f (by decide) ⟨rfl, ok_RI R⟩))))))))
  · have hx' : ∀ p, p < n → v1 ≠ nI p := fun p hp z => hx ⟨p, hp, z⟩
    unfold wpX_hasValue
    exact ok_x_ent0 hn hx' (br_t rfl (br_t rfl (ok_y_at0 R hx' (br_t (by decide) ⟨rfl, ok_RI R⟩))))
theorem i_vc_charAt {k : Nat} {u : SX} {v : SY} (I : i_Rel k u v) (hk : k + 4 ≤ 2050) (v1 : Int32) (v2 : Int32) (v3 : Int32) : wpX_charAt (fun r => wpY_charAt (fun r' => r' = r ∧ i_Rel (k + 4) u v) v v1 v2 v3) u v1 v2 v3 := by
  obtain ⟨F, n, s, ro, tg, fi, va, ty, nu, it, le, cs, rho, g, rfl, rfl, R⟩ := I
  have R0 := R
  obtain ⟨hF, hn, hr, hri, hg, ht, hc, hst, hs⟩ := R0
  unfold wpX_charAt wpY_charAt
  dsimp only
  by_cases hx : ∃ p, p < n ∧ v1 = nI p
  · obtain ⟨p, hp, rfl⟩ := hx
    have hrp := hr p (by omega)
    have hgp := hg p hp
    have gp0 : ¬ nI (g p) < 0 := nI_pos (by omega)
    by_cases hy : ∃ f, f < F ∧ v2 = nI f
    · obtain ⟨f, hf, rfl⟩ := hy
      have hcf := hc p f hp hf
      have ig : vp_in (nI (g p * 4 + f)) 84 := vp_in_nI (by omega) (by omega)
      have cg : (nI (g p * 4 + f)).toNatClampNeg = g p * 4 + f := nI_clamp (by omega)
      refine ok_has hF hn hp hf hrp (fun z => ?_) (fun z => ?_)
      · have hz : nu (g p * 4 + f) = 1 := by
          rcases hcf with ⟨_, h⟩ | ⟨h, _⟩
          · exact h
          · exact absurd (z.symm.trans h) (by decide)
        refine br_t rfl (ok_y_at1 R hp (br_f gp0 (ok_y_bad0 hF hf (br_t rfl (nm_r (ok_idx _ _) (ok_y_text (fun _ => br_f (by decide) ⟨ig, ?_⟩) (fun _ => br_t rfl ⟨rfl, ok_RI R⟩)))))))
        rw [cg]
        exact br_f (by rw [hz]; decide) ⟨rfl, ok_RI R⟩
      · obtain ⟨hz, h3⟩ : nu (g p * 4 + f) = 0 ∧ (ok_bit s f 1 = true → ok_tx (le (g p * 4 + f)) (ok_ch cs (g p * 4 + f)) ∧ va (rho p * 4 + f) = lN (ok_pk (ok_dg (le (g p * 4 + f)) (ok_ch cs (g p * 4 + f))) 6)) := by
          rcases hcf with ⟨h, _⟩ | ⟨_, h, _, h3⟩
          · exact absurd h z
          · exact ⟨h, h3⟩
        refine br_f (by decide) (ok_x_isSet (fun e => ?_) (fun e => ?_))
        · refine br_f (by decide) ?_
          obtain ⟨TX, hv⟩ := h3 e
          have tx' := TX
          obtain ⟨l, hl, hle, hch⟩ := tx'
          by_cases c0 : v3 < 0
          · refine br_t c0 (ok_y_at1 R hp (br_f gp0 (ok_y_bad0 hF hf (br_t rfl (nm_r (ok_idx _ _) (ok_y_text (fun _ => br_f (by decide) ⟨ig, ?_⟩) (fun z => absurd (e.symm.trans z) (by decide))))))))
            rw [cg]
            exact br_t hz (br_t c0 ⟨rfl, ok_RI R⟩)
          · refine br_f c0 ?_
            obtain ⟨i, hi31, rfl⟩ := nI_of c0
            by_cases c6 : i < 6
            · refine br_t (nI_lt (b := 6) c6 (by decide)) ⟨vp_in_nI (by omega) (by omega), ?_⟩
              unfold wpX_cell
              dsimp only
              rw [nI_clamp (n := p) (by omega), hrp.1, ok_idx, nI_clamp (n := rho p * 4 + f) (by omega)]
              refine ⟨vp_in_nI (by omega) (by omega), nm_r hv ?_⟩
              refine ok_x_code c6 (ok_dg_lt TX) ?_
              have d := ok_dg_ne (ch := ok_ch cs (g p * 4 + f)) hl hle
              by_cases cl : i < l
              · obtain ⟨q, hq, hqe⟩ := hch i cl
                have e4 : ok_dg (le (g p * 4 + f)) (ok_ch cs (g p * 4 + f)) i = q + 1 := by
                  unfold ok_dg
                  rw [hle, nI_clamp (by omega), if_pos cl, hqe, nI_clamp (by omega)]
                rw [e4]
                refine br_f (nI_ne0 (by omega) (by omega)) ?_
                rw [nI_pred]
                refine ok_y_at1 R hp (br_f gp0 (ok_y_bad0 hF hf (br_t rfl (nm_r (ok_idx _ _) (ok_y_text (fun _ => br_f (by decide) ⟨ig, ?_⟩) (fun z => absurd (e.symm.trans z) (by decide)))))))
                rw [cg]
                refine br_t hz (br_f c0 ⟨ig, ?_⟩)
                rw [hle]
                refine br_t (nI_lt cl (by omega)) ?_
                rw [ok_idx6, nI_clamp (n := (g p * 4 + f) * 6 + i) (by omega)]
                refine ⟨vp_in_nI (by omega) (by omega), ?_, ok_RI R⟩
                have e5 : ok_ch cs (g p * 4 + f) i = cs ((g p * 4 + f) * 6 + i) := if_pos c6
                rw [← e5, hqe]
              · rw [d.2 i (by omega)]
                refine br_t nI_0 (ok_y_at1 R hp (br_f gp0 (ok_y_bad0 hF hf (br_t rfl (nm_r (ok_idx _ _) (ok_y_text (fun _ => br_f (by decide) ⟨ig, ?_⟩) (fun z => absurd (e.symm.trans z) (by decide))))))))
                rw [cg]
                refine br_t hz (br_f c0 ⟨ig, ?_⟩)
                rw [hle]
                exact br_f (nI_nlt (by omega) (by omega)) ⟨rfl, ok_RI R⟩
            · refine br_f (nI_nlt (b := 6) (by omega) hi31) (ok_y_at1 R hp (br_f gp0 (ok_y_bad0 hF hf (br_t rfl (nm_r (ok_idx _ _) (ok_y_text (fun _ => br_f (by decide) ⟨ig, ?_⟩) (fun z => absurd (e.symm.trans z) (by decide))))))))
              rw [cg]
              refine br_t hz (br_f c0 ⟨ig, ?_⟩)
              rw [hle]
              exact br_f (nI_nlt (by omega) hi31) ⟨rfl, ok_RI R⟩
        · exact br_t rfl (ok_y_at1 R hp (br_f gp0 (ok_y_bad0 hF hf (br_t rfl (nm_r (ok_idx _ _) (ok_y_text (fun z => absurd (e.symm.trans z) (by decide)) (fun _ => br_t rfl ⟨rfl, ok_RI R⟩)))))))
    · have hy' : ∀ f, f < F → v2 ≠ nI f := fun f hf z => hy ⟨f, hf, z⟩
      unfold wpX_hasValue
      exact ok_x_ent1 hn hp (br_f (by decide) (ok_x_field0 hF hy' (br_t rfl (br_t rfl (ok_y_at1 R hp (br_f gp0 (ok_y_bad1 hF hy' (br_f (by decide) ⟨rfl, ok_RI R⟩))))))))
  · have hx' : ∀ p, p < n → v1 ≠ nI p := fun p hp z => hx ⟨p, hp, z⟩
    unfold wpX_hasValue
    exact ok_x_ent0 hn hx' (br_t rfl (br_t rfl (ok_y_at0 R hx' (br_t (by decide) ⟨rfl, ok_RI R⟩))))
theorem i_vc_nullAt {k : Nat} {u : SX} {v : SY} (I : i_Rel k u v) (hk : k + 4 ≤ 2050) (v1 : Int32) (v2 : Int32) : wpX_nullAt (fun r => wpY_nullAt (fun r' => r' = r ∧ i_Rel (k + 4) u v) v v1 v2) u v1 v2 := by
  obtain ⟨F, n, s, ro, tg, fi, va, ty, nu, it, le, cs, rho, g, rfl, rfl, R⟩ := I
  have R0 := R
  obtain ⟨hF, hn, hr, hri, hg, ht, hc, hst, hs⟩ := R0
  unfold wpX_nullAt wpY_nullAt
  dsimp only
  by_cases hx : ∃ p, p < n ∧ v1 = nI p
  · obtain ⟨p, hp, rfl⟩ := hx
    have hrp := hr p (by omega)
    have hgp := hg p hp
    have gp0 : ¬ nI (g p) < 0 := nI_pos (by omega)
    refine ok_x_ent1 hn hp (br_f (by decide) ?_)
    by_cases hy : ∃ f, f < F ∧ v2 = nI f
    · obtain ⟨f, hf, rfl⟩ := hy
      have hcf := hc p f hp hf
      have ig : vp_in (nI (g p * 4 + f)) 84 := vp_in_nI (by omega) (by omega)
      refine ok_x_field1 hF hf (br_f (by decide) ⟨vp_in_nI (by omega) (by omega), ?_⟩)
      unfold wpX_cell
      dsimp only
      rw [nI_clamp (n := p) (by omega), hrp.1, ok_idx, nI_clamp (n := rho p * 4 + f) (by omega)]
      refine ⟨vp_in_nI (by omega) (by omega), ?_⟩
      rcases hcf with ⟨h1, h2⟩ | ⟨h1, h2, _⟩
      · have h1' : fi (rho p * 4 + f) = 0 := h1
        have h2' : nu (g p * 4 + f) = 1 := h2
        refine br_t h1' (ok_y_at1 R hp (br_f gp0 (ok_y_bad0 hF hf (br_t rfl ?_))))
        rw [ok_idx, nI_clamp (n := g p * 4 + f) (by omega)]
        exact ⟨ig, br_f (by rw [h2']; decide) ⟨rfl, ok_RI R⟩⟩
      · have h1' : fi (rho p * 4 + f) = 1 := h1
        have h2' : nu (g p * 4 + f) = 0 := h2
        refine br_f (by rw [h1']; decide) (ok_y_at1 R hp (br_f gp0 (ok_y_bad0 hF hf (br_t rfl ?_))))
        rw [ok_idx, nI_clamp (n := g p * 4 + f) (by omega)]
        exact ⟨ig, br_t h2' ⟨rfl, ok_RI R⟩⟩
    · have hy' : ∀ f, f < F → v2 ≠ nI f := fun f hf z => hy ⟨f, hf, z⟩
      exact ok_x_field0 hF hy' (br_t rfl (ok_y_at1 R hp (br_f gp0 (ok_y_bad1 hF hy' (br_f (by decide) ⟨rfl, ok_RI R⟩)))))
  · have hx' : ∀ p, p < n → v1 ≠ nI p := fun p hp z => hx ⟨p, hp, z⟩
    exact ok_x_ent0 hn hx' (br_t rfl (ok_y_at0 R hx' (br_t (by decide) ⟨rfl, ok_RI R⟩)))
end
section
/-! below, matching, load, add, remove -/
section
variable {F n : Nat} {s : Int32} {ro tg fi : Nat → Int32} {va : Nat → Int64} {ty nu it le cs : Nat → Int32} {rho g : Nat → Nat}
theorem ok_x_cmpT {post : Int32 → Prop} {Fi C : Int32} {r e m : Nat} (hr : r < 20) (hm : m ≤ 4) (ca : ∀ f, f < m → ok_CR s f (ok_X fi va (r * 4 + f)) (ok_Y nu it le cs (e * 4 + f))) (cb : ∀ f, f < m → ok_CR s f (ok_X fi va (80 + f)) (ok_Y nu it le cs (80 + f)))
    (hp : post (ok_sg (ok_T s nu it le cs m e) (ok_T s nu it le cs m 20))) : wpX_compareToStage post (Fi, s, C, ro, tg, fi, va) (nI r) (nI m) :=
  ok_x_cmp (ya := fun f => ok_Y nu it le cs (e * 4 + f)) (yb := fun f => ok_Y nu it le cs (20 * 4 + f)) hr hm ca cb hp
theorem ok_y_cmpT {post : Int32 → Prop} {Fi C : Int32} {e m : Nat} (he : e < 20) (hm : m ≤ 4) (ca : ∀ f, f < m → ok_WF s f (ok_Y nu it le cs (e * 4 + f))) (cb : ∀ f, f < m → ok_WF s f (ok_Y nu it le cs (80 + f)))
    (hp : post (ok_sg (ok_T s nu it le cs m e) (ok_T s nu it le cs m 20))) : wpY_compare post (Fi, s, C, ty, nu, it, le, cs) (nI e) 20 (nI m) :=
  ok_y_cmp (y := 20) (by omega) (by omega) hm ca cb hp
theorem ok_R_st (R : ok_R F n s ro tg fi va ty nu it le cs rho g) : ∀ f, f < F → ok_WF s f (ok_Y nu it le cs (80 + f)) := fun f hf => ok_CR_WF (R.2.2.2.2.2.2.2.1 f hf)
end
theorem i_vc_below {k : Nat} {u : SX} {v : SY} (I : i_Rel k u v) (hk : k + 4 ≤ 2050) : wpX_below (fun r => wpY_below (fun r' => r' = r ∧ i_Rel (k + 4) u v) v) u := by
  obtain ⟨F, n, s, ro, tg, fi, va, ty, nu, it, le, cs, rho, g, rfl, rfl, R⟩ := I
  have R0 := R
  have W := ok_R_WF R
  have WS := ok_R_st R
  obtain ⟨hF, hn, hr, hri, hg, ht, hc, hst, hs⟩ := R0
  refine ok_x_below (rho := rho) (t := fun p => ok_T s nu it le cs F (g p)) (t0 := ok_T s nu it le cs F 20) hn (fun p hp => (hr p (by omega)).1) (fun p hp post h => ok_x_cmpT (hr p (by omega)).2 hF (fun f hf => hc p f hp hf) hst h) ?_
  refine ok_y_below (t := fun p => ok_T s nu it le cs F p) (t0 := ok_T s nu it le cs F 20) hn (fun p hp post h => ok_y_cmpT (by omega) hF (W p hp) WS h) ⟨?_, ok_RI R⟩
  rw [ok_cn_perm (g := g) (fun p => decide (ok_T s nu it le cs F p < ok_T s nu it le cs F 20)) hg (ok_lt_inj hs)]
theorem i_vc_matching {k : Nat} {u : SX} {v : SY} (I : i_Rel k u v) (hk : k + 4 ≤ 2050) (v1 : Int32) : wpX_matching (fun r => wpY_matching (fun r' => r' = r ∧ i_Rel (k + 4) u v) v v1) u v1 := by
  obtain ⟨F, n, s, ro, tg, fi, va, ty, nu, it, le, cs, rho, g, rfl, rfl, R⟩ := I
  have R0 := R
  have W := ok_R_WF R
  have WS := ok_R_st R
  obtain ⟨hF, hn, hr, hri, hg, ht, hc, hst, hs⟩ := R0
  by_cases h0 : v1 < 0
  · exact br_t h0 (br_t h0 ⟨rfl, ok_RI R⟩)
  · by_cases h4 : v1 ≤ nI F
    · obtain ⟨m, hm31, rfl⟩ := nI_of h0
      have hm : m ≤ F := (nI_leI hm31 (by omega)).mp h4
      refine br_f h0 (br_t h4 (ok_x_match (rho := rho) (t := fun p => ok_T s nu it le cs m (g p)) (t0 := ok_T s nu it le cs m 20) hn (fun p hp => (hr p (by omega)).1) (fun p hp post h => ok_x_cmpT (hr p (by omega)).2 (by omega) (fun f hf => hc p f hp (by omega)) (fun f hf => hst f (by omega)) h) ?_))
      refine br_f h0 (br_t h4 (ok_y_match (t := fun p => ok_T s nu it le cs m p) (t0 := ok_T s nu it le cs m 20) hn (fun p hp post h => ok_y_cmpT (by omega) (by omega) (fun f hf => W p hp f (by omega)) (fun f hf => WS f (by omega)) h) ⟨?_, ok_RI R⟩))
      rw [ok_cn_perm (g := g) (fun p => decide (ok_T s nu it le cs m p = ok_T s nu it le cs m 20)) hg (ok_lt_inj hs)]
    · exact br_f h0 (br_f h4 (br_f h0 (br_f h4 ⟨rfl, ok_RI R⟩)))
theorem i_vc_load {k : Nat} {u : SX} {v : SY} (I : i_Rel k u v) (hk : k + 4 ≤ 2050) (v1 : Int32) : wpX_load (fun r u' => wpY_load (fun r' v' => r' = r ∧ i_Rel (k + 4) u' v') v v1) u v1 := by
  obtain ⟨F, n, s, ro, tg, fi, va, ty, nu, it, le, cs, rho, g, rfl, rfl, R⟩ := I
  have R0 := R
  obtain ⟨hF, hn, hr, hri, hg, ht, hc, hst, hs⟩ := R0
  unfold wpX_load wpY_load
  dsimp only
  by_cases hx : ∃ p, p < n ∧ v1 = nI p
  · obtain ⟨p, hp, rfl⟩ := hx
    have hrp := hr p (by omega)
    have hgp := hg p hp
    refine ok_x_ent1 hn hp (br_f (by decide) ⟨vp_in_nI (by omega) (by omega), ?_⟩)
    rw [nI_clamp (n := p) (by omega)]
    refine nm_r hrp.1 ?_
    refine ok_x_copy (a := rho p) (b := 20) (by omega) (by omega) (by omega) hF (fun fi' va' c1 c2 => ?_)
    refine ⟨vp_in_nI (by omega) (by omega), ?_⟩
    rw [nI_clamp (n := rho p) (by omega)]
    refine ok_y_at1 R hp (br_t (nI_pos' (by omega)) ?_)
    refine ok_y_copy (a := g p) (b := 20) (by omega) (by omega) (by omega) (fun nu' it' le' cs' d1 d2 => ?_)
    refine ⟨vp_in_nI (by omega) (by omega), ?_⟩
    rw [nI_clamp (n := g p) (by omega)]
    refine ⟨(ht p hp).symm, ok_RI (ok_R_stage R (fun e f he hf => c2 e f (by omega) hf) (fun e f he hf => d2 e f (by omega) hf) (fun f hf => ?_))⟩
    have h1 := c1 f hf
    have h2 := d1 f (by omega)
    have h3 := hc p f hp hf
    rw [(ok_CR_n h3).1] at h1
    rw [(ok_CR_n h3).2] at h2
    rw [show 20 * 4 + f = 80 + f from rfl] at h1 h2
    rw [h1, h2]
    exact h3
  · have hx' : ∀ p, p < n → v1 ≠ nI p := fun p hp z => hx ⟨p, hp, z⟩
    exact ok_x_ent0 hn hx' (br_t rfl (ok_y_at0 R hx' (br_f (by decide) ⟨rfl, ok_RI R⟩)))
/-! add -/
def ok_ins (c n j : Nat) : Nat := if j < c then j else if j = c then n else if j ≤ n then j - 1 else j
theorem ok_ins_lo {c n j : Nat} (h : j < c) : ok_ins c n j = j := if_pos h
theorem ok_ins_at {c n : Nat} : ok_ins c n c = n := by
  unfold ok_ins
  rw [if_neg (by omega), if_pos rfl]
theorem ok_ins_hi {c n j : Nat} (h : c < j) (h2 : j ≤ n) : ok_ins c n j = j - 1 := by
  unfold ok_ins
  rw [if_neg (by omega), if_neg (by omega), if_pos h2]
theorem ok_ins_inj {c n p q : Nat} (hc : c ≤ n) (h : p < q) : ok_ins c n p ≠ ok_ins c n q := by
  unfold ok_ins
  split <;> split <;> (try split) <;> (try split) <;> (try split) <;> (try split) <;> omega
theorem ok_ins_lt {c n p : Nat} (hn : n < 20) (h : p < 20) : ok_ins c n p < 20 := by
  unfold ok_ins
  split <;> (try split) <;> (try split) <;> omega
theorem ok_ins_r {c n : Nat} {x : Int32} {ro : Nat → Int32} {rho : Nat → Nat} (hx : x = ro n) (j : Nat) : (if j < c then ro j else if j = c then x else if j ≤ n then ro (j - 1) else ro j) = ro (ok_ins c n j) := by
  unfold ok_ins
  by_cases h1 : j < c
  · rw [if_pos h1, if_pos h1]
  · rw [if_neg h1, if_neg h1]
    by_cases h2 : j = c
    · rw [if_pos h2, if_pos h2, hx]
    · rw [if_neg h2, if_neg h2]
      by_cases h3 : j ≤ n
      · rw [if_pos h3, if_pos h3]
      · rw [if_neg h3, if_neg h3]
/-- p ≤ n lies below, at or above the new place -/
theorem ok_ins_c {c n p : Nat} (hc : c ≤ n) (hp : p < n + 1) : (p < c ∧ ok_ins c n p = p ∧ p < n) ∨ (p = c ∧ ok_ins c n p = n) ∨ (c < p ∧ ok_ins c n p = p - 1 ∧ p - 1 < n ∧ c ≤ p - 1) := by
  rcases Nat.lt_or_ge p c with h | h
  · exact Or.inl ⟨h, ok_ins_lo h, by omega⟩
  · rcases Nat.eq_or_lt_of_le h with h2 | h2
    · subst h2; exact Or.inr (Or.inl ⟨rfl, ok_ins_at⟩)
    · exact Or.inr (Or.inr ⟨h2, ok_ins_hi h2 (by omega), by omega, by omega⟩)
theorem ok_R_add {F n c : Nat} {s tag : Int32} {ro ro' tg fi fi' : Nat → Int32} {va va' : Nat → Int64} {ty nu it le cs nu' it' le' cs' : Nat → Int32} {rho g : Nat → Nat} (R : ok_R F n s ro tg fi va ty nu it le cs rho g) (hn20 : n < 20)
    (hcc : c = ok_cn (fun p => decide (ok_T s nu it le cs F (g p) ≤ ok_T s nu it le cs F 20)) n)
    (c1 : ∀ f, f < F → ok_X fi' va' (rho n * 4 + f) = ok_nX (ok_X fi va (20 * 4 + f))) (c2 : ∀ e f, e ≠ rho n → f < 4 → ok_X fi' va' (e * 4 + f) = ok_X fi va (e * 4 + f))
    (d1 : ∀ f, f < 4 → ok_Y nu' it' le' cs' (n * 4 + f) = ok_nY (ok_Y nu it le cs (20 * 4 + f))) (d2 : ∀ e f, e ≠ n → f < 4 → ok_Y nu' it' le' cs' (e * 4 + f) = ok_Y nu it le cs (e * 4 + f))
    (hro : ∀ j, ro' j = ro (ok_ins c n j)) :
    ok_R F (n + 1) s ro' (upd tg (rho n) tag) fi' va' (upd ty n tag) nu' it' le' cs' (fun p => rho (ok_ins c n p)) (fun p => if ok_ins c n p = n then n else g (ok_ins c n p))
    ∧ ok_cn (fun i => ok_lt (ok_T s nu' it' le' cs' F) i n) (n + 1) = c
    ∧ (∀ i, i < n + 1 → ∀ f, f < F → ok_WF s f (ok_Y nu' it' le' cs' (i * 4 + f))) := by
  have W := ok_R_WF R
  obtain ⟨hF, hn, hr, hri, hg, ht, hc, hst, hs⟩ := R
  have hrn := (hr n hn20).2
  have hcn : c ≤ n := by rw [hcc]; exact ok_cn_le _ _
  have rne : ∀ p, p < n → rho p ≠ rho n := fun p hp => hri p n hp hn20
  have T1 : ∀ e, e < n → ok_T s nu' it' le' cs' F e = ok_T s nu it le cs F e := fun e he => ok_T_congr (fun f hf => d2 e f (by omega) (by omega))
  have d1' : ∀ f, f < F → ok_Y nu' it' le' cs' (n * 4 + f) = ok_Y nu it le cs (80 + f) := fun f hf => by
    rw [d1 f (by omega), show 20 * 4 + f = 80 + f from rfl]
    exact (ok_CR_n (hst f hf)).2
  have c1' : ∀ f, f < F → ok_X fi' va' (rho n * 4 + f) = ok_X fi va (80 + f) := fun f hf => by
    rw [c1 f hf, show 20 * 4 + f = 80 + f from rfl]
    exact (ok_CR_n (hst f hf)).1
  have T2 : ok_T s nu' it' le' cs' F n = ok_T s nu it le cs F 20 := ok_T_congr (fun f hf => d1' f hf)
  have mono := ok_cn_mono (P := fun p => decide (ok_T s nu it le cs F (g p) ≤ ok_T s nu it le cs F 20)) n (fun i j h1 h2 h3 => by
    have := ok_lt_iff.mp (hs i j h1 h2)
    simp only [decide_eq_true_eq] at h3 ⊢
    omega)
  rw [← hcc] at mono
  have below : ∀ p, p < n → p < c → ok_T s nu it le cs F (g p) ≤ ok_T s nu it le cs F 20 := fun p hp h => by
    simpa using (mono p hp).mpr h
  have above : ∀ p, p < n → c ≤ p → ok_T s nu it le cs F 20 < ok_T s nu it le cs F (g p) := fun p hp h => by
    have : ¬ ok_T s nu it le cs F (g p) ≤ ok_T s nu it le cs F 20 := fun z => by
      have := (mono p hp).mp (by simpa using z)
      omega
    omega
  have G : ∀ p, p < n → (if p = n then n else g p) = g p := fun p hp => if_neg (by omega)
  refine ⟨⟨hF, by omega, fun p hp => ?_, fun p q h1 h2 => ?_, fun p hp => ?_, fun p hp => ?_, fun p f hp hf => ?_, fun f hf => ?_, fun p q h1 h2 => ?_⟩, ?_, ?_⟩
  · rw [hro p]
    exact hr _ (ok_ins_lt hn20 hp)
  · have a := ok_ins_inj (c := c) (n := n) hcn h1
    have b1 := ok_ins_lt (c := c) (n := n) hn20 (show p < 20 by omega)
    have b2 := ok_ins_lt (c := c) (n := n) hn20 h2
    rcases Nat.lt_or_gt_of_ne a with h | h
    · exact hri _ _ h b2
    · exact (hri _ _ h b1).symm
  · dsimp only
    rcases ok_ins_c hcn hp with ⟨_, e, h⟩ | ⟨_, e⟩ | ⟨_, e, h, _⟩
    · rw [e, G p h]; have := hg p h; omega
    · rw [e, if_pos rfl]; omega
    · rw [e, G _ h]; have := hg _ h; omega
  · dsimp only
    rcases ok_ins_c hcn hp with ⟨_, e, h⟩ | ⟨_, e⟩ | ⟨_, e, h, _⟩
    · rw [e, G p h, pk_un (rne p h), pk_un (by have := hg p h; omega)]; exact ht p h
    · rw [e, if_pos rfl, pk_us, pk_us]
    · rw [e, G _ h, pk_un (rne _ h), pk_un (by have := hg _ h; omega)]; exact ht _ h
  · dsimp only
    rcases ok_ins_c hcn hp with ⟨_, e, h⟩ | ⟨_, e⟩ | ⟨_, e, h, _⟩
    · rw [e, G p h, c2 _ f (rne p h) (by omega), d2 _ f (by have := hg p h; omega) (by omega)]; exact hc p f h hf
    · rw [e, if_pos rfl, c1' f hf, d1' f hf]; exact hst f hf
    · rw [e, G _ h, c2 _ f (rne _ h) (by omega), d2 _ f (by have := hg _ h; omega) (by omega)]; exact hc _ f h hf
  · have h1 := c2 20 f (by omega) (by omega)
    have h2 := d2 20 f (by omega) (by omega)
    rw [show 20 * 4 + f = 80 + f from rfl] at h1 h2
    rw [h1, h2]
    exact hst f hf
  · dsimp only
    rcases ok_ins_c hcn (show p < n + 1 by omega) with ⟨a1, e, h⟩ | ⟨a1, e⟩ | ⟨a1, e, h, a2⟩
    · rw [e, G p h]
      have gp := hg p h
      rcases ok_ins_c hcn h2 with ⟨b1, e', h'⟩ | ⟨b1, e'⟩ | ⟨b1, e', h', b2⟩
      · rw [e', G q h', ok_lt_congr (T1 _ gp) (T1 _ (hg q h'))]
        exact hs p q h1 h'
      · rw [e', if_pos rfl]
        refine ok_lt_iff.mpr ?_
        rw [T1 _ gp, T2]
        have := below p h a1
        omega
      · rw [e', G _ h', ok_lt_congr (T1 _ gp) (T1 _ (hg _ h'))]
        exact hs p (q - 1) (by omega) h'
    · rcases ok_ins_c hcn h2 with ⟨b1, e', h'⟩ | ⟨b1, e'⟩ | ⟨b1, e', h', b2⟩
      · omega
      · omega
      · rw [e, if_pos rfl, e', G _ h']
        refine ok_lt_iff.mpr (Or.inl ?_)
        rw [T1 _ (hg _ h'), T2]
        exact above _ h' b2
    · rcases ok_ins_c hcn h2 with ⟨b1, e', h'⟩ | ⟨b1, e'⟩ | ⟨b1, e', h', b2⟩
      · omega
      · omega
      · rw [e, G _ h, e', G _ h', ok_lt_congr (T1 _ (hg _ h)) (T1 _ (hg _ h'))]
        exact hs (p - 1) (q - 1) (by omega) h'
  · rw [ok_cn_f (P := fun i => ok_lt (ok_T s nu' it' le' cs' F) i n) (by
      cases e : ok_lt (ok_T s nu' it' le' cs' F) n n with
      | false => rfl
      | true =>
        have := ok_lt_iff.mp e
        omega)]
    rw [hcc, ok_cn_perm (g := g) (fun p => decide (ok_T s nu it le cs F p ≤ ok_T s nu it le cs F 20)) hg (ok_lt_inj hs)]
    refine ok_cn_congr (fun i hi => ?_)
    unfold ok_lt
    rw [T1 i hi, T2]
    refine decide_eq_decide.mpr ?_
    omega
  · intro i hi f hf
    by_cases e : i = n
    · subst e
      rw [d1' f hf]
      exact ok_CR_WF (hst f hf)
    · rw [d2 i f e (by omega)]
      exact W i (by omega) f hf
theorem i_vc_add {k : Nat} {u : SX} {v : SY} (I : i_Rel k u v) (hk : k + 4 ≤ 2050) (v1 : Int32) : wpX_add (fun r u' => wpY_add (fun r' v' => r' = r ∧ i_Rel (k + 4) u' v') v v1) u v1 := by
  obtain ⟨F, n, s, ro, tg, fi, va, ty, nu, it, le, cs, rho, g, rfl, rfl, R⟩ := I
  have R0 := R
  obtain ⟨hF, hn, hr, hri, hg, ht, hc, hst, hs⟩ := R0
  unfold wpX_add wpY_add
  dsimp only
  by_cases h20 : n < 20
  · have hrn := hr n h20
    refine br_t (nI_lt (b := 20) h20 (by decide)) ⟨vp_in_nI (by omega) (by omega), ?_⟩
    rw [nI_clamp (n := n) (by omega)]
    refine nm_r hrn.1 ?_
    refine ok_x_copy (a := 20) (b := rho n) (by omega) (by omega) (by omega) hF (fun fi' va' c1 c2 => ?_)
    refine ⟨vp_in_nI (by omega) (by omega), ?_⟩
    rw [nI_clamp (n := rho n) (by omega)]
    refine nm_e ?_
    have hst' : ∀ f, f < F → ok_CR s f (ok_X fi' va' (80 + f)) (ok_Y nu it le cs (80 + f)) := fun f hf => by
      have h1 := c2 20 f (by omega) (by omega)
      rw [show 20 * 4 + f = 80 + f from rfl] at h1
      rw [h1]
      exact hst f hf
    refine ok_x_cnb (rho := rho) (t := fun p => ok_T s nu it le cs F (g p)) (t0 := ok_T s nu it le cs F 20) hn (fun p hp => (hr p (by omega)).1) (fun p hp post h => ok_x_cmpT (hr p (by omega)).2 hF (fun f hf => ?_) hst' h) ?_
    · rw [c2 _ f (hri p n hp h20) (by omega)]
      exact hc p f hp hf
    · generalize hcc : ok_cn (fun p => decide (ok_T s nu it le cs F (g p) ≤ ok_T s nu it le cs F 20)) n = c
      have hcn : c ≤ n := by rw [← hcc]; exact ok_cn_le _ _
      refine ⟨n - c + 1, ok_x_addL (n := n) (c := c) h20 hcn (fun ro' hro => ?_) (n - c) n (by omega) (Nat.le_refl _) ro (fun j => by rw [if_neg (by omega)])⟩
      refine br_f (fun z => ?_) ?_
      · have : n = 20 := (nI_eq (b := 20) (by omega) (by decide)).mp z
        omega
      · refine ok_y_copy (a := 20) (b := n) (by omega) (by omega) (by omega) (fun nu' it' le' cs' d1 d2 => ?_)
        refine ⟨vp_in_nI (by omega) (by omega), ?_⟩
        rw [nI_clamp (n := n) (by omega)]
        refine nm_e (nm_r (nI_1 n) ?_)
        rw [nI_pred]
        obtain ⟨R', e1, W'⟩ := ok_R_add (tag := v1) R h20 hcc.symm c1 c2 d1 d2 (fun j => (hro j).trans (ok_ins_r (rho := rho) hrn.1.symm j))
        refine ok_y_place (n := n + 1) (by omega) (by omega) hF W' (W' n (by omega)) ⟨?_, ok_RI R'⟩
        rw [e1]
  · have : n = 20 := by omega
    subst this
    exact br_f (by decide) (br_t (by decide) ⟨rfl, ok_RI R⟩)
/-! remove -/
def ok_del (p m j : Nat) : Nat := if j < p then j else if j < m then j + 1 else if j = m then p else j
theorem ok_del_r {p m : Nat} {x : Int32} {ro : Nat → Int32} (hx : x = ro p) (j : Nat) : (if j < p then ro j else if j < m then ro (j + 1) else if j = m then x else ro j) = ro (ok_del p m j) := by
  unfold ok_del
  by_cases h1 : j < p
  · rw [if_pos h1, if_pos h1]
  · rw [if_neg h1, if_neg h1]
    by_cases h2 : j < m
    · rw [if_pos h2, if_pos h2]
    · rw [if_neg h2, if_neg h2]
      by_cases h3 : j = m
      · rw [if_pos h3, if_pos h3, hx]
      · rw [if_neg h3, if_neg h3]
theorem ok_del_lt {p m j : Nat} (hp : p ≤ m) (hm : m < 20) (h : j < 20) : ok_del p m j < 20 := by
  unfold ok_del
  split <;> (try split) <;> (try split) <;> omega
theorem ok_del_inj {p m i j : Nat} (hp : p ≤ m) (h : i < j) : ok_del p m i ≠ ok_del p m j := by
  unfold ok_del
  split <;> split <;> (try split) <;> (try split) <;> (try split) <;> (try split) <;> omega
theorem ok_del_c {p m j : Nat} (h : j < m) : (j < p ∧ ok_del p m j = j) ∨ (p ≤ j ∧ ok_del p m j = j + 1) := by
  unfold ok_del
  by_cases h1 : j < p
  · exact Or.inl ⟨h1, if_pos h1⟩
  · exact Or.inr ⟨by omega, by rw [if_neg h1, if_pos h]⟩
def ok_dn (e x : Nat) : Nat := if x < e then x else x - 1
theorem ok_R_rem {F m p : Nat} {s : Int32} {ro ro' tg fi : Nat → Int32} {va : Nat → Int64} {ty nu it le cs ty' nu' it' le' cs' : Nat → Int32} {rho g : Nat → Nat} (R : ok_R F (m + 1) s ro tg fi va ty nu it le cs rho g) (hp : p < m + 1)
    (h1 : ∀ j, j < m → ty' j = if g p ≤ j then ty (j + 1) else ty j) (h2 : ∀ j f, j < m → f < F → ok_Y nu' it' le' cs' (j * 4 + f) = if g p ≤ j then ok_Y nu it le cs ((j + 1) * 4 + f) else ok_Y nu it le cs (j * 4 + f))
    (h3 : ∀ f, f < F → ok_Y nu' it' le' cs' (80 + f) = ok_Y nu it le cs (80 + f)) (hro : ∀ j, ro' j = ro (ok_del p m j)) :
    ok_R F m s ro' tg fi va ty' nu' it' le' cs' (fun j => rho (ok_del p m j)) (fun j => ok_dn (g p) (g (ok_del p m j))) := by
  obtain ⟨hF, hn, hr, hri, hg, ht, hc, hst, hs⟩ := R
  have gi := ok_lt_inj hs
  have D : ∀ j, j < m → ok_del p m j < m + 1 ∧ ok_del p m j ≠ p := fun j hj => by
    rcases ok_del_c (p := p) hj with ⟨a, e⟩ | ⟨a, e⟩
    · rw [e]; omega
    · rw [e]; omega
  have gne : ∀ q, q < m + 1 → q ≠ p → g q ≠ g p := fun q hq h => by
    rcases Nat.lt_or_gt_of_ne h with z | z
    · exact gi q p z hp
    · exact (gi p q z hq).symm
  have hgp := hg p hp
  -- the entry x of the old reference is the entry ok_dn (g p) x of the new one
  have key : ∀ x, x < m + 1 → x ≠ g p → ok_dn (g p) x < m ∧ ty' (ok_dn (g p) x) = ty x ∧ ∀ f, f < F → ok_Y nu' it' le' cs' (ok_dn (g p) x * 4 + f) = ok_Y nu it le cs (x * 4 + f) := fun x hx hne => by
    unfold ok_dn
    by_cases z : x < g p
    · rw [if_pos z]
      refine ⟨by omega, ?_, fun f hf => ?_⟩
      · rw [h1 x (by omega), if_neg (by omega)]
      · rw [h2 x f (by omega) hf, if_neg (by omega)]
    · rw [if_neg z]
      obtain ⟨y, rfl⟩ : ∃ y, x = y + 1 := ⟨x - 1, by omega⟩
      rw [Nat.add_sub_cancel]
      refine ⟨by omega, ?_, fun f hf => ?_⟩
      · rw [h1 y (by omega), if_pos (by omega)]
      · rw [h2 y f (by omega) hf, if_pos (by omega)]
  refine ⟨hF, by omega, fun j hj => ?_, fun i j a b => ?_, fun j hj => ?_, fun j hj => ?_, fun j f hj hf => ?_, fun f hf => ?_, fun i j a b => ?_⟩
  · rw [hro j]
    exact hr _ (ok_del_lt (by omega) (by omega) hj)
  · have c := ok_del_inj (p := p) (m := m) (by omega) a
    have b1 := ok_del_lt (p := p) (m := m) (by omega) (by omega) (show i < 20 by omega)
    have b2 := ok_del_lt (p := p) (m := m) (by omega) (by omega) b
    rcases Nat.lt_or_gt_of_ne c with h | h
    · exact hri _ _ h b2
    · exact (hri _ _ h b1).symm
  · have d := D j hj
    exact (key _ (hg _ d.1) (gne _ d.1 d.2)).1
  · have d := D j hj
    dsimp only
    rw [(key _ (hg _ d.1) (gne _ d.1 d.2)).2.1]
    exact ht _ d.1
  · have d := D j hj
    dsimp only
    rw [(key _ (hg _ d.1) (gne _ d.1 d.2)).2.2 f hf]
    exact hc _ f d.1 hf
  · rw [h3 f hf]
    exact hst f hf
  · have d1 := D i (by omega)
    have d2 := D j b
    have lt : ok_del p m i < ok_del p m j := by
      rcases ok_del_c (p := p) (show i < m by omega) with ⟨a1, e1⟩ | ⟨a1, e1⟩ <;> rcases ok_del_c (p := p) b with ⟨a2, e2⟩ | ⟨a2, e2⟩ <;> rw [e1, e2] <;> omega
    have hl := ok_lt_iff.mp (hs _ _ lt d2.1)
    have k1 := key _ (hg _ d1.1) (gne _ d1.1 d1.2)
    have k2 := key _ (hg _ d2.1) (gne _ d2.1 d2.2)
    have n1 := gne _ d1.1 d1.2
    have n2 := gne _ d2.1 d2.2
    refine ok_lt_iff.mpr ?_
    dsimp only
    rw [ok_T_congr k1.2.2, ok_T_congr k2.2.2]
    rcases hl with h | ⟨h, h'⟩
    · exact Or.inl h
    · refine Or.inr ⟨h, ?_⟩
      generalize g (ok_del p m i) = x at *
      generalize g (ok_del p m j) = y at *
      unfold ok_dn
      split <;> split <;> omega
theorem i_vc_remove {k : Nat} {u : SX} {v : SY} (I : i_Rel k u v) (hk : k + 4 ≤ 2050) (v1 : Int32) : wpX_remove (fun r u' => wpY_remove (fun r' v' => r' = r ∧ i_Rel (k + 4) u' v') v v1) u v1 := by
  obtain ⟨F, n, s, ro, tg, fi, va, ty, nu, it, le, cs, rho, g, rfl, rfl, R⟩ := I
  have R0 := R
  have W := ok_R_WF R
  obtain ⟨hF, hn, hr, hri, hg, ht, hc, hst, hs⟩ := R0
  unfold wpX_remove wpY_remove
  dsimp only
  by_cases hx : ∃ p, p < n ∧ v1 = nI p
  · obtain ⟨p, hp, rfl⟩ := hx
    have hrp := hr p (by omega)
    have hgp := hg p hp
    obtain ⟨m, rfl⟩ : ∃ m, n = m + 1 := ⟨n - 1, by omega⟩
    refine ok_x_ent1 hn hp (br_f (by decide) ⟨vp_in_nI (by omega) (by omega), ?_⟩)
    rw [nI_clamp (n := p) (by omega)]
    refine nm_e (nm_r (nI_pred m) ?_)
    refine ⟨m - p + 1, ok_x_remL (m := m) (p := p) (by omega) (by omega) (fun ro' hro => ?_) (m - p) p (by omega) (Nat.le_refl _) ro (fun j => by rw [if_neg (by omega)])⟩
    refine ok_y_at1 R hp (br_t (nI_pos' (by omega)) ⟨m - g p + 1, ?_⟩)
    refine ok_y_rem (m := m) (e := g p) (by omega) hF W (fun ty' nu' it' le' cs' h1 h2 h3 => ?_) (m - g p) (g p) (by omega) (Nat.le_refl _) ty nu it le cs (fun j => by rw [if_neg (by omega)]) (fun j f hf => by rw [if_neg (by omega)])
    exact ⟨rfl, ok_RI (ok_R_rem R hp h1 h2 h3 (fun j => (hro j).trans (ok_del_r rfl j)))⟩
  · have hx' : ∀ p, p < n → v1 ≠ nI p := fun p hp z => hx ⟨p, hp, z⟩
    exact ok_x_ent0 hn hx' (br_t rfl (ok_y_at0 R hx' (br_f (by decide) ⟨rfl, ok_RI R⟩)))
end
