/-! counting below a bound -/
def ok_cn (P : Nat → Bool) : Nat → Nat
  | 0 => 0
  | n + 1 => ok_cn P n + (P n).toNat
theorem ok_cn_t {P : Nat → Bool} {n : Nat} (h : P n = true) : ok_cn P (n + 1) = ok_cn P n + 1 := by
  show ok_cn P n + (P n).toNat = _
  rw [h]; rfl
theorem ok_cn_f {P : Nat → Bool} {n : Nat} (h : P n = false) : ok_cn P (n + 1) = ok_cn P n := by
  show ok_cn P n + (P n).toNat = _
  rw [h]; rfl
theorem ok_cn_le (P : Nat → Bool) (n : Nat) : ok_cn P n ≤ n := by
  induction n with
  | zero => exact Nat.le_refl _
  | succ n ih =>
    cases h : P n with
    | true => rw [ok_cn_t h]; omega
    | false => rw [ok_cn_f h]; omega
theorem ok_cn_congr {P Q : Nat → Bool} {n : Nat} (h : ∀ i, i < n → P i = Q i) : ok_cn P n = ok_cn Q n := by
  induction n with
  | zero => rfl
  | succ n ih =>
    show ok_cn P n + (P n).toNat = ok_cn Q n + (Q n).toNat
    rw [ih (fun i hi => h i (by omega)), h n (by omega)]
theorem ok_cn_not (P : Nat → Bool) (n : Nat) : ok_cn P n + ok_cn (fun i => !P i) n = n := by
  induction n with
  | zero => rfl
  | succ n ih =>
    cases h : P n with
    | true => rw [ok_cn_t h, ok_cn_f (P := fun i => !P i) (by simp [h])]; omega
    | false => rw [ok_cn_f h, ok_cn_t (P := fun i => !P i) (by simp [h])]; omega
theorem ok_cn_rm {P : Nat → Bool} {a : Nat} (hP : P a = true) : ∀ m, a < m → ok_cn P m = ok_cn (fun i => P i && decide (i ≠ a)) m + 1 := by
  intro m
  induction m with
  | zero => intro h; omega
  | succ m ih =>
    intro h
    by_cases e : a = m
    · subst e
      rw [ok_cn_t hP, ok_cn_f (P := fun i => P i && decide (i ≠ a)) (by simp)]
      congr 1
      exact ok_cn_congr (fun i hi => by simp [show i ≠ a by omega])
    · have ih' := ih (by omega)
      cases hm : P m with
      | true => rw [ok_cn_t hm, ok_cn_t (P := fun i => P i && decide (i ≠ a)) (by simp [hm]; omega), ih']
      | false => rw [ok_cn_f hm, ok_cn_f (P := fun i => P i && decide (i ≠ a)) (by simp [hm]), ih']
theorem ok_cn_inj {m : Nat} {g : Nat → Nat} : ∀ (n : Nat) (P : Nat → Bool), (∀ i, i < n → g i < m) → (∀ i j, i < j → j < n → g i ≠ g j) → ok_cn (fun i => P (g i)) n ≤ ok_cn P m := by
  intro n
  induction n with
  | zero => intro P _ _; exact Nat.zero_le _
  | succ n ih =>
    intro P hm hi
    cases h : P (g n) with
    | false =>
      rw [ok_cn_f (P := fun i => P (g i)) h]
      exact ih P (fun i hi => hm i (by omega)) (fun i j h1 h2 => hi i j h1 (by omega))
    | true =>
      rw [ok_cn_t (P := fun i => P (g i)) h, ok_cn_rm h m (hm n (by omega))]
      have e : ok_cn (fun i => P (g i)) n = ok_cn (fun i => P (g i) && decide (g i ≠ g n)) n := ok_cn_congr (fun i h1 => by
        have := hi i n h1 (by omega)
        simp [this])
      rw [e]
      have := ih (fun i => P i && decide (i ≠ g n)) (fun i hi => hm i (by omega)) (fun i j h1 h2 => hi i j h1 (by omega))
      omega
theorem ok_cn_perm {n : Nat} {g : Nat → Nat} (P : Nat → Bool) (hm : ∀ i, i < n → g i < n) (hi : ∀ i j, i < j → j < n → g i ≠ g j) : ok_cn (fun i => P (g i)) n = ok_cn P n := by
  have h1 := ok_cn_inj n P hm hi
  have h2 := ok_cn_inj n (fun i => !P i) hm hi
  have h3 := ok_cn_not P n
  have h4 := ok_cn_not (fun i => P (g i)) n
  have h5 : ok_cn (fun i => !(fun i => P (g i)) i) n = ok_cn (fun i => (fun i => !P i) (g i)) n := rfl
  omega
theorem ok_cn_lt (p : Nat) : ∀ n, p ≤ n → ok_cn (fun q => decide (q < p)) n = p := by
  intro n
  induction n with
  | zero => intro h; show 0 = p; omega
  | succ n ih =>
    intro h
    by_cases e : p = n + 1
    · subst e
      have : ok_cn (fun q => decide (q < n + 1)) n + ok_cn (fun i => !decide (i < n + 1)) n = n := ok_cn_not (fun q => decide (q < n + 1)) n
      have h0 : ∀ m, m ≤ n → ok_cn (fun i => !decide (i < n + 1)) m = 0 := by
        intro m
        induction m with
        | zero => intro _; rfl
        | succ m ihm => intro hm; rw [ok_cn_f (by simp; omega)]; exact ihm (by omega)
      rw [ok_cn_t (P := fun q => decide (q < n + 1)) (by simp)]
      have := h0 n (Nat.le_refl _)
      omega
    · rw [ok_cn_f (P := fun q => decide (q < p)) (by simp; omega)]
      exact ih (by omega)
theorem ok_cn_ex {P : Nat → Bool} : ∀ n, 0 < ok_cn P n → ∃ i, i < n ∧ P i = true := by
  intro n
  induction n with
  | zero => intro h; exact absurd h (Nat.lt_irrefl 0)
  | succ n ih =>
    intro h
    cases e : P n with
    | true => exact ⟨n, by omega, e⟩
    | false =>
      rw [ok_cn_f e] at h
      obtain ⟨i, h1, h2⟩ := ih h
      exact ⟨i, by omega, h2⟩
theorem ok_surj {n : Nat} {g : Nat → Nat} (hm : ∀ i, i < n → g i < n) (hi : ∀ i j, i < j → j < n → g i ≠ g j) (e : Nat) (he : e < n) : ∃ p, p < n ∧ g p = e := by
  have h1 := ok_cn_perm (fun i => decide (i = e)) hm hi
  have h2 := ok_cn_rm (P := fun i => decide (i = e)) (a := e) (by simp) n he
  obtain ⟨p, hp, h⟩ := ok_cn_ex (P := fun i => decide (g i = e)) n (by omega)
  exact ⟨p, hp, by simpa using h⟩
theorem ok_cn_mono {P : Nat → Bool} : ∀ n, (∀ i j, i < j → j < n → P j = true → P i = true) → ∀ p, p < n → (P p = true ↔ p < ok_cn P n) := by
  intro n
  induction n with
  | zero => intro _ p hp; omega
  | succ n ih =>
    intro h p hp
    have ih' := ih (fun i j h1 h2 => h i j h1 (by omega))
    have hle := ok_cn_le P n
    cases e : P n with
    | true =>
      have all : ∀ i, i < n → P i = true := fun i hi => h i n hi (by omega) e
      have hc : ok_cn P n = n := by
        have : ok_cn P n = ok_cn (fun q => decide (q < n)) n := ok_cn_congr (fun i hi => by rw [all i hi]; simp [hi])
        rw [this, ok_cn_lt n n (Nat.le_refl _)]
      rw [ok_cn_t e, hc]
      by_cases q : p = n
      · subst q; simp [e]
      · simp [all p (by omega)]; omega
    | false =>
      rw [ok_cn_f e]
      by_cases q : p = n
      · subst q
        simp [e]; omega
      · exact ih' p (by omega)
/-! the sign of a comparison, and numbers written by digits -/
def ok_sg (a b : Int) : Int32 := if a < b then -1 else if a = b then 0 else 1
theorem ok_sg_lt {a b : Int} (h : a < b) : ok_sg a b = -1 := if_pos h
theorem ok_sg_eq {a b : Int} (h : a = b) : ok_sg a b = 0 := by
  unfold ok_sg; rw [if_neg (by omega), if_pos h]
theorem ok_sg_gt {a b : Int} (h : b < a) : ok_sg a b = 1 := by
  unfold ok_sg; rw [if_neg (by omega), if_neg (by omega)]
theorem ok_tri (a b : Int) : a < b ∨ a = b ∨ b < a := by omega
theorem ok_sg0 (a b : Int) : ok_sg a b = 0 ↔ a = b := by
  rcases ok_tri a b with h | h | h
  · rw [ok_sg_lt h]; exact ⟨fun z => absurd z (by decide), fun z => by omega⟩
  · rw [ok_sg_eq h]; exact ⟨fun _ => h, fun _ => rfl⟩
  · rw [ok_sg_gt h]; exact ⟨fun z => absurd z (by decide), fun z => by omega⟩
theorem ok_sgN (a b : Int) : ok_sg a b < 0 ↔ a < b := by
  rcases ok_tri a b with h | h | h
  · rw [ok_sg_lt h]; exact ⟨fun _ => h, fun _ => by decide⟩
  · rw [ok_sg_eq h]; exact ⟨fun z => absurd z (by decide), fun z => by omega⟩
  · rw [ok_sg_gt h]; exact ⟨fun z => absurd z (by decide), fun z => by omega⟩
theorem ok_sgP (a b : Int) : 0 < ok_sg a b ↔ b < a := by
  rcases ok_tri a b with h | h | h
  · rw [ok_sg_lt h]; exact ⟨fun z => absurd z (by decide), fun z => by omega⟩
  · rw [ok_sg_eq h]; exact ⟨fun z => absurd z (by decide), fun z => by omega⟩
  · rw [ok_sg_gt h]; exact ⟨fun _ => h, fun _ => by decide⟩
theorem ok_sgG (a b : Int) : 0 ≤ ok_sg a b ↔ b ≤ a := by
  rcases ok_tri a b with h | h | h
  · rw [ok_sg_lt h]; exact ⟨fun z => absurd z (by decide), fun z => by omega⟩
  · rw [ok_sg_eq h]; exact ⟨fun _ => by omega, fun _ => by decide⟩
  · rw [ok_sg_gt h]; exact ⟨fun _ => by omega, fun _ => by decide⟩
theorem ok_sg_neg (a b : Int) : -(ok_sg a b) = ok_sg (-a) (-b) := by
  rcases ok_tri a b with h | h | h
  · rw [ok_sg_lt h, ok_sg_gt (by omega)]; decide
  · rw [ok_sg_eq h, ok_sg_eq (by omega)]; decide
  · rw [ok_sg_gt h, ok_sg_lt (by omega)]
theorem ok_hn {B x y a b : Int} (h : x - y < B) (hB : 0 ≤ B) (hab : a < b) : a * B + x < b * B + y := by
  have h1 : (a + 1) * B ≤ b * B := Int.mul_le_mul_of_nonneg_right (by omega) hB
  rw [Int.add_mul, Int.one_mul] at h1
  omega
theorem ok_sgB {B x y a b : Int} (h1 : x - y < B) (h2 : y - x < B) (hB : 0 ≤ B) : ok_sg (a * B + x) (b * B + y) = if a = b then ok_sg x y else ok_sg a b := by
  by_cases e : a = b
  · subst e
    rw [if_pos rfl]
    rcases ok_tri x y with h | h | h
    · rw [ok_sg_lt h, ok_sg_lt (by omega)]
    · rw [ok_sg_eq h, ok_sg_eq (by omega)]
    · rw [ok_sg_gt h, ok_sg_gt (by omega)]
  · rw [if_neg e]
    rcases ok_tri a b with h | h | h
    · rw [ok_sg_lt h, ok_sg_lt (ok_hn h1 hB h)]
    · exact absurd h e
    · rw [ok_sg_gt h, ok_sg_gt (ok_hn h2 hB h)]
def ok_H (B : Int) (K : Nat → Int) : Nat → Int
  | 0 => 0
  | f + 1 => ok_H B K f * B + K f
theorem ok_H_0 (B : Int) (K L : Nat → Int) : ok_H B K 0 = ok_H B L 0 := by
  have h1 : ok_H B K 0 = 0 := rfl
  have h2 : ok_H B L 0 = 0 := rfl
  rw [h1, h2]
theorem ok_H_congr {B : Int} {K L : Nat → Int} : ∀ m, (∀ f, f < m → K f = L f) → ok_H B K m = ok_H B L m := by
  intro m
  induction m with
  | zero => intro _; rfl
  | succ m ih =>
    intro h
    show ok_H B K m * B + K m = ok_H B L m * B + L m
    rw [ih (fun f hf => h f (by omega)), h m (by omega)]
theorem ok_H_ne {B : Int} {K L : Nat → Int} (hB : 0 ≤ B) (j : Nat) (hj : ok_H B K j ≠ ok_H B L j) : ∀ d, (∀ f, f < j + d → K f - L f < B ∧ L f - K f < B) → ok_sg (ok_H B K (j + d)) (ok_H B L (j + d)) = ok_sg (ok_H B K j) (ok_H B L j) := by
  intro d
  induction d with
  | zero => intro _; rfl
  | succ d ih =>
    intro h
    have ih' := ih (fun f hf => h f (by omega))
    have hd := h (j + d) (by omega)
    show ok_sg (ok_H B K (j + d) * B + K (j + d)) (ok_H B L (j + d) * B + L (j + d)) = _
    rw [ok_sgB hd.1 hd.2 hB]
    have hne : ok_H B K (j + d) ≠ ok_H B L (j + d) := fun z => by
      rw [ok_sg_eq z] at ih'
      exact hj ((ok_sg0 _ _).mp ih'.symm)
    rw [if_neg hne, ih']
theorem ok_H_at {B : Int} {K L : Nat → Int} (hB : 0 ≤ B) {j m : Nat} (hj : ok_H B K j = ok_H B L j) (hm : j < m) (hne : K j ≠ L j) (h : ∀ f, f < m → K f - L f < B ∧ L f - K f < B) : ok_sg (ok_H B K m) (ok_H B L m) = ok_sg (K j) (L j) := by
  have hd := h j hm
  have e : ok_sg (ok_H B K (j + 1)) (ok_H B L (j + 1)) = ok_sg (K j) (L j) := by
    show ok_sg (ok_H B K j * B + K j) (ok_H B L j * B + L j) = _
    rw [ok_sgB hd.1 hd.2 hB, if_pos hj]
  have hne' : ok_H B K (j + 1) ≠ ok_H B L (j + 1) := fun z => by
    rw [ok_sg_eq z] at e
    exact hne ((ok_sg0 _ _).mp e.symm)
  have := ok_H_ne hB (j + 1) hne' (m - (j + 1)) (fun f hf => h f (by omega))
  rw [show j + 1 + (m - (j + 1)) = m by omega, e] at this
  exact this
theorem ok_H_s {B : Int} {K L : Nat → Int} {j : Nat} (hj : ok_H B K j = ok_H B L j) (h : K j = L j) : ok_H B K (j + 1) = ok_H B L (j + 1) := by
  show ok_H B K j * B + K j = ok_H B L j * B + L j
  rw [hj, h]
/-! a text packed by nine bits a letter -/
def ok_pk (d : Nat → Nat) : Nat → Nat
  | 0 => 0
  | i + 1 => ok_pk d i * 512 + d i
theorem ok_pk_H (d : Nat → Nat) (m : Nat) : ((ok_pk d m : Nat) : Int) = ok_H 512 (fun i => (d i : Int)) m := by
  induction m with
  | zero => rfl
  | succ m ih =>
    show ((ok_pk d m * 512 + d m : Nat) : Int) = ok_H 512 (fun i => (d i : Int)) m * 512 + (d m : Int)
    rw [← ih, Int.natCast_add, Int.natCast_mul]
    rfl
theorem ok_pk_congr {d e : Nat → Nat} : ∀ m, (∀ i, i < m → d i = e i) → ok_pk d m = ok_pk e m := by
  intro m
  induction m with
  | zero => intro _; rfl
  | succ m ih =>
    intro h
    show ok_pk d m * 512 + d m = ok_pk e m * 512 + e m
    rw [ih (fun f hf => h f (by omega)), h m (by omega)]
theorem ok_pk_lt {d : Nat → Nat} : ∀ m, (∀ i, i < m → d i < 512) → ok_pk d m < 512 ^ m := by
  intro m
  induction m with
  | zero => intro _; exact Nat.zero_lt_one
  | succ m ih =>
    intro h
    have h1 := ih (fun i hi => h i (by omega))
    have h2 := h m (by omega)
    show ok_pk d m * 512 + d m < 512 ^ (m + 1)
    rw [Nat.pow_succ]
    omega
theorem ok_pk_div {d : Nat → Nat} (m : Nat) : ∀ j, (∀ i, i < m + j → d i < 512) → ok_pk d (m + j) / 512 ^ j = ok_pk d m := by
  intro j
  induction j with
  | zero => intro _; exact Nat.div_one _
  | succ j ih =>
    intro h
    have h1 := ih (fun i hi => h i (by omega))
    have h2 := h (m + j) (by omega)
    show (ok_pk d (m + j) * 512 + d (m + j)) / 512 ^ (j + 1) = _
    rw [Nat.pow_succ, Nat.mul_comm (512 ^ j) 512, ← Nat.div_div_eq_div_mul, show (ok_pk d (m + j) * 512 + d (m + j)) / 512 = ok_pk d (m + j) by omega, h1]
theorem ok_pk_0 {d : Nat → Nat} (m : Nat) (h : ∀ i, m ≤ i → d i = 0) : ∀ j, ok_pk d (m + j) = ok_pk d m * 512 ^ j := by
  intro j
  induction j with
  | zero => exact (Nat.mul_one _).symm
  | succ j ih =>
    show ok_pk d (m + j) * 512 + d (m + j) = _
    rw [ih, h (m + j) (by omega), Nat.pow_succ, Nat.add_zero, Nat.mul_assoc]
/-! copies of a stretch of cells -/
def ok_cp {A : Type} (g : A → A) (a : Nat → A) (src dst k : Nat) : Nat → A := fun c => if dst ≤ c ∧ c < dst + k then g (a (src + (c - dst))) else a c
theorem ok_cp_0 {A : Type} (g : A → A) (a : Nat → A) (src dst : Nat) : ok_cp g a src dst 0 = a := by
  funext c
  exact if_neg (by omega)
theorem ok_cp_in {A : Type} (g : A → A) (a : Nat → A) (src dst k : Nat) {i : Nat} (h : i < k) : ok_cp g a src dst k (dst + i) = g (a (src + i)) := by
  unfold ok_cp
  rw [if_pos (by omega), show dst + i - dst = i by omega]
theorem ok_cp_out {A : Type} (g : A → A) (a : Nat → A) (src dst k : Nat) {c : Nat} (h : c < dst ∨ dst + k ≤ c) : ok_cp g a src dst k c = a c := if_neg (by omega)
theorem ok_cp_s {g : Int32 → Int32} {a : Nat → Int32} {src dst k : Nat} (h : src + k < dst ∨ dst + k ≤ src + k) : upd (ok_cp g a src dst k) (dst + k) (g (ok_cp g a src dst k (src + k))) = ok_cp g a src dst (k + 1) := by
  rw [ok_cp_out g a src dst k h]
  funext c
  unfold upd ok_cp
  by_cases e : c = dst + k
  · subst e
    rw [if_pos rfl, if_pos (by omega), show src + (dst + k - dst) = src + k by omega]
  · rw [if_neg e]
    by_cases e2 : dst ≤ c ∧ c < dst + k
    · rw [if_pos e2, if_pos (by omega)]
    · rw [if_neg e2, if_neg (by omega)]
theorem ok_cp_sL {g : Int64 → Int64} {a : Nat → Int64} {src dst k : Nat} (h : src + k < dst ∨ dst + k ≤ src + k) : vp_updL (ok_cp g a src dst k) (dst + k) (g (ok_cp g a src dst k (src + k))) = ok_cp g a src dst (k + 1) := by
  rw [ok_cp_out g a src dst k h]
  funext c
  unfold vp_updL ok_cp
  by_cases e : c = dst + k
  · subst e
    rw [if_pos rfl, if_pos (by omega), show src + (dst + k - dst) = src + k by omega]
  · rw [if_neg e]
    by_cases e2 : dst ≤ c ∧ c < dst + k
    · rw [if_pos e2, if_pos (by omega)]
    · rw [if_neg e2, if_neg (by omega)]
