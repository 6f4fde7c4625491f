/-! the flags of a field -/
def ok_bit (s : Int32) (f : Nat) (m : Int32) : Bool := decide (¬ ((s >>> ((4 * nI f) &&& 31)) &&& m) = 0)
theorem ok_two (x : Int32) (i : Nat) (m : Int32) (hm : m.toBitVec = BitVec.twoPow 32 i) : x &&& m = 0 ∨ x &&& m = m := by
  have h : (x &&& m).toBitVec = if x.toBitVec.getLsbD i then BitVec.twoPow 32 i else 0#32 := by
    rw [Int32.toBitVec_and, hm, BitVec.and_twoPow]
  cases e : x.toBitVec.getLsbD i with
  | true => rw [e, if_pos rfl, ← hm] at h; exact Or.inr (Int32.toBitVec_inj.mp h)
  | false => rw [e] at h; exact Or.inl (Int32.toBitVec_inj.mp h)
theorem ok_b0 {s : Int32} {f : Nat} {m : Int32} (h : ok_bit s f m = false) : ((s >>> ((4 * nI f) &&& 31)) &&& m) = 0 := by
  simpa [ok_bit] using h
theorem ok_b1 {s : Int32} {f : Nat} {m : Int32} (h : ok_bit s f m = true) : ¬ ((s >>> ((4 * nI f) &&& 31)) &&& m) = 0 := by
  simpa [ok_bit] using h
theorem ok_y1 {s : Int32} {f : Nat} (h : ok_bit s f 1 = true) : ((s >>> ((4 * nI f) &&& 31)) &&& 1) = 1 :=
  (ok_two _ 0 1 (by decide)).resolve_left (ok_b1 h)
theorem ok_n1 {s : Int32} {f : Nat} (h : ok_bit s f 1 = false) : ¬ ((s >>> ((4 * nI f) &&& 31)) &&& 1) = 1 := by
  rw [ok_b0 h]; decide
theorem ok_y2 {s : Int32} {f : Nat} (h : ok_bit s f 2 = true) : ((s >>> ((4 * nI f) &&& 31)) &&& 2) = 2 :=
  (ok_two _ 1 2 (by decide)).resolve_left (ok_b1 h)
theorem ok_n2 {s : Int32} {f : Nat} (h : ok_bit s f 2 = false) : ¬ ((s >>> ((4 * nI f) &&& 31)) &&& 2) = 2 := by
  rw [ok_b0 h]; decide
theorem ok_y4 {s : Int32} {f : Nat} (h : ok_bit s f 4 = true) : ((s >>> ((4 * nI f) &&& 31)) &&& 4) = 4 :=
  (ok_two _ 2 4 (by decide)).resolve_left (ok_b1 h)
theorem ok_n4 {s : Int32} {f : Nat} (h : ok_bit s f 4 = false) : ¬ ((s >>> ((4 * nI f) &&& 31)) &&& 4) = 4 := by
  rw [ok_b0 h]; decide
/-! the content of a cell: of the component (filled, value), of the reference (null, int, length, letters) -/
abbrev ok_CX : Type := Int32 × Int64
abbrev ok_CY : Type := Int32 × Int32 × Int32 × (Nat → Int32)
def ok_X (fi : Nat → Int32) (va : Nat → Int64) (c : Nat) : ok_CX := (fi c, va c)
def ok_ch (cs : Nat → Int32) (c : Nat) : Nat → Int32 := fun i => if i < 6 then cs (c * 6 + i) else 0
def ok_Y (nu it le cs : Nat → Int32) (c : Nat) : ok_CY := (nu c, it c, le c, ok_ch cs c)
def ok_dg (le : Int32) (ch : Nat → Int32) (i : Nat) : Nat := if i < le.toNatClampNeg then (ch i).toNatClampNeg + 1 else 0
def ok_tx (le : Int32) (ch : Nat → Int32) : Prop := ∃ l : Nat, l ≤ 6 ∧ le = nI l ∧ ∀ i, i < l → ∃ q : Nat, q < 256 ∧ ch i = nI q
theorem ok_dg_lt {le : Int32} {ch : Nat → Int32} (h : ok_tx le ch) (i : Nat) : ok_dg le ch i < 512 := by
  obtain ⟨l, hl, rfl, hc⟩ := h
  unfold ok_dg
  rw [nI_clamp (by omega)]
  by_cases e : i < l
  · obtain ⟨q, hq, e2⟩ := hc i e
    rw [if_pos e, e2, nI_clamp (by omega)]; omega
  · rw [if_neg e]; omega
theorem ok_pk54 {le : Int32} {ch : Nat → Int32} (h : ok_tx le ch) : ok_pk (ok_dg le ch) 6 < 18014398509481984 :=
  ok_pk_lt 6 (fun i _ => ok_dg_lt h i)
def ok_V (s : Int32) (f : Nat) (y : ok_CY) : Int := if ok_bit s f 1 = true then (ok_pk (ok_dg y.2.2.1 y.2.2.2) 6 : Nat) else y.2.1.toInt
def ok_K (s : Int32) (f : Nat) (y : ok_CY) : Int := if y.1 = 0 then (if ok_bit s f 2 = true then - ok_V s f y else ok_V s f y) else (if ok_bit s f 4 = true then -9223372036854775808 else 9223372036854775808)
def ok_WF (s : Int32) (f : Nat) (y : ok_CY) : Prop := (y.1 = 0 ∨ y.1 = 1) ∧ (y.1 = 0 → ok_bit s f 1 = true → ok_tx y.2.2.1 y.2.2.2)
def ok_CR (s : Int32) (f : Nat) (x : ok_CX) (y : ok_CY) : Prop := (x.1 = 0 ∧ y.1 = 1) ∨ (x.1 = 1 ∧ y.1 = 0 ∧ (ok_bit s f 1 = false → x.2 = y.2.1.toInt64) ∧ (ok_bit s f 1 = true → ok_tx y.2.2.1 y.2.2.2 ∧ x.2 = lN (ok_pk (ok_dg y.2.2.1 y.2.2.2) 6)))
theorem ok_CR_WF {s : Int32} {f : Nat} {x : ok_CX} {y : ok_CY} (h : ok_CR s f x y) : ok_WF s f y := by
  rcases h with ⟨_, h⟩ | ⟨_, h, _, h2⟩
  · exact ⟨Or.inr h, fun z => absurd (h.symm.trans z) (by decide)⟩
  · exact ⟨Or.inl h, fun _ z => (h2 z).1⟩
theorem ok_V_b {s : Int32} {f : Nat} {y : ok_CY} (h : ok_WF s f y) (h0 : y.1 = 0) : -9223372036854775808 < ok_V s f y ∧ ok_V s f y < 9223372036854775808 := by
  unfold ok_V
  by_cases e : ok_bit s f 1 = true
  · rw [if_pos e]
    have := ok_pk54 (h.2 h0 e)
    omega
  · rw [if_neg e]
    have h1 := Int32.toInt_lt y.2.1
    have h2 := Int32.le_toInt y.2.1
    omega
theorem ok_K_b {s : Int32} {f : Nat} {y : ok_CY} (h : ok_WF s f y) : -9223372036854775808 ≤ ok_K s f y ∧ ok_K s f y ≤ 9223372036854775808 := by
  unfold ok_K
  by_cases e : y.1 = 0
  · have := ok_V_b h e
    rw [if_pos e]
    split <;> omega
  · rw [if_neg e]
    split <;> omega
theorem ok_CR_V {s : Int32} {f : Nat} {x : ok_CX} {y : ok_CY} (h : ok_CR s f x y) (h0 : y.1 = 0) : x.2.toInt = ok_V s f y := by
  rcases h with ⟨_, h⟩ | ⟨_, h, h1, h2⟩
  · exact absurd (h.symm.trans h0) (by decide)
  · unfold ok_V
    cases e : ok_bit s f 1 with
    | true =>
      obtain ⟨h3, h4⟩ := h2 e
      rw [if_pos rfl, h4, pk_lT (Nat.lt_trans (ok_pk54 h3) (by decide))]
    | false =>
      rw [if_neg (by decide), h1 e, Int32.toInt_toInt64]
def ok_nX (x : ok_CX) : ok_CX := (vp_nar .boolean x.1, x.2)
def ok_nY (y : ok_CY) : ok_CY := (vp_nar .boolean y.1, y.2)
theorem ok_nar0 : vp_nar .boolean 0 = 0 := by decide
theorem ok_nar1 : vp_nar .boolean 1 = 1 := by decide
theorem ok_nar_of {x : Int32} (h : x = 0 ∨ x = 1) : vp_nar .boolean x = x := by
  rcases h with h | h
  · rw [h]; exact ok_nar0
  · rw [h]; exact ok_nar1
theorem ok_WF_n {s : Int32} {f : Nat} {y : ok_CY} (h : ok_WF s f y) : ok_nY y = y := Prod.ext (ok_nar_of h.1) rfl
theorem ok_CR_n {s : Int32} {f : Nat} {x : ok_CX} {y : ok_CY} (h : ok_CR s f x y) : ok_nX x = x ∧ ok_nY y = y :=
  ⟨Prod.ext (ok_nar_of (h.elim (fun z => Or.inl z.1) (fun z => Or.inr z.1))) rfl, ok_WF_n (ok_CR_WF h)⟩
/-! the rank of a tuple's first m fields -/
def ok_B : Int := 73786976294838206464
theorem ok_B0 : 0 ≤ ok_B := by decide
theorem ok_Bb {a b : Int} (ha : -9223372036854775808 ≤ a ∧ a ≤ 9223372036854775808) (hb : -9223372036854775808 ≤ b ∧ b ≤ 9223372036854775808) : a - b < ok_B ∧ b - a < ok_B := by
  unfold ok_B; omega
def ok_T (s : Int32) (nu it le cs : Nat → Int32) (m e : Nat) : Int := ok_H ok_B (fun f => ok_K s f (ok_Y nu it le cs (e * 4 + f))) m
theorem ok_T_congr {s : Int32} {nu it le cs nu' it' le' cs' : Nat → Int32} {m e e' : Nat} (h : ∀ f, f < m → ok_Y nu' it' le' cs' (e' * 4 + f) = ok_Y nu it le cs (e * 4 + f)) : ok_T s nu' it' le' cs' m e' = ok_T s nu it le cs m e :=
  ok_H_congr m (fun f hf => by rw [h f hf])
theorem ok_idx (r f : Nat) : nI r * 4 + nI f = nI (r * 4 + f) := by
  show nI r * nI 4 + nI f = _
  rw [pk_mul, nI_add]
theorem ok_idx6 (c i : Nat) : nI c * 6 + nI i = nI (c * 6 + i) := by
  show nI c * nI 6 + nI i = _
  rw [pk_mul, nI_add]
theorem ok_idx24 (c i : Nat) : nI c * 24 + nI i = nI (c * 24 + i) := by
  show nI c * nI 24 + nI i = _
  rw [pk_mul, nI_add]
theorem ok_80 (f : Nat) : 80 + nI f = nI (80 + f) := by
  show nI 80 + nI f = _
  rw [nI_add]
theorem ok_20 (f : Nat) : 20 * 4 + nI f = nI (80 + f) := by
  show nI 20 * nI 4 + nI f = _
  rw [pk_mul, nI_add]
