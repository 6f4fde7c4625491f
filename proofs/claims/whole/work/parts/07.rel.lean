/-! the relation: row rho p of the component and entry g p of the reference are position p; the entries are in order -/
def ok_R (F n : Nat) (s : Int32) (ro tg fi : Nat → Int32) (va : Nat → Int64) (ty nu it le cs : Nat → Int32) (rho g : Nat → Nat) : Prop :=
  F ≤ 4 ∧ n ≤ 20 ∧ (∀ p, p < 20 → ro p = nI (rho p) ∧ rho p < 20) ∧ (∀ p q, p < q → q < 20 → rho p ≠ rho q) ∧ (∀ p, p < n → g p < n) ∧ (∀ p, p < n → tg (rho p) = ty (g p)) ∧
  (∀ p f, p < n → f < F → ok_CR s f (ok_X fi va (rho p * 4 + f)) (ok_Y nu it le cs (g p * 4 + f))) ∧ (∀ f, f < F → ok_CR s f (ok_X fi va (80 + f)) (ok_Y nu it le cs (80 + f))) ∧
  (∀ p q, p < q → q < n → ok_lt (ok_T s nu it le cs F) (g p) (g q) = true)
def i_Rel (_ : Nat) (u : SX) (v : SY) : Prop := ∃ (F n : Nat) (s : Int32) (ro tg fi : Nat → Int32) (va : Nat → Int64) (ty nu it le cs : Nat → Int32) (rho g : Nat → Nat),
  u = (nI F, s, nI n, ro, tg, fi, va) ∧ v = (nI F, s, nI n, ty, nu, it, le, cs) ∧ ok_R F n s ro tg fi va ty nu it le cs rho g
theorem i_up {k : Nat} {u : SX} {v : SY} (h : i_Rel k u v) : i_Rel (k + 4) u v := h
section
variable {F n : Nat} {s : Int32} {ro tg fi : Nat → Int32} {va : Nat → Int64} {ty nu it le cs : Nat → Int32} {rho g : Nat → Nat}
theorem ok_RI {k : Nat} (R : ok_R F n s ro tg fi va ty nu it le cs rho g) : i_Rel k (nI F, s, nI n, ro, tg, fi, va) (nI F, s, nI n, ty, nu, it, le, cs) :=
  ⟨F, n, s, ro, tg, fi, va, ty, nu, it, le, cs, rho, g, rfl, rfl, R⟩
theorem ok_lt_congr {T T' : Nat → Int} {i e : Nat} (h1 : T' i = T i) (h2 : T' e = T e) : ok_lt T' i e = ok_lt T i e := by
  unfold ok_lt
  rw [h1, h2]
theorem ok_R_WF (R : ok_R F n s ro tg fi va ty nu it le cs rho g) : ∀ i, i < n → ∀ f, f < F → ok_WF s f (ok_Y nu it le cs (i * 4 + f)) := by
  obtain ⟨hF, hn, hr, hri, hg, ht, hc, hst, hs⟩ := R
  intro i hi f hf
  obtain ⟨p, hp, rfl⟩ := ok_surj hg (ok_lt_inj hs) i hi
  exact ok_CR_WF (hc p f hp hf)
theorem ok_y_at1 {post : Int32 → Prop} {p : Nat} (R : ok_R F n s ro tg fi va ty nu it le cs rho g) (hp : p < n) (h : post (nI (g p))) : wpY_at post (nI F, s, nI n, ty, nu, it, le, cs) (nI p) := by
  have W := ok_R_WF R
  obtain ⟨hF, hn, hr, hri, hg, ht, hc, hst, hs⟩ := R
  refine ok_y_at hn hF W hg hs (nI p) (fun q hq e => ?_) (fun z => absurd rfl (z p hp))
  rw [nI_eq (by omega) (by omega)] at e
  subst e
  exact h
theorem ok_y_at0 {post : Int32 → Prop} {x : Int32} (R : ok_R F n s ro tg fi va ty nu it le cs rho g) (hx : ∀ p, p < n → x ≠ nI p) (h : post (-1)) : wpY_at post (nI F, s, nI n, ty, nu, it, le, cs) x := by
  have W := ok_R_WF R
  obtain ⟨hF, hn, hr, hri, hg, ht, hc, hst, hs⟩ := R
  exact ok_y_at hn hF W hg hs x (fun q hq e => absurd e (hx q hq)) (fun _ => h)
theorem ok_R_stage {fi' nu' it' le' cs' : Nat → Int32} {va' : Nat → Int64} (R : ok_R F n s ro tg fi va ty nu it le cs rho g)
    (hX : ∀ e f, e < 20 → f < 4 → ok_X fi' va' (e * 4 + f) = ok_X fi va (e * 4 + f)) (hY : ∀ e f, e < 20 → f < 4 → ok_Y nu' it' le' cs' (e * 4 + f) = ok_Y nu it le cs (e * 4 + f))
    (hS : ∀ f, f < F → ok_CR s f (ok_X fi' va' (80 + f)) (ok_Y nu' it' le' cs' (80 + f))) : ok_R F n s ro tg fi' va' ty nu' it' le' cs' rho g := by
  obtain ⟨hF, hn, hr, hri, hg, ht, hc, hst, hs⟩ := R
  refine ⟨hF, hn, hr, hri, hg, ht, fun p f hp hf => ?_, hS, fun p q h1 h2 => ?_⟩
  · have a := (hr p (by omega)).2
    have b := hg p hp
    rw [hX _ f a (by omega), hY _ f (by omega) (by omega)]
    exact hc p f hp hf
  · have a := hg p (by omega)
    have b := hg q h2
    rw [ok_lt_congr (ok_T_congr (e := g p) (fun f hf => hY _ f (by omega) (by omega))) (ok_T_congr (e := g q) (fun f hf => hY _ f (by omega) (by omega)))]
    exact hs p q h1 h2
theorem ok_R_cell {fi' nu' it' le' cs' : Nat → Int32} {va' : Nat → Int64} {f0 : Nat} (R : ok_R F n s ro tg fi va ty nu it le cs rho g) (hf0 : f0 < F)
    (hX : ∀ c, c ≠ 80 + f0 → ok_X fi' va' c = ok_X fi va c) (hY : ∀ c, c ≠ 80 + f0 → ok_Y nu' it' le' cs' c = ok_Y nu it le cs c)
    (hS : ok_CR s f0 (ok_X fi' va' (80 + f0)) (ok_Y nu' it' le' cs' (80 + f0))) : ok_R F n s ro tg fi' va' ty nu' it' le' cs' rho g := by
  refine ok_R_stage R (fun e f he hf => hX _ (by omega)) (fun e f he hf => hY _ (by omega)) (fun f hf => ?_)
  obtain ⟨hF, hn, hr, hri, hg, ht, hc, hst, hs⟩ := R
  by_cases e : f = f0
  · subst e; exact hS
  · rw [hX _ (by omega), hY _ (by omega)]
    exact hst f hf
theorem ok_Yu {c : Nat} {nu' it' le' cs' : Nat → Int32} (h1 : nu' c = nu c) (h2 : it' c = it c) (h3 : le' c = le c) (h4 : ∀ i, i < 6 → cs' (c * 6 + i) = cs (c * 6 + i)) : ok_Y nu' it' le' cs' c = ok_Y nu it le cs c :=
  ok_Yeq h1 h2 h3 h4
theorem ok_x_init {post : SX → Prop} {Fi : Int32} (hp : ∀ ro : Nat → Int32, (∀ j, j < 20 → ro j = nI j) → post (Fi, s, 0, ro, fun _ => 0, fun _ => 0, fun _ => 0)) :
    ∃ k, wX_init_71 post Fi s 0 k 0 (fun _ => 0) (fun _ => 0) (fun _ => 0) (fun _ => 0) := by
  have hL : ∀ d i : Nat, i + d = 20 → ∀ ro : Nat → Int32, (∀ j, j < i → ro j = nI j) → wX_init_71 post Fi s 0 (d + 1) (nI i) ro (fun _ => 0) (fun _ => 0) (fun _ => 0) := by
    intro d
    induction d with
    | zero =>
      intro i hi ro h
      have : i = 20 := by omega
      subst this
      exact br_t (by decide) (hp ro h)
    | succ d ih =>
      intro i hi ro h
      refine br_f (nI_ge (b := 20) (by omega) (by decide)) ⟨vp_in_nI (by omega) (by omega), ?_⟩
      rw [nI_clamp (n := i) (by omega)]
      refine nm_e (nm_r (nI_1 i) (ih (i + 1) (by omega) _ (fun j hj => ?_)))
      by_cases e : j = i
      · subst e; exact pk_us
      · rw [pk_un e]; exact h j (by omega)
  have hw := hL 20 0 (by omega) (fun _ => 0) (fun j hj => absurd hj (Nat.not_lt_zero j))
  rw [nI_0] at hw
  exact ⟨21, hw⟩
theorem ok_y_init {post : SY → Prop} {Fi : Int32} (hp : ∀ nu : Nat → Int32, (∀ j, j < 84 → nu j = 1) → post (Fi, s, 0, fun _ => 0, nu, fun _ => 0, fun _ => 0, fun _ => 0)) :
    wY_init_61 post s Fi 0 0 0 (fun _ => 0) (fun _ => 0) (fun _ => 0) (fun _ => 0) (fun _ => 0) := by
  have hL : ∀ d i : Nat, i + d = 84 → ∀ nu : Nat → Int32, (∀ j, j < i → nu j = 1) → wY_init_74 post Fi s 0 (d + 1) (nI i) (fun _ => 0) nu (fun _ => 0) (fun _ => 0) (fun _ => 0) := by
    intro d
    induction d with
    | zero =>
      intro i hi nu h
      have : i = 84 := by omega
      subst this
      exact br_t (by decide) (hp nu h)
    | succ d ih =>
      intro i hi nu h
      refine br_f (nI_ge (b := 84) (by omega) (by decide)) ⟨vp_in_nI (by omega) (by omega), ?_⟩
      rw [nI_clamp (n := i) (by omega), ok_nar1]
      refine nm_e (nm_r (nI_1 i) (ih (i + 1) (by omega) _ (fun j hj => ?_)))
      by_cases e : j = i
      · subst e; exact pk_us
      · rw [pk_un e]; exact h j (by omega)
  have hw := hL 84 0 (by omega) (fun _ => 0) (fun j hj => absurd hj (Nat.not_lt_zero j))
  rw [nI_0] at hw
  exact ⟨85, hw⟩
end
theorem ok_init {F : Nat} {Fi s : Int32} (hF : F ≤ 4) (e : Fi = nI F) {ro nu : Nat → Int32} (hr : ∀ j, j < 20 → ro j = nI j) (hn : ∀ j, j < 84 → nu j = 1) :
    i_Rel 2 (Fi, s, 0, ro, fun _ => 0, fun _ => 0, fun _ => 0) (Fi, s, 0, fun _ => 0, nu, fun _ => 0, fun _ => 0, fun _ => 0) := by
  subst e
  rw [← nI_0]
  refine ok_RI (rho := id) (g := id) ⟨hF, by omega, fun p hp => ⟨hr p hp, hp⟩, fun p q h1 _ => ?_, fun p hp => hp, fun p hp => absurd hp (Nat.not_lt_zero p), fun p f hp => absurd hp (Nat.not_lt_zero p), fun f hf => Or.inl ⟨?_, hn _ (by omega)⟩, fun p q _ h2 => absurd h2 (Nat.not_lt_zero q)⟩
  · show p ≠ q
    omega
  · exact nI_0
theorem i_vc0 (k0 : Int32) (k1 : Int32) : wpX_init (fun u => wpY_init (fun v => i_Rel 2 u v) k0 k1) k0 k1 := by
  by_cases h1 : 1 ≤ k0
  · by_cases h4 : k0 ≤ 4
    · obtain ⟨F, hF, e⟩ := nI_of2 (M := 4) (n := 4) (by decide) (x := k0) (fun z => by
        rw [Int32.lt_iff_toInt_lt] at z
        rw [Int32.le_iff_toInt_le] at h1
        have a : (0 : Int32).toInt = 0 := by decide
        have b : (1 : Int32).toInt = 1 := by decide
        omega) h4
      refine br_t h1 (br_t h4 (ok_x_init (fun ro hr => ?_)))
      exact br_t h1 (br_t h4 (ok_y_init (fun nu hn => ok_init hF e hr hn)))
    · refine br_t h1 (br_f h4 (ok_x_init (fun ro hr => ?_)))
      exact br_t h1 (br_f h4 (ok_y_init (fun nu hn => ok_init (F := 4) (by omega) (by decide) hr hn)))
  · refine br_f h1 (ok_x_init (fun ro hr => ?_))
    exact br_f h1 (br_t (by decide) (ok_y_init (fun nu hn => ok_init (F := 1) (by omega) (by decide) hr hn)))
theorem i_vc_setNull {k : Nat} {u : SX} {v : SY} (I : i_Rel k u v) (hk : k + 4 ≤ 2050) (v1 : Int32) : wpX_setNull (fun r u' => wpY_setNull (fun r' v' => r' = r ∧ i_Rel (k + 4) u' v') v v1) u v1 := by
  obtain ⟨F, n, s, ro, tg, fi, va, ty, nu, it, le, cs, rho, g, rfl, rfl, R⟩ := I
  have hF := R.1
  unfold wpX_setNull wpY_setNull
  dsimp only
  by_cases hx : ∃ f, f < F ∧ v1 = nI f
  · obtain ⟨f, hf, rfl⟩ := hx
    refine ok_x_field1 hF hf (br_f (by decide) ?_)
    unfold wpX_cell
    dsimp only
    rw [ok_20, ok_80, nI_clamp (n := 80 + f) (by omega), ok_nar0, ok_nar1]
    refine ⟨vp_in_nI (by omega) (by omega), nm_e (ok_y_bad0 hF hf (br_t rfl ⟨vp_in_nI (by omega) (by omega), nm_e ⟨rfl, ok_RI (ok_R_cell R hf (fun c hc => ?_) (fun c hc => ?_) ?_)⟩⟩))⟩
    · exact ok_Xeq (pk_un hc) rfl
    · exact ok_Yu (pk_un hc) rfl rfl (fun _ _ => rfl)
    · exact Or.inl ⟨pk_us, pk_us⟩
  · have hx' : ∀ f, f < F → v1 ≠ nI f := fun f hf z => hx ⟨f, hf, z⟩
    exact ok_x_field0 hF hx' (br_t rfl (ok_y_bad1 hF hx' (br_f (by decide) ⟨rfl, ok_RI R⟩)))
theorem i_vc_setInt {k : Nat} {u : SX} {v : SY} (I : i_Rel k u v) (hk : k + 4 ≤ 2050) (v1 : Int32) (v2 : Int32) : wpX_setInt (fun r u' => wpY_setInt (fun r' v' => r' = r ∧ i_Rel (k + 4) u' v') v v1 v2) u v1 v2 := by
  obtain ⟨F, n, s, ro, tg, fi, va, ty, nu, it, le, cs, rho, g, rfl, rfl, R⟩ := I
  have hF := R.1
  unfold wpX_setInt wpY_setInt
  dsimp only
  by_cases hx : ∃ f, f < F ∧ v1 = nI f
  · obtain ⟨f, hf, rfl⟩ := hx
    refine ok_x_field1 hF hf (br_f (by decide) (ok_x_isSet (fun e => ?_) (fun e => ?_)))
    · exact br_f (by decide) (ok_y_bad0 hF hf (br_t rfl (ok_y_text (fun _ => br_f (by decide) ⟨rfl, ok_RI R⟩) (fun z => absurd (e.symm.trans z) (by decide)))))
    · refine br_t rfl ?_
      unfold wpX_fillStage wpX_cell
      dsimp only
      rw [ok_20, ok_80, nI_clamp (n := 80 + f) (by omega), ok_nar0, ok_nar1]
      have ii : vp_in (nI (80 + f)) 84 := vp_in_nI (by omega) (by omega)
      refine ⟨ii, nm_e ⟨ii, nm_e (ok_y_bad0 hF hf (br_t rfl (ok_y_text (fun z => absurd (e.symm.trans z) (by decide)) (fun _ => br_t rfl ⟨ii, nm_e ⟨ii, nm_e ⟨rfl, ok_RI (ok_R_cell R hf (fun c hc => ?_) (fun c hc => ?_) ?_)⟩⟩⟩))))⟩⟩
      · exact ok_Xeq (pk_un hc) (pk_uLn hc)
      · exact ok_Yu (pk_un hc) (pk_un hc) rfl (fun _ _ => rfl)
      · refine Or.inr ⟨pk_us, pk_us, fun _ => ?_, fun z => absurd (e.symm.trans z) (by decide)⟩
        show vp_updL va (80 + f) v2.toInt64 (80 + f) = (upd it (80 + f) v2 (80 + f)).toInt64
        rw [pk_us, pk_uLs]
  · have hx' : ∀ f, f < F → v1 ≠ nI f := fun f hf z => hx ⟨f, hf, z⟩
    exact ok_x_field0 hF hx' (br_t rfl (ok_y_bad1 hF hx' (br_f (by decide) ⟨rfl, ok_RI R⟩)))
theorem i_vc_setText {k : Nat} {u : SX} {v : SY} (I : i_Rel k u v) (hk : k + 4 ≤ 2050) (v1 : Int32) : wpX_setText (fun r u' => wpY_setText (fun r' v' => r' = r ∧ i_Rel (k + 4) u' v') v v1) u v1 := by
  obtain ⟨F, n, s, ro, tg, fi, va, ty, nu, it, le, cs, rho, g, rfl, rfl, R⟩ := I
  have hF := R.1
  unfold wpX_setText wpY_setText
  dsimp only
  by_cases hx : ∃ f, f < F ∧ v1 = nI f
  · obtain ⟨f, hf, rfl⟩ := hx
    refine ok_x_field1 hF hf (br_f (by decide) (ok_x_isSet (fun e => ?_) (fun e => ?_)))
    · refine br_f (by decide) ?_
      unfold wpX_fillStage wpX_cell
      dsimp only
      rw [ok_20, ok_80, nI_clamp (n := 80 + f) (by omega), ok_nar0, ok_nar1]
      have ii : vp_in (nI (80 + f)) 84 := vp_in_nI (by omega) (by omega)
      refine ⟨ii, nm_e ⟨ii, nm_e (ok_y_bad0 hF hf (br_t rfl (ok_y_text (fun _ => br_f (by decide) ⟨ii, nm_e ⟨ii, nm_e ⟨rfl, ok_RI (ok_R_cell R hf (fun c hc => ?_) (fun c hc => ?_) ?_)⟩⟩⟩) (fun z => absurd (e.symm.trans z) (by decide)))))⟩⟩
      · exact ok_Xeq (pk_un hc) (pk_uLn hc)
      · exact ok_Yu (pk_un hc) rfl (pk_un hc) (fun _ _ => rfl)
      · refine Or.inr ⟨pk_us, pk_us, fun z => absurd (e.symm.trans z) (by decide), fun _ => ?_⟩
        show ok_tx (upd le (80 + f) 0 (80 + f)) (ok_ch cs (80 + f)) ∧ vp_updL va (80 + f) 0 (80 + f) = lN (ok_pk (ok_dg (upd le (80 + f) 0 (80 + f)) (ok_ch cs (80 + f))) 6)
        rw [pk_us, pk_uLs]
        refine ⟨⟨0, by omega, nI_0.symm, fun i hi => absurd hi (Nat.not_lt_zero i)⟩, ?_⟩
        have h0 : ok_pk (ok_dg 0 (ok_ch cs (80 + f))) 6 = 0 := by
          have := ok_pk_0 (d := ok_dg 0 (ok_ch cs (80 + f))) 0 (fun i _ => if_neg (by
            have : (0 : Int32).toNatClampNeg = 0 := by decide
            omega)) 6
          rw [Nat.zero_add] at this
          rw [this]
          exact Nat.zero_mul _
        rw [h0]
        decide
    · exact br_t rfl (ok_y_bad0 hF hf (br_t rfl (ok_y_text (fun z => absurd (e.symm.trans z) (by decide)) (fun _ => br_t rfl ⟨rfl, ok_RI R⟩))))
  · have hx' : ∀ f, f < F → v1 ≠ nI f := fun f hf z => hx ⟨f, hf, z⟩
    exact ok_x_field0 hF hx' (br_t rfl (ok_y_bad1 hF hx' (br_f (by decide) ⟨rfl, ok_RI R⟩)))
