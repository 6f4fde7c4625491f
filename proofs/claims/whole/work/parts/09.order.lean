/-! below, matching, load, add, remove -/
section
variable {F n : Nat} {s : Int32} {ro tg fi : Nat → Int32} {va : Nat → Int64} {ty nu it le cs : Nat → Int32} {rho g : Nat → Nat}
theorem ok_x_cmpT {post : Int32 → Prop} {Fi C : Int32} {r e m : Nat} (hr : r < 20) (hm : m ≤ 4) (ca : ∀ f, f < m → ok_CR s f (ok_X fi va (r * 4 + f)) (ok_Y nu it le cs (e * 4 + f))) (cb : ∀ f, f < m → ok_CR s f (ok_X fi va (80 + f)) (ok_Y nu it le cs (80 + f)))
    (hp : post (ok_sg (ok_T s nu it le cs m e) (ok_T s nu it le cs m 20))) : wpX_compareToStage post (Fi, s, C, ro, tg, fi, va) (nI r) (nI m) :=
  ok_x_cmp (ya := fun f => ok_Y nu it le cs (e * 4 + f)) (yb := fun f => ok_Y nu it le cs (20 * 4 + f)) hr hm ca cb hp
theorem ok_y_cmpT {post : Int32 → Prop} {Fi C : Int32} {e m : Nat} (he : e < 20) (hm : m ≤ 4) (ca : ∀ f, f < m → ok_WF s f (ok_Y nu it le cs (e * 4 + f))) (cb : ∀ f, f < m → ok_WF s f (ok_Y nu it le cs (80 + f)))
    (hp : post (ok_sg (ok_T s nu it le cs m e) (ok_T s nu it le cs m 20))) : wpY_compare post (Fi, s, C, ty, nu, it, le, cs) (nI e) 20 (nI m) :=
  ok_y_cmp (y := 20) (by omega) (by omega) hm ca cb hp
theorem ok_R_st (R : ok_R F n s ro tg fi va ty nu it le cs rho g) : ∀ f, f < F → ok_WF s f (ok_Y nu it le cs (80 + f)) := fun f hf => ok_CR_WF (R.2.2.2.2.2.2.2.1 f hf)
end
theorem i_vc_below {k : Nat} {u : SX} {v : SY} (I : i_Rel k u v) (hk : k + 4 ≤ 2050) : wpX_below (fun r => wpY_below (fun r' => r' = r ∧ i_Rel (k + 4) u v) v) u := by
  obtain ⟨F, n, s, ro, tg, fi, va, ty, nu, it, le, cs, rho, g, rfl, rfl, R⟩ := I
  have R0 := R
  have W := ok_R_WF R
  have WS := ok_R_st R
  obtain ⟨hF, hn, hr, hri, hg, ht, hc, hst, hs⟩ := R0
  refine ok_x_below (rho := rho) (t := fun p => ok_T s nu it le cs F (g p)) (t0 := ok_T s nu it le cs F 20) hn (fun p hp => (hr p (by omega)).1) (fun p hp post h => ok_x_cmpT (hr p (by omega)).2 hF (fun f hf => hc p f hp hf) hst h) ?_
  refine ok_y_below (t := fun p => ok_T s nu it le cs F p) (t0 := ok_T s nu it le cs F 20) hn (fun p hp post h => ok_y_cmpT (by omega) hF (W p hp) WS h) ⟨?_, ok_RI R⟩
  rw [ok_cn_perm (g := g) (fun p => decide (ok_T s nu it le cs F p < ok_T s nu it le cs F 20)) hg (ok_lt_inj hs)]
theorem i_vc_matching {k : Nat} {u : SX} {v : SY} (I : i_Rel k u v) (hk : k + 4 ≤ 2050) (v1 : Int32) : wpX_matching (fun r => wpY_matching (fun r' => r' = r ∧ i_Rel (k + 4) u v) v v1) u v1 := by
  obtain ⟨F, n, s, ro, tg, fi, va, ty, nu, it, le, cs, rho, g, rfl, rfl, R⟩ := I
  have R0 := R
  have W := ok_R_WF R
  have WS := ok_R_st R
  obtain ⟨hF, hn, hr, hri, hg, ht, hc, hst, hs⟩ := R0
  by_cases h0 : v1 < 0
  · exact br_t h0 (br_t h0 ⟨rfl, ok_RI R⟩)
  · by_cases h4 : v1 ≤ nI F
    · obtain ⟨m, hm31, rfl⟩ := nI_of h0
      have hm : m ≤ F := (nI_leI hm31 (by omega)).mp h4
      refine br_f h0 (br_t h4 (ok_x_match (rho := rho) (t := fun p => ok_T s nu it le cs m (g p)) (t0 := ok_T s nu it le cs m 20) hn (fun p hp => (hr p (by omega)).1) (fun p hp post h => ok_x_cmpT (hr p (by omega)).2 (by omega) (fun f hf => hc p f hp (by omega)) (fun f hf => hst f (by omega)) h) ?_))
      refine br_f h0 (br_t h4 (ok_y_match (t := fun p => ok_T s nu it le cs m p) (t0 := ok_T s nu it le cs m 20) hn (fun p hp post h => ok_y_cmpT (by omega) (by omega) (fun f hf => W p hp f (by omega)) (fun f hf => WS f (by omega)) h) ⟨?_, ok_RI R⟩))
      rw [ok_cn_perm (g := g) (fun p => decide (ok_T s nu it le cs m p = ok_T s nu it le cs m 20)) hg (ok_lt_inj hs)]
    · exact br_f h0 (br_f h4 (br_f h0 (br_f h4 ⟨rfl, ok_RI R⟩)))
theorem i_vc_load {k : Nat} {u : SX} {v : SY} (I : i_Rel k u v) (hk : k + 4 ≤ 2050) (v1 : Int32) : wpX_load (fun r u' => wpY_load (fun r' v' => r' = r ∧ i_Rel (k + 4) u' v') v v1) u v1 := by
  obtain ⟨F, n, s, ro, tg, fi, va, ty, nu, it, le, cs, rho, g, rfl, rfl, R⟩ := I
  have R0 := R
  obtain ⟨hF, hn, hr, hri, hg, ht, hc, hst, hs⟩ := R0
  unfold wpX_load wpY_load
  dsimp only
  by_cases hx : ∃ p, p < n ∧ v1 = nI p
  · obtain ⟨p, hp, rfl⟩ := hx
    have hrp := hr p (by omega)
    have hgp := hg p hp
    refine ok_x_ent1 hn hp (br_f (by decide) ⟨vp_in_nI (by omega) (by omega), ?_⟩)
    rw [nI_clamp (n := p) (by omega)]
    refine nm_r hrp.1 ?_
    refine ok_x_copy (a := rho p) (b := 20) (by omega) (by omega) (by omega) hF (fun fi' va' c1 c2 => ?_)
    refine ⟨vp_in_nI (by omega) (by omega), ?_⟩
    rw [nI_clamp (n := rho p) (by omega)]
    refine ok_y_at1 R hp (br_t (nI_pos' (by omega)) ?_)
    refine ok_y_copy (a := g p) (b := 20) (by omega) (by omega) (by omega) (fun nu' it' le' cs' d1 d2 => ?_)
    refine ⟨vp_in_nI (by omega) (by omega), ?_⟩
    rw [nI_clamp (n := g p) (by omega)]
    refine ⟨(ht p hp).symm, ok_RI (ok_R_stage R (fun e f he hf => c2 e f (by omega) hf) (fun e f he hf => d2 e f (by omega) hf) (fun f hf => ?_))⟩
    have h1 := c1 f hf
    have h2 := d1 f (by omega)
    have h3 := hc p f hp hf
    rw [(ok_CR_n h3).1] at h1
    rw [(ok_CR_n h3).2] at h2
    rw [show 20 * 4 + f = 80 + f from rfl] at h1 h2
    rw [h1, h2]
    exact h3
  · have hx' : ∀ p, p < n → v1 ≠ nI p := fun p hp z => hx ⟨p, hp, z⟩
    exact ok_x_ent0 hn hx' (br_t rfl (ok_y_at0 R hx' (br_f (by decide) ⟨rfl, ok_RI R⟩)))
/-! add -/
def ok_ins (c n j : Nat) : Nat := if j < c then j else if j = c then n else if j ≤ n then j - 1 else j
theorem ok_ins_lo {c n j : Nat} (h : j < c) : ok_ins c n j = j := if_pos h
theorem ok_ins_at {c n : Nat} : ok_ins c n c = n := by
  unfold ok_ins
  rw [if_neg (by omega), if_pos rfl]
theorem ok_ins_hi {c n j : Nat} (h : c < j) (h2 : j ≤ n) : ok_ins c n j = j - 1 := by
  unfold ok_ins
  rw [if_neg (by omega), if_neg (by omega), if_pos h2]
theorem ok_ins_inj {c n p q : Nat} (hc : c ≤ n) (h : p < q) : ok_ins c n p ≠ ok_ins c n q := by
  unfold ok_ins
  split <;> split <;> (try split) <;> (try split) <;> (try split) <;> (try split) <;> omega
theorem ok_ins_lt {c n p : Nat} (hn : n < 20) (h : p < 20) : ok_ins c n p < 20 := by
  unfold ok_ins
  split <;> (try split) <;> (try split) <;> omega
theorem ok_ins_r {c n : Nat} {x : Int32} {ro : Nat → Int32} {rho : Nat → Nat} (hx : x = ro n) (j : Nat) : (if j < c then ro j else if j = c then x else if j ≤ n then ro (j - 1) else ro j) = ro (ok_ins c n j) := by
  unfold ok_ins
  by_cases h1 : j < c
  · rw [if_pos h1, if_pos h1]
  · rw [if_neg h1, if_neg h1]
    by_cases h2 : j = c
    · rw [if_pos h2, if_pos h2, hx]
    · rw [if_neg h2, if_neg h2]
      by_cases h3 : j ≤ n
      · rw [if_pos h3, if_pos h3]
      · rw [if_neg h3, if_neg h3]
/-- p ≤ n lies below, at or above the new place -/
theorem ok_ins_c {c n p : Nat} (hc : c ≤ n) (hp : p < n + 1) : (p < c ∧ ok_ins c n p = p ∧ p < n) ∨ (p = c ∧ ok_ins c n p = n) ∨ (c < p ∧ ok_ins c n p = p - 1 ∧ p - 1 < n ∧ c ≤ p - 1) := by
  rcases Nat.lt_or_ge p c with h | h
  · exact Or.inl ⟨h, ok_ins_lo h, by omega⟩
  · rcases Nat.eq_or_lt_of_le h with h2 | h2
    · subst h2; exact Or.inr (Or.inl ⟨rfl, ok_ins_at⟩)
    · exact Or.inr (Or.inr ⟨h2, ok_ins_hi h2 (by omega), by omega, by omega⟩)
theorem ok_R_add {F n c : Nat} {s tag : Int32} {ro ro' tg fi fi' : Nat → Int32} {va va' : Nat → Int64} {ty nu it le cs nu' it' le' cs' : Nat → Int32} {rho g : Nat → Nat} (R : ok_R F n s ro tg fi va ty nu it le cs rho g) (hn20 : n < 20)
    (hcc : c = ok_cn (fun p => decide (ok_T s nu it le cs F (g p) ≤ ok_T s nu it le cs F 20)) n)
    (c1 : ∀ f, f < F → ok_X fi' va' (rho n * 4 + f) = ok_nX (ok_X fi va (20 * 4 + f))) (c2 : ∀ e f, e ≠ rho n → f < 4 → ok_X fi' va' (e * 4 + f) = ok_X fi va (e * 4 + f))
    (d1 : ∀ f, f < 4 → ok_Y nu' it' le' cs' (n * 4 + f) = ok_nY (ok_Y nu it le cs (20 * 4 + f))) (d2 : ∀ e f, e ≠ n → f < 4 → ok_Y nu' it' le' cs' (e * 4 + f) = ok_Y nu it le cs (e * 4 + f))
    (hro : ∀ j, ro' j = ro (ok_ins c n j)) :
    ok_R F (n + 1) s ro' (upd tg (rho n) tag) fi' va' (upd ty n tag) nu' it' le' cs' (fun p => rho (ok_ins c n p)) (fun p => if ok_ins c n p = n then n else g (ok_ins c n p))
    ∧ ok_cn (fun i => ok_lt (ok_T s nu' it' le' cs' F) i n) (n + 1) = c
    ∧ (∀ i, i < n + 1 → ∀ f, f < F → ok_WF s f (ok_Y nu' it' le' cs' (i * 4 + f))) := by
  have W := ok_R_WF R
  obtain ⟨hF, hn, hr, hri, hg, ht, hc, hst, hs⟩ := R
  have hrn := (hr n hn20).2
  have hcn : c ≤ n := by rw [hcc]; exact ok_cn_le _ _
  have rne : ∀ p, p < n → rho p ≠ rho n := fun p hp => hri p n hp hn20
  have T1 : ∀ e, e < n → ok_T s nu' it' le' cs' F e = ok_T s nu it le cs F e := fun e he => ok_T_congr (fun f hf => d2 e f (by omega) (by omega))
  have d1' : ∀ f, f < F → ok_Y nu' it' le' cs' (n * 4 + f) = ok_Y nu it le cs (80 + f) := fun f hf => by
    rw [d1 f (by omega), show 20 * 4 + f = 80 + f from rfl]
    exact (ok_CR_n (hst f hf)).2
  have c1' : ∀ f, f < F → ok_X fi' va' (rho n * 4 + f) = ok_X fi va (80 + f) := fun f hf => by
    rw [c1 f hf, show 20 * 4 + f = 80 + f from rfl]
    exact (ok_CR_n (hst f hf)).1
  have T2 : ok_T s nu' it' le' cs' F n = ok_T s nu it le cs F 20 := ok_T_congr (fun f hf => d1' f hf)
  have mono := ok_cn_mono (P := fun p => decide (ok_T s nu it le cs F (g p) ≤ ok_T s nu it le cs F 20)) n (fun i j h1 h2 h3 => by
    have := ok_lt_iff.mp (hs i j h1 h2)
    simp only [decide_eq_true_eq] at h3 ⊢
    omega)
  rw [← hcc] at mono
  have below : ∀ p, p < n → p < c → ok_T s nu it le cs F (g p) ≤ ok_T s nu it le cs F 20 := fun p hp h => by
    simpa using (mono p hp).mpr h
  have above : ∀ p, p < n → c ≤ p → ok_T s nu it le cs F 20 < ok_T s nu it le cs F (g p) := fun p hp h => by
    have : ¬ ok_T s nu it le cs F (g p) ≤ ok_T s nu it le cs F 20 := fun z => by
      have := (mono p hp).mp (by simpa using z)
      omega
    omega
  have G : ∀ p, p < n → (if p = n then n else g p) = g p := fun p hp => if_neg (by omega)
  refine ⟨⟨hF, by omega, fun p hp => ?_, fun p q h1 h2 => ?_, fun p hp => ?_, fun p hp => ?_, fun p f hp hf => ?_, fun f hf => ?_, fun p q h1 h2 => ?_⟩, ?_, ?_⟩
  · rw [hro p]
    exact hr _ (ok_ins_lt hn20 hp)
  · have a := ok_ins_inj (c := c) (n := n) hcn h1
    have b1 := ok_ins_lt (c := c) (n := n) hn20 (show p < 20 by omega)
    have b2 := ok_ins_lt (c := c) (n := n) hn20 h2
    rcases Nat.lt_or_gt_of_ne a with h | h
    · exact hri _ _ h b2
    · exact (hri _ _ h b1).symm
  · dsimp only
    rcases ok_ins_c hcn hp with ⟨_, e, h⟩ | ⟨_, e⟩ | ⟨_, e, h, _⟩
    · rw [e, G p h]; have := hg p h; omega
    · rw [e, if_pos rfl]; omega
    · rw [e, G _ h]; have := hg _ h; omega
  · dsimp only
    rcases ok_ins_c hcn hp with ⟨_, e, h⟩ | ⟨_, e⟩ | ⟨_, e, h, _⟩
    · rw [e, G p h, pk_un (rne p h), pk_un (by have := hg p h; omega)]; exact ht p h
    · rw [e, if_pos rfl, pk_us, pk_us]
    · rw [e, G _ h, pk_un (rne _ h), pk_un (by have := hg _ h; omega)]; exact ht _ h
  · dsimp only
    rcases ok_ins_c hcn hp with ⟨_, e, h⟩ | ⟨_, e⟩ | ⟨_, e, h, _⟩
    · rw [e, G p h, c2 _ f (rne p h) (by omega), d2 _ f (by have := hg p h; omega) (by omega)]; exact hc p f h hf
    · rw [e, if_pos rfl, c1' f hf, d1' f hf]; exact hst f hf
    · rw [e, G _ h, c2 _ f (rne _ h) (by omega), d2 _ f (by have := hg _ h; omega) (by omega)]; exact hc _ f h hf
  · have h1 := c2 20 f (by omega) (by omega)
    have h2 := d2 20 f (by omega) (by omega)
    rw [show 20 * 4 + f = 80 + f from rfl] at h1 h2
    rw [h1, h2]
    exact hst f hf
  · dsimp only
    rcases ok_ins_c hcn (show p < n + 1 by omega) with ⟨a1, e, h⟩ | ⟨a1, e⟩ | ⟨a1, e, h, a2⟩
    · rw [e, G p h]
      have gp := hg p h
      rcases ok_ins_c hcn h2 with ⟨b1, e', h'⟩ | ⟨b1, e'⟩ | ⟨b1, e', h', b2⟩
      · rw [e', G q h', ok_lt_congr (T1 _ gp) (T1 _ (hg q h'))]
        exact hs p q h1 h'
      · rw [e', if_pos rfl]
        refine ok_lt_iff.mpr ?_
        rw [T1 _ gp, T2]
        have := below p h a1
        omega
      · rw [e', G _ h', ok_lt_congr (T1 _ gp) (T1 _ (hg _ h'))]
        exact hs p (q - 1) (by omega) h'
    · rcases ok_ins_c hcn h2 with ⟨b1, e', h'⟩ | ⟨b1, e'⟩ | ⟨b1, e', h', b2⟩
      · omega
      · omega
      · rw [e, if_pos rfl, e', G _ h']
        refine ok_lt_iff.mpr (Or.inl ?_)
        rw [T1 _ (hg _ h'), T2]
        exact above _ h' b2
    · rcases ok_ins_c hcn h2 with ⟨b1, e', h'⟩ | ⟨b1, e'⟩ | ⟨b1, e', h', b2⟩
      · omega
      · omega
      · rw [e, G _ h, e', G _ h', ok_lt_congr (T1 _ (hg _ h)) (T1 _ (hg _ h'))]
        exact hs (p - 1) (q - 1) (by omega) h'
  · rw [ok_cn_f (P := fun i => ok_lt (ok_T s nu' it' le' cs' F) i n) (by
      cases e : ok_lt (ok_T s nu' it' le' cs' F) n n with
      | false => rfl
      | true =>
        have := ok_lt_iff.mp e
        omega)]
    rw [hcc, ok_cn_perm (g := g) (fun p => decide (ok_T s nu it le cs F p ≤ ok_T s nu it le cs F 20)) hg (ok_lt_inj hs)]
    refine ok_cn_congr (fun i hi => ?_)
    unfold ok_lt
    rw [T1 i hi, T2]
    refine decide_eq_decide.mpr ?_
    omega
  · intro i hi f hf
    by_cases e : i = n
    · subst e
      rw [d1' f hf]
      exact ok_CR_WF (hst f hf)
    · rw [d2 i f e (by omega)]
      exact W i (by omega) f hf
theorem i_vc_add {k : Nat} {u : SX} {v : SY} (I : i_Rel k u v) (hk : k + 4 ≤ 2050) (v1 : Int32) : wpX_add (fun r u' => wpY_add (fun r' v' => r' = r ∧ i_Rel (k + 4) u' v') v v1) u v1 := by
  obtain ⟨F, n, s, ro, tg, fi, va, ty, nu, it, le, cs, rho, g, rfl, rfl, R⟩ := I
  have R0 := R
  obtain ⟨hF, hn, hr, hri, hg, ht, hc, hst, hs⟩ := R0
  unfold wpX_add wpY_add
  dsimp only
  by_cases h20 : n < 20
  · have hrn := hr n h20
    refine br_t (nI_lt (b := 20) h20 (by decide)) ⟨vp_in_nI (by omega) (by omega), ?_⟩
    rw [nI_clamp (n := n) (by omega)]
    refine nm_r hrn.1 ?_
    refine ok_x_copy (a := 20) (b := rho n) (by omega) (by omega) (by omega) hF (fun fi' va' c1 c2 => ?_)
    refine ⟨vp_in_nI (by omega) (by omega), ?_⟩
    rw [nI_clamp (n := rho n) (by omega)]
    refine nm_e ?_
    have hst' : ∀ f, f < F → ok_CR s f (ok_X fi' va' (80 + f)) (ok_Y nu it le cs (80 + f)) := fun f hf => by
      have h1 := c2 20 f (by omega) (by omega)
      rw [show 20 * 4 + f = 80 + f from rfl] at h1
      rw [h1]
      exact hst f hf
    refine ok_x_cnb (rho := rho) (t := fun p => ok_T s nu it le cs F (g p)) (t0 := ok_T s nu it le cs F 20) hn (fun p hp => (hr p (by omega)).1) (fun p hp post h => ok_x_cmpT (hr p (by omega)).2 hF (fun f hf => ?_) hst' h) ?_
    · rw [c2 _ f (hri p n hp h20) (by omega)]
      exact hc p f hp hf
    · generalize hcc : ok_cn (fun p => decide (ok_T s nu it le cs F (g p) ≤ ok_T s nu it le cs F 20)) n = c
      have hcn : c ≤ n := by rw [← hcc]; exact ok_cn_le _ _
      refine ⟨n - c + 1, ok_x_addL (n := n) (c := c) h20 hcn (fun ro' hro => ?_) (n - c) n (by omega) (Nat.le_refl _) ro (fun j => by rw [if_neg (by omega)])⟩
      refine br_f (fun z => ?_) ?_
      · have : n = 20 := (nI_eq (b := 20) (by omega) (by decide)).mp z
        omega
      · refine ok_y_copy (a := 20) (b := n) (by omega) (by omega) (by omega) (fun nu' it' le' cs' d1 d2 => ?_)
        refine ⟨vp_in_nI (by omega) (by omega), ?_⟩
        rw [nI_clamp (n := n) (by omega)]
        refine nm_e (nm_r (nI_1 n) ?_)
        rw [nI_pred]
        obtain ⟨R', e1, W'⟩ := ok_R_add (tag := v1) R h20 hcc.symm c1 c2 d1 d2 (fun j => (hro j).trans (ok_ins_r (rho := rho) hrn.1.symm j))
        refine ok_y_place (n := n + 1) (by omega) (by omega) hF W' (W' n (by omega)) ⟨?_, ok_RI R'⟩
        rw [e1]
  · have : n = 20 := by omega
    subst this
    exact br_f (by decide) (br_t (by decide) ⟨rfl, ok_RI R⟩)
/-! remove -/
def ok_del (p m j : Nat) : Nat := if j < p then j else if j < m then j + 1 else if j = m then p else j
theorem ok_del_r {p m : Nat} {x : Int32} {ro : Nat → Int32} (hx : x = ro p) (j : Nat) : (if j < p then ro j else if j < m then ro (j + 1) else if j = m then x else ro j) = ro (ok_del p m j) := by
  unfold ok_del
  by_cases h1 : j < p
  · rw [if_pos h1, if_pos h1]
  · rw [if_neg h1, if_neg h1]
    by_cases h2 : j < m
    · rw [if_pos h2, if_pos h2]
    · rw [if_neg h2, if_neg h2]
      by_cases h3 : j = m
      · rw [if_pos h3, if_pos h3, hx]
      · rw [if_neg h3, if_neg h3]
theorem ok_del_lt {p m j : Nat} (hp : p ≤ m) (hm : m < 20) (h : j < 20) : ok_del p m j < 20 := by
  unfold ok_del
  split <;> (try split) <;> (try split) <;> omega
theorem ok_del_inj {p m i j : Nat} (hp : p ≤ m) (h : i < j) : ok_del p m i ≠ ok_del p m j := by
  unfold ok_del
  split <;> split <;> (try split) <;> (try split) <;> (try split) <;> (try split) <;> omega
theorem ok_del_c {p m j : Nat} (h : j < m) : (j < p ∧ ok_del p m j = j) ∨ (p ≤ j ∧ ok_del p m j = j + 1) := by
  unfold ok_del
  by_cases h1 : j < p
  · exact Or.inl ⟨h1, if_pos h1⟩
  · exact Or.inr ⟨by omega, by rw [if_neg h1, if_pos h]⟩
def ok_dn (e x : Nat) : Nat := if x < e then x else x - 1
theorem ok_R_rem {F m p : Nat} {s : Int32} {ro ro' tg fi : Nat → Int32} {va : Nat → Int64} {ty nu it le cs ty' nu' it' le' cs' : Nat → Int32} {rho g : Nat → Nat} (R : ok_R F (m + 1) s ro tg fi va ty nu it le cs rho g) (hp : p < m + 1)
    (h1 : ∀ j, j < m → ty' j = if g p ≤ j then ty (j + 1) else ty j) (h2 : ∀ j f, j < m → f < F → ok_Y nu' it' le' cs' (j * 4 + f) = if g p ≤ j then ok_Y nu it le cs ((j + 1) * 4 + f) else ok_Y nu it le cs (j * 4 + f))
    (h3 : ∀ f, f < F → ok_Y nu' it' le' cs' (80 + f) = ok_Y nu it le cs (80 + f)) (hro : ∀ j, ro' j = ro (ok_del p m j)) :
    ok_R F m s ro' tg fi va ty' nu' it' le' cs' (fun j => rho (ok_del p m j)) (fun j => ok_dn (g p) (g (ok_del p m j))) := by
  obtain ⟨hF, hn, hr, hri, hg, ht, hc, hst, hs⟩ := R
  have gi := ok_lt_inj hs
  have D : ∀ j, j < m → ok_del p m j < m + 1 ∧ ok_del p m j ≠ p := fun j hj => by
    rcases ok_del_c (p := p) hj with ⟨a, e⟩ | ⟨a, e⟩
    · rw [e]; omega
    · rw [e]; omega
  have gne : ∀ q, q < m + 1 → q ≠ p → g q ≠ g p := fun q hq h => by
    rcases Nat.lt_or_gt_of_ne h with z | z
    · exact gi q p z hp
    · exact (gi p q z hq).symm
  have hgp := hg p hp
  -- the entry x of the old reference is the entry ok_dn (g p) x of the new one
  have key : ∀ x, x < m + 1 → x ≠ g p → ok_dn (g p) x < m ∧ ty' (ok_dn (g p) x) = ty x ∧ ∀ f, f < F → ok_Y nu' it' le' cs' (ok_dn (g p) x * 4 + f) = ok_Y nu it le cs (x * 4 + f) := fun x hx hne => by
    unfold ok_dn
    by_cases z : x < g p
    · rw [if_pos z]
      refine ⟨by omega, ?_, fun f hf => ?_⟩
      · rw [h1 x (by omega), if_neg (by omega)]
      · rw [h2 x f (by omega) hf, if_neg (by omega)]
    · rw [if_neg z]
      obtain ⟨y, rfl⟩ : ∃ y, x = y + 1 := ⟨x - 1, by omega⟩
      rw [Nat.add_sub_cancel]
      refine ⟨by omega, ?_, fun f hf => ?_⟩
      · rw [h1 y (by omega), if_pos (by omega)]
      · rw [h2 y f (by omega) hf, if_pos (by omega)]
  refine ⟨hF, by omega, fun j hj => ?_, fun i j a b => ?_, fun j hj => ?_, fun j hj => ?_, fun j f hj hf => ?_, fun f hf => ?_, fun i j a b => ?_⟩
  · rw [hro j]
    exact hr _ (ok_del_lt (by omega) (by omega) hj)
  · have c := ok_del_inj (p := p) (m := m) (by omega) a
    have b1 := ok_del_lt (p := p) (m := m) (by omega) (by omega) (show i < 20 by omega)
    have b2 := ok_del_lt (p := p) (m := m) (by omega) (by omega) b
    rcases Nat.lt_or_gt_of_ne c with h | h
    · exact hri _ _ h b2
    · exact (hri _ _ h b1).symm
  · have d := D j hj
    exact (key _ (hg _ d.1) (gne _ d.1 d.2)).1
  · have d := D j hj
    dsimp only
    rw [(key _ (hg _ d.1) (gne _ d.1 d.2)).2.1]
    exact ht _ d.1
  · have d := D j hj
    dsimp only
    rw [(key _ (hg _ d.1) (gne _ d.1 d.2)).2.2 f hf]
    exact hc _ f d.1 hf
  · rw [h3 f hf]
    exact hst f hf
  · have d1 := D i (by omega)
    have d2 := D j b
    have lt : ok_del p m i < ok_del p m j := by
      rcases ok_del_c (p := p) (show i < m by omega) with ⟨a1, e1⟩ | ⟨a1, e1⟩ <;> rcases ok_del_c (p := p) b with ⟨a2, e2⟩ | ⟨a2, e2⟩ <;> rw [e1, e2] <;> omega
    have hl := ok_lt_iff.mp (hs _ _ lt d2.1)
    have k1 := key _ (hg _ d1.1) (gne _ d1.1 d1.2)
    have k2 := key _ (hg _ d2.1) (gne _ d2.1 d2.2)
    have n1 := gne _ d1.1 d1.2
    have n2 := gne _ d2.1 d2.2
    refine ok_lt_iff.mpr ?_
    dsimp only
    rw [ok_T_congr k1.2.2, ok_T_congr k2.2.2]
    rcases hl with h | ⟨h, h'⟩
    · exact Or.inl h
    · refine Or.inr ⟨h, ?_⟩
      generalize g (ok_del p m i) = x at *
      generalize g (ok_del p m j) = y at *
      unfold ok_dn
      split <;> split <;> omega
theorem i_vc_remove {k : Nat} {u : SX} {v : SY} (I : i_Rel k u v) (hk : k + 4 ≤ 2050) (v1 : Int32) : wpX_remove (fun r u' => wpY_remove (fun r' v' => r' = r ∧ i_Rel (k + 4) u' v') v v1) u v1 := by
  obtain ⟨F, n, s, ro, tg, fi, va, ty, nu, it, le, cs, rho, g, rfl, rfl, R⟩ := I
  have R0 := R
  have W := ok_R_WF R
  obtain ⟨hF, hn, hr, hri, hg, ht, hc, hst, hs⟩ := R0
  unfold wpX_remove wpY_remove
  dsimp only
  by_cases hx : ∃ p, p < n ∧ v1 = nI p
  · obtain ⟨p, hp, rfl⟩ := hx
    have hrp := hr p (by omega)
    have hgp := hg p hp
    obtain ⟨m, rfl⟩ : ∃ m, n = m + 1 := ⟨n - 1, by omega⟩
    refine ok_x_ent1 hn hp (br_f (by decide) ⟨vp_in_nI (by omega) (by omega), ?_⟩)
    rw [nI_clamp (n := p) (by omega)]
    refine nm_e (nm_r (nI_pred m) ?_)
    refine ⟨m - p + 1, ok_x_remL (m := m) (p := p) (by omega) (by omega) (fun ro' hro => ?_) (m - p) p (by omega) (Nat.le_refl _) ro (fun j => by rw [if_neg (by omega)])⟩
    refine ok_y_at1 R hp (br_t (nI_pos' (by omega)) ⟨m - g p + 1, ?_⟩)
    refine ok_y_rem (m := m) (e := g p) (by omega) hF W (fun ty' nu' it' le' cs' h1 h2 h3 => ?_) (m - g p) (g p) (by omega) (Nat.le_refl _) ty nu it le cs (fun j => by rw [if_neg (by omega)]) (fun j f hf => by rw [if_neg (by omega)])
    exact ⟨rfl, ok_RI (ok_R_rem R hp h1 h2 h3 (fun j => (hro j).trans (ok_del_r rfl j)))⟩
  · have hx' : ∀ p, p < n → v1 ≠ nI p := fun p hp z => hx ⟨p, hp, z⟩
    exact ok_x_ent0 hn hx' (br_t rfl (ok_y_at0 R hx' (br_f (by decide) ⟨rfl, ok_RI R⟩)))
