/-! append, and the methods that only read -/
theorem ok_app {l q : Nat} {le : Int32} {ch ch' : Nat → Int32} (hl : l < 6) (hle : le = nI l) (hq : q < 256) (ht : ok_tx le ch) (h1 : ch' l = nI q) (h2 : ∀ i, i < l → ch' i = ch i) :
    ok_tx (nI (l + 1)) ch' ∧ lN (ok_pk (ok_dg le ch) 6) ||| lN ((q + 1) * 2 ^ (9 * (5 - l))) = lN (ok_pk (ok_dg (nI (l + 1)) ch') 6) := by
  obtain ⟨l', hl', e', hc⟩ := ht
  have e2 : l' = l := by
    rw [hle, nI_eq (by omega) (by omega)] at e'
    exact e'.symm
  subst e2
  have tx : ok_tx (nI (l' + 1)) ch' := ⟨l' + 1, by omega, rfl, fun i hi => by
    by_cases e : i = l'
    · subst e; exact ⟨q, hq, h1⟩
    · rw [h2 i (by omega)]; exact hc i (by omega)⟩
  refine ⟨tx, ?_⟩
  have d0 : ∀ i, l' ≤ i → ok_dg le ch i = 0 := fun i hi => if_neg (by rw [hle, nI_clamp (by omega)]; omega)
  have d1 : ∀ i, l' + 1 ≤ i → ok_dg (nI (l' + 1)) ch' i = 0 := fun i hi => if_neg (by rw [nI_clamp (by omega)]; omega)
  have dl : ok_dg (nI (l' + 1)) ch' l' = q + 1 := by
    unfold ok_dg
    rw [nI_clamp (by omega), if_pos (by omega), h1, nI_clamp (by omega)]
  have dc : ∀ i, i < l' → ok_dg (nI (l' + 1)) ch' i = ok_dg le ch i := fun i hi => by
    unfold ok_dg
    rw [hle, nI_clamp (by omega), nI_clamp (by omega), if_pos (by omega), if_pos hi, h2 i hi]
  have p0 : ok_pk (ok_dg le ch) 6 = ok_pk (ok_dg le ch) l' * 512 ^ (6 - l') := by
    have := ok_pk_0 l' d0 (6 - l')
    rw [show l' + (6 - l') = 6 by omega] at this
    exact this
  have p1 : ok_pk (ok_dg (nI (l' + 1)) ch') 6 = (ok_pk (ok_dg le ch) l' * 512 + (q + 1)) * 512 ^ (5 - l') := by
    have := ok_pk_0 (l' + 1) d1 (5 - l')
    rw [show l' + 1 + (5 - l') = 6 by omega] at this
    rw [this]
    show (ok_pk (ok_dg (nI (l' + 1)) ch') l' * 512 + ok_dg (nI (l' + 1)) ch' l') * _ = _
    rw [dl, ok_pk_congr l' dc]
  have b6 : ok_pk (ok_dg (nI (l' + 1)) ch') 6 < 18014398509481984 := ok_pk54 tx
  have e5 : 512 ^ (6 - l') = 512 * 512 ^ (5 - l') := by
    rw [show 6 - l' = (5 - l') + 1 by omega, Nat.pow_succ, Nat.mul_comm]
  have e6 : (ok_pk (ok_dg le ch) l' * 512 + (q + 1)) * 512 ^ (5 - l') = ok_pk (ok_dg le ch) l' * 512 ^ (6 - l') + (q + 1) * 512 ^ (5 - l') := by
    rw [Nat.add_mul, e5, Nat.mul_assoc]
  rw [e6] at p1
  rw [p1] at b6 ⊢
  rw [p0, ← ok_512]
  refine g_or (k := 9 * (6 - l')) (ok_512 _).symm ?_ (Nat.lt_trans b6 (by decide))
  rw [e5]
  exact Nat.mul_lt_mul_of_pos_right (by omega) (Nat.pow_pos (by decide))
theorem ok_dg_ne {le : Int32} {ch : Nat → Int32} {l : Nat} (hl : l ≤ 6) (hle : le = nI l) : (∀ i, i < l → ok_dg le ch i ≠ 0) ∧ (∀ i, l ≤ i → ok_dg le ch i = 0) := by
  subst hle
  unfold ok_dg
  rw [nI_clamp (by omega)]
  exact ⟨fun i hi => by rw [if_pos hi]; omega, fun i hi => if_neg (by omega)⟩
theorem i_vc_append {k : Nat} {u : SX} {v : SY} (I : i_Rel k u v) (hk : k + 4 ≤ 2050) (v1 : Int32) (v2 : Int32) : wpX_append (fun r u' => wpY_append (fun r' v' => r' = r ∧ i_Rel (k + 4) u' v') v v1 v2) u v1 v2 := by
  obtain ⟨F, n, s, ro, tg, fi, va, ty, nu, it, le, cs, rho, g, rfl, rfl, R⟩ := I
  have hF := R.1
  unfold wpX_append wpY_append
  dsimp only
  by_cases hx : ∃ f, f < F ∧ v1 = nI f
  · obtain ⟨f, hf, rfl⟩ := hx
    have ii : vp_in (nI (80 + f)) 84 := vp_in_nI (by omega) (by omega)
    have hst : ok_CR s f (ok_X fi va (80 + f)) (ok_Y nu it le cs (80 + f)) := R.2.2.2.2.2.2.2.1 f hf
    refine ok_x_field1 hF hf (br_f (by decide) ?_)
    unfold wpX_cell
    dsimp only
    rw [ok_20, ok_80, nI_clamp (n := 80 + f) (by omega)]
    refine ok_x_isSet (fun e => ?_) (fun e => ?_)
    · refine br_f (by decide) ⟨ii, ?_⟩
      rcases hst with ⟨h1, h2⟩ | ⟨h1, h2, _, h3⟩
      · have h1' : fi (80 + f) = 0 := h1
        have h2' : nu (80 + f) = 1 := h2
        exact br_t h1' (ok_y_bad0 hF hf (br_t rfl (ok_y_text (fun _ => br_f (by decide) ⟨ii, br_f (by rw [h2']; decide) ⟨rfl, ok_RI R⟩⟩) (fun z => absurd (e.symm.trans z) (by decide)))))
      · have h1' : fi (80 + f) = 1 := h1
        have h2' : nu (80 + f) = 0 := h2
        obtain ⟨tx, hv⟩ := h3 e
        have hv' : va (80 + f) = lN (ok_pk (ok_dg (le (80 + f)) (ok_ch cs (80 + f))) 6) := hv
        have tx' : ok_tx (le (80 + f)) (ok_ch cs (80 + f)) := tx
        have TX := tx'
        obtain ⟨l, hl, hle, hch⟩ := tx'
        refine br_f (by rw [h1']; decide) ?_
        by_cases c0 : v2 < 0
        · exact br_t c0 (ok_y_bad0 hF hf (br_t rfl (ok_y_text (fun _ => br_f (by decide) ⟨ii, br_t h2' (br_t c0 ⟨rfl, ok_RI R⟩)⟩) (fun z => absurd (e.symm.trans z) (by decide)))))
        · refine br_f c0 ?_
          by_cases c1 : v2 ≤ 255
          · obtain ⟨q, hq, rfl⟩ := nI_of2 (M := 255) (n := 255) (by decide) c0 c1
            refine br_t c1 ⟨ii, ?_⟩
            rw [hv']
            refine ok_x_len (l := l) hl (ok_dg_lt TX) (ok_dg_ne hl hle).1 (ok_dg_ne hl hle).2 ?_
            by_cases c6 : l < 6
            · refine br_t (nI_lt (b := 6) c6 (by decide)) ⟨ii, ?_⟩
              unfold wpX_letterShift
              dsimp only
              rw [ok_sh l c6]
              refine ⟨ii, ?_⟩
              rw [nI_l (n := q) (by omega), lN_1, wb_shl _ (by omega), nI_1]
              refine nm_e (ok_y_bad0 hF hf (br_t rfl (ok_y_text (fun _ => br_f (by decide) ⟨ii, br_t h2' (br_f c0 (br_t c1 ⟨ii, ?_⟩))⟩) (fun z => absurd (e.symm.trans z) (by decide)))))
              refine nm_r hle (br_f (fun z => ?_) ?_)
              · have : l = 6 := (nI_eq (b := 6) (by omega) (by decide)).mp z
                omega
              · rw [ok_idx6, nI_clamp (n := (80 + f) * 6 + l) (by omega), nI_1]
                refine ⟨vp_in_nI (by omega) (by omega), nm_e ⟨ii, nm_e ⟨rfl, ok_RI (ok_R_cell R hf (fun c hc => ?_) (fun c hc => ?_) ?_)⟩⟩⟩
                · exact ok_Xeq rfl (pk_uLn hc)
                · exact ok_Yu rfl rfl (pk_un hc) (fun i hi => pk_un (by omega))
                · refine Or.inr ⟨h1', h2', fun z => absurd (e.symm.trans z) (by decide), fun _ => ?_⟩
                  show ok_tx (upd le (80 + f) (nI (l + 1)) (80 + f)) (ok_ch (upd cs ((80 + f) * 6 + l) (nI q)) (80 + f)) ∧ vp_updL va (80 + f) _ (80 + f) = lN (ok_pk (ok_dg (upd le (80 + f) (nI (l + 1)) (80 + f)) (ok_ch (upd cs ((80 + f) * 6 + l) (nI q)) (80 + f))) 6)
                  rw [pk_us, pk_uLs]
                  refine ok_app c6 hle (by omega) TX ?_ (fun i hi => ?_)
                  · unfold ok_ch
                    rw [if_pos c6]
                    exact pk_us
                  · unfold ok_ch
                    rw [if_pos (by omega), if_pos (by omega)]
                    exact pk_un (by omega)
            · have : l = 6 := by omega
              subst this
              refine br_f (by decide) (ok_y_bad0 hF hf (br_t rfl (ok_y_text (fun _ => br_f (by decide) ⟨ii, br_t h2' (br_f c0 (br_t c1 ⟨ii, ?_⟩))⟩) (fun z => absurd (e.symm.trans z) (by decide)))))
              exact nm_r hle (br_t (by decide) ⟨rfl, ok_RI R⟩)
          · exact br_f c1 (ok_y_bad0 hF hf (br_t rfl (ok_y_text (fun _ => br_f (by decide) ⟨ii, br_t h2' (br_f c0 (br_f c1 ⟨rfl, ok_RI R⟩))⟩) (fun z => absurd (e.symm.trans z) (by decide)))))
    · exact br_t rfl (ok_y_bad0 hF hf (br_t rfl (ok_y_text (fun z => absurd (e.symm.trans z) (by decide)) (fun _ => br_t rfl ⟨rfl, ok_RI R⟩))))
  · have hx' : ∀ f, f < F → v1 ≠ nI f := fun f hf z => hx ⟨f, hf, z⟩
    exact ok_x_field0 hF hx' (br_t rfl (ok_y_bad1 hF hx' (br_f (by decide) ⟨rfl, ok_RI R⟩)))
theorem i_vc_size {k : Nat} {u : SX} {v : SY} (I : i_Rel k u v) (hk : k + 4 ≤ 2050) : wpX_size (fun r => wpY_size (fun r' => r' = r ∧ i_Rel (k + 4) u v) v) u := by
  obtain ⟨F, n, s, ro, tg, fi, va, ty, nu, it, le, cs, rho, g, rfl, rfl, R⟩ := I
  exact ⟨rfl, ok_RI R⟩
theorem i_vc_tag {k : Nat} {u : SX} {v : SY} (I : i_Rel k u v) (hk : k + 4 ≤ 2050) (v1 : Int32) : wpX_tag (fun r => wpY_tag (fun r' => r' = r ∧ i_Rel (k + 4) u v) v v1) u v1 := by
  obtain ⟨F, n, s, ro, tg, fi, va, ty, nu, it, le, cs, rho, g, rfl, rfl, R⟩ := I
  have R0 := R
  obtain ⟨hF, hn, hr, hri, hg, ht, hc, hst, hs⟩ := R0
  unfold wpX_tag wpY_tag
  dsimp only
  by_cases hx : ∃ p, p < n ∧ v1 = nI p
  · obtain ⟨p, hp, rfl⟩ := hx
    have hrp := hr p (by omega)
    have hgp := hg p hp
    refine ok_x_ent1 hn hp (br_f (by decide) ⟨vp_in_nI (by omega) (by omega), ?_⟩)
    rw [nI_clamp (n := p) (by omega), hrp.1, nI_clamp (n := rho p) (by omega)]
    refine ⟨vp_in_nI hrp.2 (by omega), ok_y_at1 R hp (br_t (nI_pos' (by omega)) ⟨vp_in_nI (by omega) (by omega), ?_⟩)⟩
    rw [nI_clamp (n := g p) (by omega)]
    exact ⟨(ht p hp).symm, ok_RI R⟩
  · have hx' : ∀ p, p < n → v1 ≠ nI p := fun p hp z => hx ⟨p, hp, z⟩
    exact ok_x_ent0 hn hx' (br_t rfl (ok_y_at0 R hx' (br_f (by decide) ⟨rfl, ok_RI R⟩)))
theorem ok_has {F n : Nat} {s : Int32} {ro tg fi : Nat → Int32} {va : Nat → Int64} {rho : Nat → Nat} {post : Int32 → Prop} {p f : Nat} (hF : F ≤ 4) (hn : n ≤ 20) (hp : p < n) (hf : f < F) (hr : ro p = nI (rho p) ∧ rho p < 20)
    (h0 : fi (rho p * 4 + f) = 0 → post 0) (h1 : ¬ fi (rho p * 4 + f) = 0 → post 1) : wpX_hasValue post (nI F, s, nI n, ro, tg, fi, va) (nI p) (nI f) := by
  unfold wpX_hasValue
  dsimp only
  refine ok_x_ent1 hn hp (br_f (by decide) (ok_x_field1 hF hf (br_f (by decide) ⟨vp_in_nI (by omega) (by omega), ?_⟩)))
  unfold wpX_cell
  dsimp only
  rw [nI_clamp (n := p) (by omega), hr.1, ok_idx, nI_clamp (n := rho p * 4 + f) (by omega)]
  exact ⟨vp_in_nI (by omega) (by omega), br_c h0 h1⟩
theorem i_vc_intAt {k : Nat} {u : SX} {v : SY} (I : i_Rel k u v) (hk : k + 4 ≤ 2050) (v1 : Int32) (v2 : Int32) : wpX_intAt (fun r => wpY_intAt (fun r' => r' = r ∧ i_Rel (k + 4) u v) v v1 v2) u v1 v2 := by
  obtain ⟨F, n, s, ro, tg, fi, va, ty, nu, it, le, cs, rho, g, rfl, rfl, R⟩ := I
  have R0 := R
  obtain ⟨hF, hn, hr, hri, hg, ht, hc, hst, hs⟩ := R0
  unfold wpX_intAt wpY_intAt
  dsimp only
  by_cases hx : ∃ p, p < n ∧ v1 = nI p
  · obtain ⟨p, hp, rfl⟩ := hx
    have hrp := hr p (by omega)
    have hgp := hg p hp
    have gp0 : ¬ nI (g p) < 0 := nI_pos (by omega)
    by_cases hy : ∃ f, f < F ∧ v2 = nI f
    · obtain ⟨f, hf, rfl⟩ := hy
      have hcf := hc p f hp hf
      have ig : vp_in (nI (g p * 4 + f)) 84 := vp_in_nI (by omega) (by omega)
      refine ok_has hF hn hp hf hrp (fun z => ?_) (fun z => ?_)
      · have hz : nu (g p * 4 + f) = 1 := by
          rcases hcf with ⟨_, h⟩ | ⟨h, _⟩
          · exact h
          · exact absurd (z.symm.trans h) (by decide)
        refine br_t rfl (ok_y_at1 R hp (br_f gp0 (ok_y_bad0 hF hf (br_t rfl (ok_y_text (fun _ => br_f (by decide) ⟨rfl, ok_RI R⟩) (fun _ => br_t rfl ?_))))))
        rw [ok_idx, nI_clamp (n := g p * 4 + f) (by omega)]
        exact ⟨ig, br_f (by rw [hz]; decide) ⟨rfl, ok_RI R⟩⟩
      · obtain ⟨hz, h3⟩ : nu (g p * 4 + f) = 0 ∧ (ok_bit s f 1 = false → va (rho p * 4 + f) = (it (g p * 4 + f)).toInt64) := by
          rcases hcf with ⟨h, _⟩ | ⟨_, h, h3, _⟩
          · exact absurd h z
          · exact ⟨h, h3⟩
        refine br_f (by decide) (ok_x_isSet (fun e => ?_) (fun e => ?_))
        · exact br_f (by decide) (ok_y_at1 R hp (br_f gp0 (ok_y_bad0 hF hf (br_t rfl (ok_y_text (fun _ => br_f (by decide) ⟨rfl, ok_RI R⟩) (fun z => absurd (e.symm.trans z) (by decide)))))))
        · refine br_t rfl ⟨vp_in_nI (by omega) (by omega), ?_⟩
          unfold wpX_cell
          dsimp only
          rw [nI_clamp (n := p) (by omega), hrp.1, ok_idx, nI_clamp (n := rho p * 4 + f) (by omega), h3 e]
          refine ⟨vp_in_nI (by omega) (by omega), ok_y_at1 R hp (br_f gp0 (ok_y_bad0 hF hf (br_t rfl (ok_y_text (fun z => absurd (e.symm.trans z) (by decide)) (fun _ => br_t rfl ?_)))))⟩
          rw [ok_idx, nI_clamp (n := g p * 4 + f) (by omega)]
          refine ⟨ig, br_t hz ⟨ig, ?_, ok_RI R⟩⟩
          simp
    · have hy' : ∀ f, f < F → v2 ≠ nI f := fun f hf z => hy ⟨f, hf, z⟩
      unfold wpX_hasValue
      exact ok_x_ent1 hn hp (br_f (by decide) (ok_x_field0 hF hy' (br_t rfl (br_t rfl (ok_y_at1 R hp (br_f gp0 (ok_y_bad1 hF hy' (br_f (by decide) ⟨rfl, ok_RI R⟩))))))))
  · have hx' : ∀ p, p < n → v1 ≠ nI p := fun p hp z => hx ⟨p, hp, z⟩
    unfold wpX_hasValue
    exact ok_x_ent0 hn hx' (br_t rfl (br_t rfl (ok_y_at0 R hx' (br_t (by decide) ⟨rfl, ok_RI R⟩))))
theorem i_vc_charAt {k : Nat} {u : SX} {v : SY} (I : i_Rel k u v) (hk : k + 4 ≤ 2050) (v1 : Int32) (v2 : Int32) (v3 : Int32) : wpX_charAt (fun r => wpY_charAt (fun r' => r' = r ∧ i_Rel (k + 4) u v) v v1 v2 v3) u v1 v2 v3 := by
  obtain ⟨F, n, s, ro, tg, fi, va, ty, nu, it, le, cs, rho, g, rfl, rfl, R⟩ := I
  have R0 := R
  obtain ⟨hF, hn, hr, hri, hg, ht, hc, hst, hs⟩ := R0
  unfold wpX_charAt wpY_charAt
  dsimp only
  by_cases hx : ∃ p, p < n ∧ v1 = nI p
  · obtain ⟨p, hp, rfl⟩ := hx
    have hrp := hr p (by omega)
    have hgp := hg p hp
    have gp0 : ¬ nI (g p) < 0 := nI_pos (by omega)
    by_cases hy : ∃ f, f < F ∧ v2 = nI f
    · obtain ⟨f, hf, rfl⟩ := hy
      have hcf := hc p f hp hf
      have ig : vp_in (nI (g p * 4 + f)) 84 := vp_in_nI (by omega) (by omega)
      have cg : (nI (g p * 4 + f)).toNatClampNeg = g p * 4 + f := nI_clamp (by omega)
      refine ok_has hF hn hp hf hrp (fun z => ?_) (fun z => ?_)
      · have hz : nu (g p * 4 + f) = 1 := by
          rcases hcf with ⟨_, h⟩ | ⟨h, _⟩
          · exact h
          · exact absurd (z.symm.trans h) (by decide)
        refine br_t rfl (ok_y_at1 R hp (br_f gp0 (ok_y_bad0 hF hf (br_t rfl (nm_r (ok_idx _ _) (ok_y_text (fun _ => br_f (by decide) ⟨ig, ?_⟩) (fun _ => br_t rfl ⟨rfl, ok_RI R⟩)))))))
        rw [cg]
        exact br_f (by rw [hz]; decide) ⟨rfl, ok_RI R⟩
      · obtain ⟨hz, h3⟩ : nu (g p * 4 + f) = 0 ∧ (ok_bit s f 1 = true → ok_tx (le (g p * 4 + f)) (ok_ch cs (g p * 4 + f)) ∧ va (rho p * 4 + f) = lN (ok_pk (ok_dg (le (g p * 4 + f)) (ok_ch cs (g p * 4 + f))) 6)) := by
          rcases hcf with ⟨h, _⟩ | ⟨_, h, _, h3⟩
          · exact absurd h z
          · exact ⟨h, h3⟩
        refine br_f (by decide) (ok_x_isSet (fun e => ?_) (fun e => ?_))
        · refine br_f (by decide) ?_
          obtain ⟨TX, hv⟩ := h3 e
          have tx' := TX
          obtain ⟨l, hl, hle, hch⟩ := tx'
          by_cases c0 : v3 < 0
          · refine br_t c0 (ok_y_at1 R hp (br_f gp0 (ok_y_bad0 hF hf (br_t rfl (nm_r (ok_idx _ _) (ok_y_text (fun _ => br_f (by decide) ⟨ig, ?_⟩) (fun z => absurd (e.symm.trans z) (by decide))))))))
            rw [cg]
            exact br_t hz (br_t c0 ⟨rfl, ok_RI R⟩)
          · refine br_f c0 ?_
            obtain ⟨i, hi31, rfl⟩ := nI_of c0
            by_cases c6 : i < 6
            · refine br_t (nI_lt (b := 6) c6 (by decide)) ⟨vp_in_nI (by omega) (by omega), ?_⟩
              unfold wpX_cell
              dsimp only
              rw [nI_clamp (n := p) (by omega), hrp.1, ok_idx, nI_clamp (n := rho p * 4 + f) (by omega)]
              refine ⟨vp_in_nI (by omega) (by omega), nm_r hv ?_⟩
              refine ok_x_code c6 (ok_dg_lt TX) ?_
              have d := ok_dg_ne (ch := ok_ch cs (g p * 4 + f)) hl hle
              by_cases cl : i < l
              · obtain ⟨q, hq, hqe⟩ := hch i cl
                have e4 : ok_dg (le (g p * 4 + f)) (ok_ch cs (g p * 4 + f)) i = q + 1 := by
                  unfold ok_dg
                  rw [hle, nI_clamp (by omega), if_pos cl, hqe, nI_clamp (by omega)]
                rw [e4]
                refine br_f (nI_ne0 (by omega) (by omega)) ?_
                rw [nI_pred]
                refine ok_y_at1 R hp (br_f gp0 (ok_y_bad0 hF hf (br_t rfl (nm_r (ok_idx _ _) (ok_y_text (fun _ => br_f (by decide) ⟨ig, ?_⟩) (fun z => absurd (e.symm.trans z) (by decide)))))))
                rw [cg]
                refine br_t hz (br_f c0 ⟨ig, ?_⟩)
                rw [hle]
                refine br_t (nI_lt cl (by omega)) ?_
                rw [ok_idx6, nI_clamp (n := (g p * 4 + f) * 6 + i) (by omega)]
                refine ⟨vp_in_nI (by omega) (by omega), ?_, ok_RI R⟩
                have e5 : ok_ch cs (g p * 4 + f) i = cs ((g p * 4 + f) * 6 + i) := if_pos c6
                rw [← e5, hqe]
              · rw [d.2 i (by omega)]
                refine br_t nI_0 (ok_y_at1 R hp (br_f gp0 (ok_y_bad0 hF hf (br_t rfl (nm_r (ok_idx _ _) (ok_y_text (fun _ => br_f (by decide) ⟨ig, ?_⟩) (fun z => absurd (e.symm.trans z) (by decide))))))))
                rw [cg]
                refine br_t hz (br_f c0 ⟨ig, ?_⟩)
                rw [hle]
                exact br_f (nI_nlt (by omega) (by omega)) ⟨rfl, ok_RI R⟩
            · refine br_f (nI_nlt (b := 6) (by omega) hi31) (ok_y_at1 R hp (br_f gp0 (ok_y_bad0 hF hf (br_t rfl (nm_r (ok_idx _ _) (ok_y_text (fun _ => br_f (by decide) ⟨ig, ?_⟩) (fun z => absurd (e.symm.trans z) (by decide))))))))
              rw [cg]
              refine br_t hz (br_f c0 ⟨ig, ?_⟩)
              rw [hle]
              exact br_f (nI_nlt (by omega) hi31) ⟨rfl, ok_RI R⟩
        · exact br_t rfl (ok_y_at1 R hp (br_f gp0 (ok_y_bad0 hF hf (br_t rfl (nm_r (ok_idx _ _) (ok_y_text (fun z => absurd (e.symm.trans z) (by decide)) (fun _ => br_t rfl ⟨rfl, ok_RI R⟩)))))))
    · have hy' : ∀ f, f < F → v2 ≠ nI f := fun f hf z => hy ⟨f, hf, z⟩
      unfold wpX_hasValue
      exact ok_x_ent1 hn hp (br_f (by decide) (ok_x_field0 hF hy' (br_t rfl (br_t rfl (ok_y_at1 R hp (br_f gp0 (ok_y_bad1 hF hy' (br_f (by decide) ⟨rfl, ok_RI R⟩))))))))
  · have hx' : ∀ p, p < n → v1 ≠ nI p := fun p hp z => hx ⟨p, hp, z⟩
    unfold wpX_hasValue
    exact ok_x_ent0 hn hx' (br_t rfl (br_t rfl (ok_y_at0 R hx' (br_t (by decide) ⟨rfl, ok_RI R⟩))))
theorem i_vc_nullAt {k : Nat} {u : SX} {v : SY} (I : i_Rel k u v) (hk : k + 4 ≤ 2050) (v1 : Int32) (v2 : Int32) : wpX_nullAt (fun r => wpY_nullAt (fun r' => r' = r ∧ i_Rel (k + 4) u v) v v1 v2) u v1 v2 := by
  obtain ⟨F, n, s, ro, tg, fi, va, ty, nu, it, le, cs, rho, g, rfl, rfl, R⟩ := I
  have R0 := R
  obtain ⟨hF, hn, hr, hri, hg, ht, hc, hst, hs⟩ := R0
  unfold wpX_nullAt wpY_nullAt
  dsimp only
  by_cases hx : ∃ p, p < n ∧ v1 = nI p
  · obtain ⟨p, hp, rfl⟩ := hx
    have hrp := hr p (by omega)
    have hgp := hg p hp
    have gp0 : ¬ nI (g p) < 0 := nI_pos (by omega)
    refine ok_x_ent1 hn hp (br_f (by decide) ?_)
    by_cases hy : ∃ f, f < F ∧ v2 = nI f
    · obtain ⟨f, hf, rfl⟩ := hy
      have hcf := hc p f hp hf
      have ig : vp_in (nI (g p * 4 + f)) 84 := vp_in_nI (by omega) (by omega)
      refine ok_x_field1 hF hf (br_f (by decide) ⟨vp_in_nI (by omega) (by omega), ?_⟩)
      unfold wpX_cell
      dsimp only
      rw [nI_clamp (n := p) (by omega), hrp.1, ok_idx, nI_clamp (n := rho p * 4 + f) (by omega)]
      refine ⟨vp_in_nI (by omega) (by omega), ?_⟩
      rcases hcf with ⟨h1, h2⟩ | ⟨h1, h2, _⟩
      · have h1' : fi (rho p * 4 + f) = 0 := h1
        have h2' : nu (g p * 4 + f) = 1 := h2
        refine br_t h1' (ok_y_at1 R hp (br_f gp0 (ok_y_bad0 hF hf (br_t rfl ?_))))
        rw [ok_idx, nI_clamp (n := g p * 4 + f) (by omega)]
        exact ⟨ig, br_f (by rw [h2']; decide) ⟨rfl, ok_RI R⟩⟩
      · have h1' : fi (rho p * 4 + f) = 1 := h1
        have h2' : nu (g p * 4 + f) = 0 := h2
        refine br_f (by rw [h1']; decide) (ok_y_at1 R hp (br_f gp0 (ok_y_bad0 hF hf (br_t rfl ?_))))
        rw [ok_idx, nI_clamp (n := g p * 4 + f) (by omega)]
        exact ⟨ig, br_t h2' ⟨rfl, ok_RI R⟩⟩
    · have hy' : ∀ f, f < F → v2 ≠ nI f := fun f hf z => hy ⟨f, hf, z⟩
      exact ok_x_field0 hF hy' (br_t rfl (ok_y_at1 R hp (br_f gp0 (ok_y_bad1 hF hy' (br_f (by decide) ⟨rfl, ok_RI R⟩)))))
  · have hx' : ∀ p, p < n → v1 ≠ nI p := fun p hp z => hx ⟨p, hp, z⟩
    exact ok_x_ent0 hn hx' (br_t rfl (ok_y_at0 R hx' (br_t (by decide) ⟨rfl, ok_RI R⟩)))
