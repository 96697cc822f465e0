section SM7
variable {c c' : hs_S} {r r' : rS} {e : Nat}
/-- rates and the count of snapshots alone -/
theorem iv_rr (V : iv c r e) (o' : rr_ok r') (Ei : ∀ f, f ≠ 30 → f ≠ 34 → f ≠ 35 → ri r' f = ri r f) (El : ∀ f, rl r' f = rl r f) (Ec : ∀ k, 1 ≤ k → k ≤ 5 → rc r' k = rc r k) (E6 : rc r 6 ≤ rc r' 6) (ok' : hs_ok c') (Cn : ∀ a b, a ≠ 2 → hs_n c' a b = hs_n c a b) (C2 : rc r' 6 = hs_n c' 2 0) (Cq : ∀ l, hs_q c' l = hs_q c l) (Cl : ∀ f i j, hs_l c' f i j = hs_l c f i j) (Ci : ∀ f i j, f ≠ 5 → f ≠ 7 → hs_i c' f i j = hs_i c f i j) (R : iv_r c' r') : iv c' r' e := by
  obtain ⟨⟨n1, n2, n3, n4, n5, n6⟩, v2, v3, v4, v5, v6, v7, v8, v9, v10, v11⟩ := V
  have S : sth r r' := ⟨fun f hf => Ei f (by omega) (by omega) (by omega), Ec 5 (by omega) (by omega), Ec 3 (by omega) (by omega)⟩
  have up : ∀ {x}, isT r x → isT r' x := fun q => isT_up (by rw [Ec 2 (by omega) (by omega)]; exact Nat.le_refl _) q
  have c4 := Ec 4 (by omega) (by omega)
  have c1 := Ec 1 (by omega) (by omega)
  have c3 := Ec 3 (by omega) (by omega)
  have c5 := Ec 5 (by omega) (by omega)
  have i36 := Ei 36 (by decide) (by decide) (by decide)
  have i37 := Ei 37 (by decide) (by decide) (by decide)
  have i38 := Ei 38 (by decide) (by decide) (by decide)
  have i39 := Ei 39 (by decide) (by decide) (by decide)
  have i50 := Ei 50 (by decide) (by decide) (by decide)
  have i48 := Ei 48 (by decide) (by decide) (by decide)
  have i49 := Ei 49 (by decide) (by decide) (by decide)
  have esm : ∀ f x1 x2, mr_sm r' f x1 x2 = mr_sm r f x1 x2 := fun f x1 x2 => by
    unfold mr_sm
    rw [c4]
    refine sm_lc (fun i _ => ?_)
    unfold rm_al
    rw [i36, i37, El]
  have eat : ∀ f x1 x2 x3, mr_at r' f x1 x2 x3 = mr_at r f x1 x2 x3 := fun f x1 x2 x3 => by
    unfold mr_at
    rw [c4]
    refine sm_lc (fun i _ => ?_)
    unfold rm_st
    rw [i36, i37, i38, El]
  have ees : ∀ x, mr_es r' x = mr_es r x := fun x => by
    unfold mr_es
    rw [c4]
    refine sm_ic (fun i _ => ?_)
    unfold rm_ea
    rw [i36, i39]
  have eev : ∀ x2 x3, mr_evs r' x2 x3 = mr_evs r x2 x3 := fun x2 x3 => by
    unfold mr_evs
    rw [c4]
    refine sm_ic (fun i _ => ?_)
    unfold mr_evF
    rw [i36, i39, i38]
  refine ⟨⟨o', ok', by rw [Cn 7 0 (by decide), Cn 1 0 (by decide)]; exact n3, by rw [c1, Cn 0 0 (by decide)]; exact n4, by rw [c3, Cn 1 0 (by decide)]; exact n5, C2⟩, ?_, R, ⟨?_, ?_, ?_, ?_⟩, ?_, ⟨?_, ?_⟩, ?_, ?_, sth_k S v9, ?_, ?_⟩
  · intro l hl
    rw [c3] at hl
    rw [Ei 31 (by decide) (by decide) (by decide), Ei 32 (by decide) (by decide) (by decide), Ei 33 (by decide) (by decide) (by decide), Cn 3 l (by decide), Cn 4 l (by decide), Ci 19 l 0 (by decide) (by decide)]
    exact v2 l hl
  · rw [c4, i38]
    exact fun i hi => up (v4.1 i hi)
  · rw [i50]
    exact fun n k hn hk => up (v4.2.1 n k hn hk)
  · rw [c5, i48]
    exact fun i hi => up (v4.2.2.1 i hi)
  · rw [c5, i49]
    exact fun i hi => up (v4.2.2.2 i hi)
  · intro k hk
    rw [c1] at hk
    rw [ees, Ci 8 k 0 (by decide) (by decide)]
    refine ⟨fun d hd => ?_, (v5 k hk).2⟩
    rw [esm, esm, esm, Cl, Cl, Cl]
    exact (v5 k hk).1 d hd
  · intro k hk
    rw [c1] at hk
    rw [Ci 8 k 0 (by decide) (by decide), v6.1 k hk]
    refine bs_c (fun i _ => ?_)
    unfold rk
    rw [i50]
  · rw [i50]
    exact fun n k h1 h2 h3 => v6.2 n k (by omega) h2 h3
  · intro n k hn hk hr
    rw [c1] at hk
    unfold rk at hr
    rw [i50] at hr ⊢
    rw [eev, Ci 15 k 0 (by decide) (by decide)]
    refine ⟨fun d hd => ?_, (v7 n k hn hk hr).2⟩
    rw [eat, eat, eat, Cl, Cl, Cl]
    exact (v7 n k hn hk hr).1 d hd
  · have q : iv_q c' r e := fun l hl => by rw [Cq]; exact v8 l hl
    exact sth_q S q
  · have q : iv_b c' r := fun l n hl hn h33 => by rw [Ci 19 l 0 (by decide) (by decide)]; exact v10 l n hl hn h33
    exact sth_b S q
  · have q : iv_d c' r := fun l n d hl hn hd => by rw [Cl]; exact v11 l n d hl hn hd
    exact sth_d S q
/-- stock and till: the first line of an exchange -/
theorem sim_xa {k d : Nat} {s t : Int64} (V : iv c r e) (hN : rc r 4 < 1100) (hT : rc r 2 + 1 < 2 ^ 30) (hk : k < rc r 1) (hd : d < 3) : iv (hc_ev (hc_put (hc_put c 9 k d s) 10 k d t) k) (m_note r (nI k) (nI d) s t 0) e := by
  have h1 := rr_1 V.1.1
  rw [← nt_1]
  refine sim_nt V hN hT ⟨fun _ _ => rfl, fun _ => rfl, fun f i j h9 h10 h11 => ?_, fun f i j h8 => ?_, fun k' => ?_⟩ (fun k' hk' => ⟨fun d' hd' => ⟨?_, ?_, ?_⟩, ?_⟩)
  · funext q
    show hs_l (hc_put (hc_put c 9 k d s) 10 k d t) f i j q = _
    rw [put_l, if_neg (fun z => h10 z.1), put_l, if_neg (fun z => h9 z.1)]
  · funext q
    rw [ev_i, if_neg (fun z => h8 z.1)]
    rfl
  · rw [ev_i, if_neg (fun z => absurd z.2.2.2 (by decide))]
    rfl
  · rw [if_nI (by omega) (by omega) (by omega) (by omega)]
    show hs_l (hc_put (hc_put c 9 k d s) 10 k d t) 9 k' 0 d' = _
    rw [put_l, if_neg (fun z => absurd z.1 (by decide)), put_l]
    by_cases y : k' = k ∧ d' = d
    · rw [if_pos y, if_pos ⟨rfl, y.1, rfl, y.2⟩, y.1, y.2]
    · rw [if_neg y, if_neg (fun z => y ⟨z.2.1, z.2.2.2⟩), Int64.add_zero]
  · rw [if_nI (by omega) (by omega) (by omega) (by omega)]
    show hs_l (hc_put (hc_put c 9 k d s) 10 k d t) 10 k' 0 d' = _
    rw [put_l]
    by_cases y : k' = k ∧ d' = d
    · rw [if_pos y, if_pos ⟨rfl, y.1, rfl, y.2⟩, y.1, y.2]
      rfl
    · rw [if_neg y, if_neg (fun z => y ⟨z.2.1, z.2.2.2⟩), Int64.add_zero]
      rfl
  · rw [show (if nI k = nI k' ∧ nI d = nI d' then (0 : Int64) else 0) = 0 by split <;> rfl, Int64.add_zero]
    show hs_l (hc_put (hc_put c 9 k d s) 10 k d t) 11 k' 0 d' = _
    rw [put_l, if_neg (fun z => absurd z.1 (by decide)), put_l, if_neg (fun z => absurd z.1 (by decide))]
  · rw [if_nI1 (by omega) (by omega), ev_i]
    by_cases y : k' = k
    · rw [if_pos y, if_pos ⟨rfl, y, rfl, rfl⟩, y]
      rfl
    · rw [if_neg y, if_neg (fun z => y z.2.1), Int32.add_zero]
      rfl
/-- the second line: no event -/
theorem sim_xb {k d : Nat} {s t : Int64} (V : iv c r e) (hN : rc r 4 < 1100) (hT : rc r 2 + 1 < 2 ^ 30) (hk : k < rc r 1) (hd : d < 3) : iv (hc_put (hc_put c 10 k d t) 9 k d s) (m_nt r (nI k) (nI d) s t 0 0) e := by
  have h1 := rr_1 V.1.1
  refine sim_nt V hN hT ⟨fun _ _ => rfl, fun _ => rfl, fun f i j h9 h10 h11 => ?_, fun f i j h8 => rfl, fun k' => rfl⟩ (fun k' hk' => ⟨fun d' hd' => ⟨?_, ?_, ?_⟩, ?_⟩)
  · funext q
    rw [put_l, if_neg (fun z => h9 z.1), put_l, if_neg (fun z => h10 z.1)]
  · rw [if_nI (by omega) (by omega) (by omega) (by omega), put_l]
    by_cases y : k' = k ∧ d' = d
    · rw [if_pos y, if_pos ⟨rfl, y.1, rfl, y.2⟩, y.1, y.2]
      rfl
    · rw [if_neg y, if_neg (fun z => y ⟨z.2.1, z.2.2.2⟩), Int64.add_zero]
      rfl
  · rw [if_nI (by omega) (by omega) (by omega) (by omega), put_l, if_neg (fun z => absurd z.1 (by decide)), put_l]
    by_cases y : k' = k ∧ d' = d
    · rw [if_pos y, if_pos ⟨rfl, y.1, rfl, y.2⟩, y.1, y.2]
    · rw [if_neg y, if_neg (fun z => y ⟨z.2.1, z.2.2.2⟩), Int64.add_zero]
  · rw [show (if nI k = nI k' ∧ nI d = nI d' then (0 : Int64) else 0) = 0 by split <;> rfl, Int64.add_zero, put_l, if_neg (fun z => absurd z.1 (by decide)), put_l, if_neg (fun z => absurd z.1 (by decide))]
  · rw [show (if nI k = nI k' then (0 : Int32) else 0) = 0 by split <;> rfl, Int32.add_zero]
    rfl
theorem swap_put (c : hs_S) (k a b : Nat) (x y : Int64) : hc_swap c k a x b y = hc_put (hc_put (hc_ev (hc_put (hc_put c 9 k a (-x)) 10 k a x) k) 10 k b (-y)) 9 k b y := by
  unfold hc_swap
  have es : ∀ h f d z, hc_sub h f k d z = hc_put h f k d (-z) := fun h f d z => by
    unfold hc_sub hc_put
    rw [Int64.sub_eq_add_neg]
  rw [es, es]
  rfl
theorem sim_exchange {j : Nat} {x1 x2 x3 x4 : Int32} (V : iv c r 1000) (b : bd r j) (hj : j ≤ 511) : stp c r j (hc_exchange c x1 x2 x3 x4) (mr_exchange r x1 x2 x3 x4) ∧ m_V (mr_exchange r x1 x2 x3 x4).2 = m_V r := by
  have V0 := iv_mt 0 V
  have b0 := bd_mt 0 b
  have hb := b0
  unfold bd at hb
  have hh := has_iv V0 (x1 := x1) (x2 := x2) (x3 := x4)
  unfold hc_exchange mr_exchange stp
  cases hk : ix_n x1 (hs_n c 0 0) with
  | none =>
    rw [if_neg (fun z => by obtain ⟨k, d, h1, -⟩ := hh.mp z.1; rw [hk] at h1; cases h1)]
    exact ⟨⟨rfl, V0, bd_s b0⟩, mV_mt 0⟩
  | some k =>
    cases ha : ix_n x2 3 with
    | none =>
      rw [if_neg (fun z => by obtain ⟨k, d, -, h1, -⟩ := hh.mp z.1; rw [ha] at h1; cases h1)]
      exact ⟨⟨rfl, V0, bd_s b0⟩, mV_mt 0⟩
    | some a =>
      cases hd : ix_n x3 3 with
      | none =>
        rw [if_neg (fun z => by cases z.2.1)]
        exact ⟨⟨rfl, V0, bd_s b0⟩, mV_mt 0⟩
      | some d =>
        obtain ⟨ek, lk⟩ := (ix_some (hs_okK V.1.2.1)).mp hk
        obtain ⟨ea, la⟩ := (ix_some (by decide)).mp ha
        obtain ⟨ed, ld⟩ := (ix_some (by decide)).mp hd
        dsimp only
        by_cases y : hc_can c k a x4 = true ∧ ¬ x2 = x3
        · rw [if_pos y, if_pos ⟨hh.mpr ⟨k, a, hk, ha, y.1⟩, rfl, y.2⟩]
          have h1 : ¬ x4 < 1 := (of_decide_eq_true y.1).1.1
          have eV0 := mV_mt (r := r) 0
          generalize m_t r 0 = r0 at V0 b0 hb hh eV0
          have lk' : k < rc r0 1 := by rw [V0.1.2.2.2.1]; exact lk
          obtain ⟨o1, c4, c2⟩ := note_ok V0.1.1 (show rc r0 4 < 1100 by omega) (show rc r0 2 + 1 < 2 ^ 30 by omega) (nI k) (nI a) (-x4).toInt64 x4.toInt64 0
          have V1 := sim_xa (s := (-x4).toInt64) (t := x4.toInt64) V0 (by omega) (by omega) lk' la
          have eo : mr_oth r0 x2 x3 x4 = hc_got c a d x4 := by
            unfold mr_oth hc_got
            rw [ea, ed, ix_vn (by omega), ix_vn (by omega), (V0.2.2.1.2 a d la ld).1, (V0.2.2.1.2 a d la ld).2]
          have V2 := sim_xb (s := hc_got c a d x4) (t := -(hc_got c a d x4)) V1 (by omega) (by omega) (show k < rc (m_note r0 (nI k) (nI a) (-x4).toInt64 x4.toInt64 0) 1 from lk') ld
          have b2 : bd (mr_xc r0 x1 x2 x3 x4) (j + 1) ∧ m_V (mr_xc r0 x1 x2 x3 x4) = m_V r0 := by
            unfold mr_xc
            rw [ek, ea, ed]
            obtain ⟨o2, d4, d2⟩ := note_ok o1 (show rc (m_note r0 (nI k) (nI a) (-x4).toInt64 x4.toInt64 0) 4 < 1100 by omega) (by omega) (nI k) (nI d) (mr_oth r0 (nI a) (nI d) x4) (-mr_oth r0 (nI a) (nI d) x4) 0
            refine ⟨⟨?_, ?_, ?_⟩, mV_c rfl⟩
            · rw [show ∀ q n v, rc (m_u q 39 n v) 4 = rc q 4 from fun _ _ _ => rfl]; omega
            · show rc r0 5 + m_U r0 ≤ _
              omega
            · rw [show ∀ q n v, rc (m_u q 39 n v) 2 = rc q 2 from fun _ _ _ => rfl]; omega
          refine ⟨⟨rfl, ?_, b2.1⟩, b2.2.trans eV0⟩
          have ex : mr_xc r0 x1 x2 x3 x4 = m_nt (m_note r0 (nI k) (nI a) (-x4).toInt64 x4.toInt64 0) (nI k) (nI d) (hc_got c a d x4) (-(hc_got c a d x4)) 0 0 := by
            unfold mr_xc m_nt
            rw [eo, c4, ek, ea, ed]
          show iv (hc_swap c k a x4.toInt64 d (hc_got c a d x4)) (mr_xc r0 x1 x2 x3 x4) 1000
          rw [ex, swap_put, ← neg64 h1]
          exact V2
        · rw [if_neg y, if_neg (fun z => by obtain ⟨k', d', h1, h2, h3⟩ := hh.mp z.1; rw [hk] at h1; rw [ha] at h2; cases h1; cases h2; exact y ⟨h3, z.2.2⟩)]
          exact ⟨⟨rfl, V0, bd_s b0⟩, mV_mt 0⟩
theorem btw_i {x : Int32} (q : hc_btw x = true) : 1 ≤ x.toInt ∧ x.toInt ≤ 1000000 := by
  obtain ⟨q1, q2⟩ := of_decide_eq_true q
  have h1 := mt Int32.lt_iff_toInt_lt.mpr q1
  have h2 := mt Int32.lt_iff_toInt_lt.mpr q2
  have e1 : (1 : Int32).toInt = 1 := by decide
  have e2 : (1000000 : Int32).toInt = 1000000 := by decide
  omega
theorem sim_rate {j : Nat} {x1 x2 x3 x4 : Int32} (V : iv c r 1000) (b : bd r j) (hj : j ≤ 511) : stp c r j (hc_rate c x1 x2 x3 x4) (mr_rate r x1 x2 x3 x4) ∧ m_V (mr_rate r x1 x2 x3 x4).2 = m_V r := by
  have V0 := iv_mt 0 V
  have b0 := bd_mt 0 b
  have e0 := mV_mt (r := r) 0
  unfold hc_rate mr_rate stp
  cases ha : ix_n x1 3 with
  | none =>
    rw [if_neg (fun z => by cases z.1)]
    exact ⟨⟨rfl, V0, bd_s b0⟩, e0⟩
  | some a =>
    cases hd : ix_n x2 3 with
    | none =>
      rw [if_neg (fun z => by cases z.2.1)]
      exact ⟨⟨rfl, V0, bd_s b0⟩, e0⟩
    | some d =>
      obtain ⟨ea, la⟩ := (ix_some (by decide)).mp ha
      obtain ⟨ed, ld⟩ := (ix_some (by decide)).mp hd
      dsimp only
      by_cases y : ¬ x1 = x2 ∧ hc_btw x3 = true ∧ hc_btw x4 = true
      · rw [if_pos y, if_pos ⟨rfl, rfl, y⟩, ea, ed, ix_vn (by omega), ix_vn (by omega)]
        generalize m_t r 0 = r0 at V0 b0 e0
        have y3 := btw_i y.2.1
        have y4 := btw_i y.2.2
        have rt5 : ∀ a' d', hs_i (hc_rt c a d x3 x4) 5 a' 0 d' = if a' = a ∧ d' = d then x3 else hs_i c 5 a' 0 d' := fun a' d' => by
          unfold hc_rt
          rw [hs_i_si, if_neg (by omega), hs_i_si]
          by_cases w : a' = a
          · rw [if_pos ⟨rfl, w, rfl⟩, w]
            unfold upd
            by_cases u : d' = d
            · rw [if_pos u, if_pos ⟨rfl, u⟩]
            · rw [if_neg u, if_neg (fun z => u z.2)]
          · rw [if_neg (fun z => w z.2.1), if_neg (fun z => w z.1)]
        have rt7 : ∀ a' d', hs_i (hc_rt c a d x3 x4) 7 a' 0 d' = if a' = a ∧ d' = d then x4 else hs_i c 7 a' 0 d' := fun a' d' => by
          unfold hc_rt
          rw [hs_i_si, hs_i_si]
          by_cases w : a' = a
          · rw [if_pos ⟨rfl, w, rfl⟩, w]
            unfold upd
            by_cases u : d' = d
            · rw [if_pos u, if_pos ⟨rfl, u⟩]
            · rw [if_neg u, if_neg (fun z => u z.2)]
          · rw [if_neg (fun z => w z.2.1), if_neg (by omega), if_neg (fun z => w z.1)]
        have s34 : ∀ i, ri (m_u (m_u r0 34 (3 * a + d) x3) 35 (3 * a + d) x4) 34 i = if i = 3 * a + d then x3 else ri r0 34 i := fun _ => rfl
        have s35 : ∀ i, ri (m_u (m_u r0 34 (3 * a + d) x3) 35 (3 * a + d) x4) 35 i = if i = 3 * a + d then x4 else ri r0 35 i := fun _ => rfl
        have o' : rr_ok (m_u (m_u r0 34 (3 * a + d) x3) 35 (3 * a + d) x4) := by
          have o := V0.1.1
          refine ⟨o.1, o.2.1, o.2.2.1, o.2.2.2.1, o.2.2.2.2.1, o.2.2.2.2.2.1, o.2.2.2.2.2.2.1, o.2.2.2.2.2.2.2.1, o.2.2.2.2.2.2.2.2.1, o.2.2.2.2.2.2.2.2.2.1, fun i hi => ?_⟩
          rw [s35]
          by_cases w : i = 3 * a + d
          · rw [if_pos w]; exact y4.1
          · rw [if_neg w]; exact o.2.2.2.2.2.2.2.2.2.2 i hi
        refine ⟨⟨rfl, ?_, ?_⟩, (mV_c rfl).trans e0⟩
        · refine iv_rr V0 o' (fun f h30 h34 h35 => ?_) (fun f => rfl) (fun k _ _ => rfl) (Nat.le_refl _) V0.1.2.1 (fun _ _ _ => rfl) V0.1.2.2.2.2.2 (fun _ => rfl) (fun _ _ _ => rfl) (fun f i j h5 h7 => ?_) ⟨fun a' d' ha' hd' => ?_, fun a' d' ha' hd' => ?_⟩
          · rw [ri_u, if_neg h35, ri_u, if_neg h34]
          · unfold hc_rt
            rw [hs_i_si, if_neg (fun z => h7 z.1), hs_i_si, if_neg (fun z => h5 z.1)]
          · rw [rt5, rt7]
            by_cases w : a' = a ∧ d' = d
            · rw [if_pos w, if_pos w]
              exact ⟨y3, y4⟩
            · rw [if_neg w, if_neg w]
              exact V0.2.2.1.1 a' d' ha' hd'
          · rw [rt5, rt7, s34, s35]
            by_cases w : a' = a ∧ d' = d
            · rw [if_pos w, if_pos w, if_pos (by omega), if_pos (by omega)]
              exact ⟨rfl, rfl⟩
            · rw [if_neg w, if_neg w, if_neg (by omega), if_neg (by omega)]
              exact V0.2.2.1.2 a' d' ha' hd'
        · have b1 : bd (m_u (m_u r0 34 (3 * a + d) x3) 35 (3 * a + d) x4) j := b0
          exact bd_s b1
      · rw [if_neg y, if_neg (fun z => y z.2.2)]
        exact ⟨⟨rfl, V0, bd_s b0⟩, e0⟩
theorem sim_snap {j : Nat} {x : Int32} (V : iv c r 1000) (b : bd r j) (hj : j ≤ 511) : stp c r j (hc_snap c x) (mr_snap r x) ∧ hc_snc c x + m_V (mr_snap r x).2 = m_V r := by
  have V0 := iv_mt 0 V
  have b0 := bd_mt 0 b
  have e0 := mV_mt (r := r) 0
  have e6 : ri (m_t r 0) 30 6 = ri r 30 6 := mt_n r 0 (by decide)
  have e61 : rc (m_t r 0) 6 = rc r 6 := mt_c r 0 (by decide)
  have e11 : rc (m_t r 0) 1 = rc r 1 := mt_c r 0 (by decide)
  have h1 := rr_1 V.1.1
  unfold hc_snap hc_snc mr_snap stp
  rw [← e6, ← e61, ← e11]
  generalize m_t r 0 = r0 at V0 b0 e0
  have hb := b0
  unfold bd at hb
  rw [V0.1.2.2.2.1, V0.1.2.2.2.2.2]
  cases hk : ix_n x (hs_n c 0 0) with
  | none =>
    rw [if_neg (fun z => by cases z.1)]
    exact ⟨⟨rfl, V0, bd_s b0⟩, by show 0 + m_V r0 = m_V r; omega⟩
  | some k =>
    obtain ⟨ek, lk⟩ := (ix_some (hs_okK V.1.2.1)).mp hk
    dsimp only
    by_cases y : hs_n c 2 0 < 16
    · rw [if_pos y, if_pos ⟨rfl, y⟩, ek, ix_vn (by have := V0.1.2.1.1.2; omega)]
      obtain ⟨o2, c6, co⟩ := u6_ok V0.1.1 (show rc r0 6 < 16 by rw [V0.1.2.2.2.2.2]; exact y)
      have eU : m_U (m_u r0 30 6 (ri r0 30 6 + 1)) = m_U r0 := mU_c (co 3 (by decide)) rfl rfl
      have V1 : iv (hs_sn c 2 0 (hs_n c 2 0 + 1)) (m_u r0 30 6 (ri r0 30 6 + 1)) 1000 := by
        refine iv_rr V0 o2 (fun f h30 _ _ => by rw [ri_u, if_neg h30]) (fun _ => rfl) (fun k _ h5 => co k (by omega)) (by omega) ?_ (fun a b h2 => ?_) ?_ (fun _ => rfl) (fun _ _ _ => rfl) (fun _ _ _ _ _ => rfl) ?_
        · obtain ⟨p1, p2, p3, p4, p5⟩ := V0.1.2.1
          exact ⟨p1, p2, by show hs_n c 2 0 + 1 ≤ 16; omega, p4, p5⟩
        · rw [hs_n_sn, if_neg (fun z => h2 z.1)]
        · rw [c6, V0.1.2.2.2.2.2]; rfl
        · exact ⟨V0.2.2.1.1, V0.2.2.1.2⟩
      have k1 : k < rc (m_u r0 30 6 (ri r0 30 6 + 1)) 1 := by rw [co 1 (by decide), V0.1.2.2.2.1]; exact lk
      have hU : rc (m_u r0 30 6 (ri r0 30 6 + 1)) 5 + m_U (m_u r0 30 6 (ri r0 30 6 + 1)) ≤ 800 := by rw [co 5 (by decide), eU]; omega
      have hT : rc (m_u r0 30 6 (ri r0 30 6 + 1)) 2 + 13 < 2 ^ 30 := by rw [co 2 (by decide)]; omega
      have V2 := sim_rec (n := hs_n c 2 0) (k := k) V1 (Or.inr (by decide)) y k1 (by rw [c6, V0.1.2.2.2.2.2]; omega) hU hT
      obtain ⟨o3, d5, d2, do', -⟩ := rec_c (n := hs_n c 2 0) (k := k) o2 y k1 hU hT
      have eV := rec_V (n := hs_n c 2 0) (k := k) o2 y k1 hU hT
      have eb : hc_bit (hs_i c 8 k 0 1) (nI (hs_n c 2 0)) = rk r0 k (hs_n c 2 0) := iv_bit V0 y (by rw [V0.1.2.2.2.1]; exact lk)
      have er : rk (m_u r0 30 6 (ri r0 30 6 + 1)) k (hs_n c 2 0) = rk r0 k (hs_n c 2 0) := rfl
      have em : m_V (m_u r0 30 6 (ri r0 30 6 + 1)) = m_V r0 := mV_c rfl
      refine ⟨⟨rfl, V2, ?_⟩, ?_⟩
      · have f2 := co 2 (by decide)
        have f4 := co 4 (by decide)
        have f5 := co 5 (by decide)
        have g4 := do' 4 (by decide) (by decide)
        exact ⟨by show rc (mr_record _ _ _) 4 ≤ _; omega, by show rc (mr_record _ _ _) 5 + m_U (mr_record _ _ _) ≤ _; omega, by show rc (mr_record _ _ _) 2 ≤ _; omega⟩
      · rw [er, em] at eV
        rw [eb]
        show _ + m_V (mr_record _ _ _) = _
        rw [← e0, ← eV]
        cases rk r0 k (hs_n c 2 0) with
        | true => rw [if_neg (fun z => by cases z.2), if_pos rfl]; omega
        | false => rw [if_pos ⟨y, rfl⟩, if_neg (by decide)]; omega
    · rw [if_neg y, if_neg (fun z => y z.2), if_neg (fun z => y z.1)]
      exact ⟨⟨rfl, V0, bd_s b0⟩, by show 0 + m_V r0 = m_V r; omega⟩
end SM7
