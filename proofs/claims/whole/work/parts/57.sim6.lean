section SM6
variable {c c' : hs_S} {r r' : rS} {e : Nat}
theorem iv_mt (v : Int32) (V : iv c r e) : iv c (m_t r v) e := by
  obtain ⟨⟨n1, n2, n3, n4, n5, n6⟩, v2, v3, v4, v5, v6, v7, v8, v9, v10, v11⟩ := V
  have S : sth r (m_t r v) := ⟨fun f hf => mt_i r v (by omega), mt_c r v (by decide), mt_c r v (by decide)⟩
  have up : ∀ {x}, isT r x → isT (m_t r v) x := fun q => isT_up (by rw [mt_c r v (show 2 ≠ 0 by decide)]; exact Nat.le_refl _) q
  have esm : ∀ f x1 x2, mr_sm (m_t r v) f x1 x2 = mr_sm r f x1 x2 := fun f x1 x2 => by
    unfold mr_sm
    rw [mt_c r v (show 4 ≠ 0 by decide)]
    refine sm_lc (fun i _ => ?_)
    unfold rm_al
    rw [mt_i r v (show 36 ≠ 30 by decide), mt_i r v (show 37 ≠ 30 by decide), mt_l]
  have ees : ∀ x, mr_es (m_t r v) x = mr_es r x := fun x => by
    unfold mr_es
    rw [mt_c r v (show 4 ≠ 0 by decide)]
    refine sm_ic (fun i _ => ?_)
    unfold rm_ea
    rw [mt_i r v (show 36 ≠ 30 by decide), mt_i r v (show 39 ≠ 30 by decide)]
  have eev : ∀ x2 x3, mr_evs (m_t r v) x2 x3 = mr_evs r x2 x3 := fun x2 x3 => by
    unfold mr_evs
    rw [mt_c r v (show 4 ≠ 0 by decide)]
    refine sm_ic (fun i _ => ?_)
    unfold mr_evF
    rw [mt_i r v (show 36 ≠ 30 by decide), mt_i r v (show 39 ≠ 30 by decide), mt_i r v (show 38 ≠ 30 by decide)]
  refine ⟨⟨mt_ok r v n1, n2, n3, by rw [mt_c r v (by decide)]; exact n4, by rw [mt_c r v (by decide)]; exact n5, by rw [mt_c r v (by decide)]; exact n6⟩, ?_, ⟨v3.1, ?_⟩, ⟨?_, ?_, ?_, ?_⟩, ?_, ⟨?_, ?_⟩, ?_, sth_q S v8, sth_k S v9, sth_b S v10, sth_d S v11⟩
  · unfold iv_l
    rw [mt_c r v (by decide), mt_i r v (by decide), mt_i r v (by decide), mt_i r v (by decide)]
    exact v2
  · rw [mt_i r v (by decide), mt_i r v (by decide)]
    exact v3.2
  · rw [mt_c r v (by decide), mt_i r v (by decide)]
    exact fun i hi => up (v4.1 i hi)
  · rw [mt_i r v (by decide)]
    exact fun n k hn hk => up (v4.2.1 n k hn hk)
  · rw [mt_c r v (by decide), mt_i r v (by decide)]
    exact fun i hi => up (v4.2.2.1 i hi)
  · rw [mt_c r v (by decide), mt_i r v (by decide)]
    exact fun i hi => up (v4.2.2.2 i hi)
  · intro k hk
    rw [mt_c r v (by decide)] at hk
    rw [ees]
    refine ⟨fun d hd => ?_, (v5 k hk).2⟩
    rw [esm, esm, esm]
    exact (v5 k hk).1 d hd
  · intro k hk
    rw [mt_c r v (by decide)] at hk
    rw [v6.1 k hk]
    refine bs_c (fun i _ => ?_)
    unfold rk
    rw [mt_i r v (by decide)]
  · rw [mt_c r v (by decide), mt_i r v (by decide)]
    exact v6.2
  · intro n k hn hk hr
    rw [mt_c r v (by decide)] at hk
    unfold rk at hr
    rw [mt_i r v (show 50 ≠ 30 by decide)] at hr ⊢
    rw [eev]
    refine ⟨fun d hd => ?_, (v7 n k hn hk hr).2⟩
    rw [at_t, at_t, at_t]
    exact (v7 n k hn hk hr).1 d hd
/-- room for what is to come -/
def bd (r : rS) (j : Nat) : Prop := rc r 4 ≤ 2 * j ∧ rc r 5 + m_U r ≤ 192 + j ∧ rc r 2 ≤ 300 * j
theorem bd_mt {j : Nat} (v : Int32) (b : bd r j) : bd (m_t r v) j := by
  unfold bd at b ⊢
  rw [mt_c r v (by decide), mt_c r v (by decide), mt_c r v (by decide), mU_c (r := r) (r' := m_t r v) (mt_c r v (by decide)) (mt_i r v (by decide)) (mt_i r v (by decide))]
  exact b
theorem bd_s {j : Nat} (b : bd r j) : bd r (j + 1) := by
  unfold bd at b ⊢
  omega
theorem mV_mt (v : Int32) : m_V (m_t r v) = m_V r := mV_c (mt_i r v (by decide))
theorem put_l (h : hs_S) (f k d : Nat) (x : Int64) (f' i j q : Nat) : hs_l (hc_put h f k d x) f' i j q = if f' = f ∧ i = k ∧ j = 0 ∧ q = d then hs_l h f k 0 d + x else hs_l h f' i j q := by
  show (if f' = f ∧ i = k ∧ j = 0 then vp_updL (hs_l h f k 0) d (hs_l h f k 0 d + x) else hs_l h f' i j) q = _
  by_cases y : f' = f ∧ i = k ∧ j = 0
  · rw [if_pos y]
    obtain ⟨rfl, rfl, rfl⟩ := y
    show (if q = d then _ else _) = _
    by_cases z : q = d
    · rw [if_pos z, if_pos ⟨rfl, rfl, rfl, z⟩]
    · rw [if_neg z, if_neg (fun w => z w.2.2.2)]
  · rw [if_neg y, if_neg (fun w => y ⟨w.1, w.2.1, w.2.2.1⟩)]
theorem sub_l (h : hs_S) (f k d : Nat) (x : Int64) (f' i j q : Nat) : hs_l (hc_sub h f k d x) f' i j q = if f' = f ∧ i = k ∧ j = 0 ∧ q = d then hs_l h f k 0 d - x else hs_l h f' i j q := by
  show (if f' = f ∧ i = k ∧ j = 0 then vp_updL (hs_l h f k 0) d (hs_l h f k 0 d - x) else hs_l h f' i j) q = _
  by_cases y : f' = f ∧ i = k ∧ j = 0
  · rw [if_pos y]
    obtain ⟨rfl, rfl, rfl⟩ := y
    show (if q = d then _ else _) = _
    by_cases z : q = d
    · rw [if_pos z, if_pos ⟨rfl, rfl, rfl, z⟩]
    · rw [if_neg z, if_neg (fun w => z w.2.2.2)]
  · rw [if_neg y, if_neg (fun w => y ⟨w.1, w.2.1, w.2.2.1⟩)]
theorem ev_i (h : hs_S) (k f i j q : Nat) : hs_i (hc_ev h k) f i j q = if f = 8 ∧ i = k ∧ j = 0 ∧ q = 0 then hs_i h 8 k 0 0 + 1 else hs_i h f i j q := by
  show (if f = 8 ∧ i = k ∧ j = 0 then upd (hs_i h 8 k 0) 0 (hs_i h 8 k 0 0 + 1) else hs_i h f i j) q = _
  by_cases y : f = 8 ∧ i = k ∧ j = 0
  · rw [if_pos y]
    obtain ⟨rfl, rfl, rfl⟩ := y
    show (if q = 0 then _ else _) = _
    by_cases z : q = 0
    · rw [if_pos z, if_pos ⟨rfl, rfl, rfl, z⟩]
    · rw [if_neg z, if_neg (fun w => z w.2.2.2)]
  · rw [if_neg y, if_neg (fun w => y ⟨w.1, w.2.1, w.2.2.1⟩)]
theorem if_nI {a b x y : Nat} {v : Int64} (ha : a < 2 ^ 31) (hb : b < 2 ^ 31) (hx : x < 2 ^ 31) (hy : y < 2 ^ 31) : (if nI a = nI x ∧ nI b = nI y then v else 0) = (if x = a ∧ y = b then v else 0) := by
  by_cases q : a = x ∧ b = y
  · rw [if_pos ⟨by rw [q.1], by rw [q.2]⟩, if_pos ⟨q.1.symm, q.2.symm⟩]
  · rw [if_neg (fun z => q ⟨(nI_eq ha hx).mp z.1, (nI_eq hb hy).mp z.2⟩), if_neg (fun z => q ⟨z.1.symm, z.2.symm⟩)]
theorem if_nI1 {a x : Nat} {v : Int32} (ha : a < 2 ^ 31) (hx : x < 2 ^ 31) : (if nI a = nI x then v else 0) = (if x = a then v else 0) := by
  by_cases q : a = x
  · rw [if_pos (by rw [q]), if_pos q.symm]
  · rw [if_neg (fun z => q ((nI_eq ha hx).mp z)), if_neg (fun z => q z.symm)]
/-- what a kiosk has, as the reference sees it -/
theorem has_iv (V : iv c r e) {x1 x2 x3 : Int32} : (mr_has r x1 x2 x3 = true ↔ ∃ k d, ix_n x1 (hs_n c 0 0) = some k ∧ ix_n x2 3 = some d ∧ hc_can c k d x3 = true) := by
  have n1 := V.1.1
  have h2 := rr_2 n1
  have h1 := rr_1 n1
  have est : ∀ k d, k < rc r 1 → d < 3 → mr_at r 40 (nI k) (nI d) (ri r 30 2) = hs_l c 9 k 0 d := fun k d hk hd => by
    rw [rr_n n1 (by decide) (by decide), at_al n1 V.2.2.2.1.1 (Nat.le_refl _) (by omega)]
    exact ((V.2.2.2.2.1 k hk).1 d hd).1.symm
  constructor
  · intro q
    obtain ⟨q1, q2, q3, q4⟩ := mr_has_c q
    rw [V.1.2.2.2.1] at q1
    obtain ⟨k, hk⟩ := Option.isSome_iff_exists.mp q1
    obtain ⟨d, hd⟩ := Option.isSome_iff_exists.mp q2
    obtain ⟨ek, lk⟩ := (ix_some (hs_okK V.1.2.1)).mp hk
    obtain ⟨ed, ld⟩ := (ix_some (by decide)).mp hd
    refine ⟨k, d, hk, hd, ?_⟩
    rw [ek, ed, est k d (by rw [V.1.2.2.2.1]; exact lk) ld] at q4
    exact decide_eq_true ⟨of_decide_eq_true q3, q4⟩
  · rintro ⟨k, d, hk, hd, q⟩
    obtain ⟨ek, lk⟩ := (ix_some (hs_okK V.1.2.1)).mp hk
    obtain ⟨ed, ld⟩ := (ix_some (by decide)).mp hd
    have q' := of_decide_eq_true q
    unfold mr_has
    rw [V.1.2.2.2.1, hk, hd]
    have a1 : hc_amt x3 = true := decide_eq_true q'.1
    have a2 : decide (¬ mr_at r 40 x1 x2 (ri r 30 2) < x3.toInt64) = true := by
      rw [ek, ed, est k d (by rw [V.1.2.2.2.1]; exact lk) ld]
      exact decide_eq_true q'.2
    rw [a1, a2]
    rfl
theorem neg64 {x : Int32} (h1 : ¬ x < 1) : (-x).toInt64 = -x.toInt64 := by
  have h1' := mt Int32.lt_iff_toInt_lt.mpr h1
  have e1 : (1 : Int32).toInt = 1 := by decide
  have hx := Int32.toInt_lt x
  apply Int64.toInt_inj.mp
  rw [Int32.toInt_toInt64, Int64.toInt_neg, Int32.toInt_toInt64, Int32.toInt_neg]
  rw [Int.bmod_eq_of_le (by omega) (by omega), Int.bmod_eq_of_le (by omega) (by omega)]
/-- coins are added: mint and melt -/
theorem sim_add {k d : Nat} {x : Int32} (V : iv c r e) (hN : rc r 4 < 1100) (hT : rc r 2 + 1 < 2 ^ 30) (hk : k < rc r 1) (hd : d < 3) : iv (hc_add c k d x) (m_note r (nI k) (nI d) x.toInt64 0 x.toInt64) e := by
  have h1 := rr_1 V.1.1
  rw [← nt_1]
  refine sim_nt V hN hT ⟨fun _ _ => rfl, fun _ => rfl, fun f i j h9 h10 h11 => ?_, fun f i j h8 => ?_, fun k' => ?_⟩ (fun k' hk' => ⟨fun d' hd' => ⟨?_, ?_, ?_⟩, ?_⟩)
  · funext q
    show hs_l (hc_put (hc_put c 9 k d x.toInt64) 11 k d x.toInt64) f i j q = _
    rw [put_l, if_neg (fun z => h11 z.1), put_l, if_neg (fun z => h9 z.1)]
  · funext q
    unfold hc_add
    rw [ev_i, if_neg (fun z => h8 z.1)]
    rfl
  · unfold hc_add
    rw [ev_i, if_neg (fun z => absurd z.2.2.2 (by decide))]
    rfl
  · rw [if_nI (by omega) (by omega) (by omega) (by omega)]
    show hs_l (hc_put (hc_put c 9 k d x.toInt64) 11 k d x.toInt64) 9 k' 0 d' = _
    rw [put_l, if_neg (fun z => absurd z.1 (by decide)), put_l]
    by_cases y : k' = k ∧ d' = d
    · rw [if_pos y, if_pos ⟨rfl, y.1, rfl, y.2⟩, y.1, y.2]
    · rw [if_neg y, if_neg (fun z => y ⟨z.2.1, z.2.2.2⟩), Int64.add_zero]
  · rw [if_nI (by omega) (by omega) (by omega) (by omega)]
    show hs_l (hc_put (hc_put c 9 k d x.toInt64) 11 k d x.toInt64) 10 k' 0 d' = _
    rw [put_l, if_neg (fun z => absurd z.1 (by decide)), put_l, if_neg (fun z => absurd z.1 (by decide))]
    split <;> rw [Int64.add_zero]
  · rw [if_nI (by omega) (by omega) (by omega) (by omega)]
    show hs_l (hc_put (hc_put c 9 k d x.toInt64) 11 k d x.toInt64) 11 k' 0 d' = _
    rw [put_l]
    by_cases y : k' = k ∧ d' = d
    · rw [if_pos y, if_pos ⟨rfl, y.1, rfl, y.2⟩, y.1, y.2]
      rfl
    · rw [if_neg y, if_neg (fun z => y ⟨z.2.1, z.2.2.2⟩), Int64.add_zero]
      rfl
  · rw [if_nI1 (by omega) (by omega)]
    unfold hc_add
    rw [ev_i]
    by_cases y : k' = k
    · rw [if_pos y, if_pos ⟨rfl, y, rfl, rfl⟩, y]
      rfl
    · rw [if_neg y, if_neg (fun z => y z.2.1), Int32.add_zero]
      rfl
/-- stocks alone: give and receive -/
theorem sim_stk {k d : Nat} {s : Int64} (V : iv c r e) (hN : rc r 4 < 1100) (hT : rc r 2 + 1 < 2 ^ 30) (hk : k < rc r 1) (hd : d < 3) : iv (hc_ev (hc_put c 9 k d s) k) (m_note r (nI k) (nI d) s 0 0) e := by
  have h1 := rr_1 V.1.1
  rw [← nt_1]
  refine sim_nt V hN hT ⟨fun _ _ => rfl, fun _ => rfl, fun f i j h9 h10 h11 => ?_, fun f i j h8 => ?_, fun k' => ?_⟩ (fun k' hk' => ⟨fun d' hd' => ⟨?_, ?_, ?_⟩, ?_⟩)
  · funext q
    show hs_l (hc_put c 9 k d s) f i j q = _
    rw [put_l, if_neg (fun z => h9 z.1)]
  · funext q
    rw [ev_i, if_neg (fun z => h8 z.1)]
    rfl
  · rw [ev_i, if_neg (fun z => absurd z.2.2.2 (by decide))]
    rfl
  · rw [if_nI (by omega) (by omega) (by omega) (by omega)]
    show hs_l (hc_put c 9 k d s) 9 k' 0 d' = _
    rw [put_l]
    by_cases y : k' = k ∧ d' = d
    · rw [if_pos y, if_pos ⟨rfl, y.1, rfl, y.2⟩, y.1, y.2]
    · rw [if_neg y, if_neg (fun z => y ⟨z.2.1, z.2.2.2⟩), Int64.add_zero]
  · rw [show (if nI k = nI k' ∧ nI d = nI d' then (0 : Int64) else 0) = 0 by split <;> rfl, Int64.add_zero]
    show hs_l (hc_put c 9 k d s) 10 k' 0 d' = _
    rw [put_l, if_neg (fun z => absurd z.1 (by decide))]
  · rw [show (if nI k = nI k' ∧ nI d = nI d' then (0 : Int64) else 0) = 0 by split <;> rfl, Int64.add_zero]
    show hs_l (hc_put c 9 k d s) 11 k' 0 d' = _
    rw [put_l, if_neg (fun z => absurd z.1 (by decide))]
  · rw [if_nI1 (by omega) (by omega), ev_i]
    by_cases y : k' = k
    · rw [if_pos y, if_pos ⟨rfl, y, rfl, rfl⟩, y]
      rfl
    · rw [if_neg y, if_neg (fun z => y z.2.1), Int32.add_zero]
      rfl
theorem give_put (c : hs_S) (k d : Nat) (x : Int32) (h1 : ¬ x < 1) : hc_give c k d x = hc_ev (hc_put c 9 k d (-x).toInt64) k := by
  unfold hc_give hc_sub hc_put
  rw [neg64 h1, Int64.sub_eq_add_neg]
/-- one call, before and after, on both sides -/
def stp (c : hs_S) (r : rS) (j : Nat) (C : Int32 × hs_S) (R : Int32 × rS) : Prop := C.1 = R.1 ∧ iv C.2 R.2 1000 ∧ bd R.2 (j + 1)
theorem note_U (x1 x2 : Int32) (s t m : Int64) : m_U (m_note r x1 x2 s t m) = m_U r := mU_c rfl rfl rfl
theorem bd_note {j : Nat} (o : rr_ok r) (b : bd r j) (hj : j ≤ 511) (x1 x2 : Int32) (s t m : Int64) : bd (m_note r x1 x2 s t m) (j + 1) := by
  obtain ⟨b1, b2, b3⟩ := b
  obtain ⟨o1, c4, c2⟩ := note_ok o (show rc r 4 < 1100 by omega) (show rc r 2 + 1 < 2 ^ 30 by omega) x1 x2 s t m
  refine ⟨by omega, ?_, by omega⟩
  rw [note_U, show rc (m_note r x1 x2 s t m) 5 = rc r 5 from rfl]
  omega
theorem sim_mint {j : Nat} {x1 x2 x3 : Int32} (V : iv c r 1000) (b : bd r j) (hj : j ≤ 511) : stp c r j (hc_mint c x1 x2 x3) (mr_mint r x1 x2 x3) ∧ m_V (mr_mint r x1 x2 x3).2 = m_V r := by
  have V0 := iv_mt 0 V
  have b0 := bd_mt 0 b
  have hb := b0
  unfold bd at hb
  unfold hc_mint mr_mint stp
  rw [V.1.2.2.2.1]
  cases hk : ix_n x1 (hs_n c 0 0) with
  | none =>
    rw [if_neg (fun z => by cases z.1)]
    exact ⟨⟨rfl, V0, bd_s b0⟩, mV_mt 0⟩
  | some k =>
    cases hd : ix_n x2 3 with
    | none =>
      rw [if_neg (fun z => by cases z.2.1)]
      exact ⟨⟨rfl, V0, bd_s b0⟩, mV_mt 0⟩
    | some d =>
      obtain ⟨ek, lk⟩ := (ix_some (hs_okK V.1.2.1)).mp hk
      obtain ⟨ed, ld⟩ := (ix_some (by decide)).mp hd
      dsimp only
      by_cases y : ¬ x3 < 1 ∧ ¬ 1000000000 < x3
      · rw [if_pos y, if_pos ⟨rfl, rfl, decide_eq_true y⟩, ek, ed]
        exact ⟨⟨rfl, sim_add V0 (by omega) (by omega) (by rw [V0.1.2.2.2.1]; exact lk) ld, bd_note V0.1.1 b0 hj _ _ _ _ _⟩, (mV_c rfl).trans (mV_mt 0)⟩
      · rw [if_neg y, if_neg (fun z => y (of_decide_eq_true z.2.2))]
        exact ⟨⟨rfl, V0, bd_s b0⟩, mV_mt 0⟩
theorem sim_melt {j : Nat} {x1 x2 x3 : Int32} (V : iv c r 1000) (b : bd r j) (hj : j ≤ 511) : stp c r j (hc_melt c x1 x2 x3) (mr_melt r x1 x2 x3) ∧ m_V (mr_melt r x1 x2 x3).2 = m_V r := by
  have V0 := iv_mt 0 V
  have b0 := bd_mt 0 b
  have hb := b0
  unfold bd at hb
  have hh := has_iv V0 (x1 := x1) (x2 := x2) (x3 := x3)
  unfold hc_melt mr_melt stp
  cases hk : ix_n x1 (hs_n c 0 0) with
  | none =>
    rw [if_neg (fun z => by obtain ⟨k, d, h1, -⟩ := hh.mp z; rw [hk] at h1; cases h1)]
    exact ⟨⟨rfl, V0, bd_s b0⟩, mV_mt 0⟩
  | some k =>
    cases hd : ix_n x2 3 with
    | none =>
      rw [if_neg (fun z => by obtain ⟨k, d, -, h1, -⟩ := hh.mp z; rw [hd] at h1; cases h1)]
      exact ⟨⟨rfl, V0, bd_s b0⟩, mV_mt 0⟩
    | some d =>
      obtain ⟨ek, lk⟩ := (ix_some (hs_okK V.1.2.1)).mp hk
      obtain ⟨ed, ld⟩ := (ix_some (by decide)).mp hd
      dsimp only
      by_cases y : hc_can c k d x3 = true
      · rw [if_pos y, if_pos (hh.mpr ⟨k, d, hk, hd, y⟩), ek, ed]
        exact ⟨⟨rfl, sim_add V0 (by omega) (by omega) (by rw [V0.1.2.2.2.1]; exact lk) ld, bd_note V0.1.1 b0 hj _ _ _ _ _⟩, (mV_c rfl).trans (mV_mt 0)⟩
      · rw [if_neg y, if_neg (fun z => by obtain ⟨k', d', h1, h2, h3⟩ := hh.mp z; rw [hk] at h1; rw [hd] at h2; cases h1; cases h2; exact y h3)]
        exact ⟨⟨rfl, V0, bd_s b0⟩, mV_mt 0⟩
end SM6
