section SM8
variable {c c' : hs_S} {r r' : rS} {e : Nat}
theorem nar_b {x : Int32} (h : x = 0 ∨ x = 1) : vp_nar .boolean x = x := by
  rcases h with rfl | rfl <;> rfl
theorem bit_0 {n : Nat} (hn : n < 16) : hc_bit 0 (nI n) = false := by
  rw [bit_bt hn]; exact bt_0 n
theorem qf_no {x : Int32} {e : Nat} : ∀ m t, (∀ t', t ≤ t' → t' < t + m → ¬ ri r 44 t' = x) → qf r x e m t = []
  | 0, _, _ => rfl
  | m + 1, t, q => by
    unfold qf
    rw [if_neg (fun z => q t (by omega) (by omega) (of_decide_eq_true z.1).1)]
    exact qf_no m (t + 1) (fun t' h1 h2 => q t' (by omega) (by omega))
theorem ma_no {x1 x2 : Int32} : ∀ m t, (∀ t', t ≤ t' → t' < t + m → ¬ ri r 44 t' = x2) → mr_ma r x1 x2 m t = 0
  | 0, _, _ => rfl
  | m + 1, t, q => by
    unfold mr_ma
    rw [if_neg (fun z => q t (by omega) (by omega) z.1)]
    exact ma_no m (t + 1) (fun t' h1 h2 => q t' (by omega) (by omega))
section LK
variable {x1 x2 x3 : Int32}
theorem lk_ri {f : Nat} (h30 : f ≠ 30) (h31 : f ≠ 31) (h32 : f ≠ 32) (h33 : f ≠ 33) : ri (mr_lk r x1 x2 x3) f = ri r f := by
  unfold mr_lk
  rw [ri_u, if_neg h30, ri_u, if_neg h33, ri_u, if_neg h32, ri_u, if_neg h31]
theorem lk_31 {i : Nat} : ri (mr_lk r x1 x2 x3) 31 i = if i = rc r 3 then x1 else ri r 31 i := rfl
theorem lk_32 {i : Nat} : ri (mr_lk r x1 x2 x3) 32 i = if i = rc r 3 then x2 else ri r 32 i := rfl
theorem lk_33 {i : Nat} : ri (mr_lk r x1 x2 x3) 33 i = if i = rc r 3 then vp_nar .boolean x3 else ri r 33 i := rfl
theorem lk_rc (o : rr_ok r) (h3 : rc r 3 < 12) : rc (mr_lk r x1 x2 x3) 3 = rc r 3 + 1 ∧ (∀ k, k ≠ 3 → rc (mr_lk r x1 x2 x3) k = rc r k) := by
  have i30 : ri (mr_lk r x1 x2 x3) 30 = upd (ri r 30) 3 (ri r 30 3 + 1) := rfl
  constructor
  · show ix_v (ri (mr_lk r x1 x2 x3) 30 3) = _
    rw [i30]
    show ix_v (ri r 30 3 + 1) = _
    rw [rr_n o (by decide) (by decide), nI_1]
    exact ix_vn (by omega)
  · intro k hk
    unfold rc
    rw [i30]
    unfold upd
    rw [if_neg hk]
theorem lk_ok (o : rr_ok r) (h3 : rc r 3 < 12) (h1 : ∃ a, a < rc r 1 ∧ x1 = nI a) (h2 : ∃ a, a < rc r 1 ∧ x2 = nI a) : rr_ok (mr_lk r x1 x2 x3) := by
  obtain ⟨c3, co⟩ := lk_rc (x1 := x1) (x2 := x2) (x3 := x3) o h3
  have i30 : ri (mr_lk r x1 x2 x3) 30 = upd (ri r 30) 3 (ri r 30 3 + 1) := rfl
  obtain ⟨p1, p2, p3, p4, p5, p6, p7, p8, p9, p10, p11⟩ := o
  refine ⟨fun k hk1 hk2 => ?_, by rw [co 1 (by decide)]; exact p2, by rw [co 2 (by decide)]; exact p3, by rw [c3]; omega, by rw [co 4 (by decide)]; exact p5, by rw [co 5 (by decide)]; exact p6, by rw [co 6 (by decide)]; exact p7, fun l hl => ?_, fun t ht => ?_, ?_, ?_⟩
  · by_cases y : k = 3
    · subst y
      rw [c3, i30]
      show ri r 30 3 + 1 = _
      rw [p1 3 (by decide) (by decide), nI_1]
    · rw [co k y, i30]
      unfold upd
      rw [if_neg y]
      exact p1 k hk1 hk2
  · rw [co 1 (by decide), lk_31, lk_32]
    by_cases y : l = rc r 3
    · rw [if_pos y, if_pos y]
      exact ⟨h1, h2⟩
    · rw [if_neg y, if_neg y]
      exact p8 l (by omega)
  · rw [co 5 (by decide)] at ht
    rw [lk_ri (by decide) (by decide) (by decide) (by decide), c3]
    obtain ⟨l, hl, el⟩ := p9 t ht
    exact ⟨l, by omega, el⟩
  · rw [co 5 (by decide), lk_ri (by decide) (by decide) (by decide) (by decide), lk_ri (by decide) (by decide) (by decide) (by decide)]
    exact p10
  · rw [lk_ri (by decide) (by decide) (by decide) (by decide)]
    exact p11
end LK
theorem ok_link {a b : Nat} {x : Int32} (o : hs_ok c) (h12 : hs_n c 1 0 < 12) (ha : a < hs_n c 0 0) (hb : b < hs_n c 0 0) : hs_ok (hc_lp (hc_lk c (hs_n c 1 0) a b x)) := by
  obtain ⟨p1, p2, p3, p4, p5⟩ := o
  have m1 : hs_n (hc_lk c (hs_n c 1 0) a b x) 1 0 = hs_n c 1 0 := lk_no _ _ _ _ _ (by decide) (by decide) (by decide) (by decide)
  have e1 : hs_n (hc_lp (hc_lk c (hs_n c 1 0) a b x)) 1 0 = hs_n c 1 0 + 1 := by rw [lp_n, if_neg (by omega), if_pos ⟨rfl, rfl⟩, m1]
  have e0 : hs_n (hc_lp (hc_lk c (hs_n c 1 0) a b x)) 0 0 = hs_n c 0 0 := by rw [lp_no _ (by decide) (by decide)]; exact lk_no _ _ _ _ _ (by decide) (by decide) (by decide) (by decide)
  have e2 : hs_n (hc_lp (hc_lk c (hs_n c 1 0) a b x)) 2 0 = hs_n c 2 0 := by rw [lp_no _ (by decide) (by decide)]; exact lk_no _ _ _ _ _ (by decide) (by decide) (by decide) (by decide)
  refine ⟨by rw [e0]; exact p1, by omega, by omega, fun l hl => ?_, fun l hl => ?_⟩
  · rw [e1] at hl
    rw [e0, lp_no _ (by decide) (by decide), lp_no _ (by decide) (by decide), lk_n, lk_n]
    by_cases y : l = hs_n c 1 0
    · rw [if_pos ⟨rfl, y⟩, if_neg (by omega), if_pos ⟨rfl, y⟩]
      exact ⟨ha, hb⟩
    · rw [if_neg (by omega), if_neg (by omega), if_neg (by omega), if_neg (by omega), if_neg (by omega), if_neg (by omega), if_neg (by omega), if_neg (by omega)]
      exact p4 l (by omega)
  · rw [e1] at hl
    by_cases l12 : l = 12
    · subst l12
      rw [hs_z12, e1, lp_n, if_pos ⟨rfl, rfl⟩, m1]
      have e5 : hs_n (hc_lk c (hs_n c 1 0) a b x) 5 12 = hs_n c 5 12 := by rw [lk_n, if_neg (by omega), if_neg (by omega), if_neg (by omega), if_neg (by omega)]
      rw [e5]
      have := p5 12 (Or.inr rfl)
      rw [hs_z12] at this
      by_cases y : hs_n c 1 0 = hs_n c 5 12
      · rw [if_pos y]
        unfold ls_nc
        split
        · omega
        · split <;> omega
      · rw [if_neg y]
        omega
    · have e5 : hs_n (hc_lp (hc_lk c (hs_n c 1 0) a b x)) 5 l = if l = hs_n c 1 0 then 0 else hs_n c 5 l := by
        rw [lp_n, if_neg (by omega), if_neg (by omega), lk_n, if_neg (by omega), if_neg (by omega)]
        by_cases y : l = hs_n c 1 0
        · rw [if_pos ⟨rfl, y⟩, if_pos y]
        · rw [if_neg (by omega), if_neg (by omega), if_neg y]
      rw [hs_zl _ l12, lp_q, lk_q, e5]
      by_cases y : l = hs_n c 1 0
      · rw [if_pos y, if_pos y]
        show 0 ≤ 0 ∧ 0 < 100000
        omega
      · rw [if_neg y, if_neg y]
        have := p5 l (Or.inl (by omega))
        rw [hs_zl _ l12] at this
        exact this
theorem sim_lk {a b : Nat} {x1 x2 x3 : Int32} (V : iv c r e) (hx3 : x3 = 0 ∨ x3 = 1) (h12 : rc r 3 < 12) (h6 : rc r 6 = 0) (e1 : x1 = nI a) (e2 : x2 = nI b) (ha : a < rc r 1) (hb : b < rc r 1) : iv (hc_lp (hc_lk c (rc r 3) a b x3)) (mr_lk r x1 x2 x3) e ∧ m_U (mr_lk r x1 x2 x3) = m_U r := by
  obtain ⟨⟨n1, n2, n3, n4, n5, n6⟩, v2, v3, v4, v5, v6, v7, v8, v9, v10, v11⟩ := V
  have h1 := rr_1 n1
  obtain ⟨c3, co⟩ := lk_rc (x1 := x1) (x2 := x2) (x3 := x3) n1 h12
  have o' := lk_ok (x3 := x3) n1 h12 ⟨a, ha, e1⟩ ⟨b, hb, e2⟩
  have z50 : ∀ n k, n < 16 → k < 6 → ri r 50 (6 * n + k) = 0 := fun n k hn hk => v6.2 n k (by omega) hn hk
  have L : rc r 3 = hs_n c 1 0 := n5
  have m1 : hs_n (hc_lk c (rc r 3) a b x3) 1 0 = rc r 3 := by rw [lk_no _ _ _ _ _ (by decide) (by decide) (by decide) (by decide)]; exact L.symm
  have q1 : hs_n (hc_lp (hc_lk c (rc r 3) a b x3)) 1 0 = rc r 3 + 1 := by rw [lp_n, if_neg (by omega), if_pos ⟨rfl, rfl⟩, m1]
  have q7 : hs_n (hc_lp (hc_lk c (rc r 3) a b x3)) 7 0 = rc r 3 + 1 := by rw [lp_no _ (by decide) (by decide), lk_n, if_neg (by omega), if_neg (by omega), if_neg (by omega), if_pos ⟨rfl, rfl⟩]
  have qn : ∀ f i, f ≠ 1 → f ≠ 3 → f ≠ 4 → f ≠ 5 → f ≠ 7 → hs_n (hc_lp (hc_lk c (rc r 3) a b x3)) f i = hs_n c f i := fun f i h1 h3 h4 h5 h7 => by rw [lp_no _ h1 h5, lk_no _ _ _ _ _ h3 h4 h5 h7]
  have qi : ∀ f i j, f ≠ 19 → f ≠ 20 → hs_i (hc_lp (hc_lk c (rc r 3) a b x3)) f i j = hs_i c f i j := fun f i j h19 h20 => by rw [lp_i, if_neg (fun z => h20 z.1), lk_i, if_neg (fun z => h19 z.1), if_neg (fun z => h20 z.1)]
  have ql : ∀ f i j, f ≠ 23 → hs_l (hc_lp (hc_lk c (rc r 3) a b x3)) f i j = hs_l c f i j := fun f i j h23 => by rw [lp_l, lk_l, if_neg (fun z => h23 z.1)]
  have qi19 : ∀ l j, l ≠ rc r 3 → hs_i (hc_lp (hc_lk c (rc r 3) a b x3)) 19 l j = hs_i c 19 l j := fun l j hl => by rw [lp_i, if_neg (by omega), lk_i, if_neg (fun z => hl z.2), if_neg (by omega)]
  have up : ∀ {x}, isT r x → isT (mr_lk r x1 x2 x3) x := fun q => isT_up (by rw [co 2 (by decide)]; exact Nat.le_refl _) q
  have i50 : ri (mr_lk r x1 x2 x3) 50 = ri r 50 := lk_ri (by decide) (by decide) (by decide) (by decide)
  have i43 : ri (mr_lk r x1 x2 x3) 43 = ri r 43 := lk_ri (by decide) (by decide) (by decide) (by decide)
  have i44 : ri (mr_lk r x1 x2 x3) 44 = ri r 44 := lk_ri (by decide) (by decide) (by decide) (by decide)
  have i45 : ri (mr_lk r x1 x2 x3) 45 = ri r 45 := lk_ri (by decide) (by decide) (by decide) (by decide)
  have i46 : ri (mr_lk r x1 x2 x3) 46 = ri r 46 := lk_ri (by decide) (by decide) (by decide) (by decide)
  have i47 : ri (mr_lk r x1 x2 x3) 47 = ri r 47 := lk_ri (by decide) (by decide) (by decide) (by decide)
  have i48 : ri (mr_lk r x1 x2 x3) 48 = ri r 48 := lk_ri (by decide) (by decide) (by decide) (by decide)
  have i49 : ri (mr_lk r x1 x2 x3) 49 = ri r 49 := lk_ri (by decide) (by decide) (by decide) (by decide)
  have i36 : ri (mr_lk r x1 x2 x3) 36 = ri r 36 := lk_ri (by decide) (by decide) (by decide) (by decide)
  have i37 : ri (mr_lk r x1 x2 x3) 37 = ri r 37 := lk_ri (by decide) (by decide) (by decide) (by decide)
  have i38 : ri (mr_lk r x1 x2 x3) 38 = ri r 38 := lk_ri (by decide) (by decide) (by decide) (by decide)
  have i39 : ri (mr_lk r x1 x2 x3) 39 = ri r 39 := lk_ri (by decide) (by decide) (by decide) (by decide)
  have i34 : ri (mr_lk r x1 x2 x3) 34 = ri r 34 := lk_ri (by decide) (by decide) (by decide) (by decide)
  have i35 : ri (mr_lk r x1 x2 x3) 35 = ri r 35 := lk_ri (by decide) (by decide) (by decide) (by decide)
  have emk : ∀ t n, t < rc r 5 → n < 16 → mr_mk (mr_lk r x1 x2 x3) t n = mr_mk r t n := fun t n ht hn => by
    obtain ⟨l, hl, el⟩ := n1.2.2.2.2.2.2.2.2.1 t ht
    unfold mr_mk m_fr
    rw [i50, i48, i44, el, ix_vn (by omega), lk_31, if_neg (by omega)]
  have eth : ∀ t, t < rc r 5 → thg (mr_lk r x1 x2 x3) t = thg r t := fun t ht => by
    unfold thg
    rw [i43, i45, i46, i47, bs_c (fun i hi => emk t i ht hi)]
  have ethe : ∀ x t, mr_there (mr_lk r x1 x2 x3) x t = mr_there r x t := fun x t => by
    unfold mr_there
    rw [i44, i49]
  have noL : ∀ t, t < rc r 5 → ¬ ri r 44 t = nI (rc r 3) := fun t ht q => by
    obtain ⟨l, hl, el⟩ := n1.2.2.2.2.2.2.2.2.1 t ht
    rw [el] at q
    have := (nI_eq (by omega) (by omega)).mp q
    omega
  have ema : ∀ a b m t, mr_ma (mr_lk r x1 x2 x3) a b m t = mr_ma r a b m t := fun a b m t => ma_c m t (fun t' _ _ => ⟨by rw [i44], by rw [i43], by rw [i47], by rw [i49]⟩)
  have esm : ∀ f x1' x2', mr_sm (mr_lk r x1 x2 x3) f x1' x2' = mr_sm r f x1' x2' := fun f x1' x2' => by
    unfold mr_sm
    rw [co 4 (by decide)]
    refine sm_lc (fun i _ => ?_)
    unfold rm_al
    rw [i36, i37]
    rfl
  have eat : ∀ f y1 y2 y3, mr_at (mr_lk r x1 x2 x3) f y1 y2 y3 = mr_at r f y1 y2 y3 := fun f y1 y2 y3 => by
    unfold mr_at
    rw [co 4 (by decide)]
    refine sm_lc (fun i _ => ?_)
    unfold rm_st
    rw [i36, i37, i38]
    rfl
  have ees : ∀ x, mr_es (mr_lk r x1 x2 x3) x = mr_es r x := fun x => by
    unfold mr_es
    rw [co 4 (by decide)]
    refine sm_ic (fun i _ => ?_)
    unfold rm_ea
    rw [i36, i39]
  have eev : ∀ y2 y3, mr_evs (mr_lk r x1 x2 x3) y2 y3 = mr_evs r y2 y3 := fun y2 y3 => by
    unfold mr_evs
    rw [co 4 (by decide)]
    refine sm_ic (fun i _ => ?_)
    unfold mr_evF
    rw [i36, i39, i38]
  refine ⟨⟨⟨o', ?_, by rw [q7, q1], by rw [co 1 (by decide), qn 0 0 (by decide) (by decide) (by decide) (by decide) (by decide)]; exact n4, by rw [c3, q1], by rw [co 6 (by decide), qn 2 0 (by decide) (by decide) (by decide) (by decide) (by decide)]; exact n6⟩, fun l hl => ?_, ⟨fun a' b' ha' hb' => ?_, fun a' b' ha' hb' => ?_⟩, ⟨?_, ?_, ?_, ?_⟩, fun k hk => ⟨fun d hd => ?_, ?_⟩, ⟨fun k hk => ?_, ?_⟩, fun n k hn hk hr => ⟨fun d hd => ?_, ?_⟩, fun l hl => ?_, fun t ht => ?_, fun l n hl hn h33 => ?_, fun l n d hl hn hd => ?_⟩, ?_⟩
  · rw [L]
    exact ok_link n2 (by omega) (by omega) (by omega)
  · rw [c3] at hl
    rw [lk_31, lk_32, lk_33, lp_no _ (by decide) (by decide), lp_no _ (by decide) (by decide), lk_n, lk_n]
    by_cases y : l = rc r 3
    · subst y
      rw [if_pos rfl, if_pos rfl, if_pos rfl, if_pos ⟨rfl, rfl⟩, if_neg (by omega), if_pos ⟨rfl, rfl⟩, e1, e2, nar_b hx3, lp_i, if_neg (by omega), lk_i, if_pos ⟨rfl, rfl⟩]
      exact ⟨rfl, rfl, rfl⟩
    · rw [if_neg y, if_neg y, if_neg y, if_neg (by omega), if_neg (by omega), if_neg (by omega), if_neg (by omega), if_neg (by omega), if_neg (by omega), if_neg (by omega), if_neg (by omega), qi19 l 0 y]
      exact v2 l (by omega)
  · rw [qi 5 a' 0 (by decide) (by decide), qi 7 a' 0 (by decide) (by decide)]
    exact v3.1 a' b' ha' hb'
  · rw [qi 5 a' 0 (by decide) (by decide), qi 7 a' 0 (by decide) (by decide), i34, i35]
    exact v3.2 a' b' ha' hb'
  · rw [co 4 (by decide), i38]
    exact fun i hi => up (v4.1 i hi)
  · rw [i50]
    exact fun n k hn hk => up (v4.2.1 n k hn hk)
  · rw [co 5 (by decide), i48]
    exact fun i hi => up (v4.2.2.1 i hi)
  · rw [co 5 (by decide), i49]
    exact fun i hi => up (v4.2.2.2 i hi)
  · rw [co 1 (by decide)] at hk
    rw [ql 9 k 0 (by decide), ql 10 k 0 (by decide), ql 11 k 0 (by decide), esm, esm, esm]
    exact (v5 k hk).1 d hd
  · rw [co 1 (by decide)] at hk
    rw [qi 8 k 0 (by decide) (by decide), ees]
    exact (v5 k hk).2
  · rw [co 1 (by decide)] at hk
    rw [qi 8 k 0 (by decide) (by decide), v6.1 k hk]
    refine bs_c (fun i _ => ?_)
    unfold rk
    rw [i50]
  · rw [i50, co 6 (by decide)]
    exact v6.2
  · rw [co 1 (by decide)] at hk
    unfold rk at hr
    rw [i50] at hr ⊢
    rw [ql 16 k n (by decide), ql 17 k n (by decide), ql 18 k n (by decide), eat, eat, eat]
    exact (v7 n k hn hk hr).1 d hd
  · rw [co 1 (by decide)] at hk
    unfold rk at hr
    rw [i50] at hr ⊢
    rw [qi 15 k 0 (by decide) (by decide), eev]
    exact (v7 n k hn hk hr).2
  · rw [c3] at hl
    rw [lp_q, lk_q, co 5 (by decide)]
    rw [qf_c (r := r) (r' := mr_lk r x1 x2 x3) _ _ (fun t' _ ht => ⟨ethe _ t', eth t' (by omega)⟩)]
    by_cases y : l = rc r 3
    · subst y
      rw [if_pos rfl, qf_no _ _ (fun t' _ ht => noL t' (by omega))]
    · rw [if_neg y]
      exact v8 l (by omega)
  · rw [co 5 (by decide)] at ht
    rw [i43, i45, i47, i44, co 5 (by decide), c3]
    obtain ⟨w1, w2, w3⟩ := v9 t ht
    refine ⟨w1, w2, fun z => ?_⟩
    obtain ⟨n, l, hn, hl, e47, e44, h33, h50, huq⟩ := w3 z
    refine ⟨n, l, hn, by omega, e47, e44, ?_, ?_, huq⟩
    · rw [lk_33, if_neg (by omega)]; exact h33
    · rw [i50, lk_31, if_neg (by omega)]; exact h50
  · rw [c3] at hl
    rw [co 5 (by decide), ema]
    by_cases y : l = rc r 3
    · subst y
      rw [ma_no _ _ (fun t' _ ht => noL t' (by omega)), lp_i, if_neg (by omega), lk_i, if_pos ⟨rfl, rfl⟩]
      show hc_bit 0 (nI n) = _
      rw [bit_0 hn]
      decide
    · rw [lk_33, if_neg y] at h33
      rw [qi19 l 0 y]
      exact v10 l n (by omega) hn h33
  · rw [c3] at hl
    have z1 : mr_roadOf (mr_lk r x1 x2 x3) n l (nI d) = 0 := by
      unfold mr_roadOf
      have : ix_v (ri (mr_lk r x1 x2 x3) 32 l) < 6 := by
        rw [lk_32]
        by_cases y : l = rc r 3
        · rw [if_pos y, e2, ix_vn (by omega)]; omega
        · rw [if_neg y]
          obtain ⟨a', ha', ea'⟩ := (n1.2.2.2.2.2.2.2.1 l (by omega)).2
          rw [ea', ix_vn (by omega)]; omega
      rw [if_pos (by rw [i50, z50 n _ hn this]; decide)]
    rw [z1, lp_l, lk_l]
    by_cases y : l = rc r 3
    · rw [if_pos ⟨rfl, y⟩]
    · rw [if_neg (fun z => y z.2), v11 l n d (by omega) hn hd]
      unfold mr_roadOf
      obtain ⟨a', ha', ea'⟩ := (n1.2.2.2.2.2.2.2.1 l (by omega)).2
      rw [ea', ix_vn (by omega), if_pos (by rw [z50 n _ hn (by omega)]; decide)]
  · unfold m_U
    refine sm_nc (fun n hn => sm_nc (fun l hl => ?_))
    unfold m_uc
    rw [c3, i50]
    have lt : ∀ l, l < rc r 3 → ix_v (ri r 31 l) < 6 := fun l hl => by
      obtain ⟨a', ha', ea'⟩ := (n1.2.2.2.2.2.2.2.1 l hl).1
      rw [ea', ix_vn (by omega)]; omega
    have f1 : l < rc r 3 → ri r 50 (6 * n + ix_v (ri r 31 l)) ≤ 0 := fun z => by
      rw [z50 n _ hn (lt l z)]
      exact Int32.le_refl _
    have f2 : l < rc r 3 + 1 → ri r 50 (6 * n + ix_v (ri (mr_lk r x1 x2 x3) 31 l)) ≤ 0 := fun z => by
      rw [lk_31]
      by_cases y : l = rc r 3
      · rw [if_pos y, e1, ix_vn (by omega), z50 n _ hn (by omega)]
        exact Int32.le_refl _
      · rw [if_neg y, z50 n _ hn (lt l (by omega))]
        exact Int32.le_refl _
    rw [if_neg (fun z => z.2 (f2 z.1)), if_neg (fun z => z.2 (f1 z.1))]
theorem sim_link {j : Nat} {x1 x2 x3 : Int32} (V : iv c r 1000) (b : bd r j) (hj : j ≤ 511) (hx3 : x3 = 0 ∨ x3 = 1) : stp c r j (hc_link c x1 x2 x3) (mr_link r x1 x2 x3) ∧ m_V (mr_link r x1 x2 x3).2 = m_V r := by
  have V0 := iv_mt 0 V
  have b0 := bd_mt 0 b
  have e0 := mV_mt (r := r) 0
  have e61 : rc (m_t r 0) 6 = rc r 6 := mt_c r 0 (by decide)
  have e31 : rc (m_t r 0) 3 = rc r 3 := mt_c r 0 (by decide)
  have e11 : rc (m_t r 0) 1 = rc r 1 := mt_c r 0 (by decide)
  unfold hc_link mr_link stp
  rw [← e61, ← e31, ← e11]
  generalize m_t r 0 = r0 at V0 b0 e0
  have hb := b0
  unfold bd at hb
  rw [← V0.1.2.2.2.1, ← V0.1.2.2.2.2.2, ← V0.1.2.2.2.2.1]
  have h1 := rr_1 V0.1.1
  cases ha : ix_n x1 (rc r0 1) with
  | none =>
    rw [if_neg (fun z => by cases z.1)]
    exact ⟨⟨rfl, V0, bd_s b0⟩, e0⟩
  | some a =>
    cases hd : ix_n x2 (rc r0 1) with
    | none =>
      rw [if_neg (fun z => by cases z.2.1)]
      exact ⟨⟨rfl, V0, bd_s b0⟩, e0⟩
    | some d =>
      obtain ⟨ea, la⟩ := (ix_some (by omega)).mp ha
      obtain ⟨ed, ld⟩ := (ix_some (by omega)).mp hd
      dsimp only
      by_cases y : ¬ x1 = x2 ∧ rc r0 3 < 12 ∧ rc r0 6 = 0
      · rw [if_pos y, if_pos ⟨rfl, rfl, y⟩]
        obtain ⟨V1, eU⟩ := sim_lk V0 hx3 y.2.1 y.2.2 ea ed la ld
        obtain ⟨c3, co⟩ := lk_rc (x1 := x1) (x2 := x2) (x3 := x3) V0.1.1 y.2.1
        refine ⟨⟨rfl, V1, ?_⟩, (mV_c rfl).trans e0⟩
        show bd (mr_lk r0 x1 x2 x3) (j + 1)
        unfold bd
        rw [eU, co 4 (by decide), co 5 (by decide), co 2 (by decide)]
        omega
      · rw [if_neg y, if_neg (fun z => y z.2.2)]
        exact ⟨⟨rfl, V0, bd_s b0⟩, e0⟩
end SM8
