section SM5
variable {c c' : hs_S} {r r' : rS} {e t : Nat}
theorem tk_c (o : rr_ok r) (hT : rc r 2 + 1 < 2 ^ 30) : rr_ok (m_tk r t) ∧ rc (m_tk r t) 2 = rc r 2 + 1 ∧ (∀ k, k ≠ 2 → rc (m_tk r t) k = rc r k) := by
  have i30 : ri (m_tk r t) 30 = upd (ri r 30) 2 (ri r 30 2 + 1) := rfl
  have n2 : ri (m_tk r t) 30 2 = nI (rc r 2 + 1) := by rw [i30, ← nI_1, ← rr_n o (by decide) (by decide)]; rfl
  have no : ∀ k', k' ≠ 2 → ri (m_tk r t) 30 k' = ri r 30 k' := fun k' h2 => by rw [i30]; unfold upd; rw [if_neg h2]
  have c2 : rc (m_tk r t) 2 = rc r 2 + 1 := by show ix_v (ri (m_tk r t) 30 2) = rc r 2 + 1; rw [n2]; exact ix_vn (by omega)
  have co : ∀ k', k' ≠ 2 → rc (m_tk r t) k' = rc r k' := fun k' h2 => by unfold rc; rw [no k' h2]
  refine ⟨?_, c2, co⟩
  unfold rr_ok at o ⊢
  obtain ⟨p1, p2, p3, p4, p5, p6, p7, p8, p9, p10, p11⟩ := o
  rw [c2, co 1 (by decide), co 3 (by decide), co 4 (by decide), co 5 (by decide), co 6 (by decide)]
  refine ⟨fun k' h1 h2 => ?_, p2, hT, p4, p5, p6, p7, p8, p9, p10, p11⟩
  by_cases y2 : k' = 2
  · subst y2; rw [n2, c2]
  · rw [no k' y2, co k' y2]; exact p1 k' h1 h2
theorem tk_i {f : Nat} (hf : f ≠ 30 ∧ f ≠ 49) : ri (m_tk r t) f = ri r f := by
  unfold m_tk
  rw [ri_u, if_neg hf.2, ri_u, if_neg hf.1]
theorem tk_49 {i : Nat} : ri (m_tk r t) 49 i = if i = t then ri r 30 2 + 1 else ri r 49 i := rfl
theorem tk_mk (u n : Nat) : mr_mk (m_tk r t) u n = mr_mk r u n := by
  unfold mr_mk m_fr
  rw [tk_i (f := 50) (by decide), tk_i (f := 48) (by decide), tk_i (f := 31) (by decide), tk_i (f := 44) (by decide)]
theorem tk_thg (u : Nat) : thg (m_tk r t) u = thg r u := by
  unfold thg
  rw [tk_i (f := 43) (by decide), tk_i (f := 45) (by decide), tk_i (f := 46) (by decide), tk_i (f := 47) (by decide), bs_c (fun i _ => tk_mk u i)]
theorem tk_qf (o : rr_ok r) (hT : rc r 2 + 1 < 2 ^ 30) {x : Int32} : ∀ m t0, t0 + m ≤ 1000 → qf (m_tk r t) x 1000 m t0 = qf r x t m t0
  | 0, _, _ => rfl
  | m + 1, t0, h0 => by
    unfold qf
    rw [tk_qf o hT m (t0 + 1) (by omega), tk_thg]
    have pos : ¬ ri r 30 2 + 1 = 0 := by rw [rr_n o (by decide) (by decide), nI_1]; exact nI_ne0 (by omega) (by omega)
    have eth : mr_there (m_tk r t) x t0 = (mr_there r x t0 && decide (t0 ≠ t)) := by
      unfold mr_there
      rw [tk_49, tk_i (by decide)]
      by_cases y : t0 = t
      · rw [if_pos y, decide_eq_false (fun z : ri r 44 t0 = x ∧ ri r 30 2 + 1 = 0 => pos z.2), show decide (t0 ≠ t) = false from decide_eq_false (fun z => z y), Bool.and_false]
      · rw [if_neg y, decide_eq_true y, Bool.and_true]
    rw [eth]
    by_cases y : mr_there r x t0 = true ∧ t0 ≠ t
    · rw [if_pos y, if_pos ⟨by rw [y.1, decide_eq_true y.2]; rfl, by omega⟩]
    · rw [if_neg y, if_neg (fun z => y ?_)]
      have := z.1
      rw [Bool.and_eq_true] at this
      exact ⟨this.1, of_decide_eq_true this.2⟩
/-- the class's state changed in roads and markers alone -/
def cbd (c c' : hs_S) : Prop := (∀ a b, hs_n c' a b = hs_n c a b) ∧ (∀ l, hs_q c' l = hs_q c l) ∧ (∀ f i j, f ≠ 23 → hs_l c' f i j = hs_l c f i j) ∧ (∀ f i j, f ≠ 19 → hs_i c' f i j = hs_i c f i j) ∧ (∀ l, hs_i c' 19 l 0 0 = hs_i c 19 l 0 0)
theorem sim_tk (V : iv c r t) (hT : rc r 2 + 1 < 2 ^ 30) (C : cbd c c') (hb : iv_b c' (m_tk r t)) (hd : iv_d c' (m_tk r t)) : iv c' (m_tk r t) 1000 := by
  obtain ⟨⟨n1, n2, n3, n4, n5, n6⟩, v2, v3, v4, v5, v6, v7, v8, v9, v10, v11⟩ := V
  obtain ⟨C1, C2, C3, C4, C5⟩ := C
  have h5 := rr_5 n1
  obtain ⟨o1, c2, co⟩ := tk_c (t := t) n1 hT
  have up : ∀ {x}, isT r x → isT (m_tk r t) x := fun q => isT_up (by omega) q
  have eat : ∀ f x1 x2 x3, mr_at (m_tk r t) f x1 x2 x3 = mr_at r f x1 x2 x3 := fun f x1 x2 x3 => by
    unfold mr_at
    rw [co 4 (by decide)]
    refine sm_lc (fun i _ => ?_)
    unfold rm_st
    rw [tk_i (f := 36) (by decide), tk_i (f := 37) (by decide), tk_i (f := 38) (by decide)]
    rfl
  have eev : ∀ x2 x3, mr_evs (m_tk r t) x2 x3 = mr_evs r x2 x3 := fun x2 x3 => by
    unfold mr_evs
    rw [co 4 (by decide)]
    refine sm_ic (fun i _ => ?_)
    unfold mr_evF
    rw [tk_i (f := 36) (by decide), tk_i (f := 39) (by decide), tk_i (f := 38) (by decide)]
  refine ⟨⟨o1, ok_c C1 C2 n2, by rw [C1, C1]; exact n3, by rw [co 1 (by decide), C1]; exact n4, by rw [co 3 (by decide), C1]; exact n5, by rw [co 6 (by decide), C1]; exact n6⟩, fun l hl => ?_, ⟨?_, fun a b ha hb => ?_⟩, ⟨fun i hi => ?_, fun n k hn hk => ?_, fun t' ht => ?_, fun t' ht => ?_⟩, fun k hk => ⟨fun d hd => ?_, ?_⟩, ⟨fun k hk => ?_, fun n k h1 h2 h3 => ?_⟩, fun n k hn hk hr => ⟨fun d hd => ?_, ?_⟩, fun l hl => ?_, ?_, hb, hd⟩
  · rw [co 3 (by decide)] at hl
    rw [tk_i (by decide), tk_i (by decide), tk_i (by decide), C1, C1, C5]
    exact v2 l hl
  · intro a b ha hb
    rw [C4 5 a 0 (by decide), C4 7 a 0 (by decide)]
    exact v3.1 a b ha hb
  · rw [C4 5 a 0 (by decide), C4 7 a 0 (by decide), tk_i (by decide), tk_i (by decide)]
    exact v3.2 a b ha hb
  · rw [tk_i (by decide)]
    exact up (v4.1 i (by rw [co 4 (by decide)] at hi; exact hi))
  · rw [tk_i (by decide)]
    exact up (v4.2.1 n k hn hk)
  · rw [tk_i (by decide)]
    exact up (v4.2.2.1 t' (by rw [co 5 (by decide)] at ht; exact ht))
  · rw [tk_49]
    by_cases y : t' = t
    · rw [if_pos y]
      exact ⟨rc r 2 + 1, by omega, by rw [rr_n n1 (by decide) (by decide), nI_1]⟩
    · rw [if_neg y]
      exact up (v4.2.2.2 t' (by rw [co 5 (by decide)] at ht; exact ht))
  · rw [co 1 (by decide)] at hk
    rw [C3 9 k 0 (by decide), C3 10 k 0 (by decide), C3 11 k 0 (by decide)]
    exact (v5 k hk).1 d hd
  · rw [co 1 (by decide)] at hk
    rw [C4 8 k 0 (by decide)]
    exact (v5 k hk).2
  · rw [co 1 (by decide)] at hk
    rw [C4 8 k 0 (by decide), v6.1 k hk]
    refine bs_c (fun i _ => ?_)
    unfold rk
    rw [tk_i (by decide)]
  · rw [tk_i (by decide)]
    rw [co 6 (by decide)] at h1
    exact v6.2 n k h1 h2 h3
  · rw [co 1 (by decide)] at hk
    unfold rk at hr
    rw [tk_i (f := 50) (by decide)] at hr ⊢
    rw [C3 16 k n (by decide), C3 17 k n (by decide), C3 18 k n (by decide), eat, eat, eat]
    exact (v7 n k hn hk hr).1 d hd
  · rw [co 1 (by decide)] at hk
    unfold rk at hr
    rw [tk_i (f := 50) (by decide)] at hr ⊢
    rw [C4 15 k 0 (by decide), eev]
    exact (v7 n k hn hk hr).2
  · rw [co 3 (by decide)] at hl
    rw [C2, co 5 (by decide), tk_qf n1 hT _ _ (by omega)]
    exact v8 l hl
  · unfold iv_k at v9 ⊢
    rw [co 3 (by decide), co 5 (by decide), tk_i (f := 43) (by decide), tk_i (f := 45) (by decide), tk_i (f := 47) (by decide), tk_i (f := 44) (by decide), tk_i (f := 33) (by decide), tk_i (f := 50) (by decide), tk_i (f := 31) (by decide)]
    exact v9
theorem sm_l1 {F G : Nat → Int64} {v : Int64} {k : Nat} : ∀ {n : Nat}, k < n → (∀ i, i < n → i ≠ k → F i = G i) → F k = G k + v → sm_l F n = sm_l G n + v
  | 0, hk, _, _ => absurd hk (by omega)
  | n + 1, hk, q, e => by
    show sm_l F n + F n = sm_l G n + G n + v
    by_cases y : k = n
    · subst y
      rw [sm_lc (fun i hi => q i (by omega) (by omega)), e, Int64.add_assoc]
    · rw [sm_l1 (n := n) (show k < n by omega) (fun i hi hne => q i (by omega) hne) e, q n (by omega) (by omega), Int64.add_assoc, Int64.add_assoc, Int64.add_comm v]
theorem ma_T (V : iv_t r) {x1 x2 : Int32} : ∀ m t0, t0 + m ≤ rc r 5 → isT r (mr_ma r x1 x2 m t0)
  | 0, t0, _ => ⟨0, by omega, nI_0.symm⟩
  | m + 1, t0, h0 => by
    unfold mr_ma
    split
    · exact V.2.2.2 t0 (by omega)
    · exact ma_T V m (t0 + 1) (by omega)
/-- a thing that is no such marker doesn't change where markers are -/
theorem tk_ma {x1 x2 : Int32} (h : ¬ (ri r 44 t = x2 ∧ ri r 43 t = 3 ∧ ri r 47 t = x1)) : ∀ m t0, mr_ma (m_tk r t) x1 x2 m t0 = mr_ma r x1 x2 m t0
  | 0, _ => rfl
  | m + 1, t0 => by
    unfold mr_ma
    rw [tk_ma h m (t0 + 1), tk_i (f := 44) (by decide), tk_i (f := 43) (by decide), tk_i (f := 47) (by decide), tk_49]
    by_cases y : t0 = t
    · subst y
      rw [if_neg h, if_neg h]
    · rw [if_neg y]
theorem ma_uq {x1 x2 : Int32} (h : ri r 44 t = x2 ∧ ri r 43 t = 3 ∧ ri r 47 t = x1) : ∀ m t0, t0 ≤ t → t < t0 + m → (∀ t', t0 ≤ t' → t' < t0 + m → ri r 43 t' = 3 → ri r 47 t' = x1 → ri r 44 t' = x2 → t' = t) → mr_ma r x1 x2 m t0 = ri r 49 t
  | 0, t0, h1, h2, _ => absurd h2 (by omega)
  | m + 1, t0, h1, h2, uq => by
    unfold mr_ma
    by_cases y : ri r 44 t0 = x2 ∧ ri r 43 t0 = 3 ∧ ri r 47 t0 = x1
    · rw [if_pos y, uq t0 (by omega) (by omega) y.2.1 y.2.2 y.1]
    · rw [if_neg y]
      have : t0 ≠ t := fun z => y (by rw [z]; exact h)
      exact ma_uq h m (t0 + 1) (by omega) (by omega) (fun t' a b => uq t' (by omega) (by omega))
/-- a road after a thing is taken, that was there -/
theorem tk_rd (o : rr_ok r) (v4 : iv_t r) (hT : rc r 2 + 1 < 2 ^ 30) (ht : t < rc r 5) (h49 : ri r 49 t = 0) {n l : Nat} (x : Int32) (hm : mr_until (m_tk r t) n l = mr_until r n l) : mr_roadOf (m_tk r t) n l x = if ri r 50 (6 * n + ix_v (ri r 32 l)) ≤ 0 then 0 else mr_roadOf r n l x + (if (ri r 44 t = nI l ∧ ri r 43 t = 1 ∧ ri r 45 t = x) ∧ ((ri r 33 l = 0 ∧ mr_mk r t n = false) ∨ (¬ ri r 33 l = 0 ∧ mr_until r n l = 0)) ∧ ri r 50 (6 * n + ix_v (ri r 32 l)) ≤ ri r 30 2 + 1 then (ri r 46 t).toInt64 else 0) := by
  obtain ⟨o1, c2, co⟩ := tk_c (t := t) o hT
  have eT : ri r 30 2 + 1 = nI (rc r 2 + 1) := by rw [rr_n o (by decide) (by decide), nI_1]
  unfold mr_roadOf
  rw [tk_i (f := 50) (by decide), tk_i (f := 32) (by decide), co 5 (by decide), hm]
  generalize hs : ri r 50 (6 * n + ix_v (ri r 32 l)) = since
  by_cases y : since ≤ 0
  · rw [if_pos y, if_pos y]
  · rw [if_neg y, if_neg y, if_neg y]
    refine sm_l1 ht (fun i hi hne => rdP_c (by rw [tk_i (by decide)]) (by rw [tk_i (by decide)]) (by rw [tk_i (by decide)]) (by rw [tk_49, if_neg hne]) (by rw [tk_i (by decide)]) (tk_mk i n) (by rw [tk_i (by decide)])) ?_
    have z0 : mr_rdF r n l x since (mr_until r n l) t = 0 := by
      unfold mr_rdF
      refine if_neg (fun z => y ?_)
      have := z.2.2.2.1
      rw [h49] at this
      exact this
    rw [z0, Int64.zero_add]
    unfold mr_rdF mr_rdP
    rw [tk_i (f := 44) (by decide), tk_i (f := 43) (by decide), tk_i (f := 45) (by decide), tk_i (f := 33) (by decide), tk_i (f := 46) (by decide), tk_mk, tk_49, if_pos rfl]
    have hu : isT r (mr_until r n l) := by
      unfold mr_until
      split
      · exact ⟨0, by omega, nI_0.symm⟩
      · exact ma_T v4 _ _ (by omega)
    have hle : mr_until r n l ≤ ri r 30 2 + 1 := by
      obtain ⟨b, hb, eb⟩ := hu
      rw [eb, eT]
      exact nI_le (by omega) (by omega)
    by_cases w : (ri r 44 t = nI l ∧ ri r 43 t = 1 ∧ ri r 45 t = x) ∧ ((ri r 33 l = 0 ∧ mr_mk r t n = false) ∨ (¬ ri r 33 l = 0 ∧ mr_until r n l = 0)) ∧ since ≤ ri r 30 2 + 1
    · rw [if_pos w, if_pos ⟨w.1.1, w.1.2.1, w.1.2.2, w.2.2, w.2.1.elim Or.inl (fun v => Or.inr ⟨v.1, Or.inl v.2⟩)⟩]
    · rw [if_neg w, if_neg (fun z => w ⟨⟨z.1, z.2.1, z.2.2.1⟩, z.2.2.2.2.elim Or.inl (fun v => Or.inr ⟨v.1, v.2.elim id (fun u => absurd hle u)⟩), z.2.2.2.1⟩)]
theorem isT_T (V : iv_t r) (o : rr_ok r) {x : Int32} (q : isT r x) : x ≤ ri r 30 2 + 1 := by
  have := rr_2 o
  obtain ⟨b, hb, eb⟩ := q
  rw [eb, rr_n o (by decide) (by decide), nI_1]
  exact nI_le (by omega) (by omega)
/-- an empty bag is taken -/
theorem fin_e {l : Nat} (V : iv c r t) (hT : rc r 2 + 1 < 2 ^ 30) (ht : t < rc r 5) (h49 : ri r 49 t = 0) (h43 : ri r 43 t = 2) : iv c (m_tk r t) 1000 := by
  have n1 := V.1.1
  obtain ⟨o1, c2, co⟩ := tk_c (t := t) n1 hT
  have ema : ∀ a b m t0, mr_ma (m_tk r t) a b m t0 = mr_ma r a b m t0 := fun a b m t0 => tk_ma (fun z => by rw [h43] at z; exact absurd z.2.1 (by decide)) m t0
  have eun : ∀ n l, mr_until (m_tk r t) n l = mr_until r n l := fun n l => by
    unfold mr_until
    rw [tk_i (f := 33) (by decide), co 5 (by decide), ema]
  refine sim_tk V hT ⟨fun _ _ => rfl, fun _ => rfl, fun _ _ _ _ => rfl, fun _ _ _ _ => rfl, fun _ => rfl⟩ (fun l n hl hn h33 => ?_) (fun l n d hl hn hd => ?_)
  · rw [co 3 (by decide)] at hl
    rw [tk_i (by decide)] at h33
    rw [co 5 (by decide), ema]
    exact V.2.2.2.2.2.2.2.2.2.1 l n hl hn h33
  · rw [co 3 (by decide)] at hl
    rw [V.2.2.2.2.2.2.2.2.2.2 l n d hl hn hd, tk_rd n1 V.2.2.2.1 hT ht h49 _ (eun n l)]
    by_cases y : ri r 50 (6 * n + ix_v (ri r 32 l)) ≤ 0
    · rw [if_pos y]
      unfold mr_roadOf
      rw [if_pos y]
    · rw [if_neg y, if_neg (fun z => by have := z.1.2.1; rw [h43] at this; exact absurd this (by decide)), Int64.add_zero]
/-- a marker is taken -/
theorem fin_m {l n : Nat} (V : iv c r t) (hT : rc r 2 + 1 < 2 ^ 30) (ht : t < rc r 5) (h49 : ri r 49 t = 0) (h43 : ri r 43 t = 3) (h44 : ri r 44 t = nI l) (h47 : ri r 47 t = nI n) (hl : l < rc r 3) (hn : n < 16) : iv (hc_mt c l (nI n)) (m_tk r t) 1000 := by
  have n1 := V.1.1
  have h3 := rr_3 n1
  obtain ⟨o1, c2, co⟩ := tk_c (t := t) n1 hT
  have eT : ri r 30 2 + 1 = nI (rc r 2 + 1) := by rw [rr_n n1 (by decide) (by decide), nI_1]
  obtain ⟨n', l', hn', hl', f47, f44, f33, f50, fuq⟩ := (V.2.2.2.2.2.2.2.2.1 t ht).2.2 h43
  have en : n' = n := (nI_eq (by omega) (by omega)).mp (by rw [← f47, h47])
  have el : l' = l := (nI_eq (by omega) (by omega)).mp (by rw [← f44, h44])
  subst en
  subst el
  have uq1 : mr_ma r (nI n') (nI l') (rc r 5) 0 = 0 := by
    rw [ma_uq (t := t) ⟨h44, h43, h47⟩ (rc r 5) 0 (by omega) (by omega) (fun t' _ h2 a b d => fuq t' (by omega) a b d)]
    exact h49
  have uq2 : mr_ma (m_tk r t) (nI n') (nI l') (rc r 5) 0 = ri r 30 2 + 1 := by
    rw [ma_uq (r := m_tk r t) (t := t) ⟨by rw [tk_i (by decide)]; exact h44, by rw [tk_i (by decide)]; exact h43, by rw [tk_i (by decide)]; exact h47⟩ (rc r 5) 0 (by omega) (by omega) (fun t' _ h2 a b d => by
      rw [tk_i (by decide)] at a b d
      exact fuq t' (by omega) a b d), tk_49, if_pos rfl]
  have ema : ∀ n l, n < 16 → l < rc r 3 → ¬ (n = n' ∧ l = l') → ∀ m t0, mr_ma (m_tk r t) (nI n) (nI l) m t0 = mr_ma r (nI n) (nI l) m t0 := fun n l hn hl hne m t0 => tk_ma (fun z => hne ⟨((nI_eq (by omega) (by omega)).mp (by rw [← h47, z.2.2])).symm, ((nI_eq (by omega) (by omega)).mp (by rw [← h44, z.1])).symm⟩) m t0
  have i19 : ∀ f i j, hs_i (hc_mt c l' (nI n')) f i j = if f = 19 ∧ i = l' ∧ j = 0 then upd (hs_i c 19 l' 0) 1 (hs_i c 19 l' 0 1 ||| ((1 : Int32) <<< (nI n' &&& 31))) else hs_i c f i j := fun _ _ _ => rfl
  refine sim_tk V hT ⟨fun _ _ => rfl, fun _ => rfl, fun _ _ _ _ => rfl, fun f i j hf => by rw [i19, if_neg (fun z => hf z.1)], fun l => ?_⟩ (fun l n hl hn h33 => ?_) (fun l n d hl hn hd => ?_)
  · rw [i19]
    by_cases y : l = l'
    · subst y
      rw [if_pos ⟨rfl, rfl, rfl⟩]
      rfl
    · rw [if_neg (fun z => y z.2.1)]
  · rw [co 3 (by decide)] at hl
    rw [tk_i (by decide)] at h33
    rw [co 5 (by decide), i19]
    have g := V.2.2.2.2.2.2.2.2.2.1 l n hl hn h33
    by_cases y : l = l'
    · subst y
      rw [if_pos ⟨rfl, rfl, rfl⟩]
      show hc_bit (hs_i c 19 l 0 1 ||| _) (nI n) = _
      rw [or_bit hn' hn, g]
      by_cases z : n = n'
      · subst z
        rw [uq2, decide_eq_true (show n = n from rfl), Bool.or_true]
        refine (decide_eq_true ?_).symm
        rw [eT]
        exact nI_nle (by omega) (by omega)
      · rw [decide_eq_false z, Bool.or_false, ema n l hn hl (fun w => z w.1)]
    · rw [if_neg (fun z => y z.2.1), ema n l hn hl (fun w => y w.2)]
      exact g
  · rw [co 3 (by decide)] at hl
    have g := V.2.2.2.2.2.2.2.2.2.2 l n d hl hn hd
    show hs_l c 23 l n d = _
    rw [g]
    by_cases y : n = n' ∧ l = l'
    · obtain ⟨rfl, rfl⟩ := y
      unfold mr_roadOf
      rw [tk_i (f := 50) (by decide), tk_i (f := 32) (by decide), co 5 (by decide)]
      have u1 : mr_until r n l = 0 := by unfold mr_until; rw [uq1]; split <;> rfl
      have u2 : mr_until (m_tk r t) n l = ri r 30 2 + 1 := by unfold mr_until; rw [tk_i (f := 33) (by decide), if_neg f33, co 5 (by decide), uq2]
      rw [u1, u2]
      by_cases w : ri r 50 (6 * n + ix_v (ri r 32 l)) ≤ 0
      · rw [if_pos w, if_pos w]
      · rw [if_neg w, if_neg w]
        refine sm_lc (fun t' ht' => ?_)
        unfold mr_rdF mr_rdP
        rw [tk_i (f := 44) (by decide), tk_i (f := 43) (by decide), tk_i (f := 45) (by decide), tk_i (f := 33) (by decide), tk_i (f := 46) (by decide), tk_mk, tk_49]
        by_cases q : t' = t
        · subst q
          rw [if_neg (fun z => by have := z.2.1; rw [h43] at this; exact absurd this (by decide)), if_neg (fun z => by have := z.2.1; rw [h43] at this; exact absurd this (by decide))]
        · rw [if_neg q]
          obtain ⟨b, hb, eb⟩ := V.2.2.2.1.2.2.2 t' ht'
          have hlt : ¬ ri r 30 2 + 1 ≤ ri r 49 t' := by rw [eT, eb]; exact nI_ge (by omega) (by omega)
          by_cases p : ri r 44 t' = nI l ∧ ri r 43 t' = 1 ∧ ri r 45 t' = nI d ∧ ri r 50 (6 * n + ix_v (ri r 32 l)) ≤ ri r 49 t'
          · rw [if_pos ⟨p.1, p.2.1, p.2.2.1, p.2.2.2, Or.inr ⟨f33, Or.inl rfl⟩⟩, if_pos ⟨p.1, p.2.1, p.2.2.1, p.2.2.2, Or.inr ⟨f33, Or.inr hlt⟩⟩]
          · rw [if_neg (fun z => p ⟨z.1, z.2.1, z.2.2.1, z.2.2.2.1⟩), if_neg (fun z => p ⟨z.1, z.2.1, z.2.2.1, z.2.2.2.1⟩)]
    · have eun : mr_until (m_tk r t) n l = mr_until r n l := by
        unfold mr_until
        rw [tk_i (f := 33) (by decide), co 5 (by decide), ema n l hn hl y]
      rw [tk_rd n1 V.2.2.2.1 hT ht h49 _ eun]
      by_cases w : ri r 50 (6 * n + ix_v (ri r 32 l)) ≤ 0
      · rw [if_pos w]
        unfold mr_roadOf
        rw [if_pos w]
      · rw [if_neg w, if_neg (fun z => by have := z.1.2.1; rw [h43] at this; exact absurd this (by decide)), Int64.add_zero]
/-- roads after a bag -/
theorem arl_2 (l d : Nat) : ∀ m n (h : hs_S), (hc_arl l d m n h).2 = h.2
  | 0, _, _ => rfl
  | m + 1, n, h => by
    unfold hc_arl
    rw [arl_2 l d m (n + 1), ar1_same]
def hc_arc (h : hs_S) (l n : Nat) : Prop := hc_bit (hs_i h 8 (hs_n h 4 l) 0 1) (nI n) = true ∧ hc_late h l n = false
theorem arc_c {h h' : hs_S} (e : h'.2 = h.2) (l n : Nat) : hc_arc h' l n ↔ hc_arc h l n := by
  unfold hc_arc hc_late hs_i hs_n
  rw [e]
theorem ar1_l (h : hs_S) (l d n f i j q : Nat) : hs_l (hc_ar1 h l d n) f i j q = hs_l h f i j q ∨ (f = 23 ∧ i = l ∧ j = n ∧ q = d ∧ hc_arc h l n ∧ hs_l (hc_ar1 h l d n) f i j q = hs_l h f i j q + (hs_i h 26 0 0 2).toInt64) := by
  unfold hc_ar1
  by_cases y : hc_bit (hs_i h 8 (hs_n h 4 l) 0 1) (nI n) = true ∧ hc_late h l n = false
  · rw [if_pos y]
    show (if f = 23 ∧ i = l ∧ j = n then vp_updL (hs_l h 23 l n) d _ else hs_l h f i j) q = _ ∨ _
    by_cases z : f = 23 ∧ i = l ∧ j = n
    · obtain ⟨rfl, rfl, rfl⟩ := z
      by_cases w : q = d
      · subst w
        refine Or.inr ⟨rfl, rfl, rfl, rfl, y, ?_⟩
        show (if (23 : Nat) = 23 ∧ i = i ∧ j = j then vp_updL (hs_l h 23 i j) q _ else hs_l h 23 i j) q = _
        rw [if_pos ⟨rfl, rfl, rfl⟩]
        exact if_pos rfl
      · refine Or.inl ?_
        rw [if_pos ⟨rfl, rfl, rfl⟩]
        exact if_neg w
    · exact Or.inl (by rw [if_neg z])
  · rw [if_neg y]
    exact Or.inl rfl
theorem ar1_in (h : hs_S) (l d n : Nat) (y : hc_arc h l n) : hs_l (hc_ar1 h l d n) 23 l n d = hs_l h 23 l n d + (hs_i h 26 0 0 2).toInt64 := by
  unfold hc_ar1
  unfold hc_arc at y
  rw [if_pos y]
  show (if (23 : Nat) = 23 ∧ l = l ∧ n = n then vp_updL (hs_l h 23 l n) d _ else hs_l h 23 l n) d = _
  rw [if_pos ⟨rfl, rfl, rfl⟩]
  exact if_pos rfl
theorem arl_no {l d : Nat} {f i j q : Nat} : ∀ m n (h : hs_S), ¬ (f = 23 ∧ i = l ∧ q = d ∧ n ≤ j ∧ j < n + m ∧ hc_arc h l j) → hs_l (hc_arl l d m n h) f i j q = hs_l h f i j q
  | 0, _, _, _ => rfl
  | m + 1, n, h, hne => by
    unfold hc_arl
    have e2 := ar1_same h l d n
    rw [arl_no m (n + 1) (hc_ar1 h l d n) (fun z => hne ⟨z.1, z.2.1, z.2.2.1, by omega, by omega, (arc_c e2 l j).mp z.2.2.2.2.2⟩)]
    rcases ar1_l h l d n f i j q with y | ⟨y1, y2, y3, y4, y5, -⟩
    · exact y
    · exact absurd ⟨y1, y2, y4, by omega, by omega, by rw [y3]; exact y5⟩ hne
theorem arl_in {l d : Nat} {j : Nat} : ∀ m n (h : hs_S), n ≤ j → j < n + m → hc_arc h l j → hs_l (hc_arl l d m n h) 23 l j d = hs_l h 23 l j d + (hs_i h 26 0 0 2).toInt64
  | 0, _, _, h1, h2, _ => absurd h2 (by omega)
  | m + 1, n, h, h1, h2, y => by
    unfold hc_arl
    have e2 := ar1_same h l d n
    by_cases z : j = n
    · subst z
      rw [arl_no m (j + 1) (hc_ar1 h l d j) (fun w => by have := w.2.2.2.1; omega), ar1_in h l d j y]
    · have ei : hs_i (hc_ar1 h l d n) 26 0 0 = hs_i h 26 0 0 := by unfold hs_i; rw [e2]
      rw [arl_in m (n + 1) (hc_ar1 h l d n) (by omega) (by omega) ((arc_c e2 l j).mpr y), ei]
      rcases ar1_l h l d n 23 l j d with w | ⟨-, -, w3, -⟩
      · rw [w]
      · exact absurd w3 z
theorem fin_b {l d : Nat} (V : iv c r t) (hT : rc r 2 + 1 < 2 ^ 30) (ht : t < rc r 5) (h49 : ri r 49 t = 0) (h43 : ri r 43 t = 1) (h44 : ri r 44 t = nI l) (h45 : ri r 45 t = nI d) (hd3 : d < 3) (hl : l < rc r 3) (h26 : hs_i c 26 0 0 2 = ri r 46 t) (h26m : hs_i c 26 0 0 3 = bs (mr_mk r t) 16) : iv (hc_arl l d 16 0 c) (m_tk r t) 1000 := by
  have n1 := V.1.1
  have h3 := rr_3 n1
  have h1 := rr_1 n1
  obtain ⟨o1, c2, co⟩ := tk_c (t := t) n1 hT
  have ema : ∀ a b m t0, mr_ma (m_tk r t) a b m t0 = mr_ma r a b m t0 := fun a b m t0 => tk_ma (fun z => by rw [h43] at z; exact absurd z.2.1 (by decide)) m t0
  have eun : ∀ n l, mr_until (m_tk r t) n l = mr_until r n l := fun n l => by
    unfold mr_until
    rw [tk_i (f := 33) (by decide), co 5 (by decide), ema]
  have e2 := arl_2 l d 16 0 c
  have en : ∀ a b, hs_n (hc_arl l d 16 0 c) a b = hs_n c a b := fun a b => by unfold hs_n; rw [e2]
  have ei : ∀ f i j, hs_i (hc_arl l d 16 0 c) f i j = hs_i c f i j := fun f i j => by unfold hs_i; rw [e2]
  have eq : ∀ i, hs_q (hc_arl l d 16 0 c) i = hs_q c i := fun i => by unfold hs_q; rw [e2]
  refine sim_tk V hT ⟨en, eq, fun f i j hf => funext fun q => arl_no 16 0 c (fun z => hf z.1), fun f i j _ => ei f i j, fun l => by rw [ei]⟩ (fun l' n hl' hn h33 => ?_) (fun l' n d' hl' hn hd' => ?_)
  · rw [co 3 (by decide)] at hl'
    rw [tk_i (by decide)] at h33
    rw [co 5 (by decide), ema, ei]
    exact V.2.2.2.2.2.2.2.2.2.1 l' n hl' hn h33
  · rw [co 3 (by decide)] at hl'
    have g := V.2.2.2.2.2.2.2.2.2.2 l' n d' hl' hn hd'
    rw [tk_rd n1 V.2.2.2.1 hT ht h49 _ (eun n l')]
    have v2 := V.2.1 l' hl'
    have hto : hs_n c 4 l' < rc r 1 := by rw [V.1.2.2.2.1]; exact (V.1.2.1.2.2.2.1 l' (by rw [← V.1.2.2.2.2.1]; exact hl')).2
    have eto : ix_v (ri r 32 l') = hs_n c 4 l' := by rw [v2.2.1]; exact ix_vn (by omega)
    rw [eto]
    have ebit := iv_bit V hn hto
    have hsle := isT_T V.2.2.2.1 n1 (V.2.2.2.1.2.1 n (hs_n c 4 l') hn (by omega))
    by_cases y : ri r 50 (6 * n + hs_n c 4 l') ≤ 0
    · rw [if_pos y, arl_no 16 0 c (fun z => ?_), g]
      · unfold mr_roadOf
        rw [eto, if_pos y]
      · obtain ⟨-, z2, -, -, -, z6⟩ := z
        subst z2
        have := z6.1
        rw [ebit] at this
        exact (of_decide_eq_true this) y
    · rw [if_neg y]
      have hbit : hc_bit (hs_i c 8 (hs_n c 4 l') 0 1) (nI n) = true := by rw [ebit]; exact decide_eq_true y
      have hlate : l' = l → (hc_late c l' n = false ↔ ((ri r 33 l' = 0 ∧ mr_mk r t n = false) ∨ (¬ ri r 33 l' = 0 ∧ mr_until r n l' = 0))) := fun _ => by
        unfold hc_late
        rw [v2.2.2]
        by_cases w : ri r 33 l' = 0
        · rw [if_pos w, h26m, bs_bit hn]
          exact ⟨fun q => Or.inl ⟨w, q⟩, fun q => q.elim (fun p => p.2) (fun p => absurd w p.1)⟩
        · rw [if_neg w, V.2.2.2.2.2.2.2.2.2.1 l' n hl' hn w]
          have un : mr_until r n l' = mr_ma r (nI n) (nI l') (rc r 5) 0 := by unfold mr_until; rw [if_neg w]
          rw [un]
          obtain ⟨b, hb, eb⟩ := ma_T V.2.2.2.1 (x1 := nI n) (x2 := nI l') (rc r 5) 0 (by omega)
          have h2' := rr_2 n1
          rw [eb]
          constructor
          · intro q
            have q' := of_decide_eq_false q
            refine Or.inr ⟨w, ?_⟩
            by_cases b0 : b = 0
            · rw [b0]; exact nI_0
            · exact absurd (nI_nle (by omega) (by omega)) q'
          · intro q
            rcases q with q | q
            · exact absurd q.1 w
            · rw [q.2]; decide
      by_cases z : l' = l ∧ d' = d
      · obtain ⟨rfl, rfl⟩ := z
        by_cases w : hc_late c l' n = false
        · rw [arl_in 16 0 c (by omega) (by omega) ⟨hbit, w⟩, g, h26, if_pos ⟨⟨h44, h43, h45⟩, (hlate rfl).mp w, hsle⟩]
        · rw [arl_no 16 0 c (fun q => w q.2.2.2.2.2.2), g, if_neg (fun q => w ((hlate rfl).mpr q.2.1)), Int64.add_zero]
      · rw [arl_no 16 0 c (fun q => z ⟨q.2.1, q.2.2.1⟩), g, if_neg (fun q => z ⟨?_, ?_⟩), Int64.add_zero]
        · exact ((nI_eq (by omega) (by omega)).mp (by rw [← h44, q.1.1])).symm
        · exact ((nI_eq (by omega) (by omega)).mp (by rw [← h45, q.1.2.2])).symm
end SM5
