section RF2
variable {g : Nat → ClassId} {e0 : Nat → Nat} {A : hs_A} {h : hs_S} {r : rS} {M : mo_M}
theorem rr_4 (o : rr_ok r) : rc r 4 ≤ 1100 := o.2.2.2.2.1
theorem rr_5 (o : rr_ok r) : rc r 5 ≤ 800 := o.2.2.2.2.2.1
theorem rr_6 (o : rr_ok r) : rc r 6 ≤ 16 := o.2.2.2.2.2.2.1
theorem rr_3 (o : rr_ok r) : rc r 3 ≤ 12 := o.2.2.2.1
theorem rr_2 (o : rr_ok r) : rc r 2 < 2 ^ 30 := o.2.2.1
theorem rr_1 (o : rr_ok r) : rc r 1 ≤ 6 := o.2.1.2
theorem rr_n (o : rr_ok r) {k : Nat} (h1 : 1 ≤ k) (h2 : k ≤ 6) : ri r 30 k = nI (rc r k) := o.1 k h1 h2
theorem nI_mul (a b : Nat) : nI a * nI b = nI (a * b) := by
  induction b with
  | zero => show nI a * nI 0 = nI 0; rw [nI_0]; exact Int32.mul_zero
  | succ b ih => rw [nI_succ, Int32.mul_add, ih, Int32.mul_one, nI_add, Nat.mul_succ]
theorem ix_3cd {c d : Nat} : (3 : Int32) * nI c + nI d = nI (3 * c + d) := by
  rw [show (3 : Int32) = nI 3 from rfl, nI_mul, nI_add]
theorem ix_6nk {n k : Nat} : (6 : Int32) * nI n + nI k = nI (6 * n + k) := by
  rw [show (6 : Int32) = nI 6 from rfl, nI_mul, nI_add]
/-- line i, if it is k's, c's, and not after x3 -/
def rm_st (r : rS) (f : Nat) (x1 x2 x3 : Int32) (i : Nat) : Int64 := if ri r 36 i = x1 ∧ ri r 37 i = x2 ∧ ¬ x3 < ri r 38 i then rl r f i else 0
def mr_at (r : rS) (f : Nat) (x1 x2 x3 : Int32) : Int64 := sm_l (rm_st r f x1 x2 x3) (rc r 4)
theorem l2m_stockAt_loop {K : Int64 → mo_M → Prop} {x1 x2 x3 : Int32} (H : hs_in g e0 A (hs_put h r) M) (o : rr_ok r) (hK : K (mr_at r 40 x1 x2 x3) M) : ∀ m i, i + m = rc r 4 → pp_M_stockAt_b6 g e0 K (m + 1) M (A 30 0 0) x1 x2 x3 (sm_l (rm_st r 40 x1 x2 x3) i) (nI i)
  | 0, i, hi => by
    have h4 := rr_4 o
    unfold pp_M_stockAt_b6
    refine mq_gi (rs_30 H) rfl ?_
    rw [rr_n o (show 1 ≤ 4 by decide) (by decide)]
    refine le_br (by omega) (by omega) (fun q => ?_) (fun q => absurd q (by omega))
    have e : i = rc r 4 := by omega
    rw [e]
    exact hK
  | m + 1, i, hi => by
    have h4 := rr_4 o
    unfold pp_M_stockAt_b6
    refine mq_gi (rs_30 H) rfl ?_
    rw [rr_n o (show 1 ≤ 4 by decide) (by decide)]
    refine le_br (by omega) (by omega) (fun q => absurd q (by omega)) (fun q => ?_)
    have go : pp_M_stockAt_b6 g e0 K (m + 1) M (A 30 0 0) x1 x2 x3 (sm_l (rm_st r 40 x1 x2 x3) i + rm_st r 40 x1 x2 x3 i) (nI (i + 1)) := l2m_stockAt_loop H o hK m (i + 1) (by omega)
    unfold pp_M_stockAt_b60 pp_M_stockAt_b61
    simp only [nI_1]
    have no : ¬ (ri r 36 i = x1 ∧ ri r 37 i = x2 ∧ ¬ x3 < ri r 38 i) → pp_M_stockAt_b6 g e0 K (m + 1) M (A 30 0 0) x1 x2 x3 (sm_l (rm_st r 40 x1 x2 x3) i + 0) (nI (i + 1)) := fun z => by
      rw [show rm_st r 40 x1 x2 x3 i = 0 from if_neg z] at go
      exact go
    refine mq_gr (rs_30 H) rfl (mq_ai (rs_36 H) rfl (by omega) (by decide) ⟨fun z1 => ?_, fun z1 => no (fun y => z1 y.1)⟩)
    refine mq_gr (rs_30 H) rfl (mq_ai (rs_37 H) rfl (by omega) (by decide) ⟨fun z2 => ?_, fun z2 => no (fun y => z2 y.2.1)⟩)
    refine mq_gr (rs_30 H) rfl (mq_ai (rs_38 H) rfl (by omega) (by decide) ⟨fun z3 => no (fun y => y.2.2 z3), fun z3 => ?_⟩)
    refine mq_gr (rs_30 H) rfl (mq_al (rs_40 H) rfl (by omega) (by decide) ?_)
    rw [show rm_st r 40 x1 x2 x3 i = rl r 40 i from if_pos ⟨z1, z2, z3⟩] at go
    exact go
theorem l2m_stockAt {K : Int64 → mo_M → Prop} {x1 x2 x3 : Int32} (H : hs_in g e0 A (hs_put h r) M) (o : rr_ok r) (hK : K (mr_at r 40 x1 x2 x3) M) : pp_M_stockAt g e0 K M (A 30 0 0) x1 x2 x3 := ⟨rc r 4 + 1, l2m_stockAt_loop H o hK (rc r 4) 0 (Nat.zero_add _)⟩
theorem l2m_tillAt_loop {K : Int64 → mo_M → Prop} {x1 x2 x3 : Int32} (H : hs_in g e0 A (hs_put h r) M) (o : rr_ok r) (hK : K (mr_at r 41 x1 x2 x3) M) : ∀ m i, i + m = rc r 4 → pp_M_tillAt_b6 g e0 K (m + 1) M (A 30 0 0) x1 x2 x3 (sm_l (rm_st r 41 x1 x2 x3) i) (nI i)
  | 0, i, hi => by
    have h4 := rr_4 o
    unfold pp_M_tillAt_b6
    refine mq_gi (rs_30 H) rfl ?_
    rw [rr_n o (show 1 ≤ 4 by decide) (by decide)]
    refine le_br (by omega) (by omega) (fun q => ?_) (fun q => absurd q (by omega))
    have e : i = rc r 4 := by omega
    rw [e]
    exact hK
  | m + 1, i, hi => by
    have h4 := rr_4 o
    unfold pp_M_tillAt_b6
    refine mq_gi (rs_30 H) rfl ?_
    rw [rr_n o (show 1 ≤ 4 by decide) (by decide)]
    refine le_br (by omega) (by omega) (fun q => absurd q (by omega)) (fun q => ?_)
    have go : pp_M_tillAt_b6 g e0 K (m + 1) M (A 30 0 0) x1 x2 x3 (sm_l (rm_st r 41 x1 x2 x3) i + rm_st r 41 x1 x2 x3 i) (nI (i + 1)) := l2m_tillAt_loop H o hK m (i + 1) (by omega)
    unfold pp_M_tillAt_b60 pp_M_tillAt_b61
    simp only [nI_1]
    have no : ¬ (ri r 36 i = x1 ∧ ri r 37 i = x2 ∧ ¬ x3 < ri r 38 i) → pp_M_tillAt_b6 g e0 K (m + 1) M (A 30 0 0) x1 x2 x3 (sm_l (rm_st r 41 x1 x2 x3) i + 0) (nI (i + 1)) := fun z => by
      rw [show rm_st r 41 x1 x2 x3 i = 0 from if_neg z] at go
      exact go
    refine mq_gr (rs_30 H) rfl (mq_ai (rs_36 H) rfl (by omega) (by decide) ⟨fun z1 => ?_, fun z1 => no (fun y => z1 y.1)⟩)
    refine mq_gr (rs_30 H) rfl (mq_ai (rs_37 H) rfl (by omega) (by decide) ⟨fun z2 => ?_, fun z2 => no (fun y => z2 y.2.1)⟩)
    refine mq_gr (rs_30 H) rfl (mq_ai (rs_38 H) rfl (by omega) (by decide) ⟨fun z3 => no (fun y => y.2.2 z3), fun z3 => ?_⟩)
    refine mq_gr (rs_30 H) rfl (mq_al (rs_41 H) rfl (by omega) (by decide) ?_)
    rw [show rm_st r 41 x1 x2 x3 i = rl r 41 i from if_pos ⟨z1, z2, z3⟩] at go
    exact go
theorem l2m_tillAt {K : Int64 → mo_M → Prop} {x1 x2 x3 : Int32} (H : hs_in g e0 A (hs_put h r) M) (o : rr_ok r) (hK : K (mr_at r 41 x1 x2 x3) M) : pp_M_tillAt g e0 K M (A 30 0 0) x1 x2 x3 := ⟨rc r 4 + 1, l2m_tillAt_loop H o hK (rc r 4) 0 (Nat.zero_add _)⟩
theorem l2m_mintedAt_loop {K : Int64 → mo_M → Prop} {x1 x2 x3 : Int32} (H : hs_in g e0 A (hs_put h r) M) (o : rr_ok r) (hK : K (mr_at r 42 x1 x2 x3) M) : ∀ m i, i + m = rc r 4 → pp_M_mintedAt_b6 g e0 K (m + 1) M (A 30 0 0) x1 x2 x3 (sm_l (rm_st r 42 x1 x2 x3) i) (nI i)
  | 0, i, hi => by
    have h4 := rr_4 o
    unfold pp_M_mintedAt_b6
    refine mq_gi (rs_30 H) rfl ?_
    rw [rr_n o (show 1 ≤ 4 by decide) (by decide)]
    refine le_br (by omega) (by omega) (fun q => ?_) (fun q => absurd q (by omega))
    have e : i = rc r 4 := by omega
    rw [e]
    exact hK
  | m + 1, i, hi => by
    have h4 := rr_4 o
    unfold pp_M_mintedAt_b6
    refine mq_gi (rs_30 H) rfl ?_
    rw [rr_n o (show 1 ≤ 4 by decide) (by decide)]
    refine le_br (by omega) (by omega) (fun q => absurd q (by omega)) (fun q => ?_)
    have go : pp_M_mintedAt_b6 g e0 K (m + 1) M (A 30 0 0) x1 x2 x3 (sm_l (rm_st r 42 x1 x2 x3) i + rm_st r 42 x1 x2 x3 i) (nI (i + 1)) := l2m_mintedAt_loop H o hK m (i + 1) (by omega)
    unfold pp_M_mintedAt_b60 pp_M_mintedAt_b61
    simp only [nI_1]
    have no : ¬ (ri r 36 i = x1 ∧ ri r 37 i = x2 ∧ ¬ x3 < ri r 38 i) → pp_M_mintedAt_b6 g e0 K (m + 1) M (A 30 0 0) x1 x2 x3 (sm_l (rm_st r 42 x1 x2 x3) i + 0) (nI (i + 1)) := fun z => by
      rw [show rm_st r 42 x1 x2 x3 i = 0 from if_neg z] at go
      exact go
    refine mq_gr (rs_30 H) rfl (mq_ai (rs_36 H) rfl (by omega) (by decide) ⟨fun z1 => ?_, fun z1 => no (fun y => z1 y.1)⟩)
    refine mq_gr (rs_30 H) rfl (mq_ai (rs_37 H) rfl (by omega) (by decide) ⟨fun z2 => ?_, fun z2 => no (fun y => z2 y.2.1)⟩)
    refine mq_gr (rs_30 H) rfl (mq_ai (rs_38 H) rfl (by omega) (by decide) ⟨fun z3 => no (fun y => y.2.2 z3), fun z3 => ?_⟩)
    refine mq_gr (rs_30 H) rfl (mq_al (rs_42 H) rfl (by omega) (by decide) ?_)
    rw [show rm_st r 42 x1 x2 x3 i = rl r 42 i from if_pos ⟨z1, z2, z3⟩] at go
    exact go
theorem l2m_mintedAt {K : Int64 → mo_M → Prop} {x1 x2 x3 : Int32} (H : hs_in g e0 A (hs_put h r) M) (o : rr_ok r) (hK : K (mr_at r 42 x1 x2 x3) M) : pp_M_mintedAt g e0 K M (A 30 0 0) x1 x2 x3 := ⟨rc r 4 + 1, l2m_mintedAt_loop H o hK (rc r 4) 0 (Nat.zero_add _)⟩
def mr_has (r : rS) (x1 x2 x3 : Int32) : Bool := (ix_n x1 (rc r 1)).isSome && (ix_n x2 3).isSome && hc_amt x3 && decide (¬ mr_at r 40 x1 x2 (ri r 30 2) < x3.toInt64)
theorem l2m_has {K : Int32 → mo_M → Prop} {x1 x2 x3 : Int32} (H : hs_in g e0 A (hs_put h r) M) (o : rr_ok r) (hK : K (zb_i (mr_has r x1 x2 x3)) M) : pp_M_has g e0 K M (A 30 0 0) x1 x2 x3 := by
  unfold pp_M_has
  unfold mr_has at hK
  refine ⟨⟨_, rs_30 H⟩, l2m_isKiosk H o (zb_br (fun q1 => ⟨rfl, ?_⟩) (fun q1 => l2m_isCurrency (zb_br (fun q2 => ⟨rfl, ?_⟩) (fun q2 => l2m_isAmount (zb_br (fun q3 => ⟨rfl, ?_⟩) (fun q3 => mq_gi (rs_30 H) rfl ⟨⟨_, rs_30 H⟩, l2m_stockAt H o ⟨fun z => ⟨rfl, ?_⟩, fun z => ⟨rfl, ?_⟩⟩⟩))))))⟩
  · rw [q1] at hK; exact hK
  · rw [q1, q2] at hK; exact hK
  · rw [q1, q2, q3] at hK; exact hK
  · rw [q1, q2, q3, decide_eq_false (fun y => y ((lg_cmp_lt _ _).mp z))] at hK; exact hK
  · rw [q1, q2, q3, show decide (¬ mr_at r 40 x1 x2 (ri r 30 2) < x3.toInt64) = true from decide_eq_true (fun y => z ((lg_cmp_lt _ _).mpr y))] at hK; exact hK
def mr_mint (r : rS) (x1 x2 x3 : Int32) : Int32 × rS := if (ix_n x1 (rc r 1)).isSome = true ∧ (ix_n x2 3).isSome = true ∧ hc_amt x3 = true then (1, m_note (m_t r 0) x1 x2 x3.toInt64 0 x3.toInt64) else (0, m_t r 0)
theorem l2m_mint {K : Int32 → mo_M → Prop} {x1 x2 x3 : Int32} (H : hs_in g e0 A (hs_put h r) M) (o : rr_ok r) (hN : rc r 4 < 1100) (hK : ∀ M', hs_in g e0 A (hs_put h (mr_mint r x1 x2 x3).2) M' → K (mr_mint r x1 x2 x3).1 M') : pp_M_mint g e0 K M (A 30 0 0) x1 x2 x3 := by
  unfold pp_M_mint
  unfold mr_mint at hK
  have o1 := mt_ok r 0 o
  refine mq_pt (rs_30 H) (Nat.le_of_ble_eq_true rfl) ?_
  have H1 := rw_30_0 H 0
  refine ⟨⟨_, rs_30 H1⟩, l2m_isKiosk (r := m_t r 0) H1 o1 ?_⟩
  rw [mt_c r 0 (by decide)]
  refine zb_br (fun q1 => ⟨rfl, ?_⟩) (fun q1 => l2m_isCurrency (zb_br (fun q2 => ⟨rfl, ?_⟩) (fun q2 => l2m_isAmount (zb_br (fun q3 => ⟨rfl, ?_⟩) (fun q3 => ⟨⟨_, rs_30 H1⟩, l2m_note (r := m_t r 0) H1 o1 (by rw [mt_c r 0 (by decide)]; exact hN) (fun M' H' => ⟨rfl, ?_⟩)⟩)))))
  · rw [if_neg (fun y => by rw [y.1] at q1; cases q1)] at hK; exact hK _ H1
  · rw [if_neg (fun y => by rw [y.2.1] at q2; cases q2)] at hK; exact hK _ H1
  · rw [if_neg (fun y => by rw [y.2.2] at q3; cases q3)] at hK; exact hK _ H1
  · rw [if_pos ⟨q1, q2, q3⟩] at hK; exact hK _ H'
def mr_melt (r : rS) (x1 x2 x3 : Int32) : Int32 × rS := if mr_has (m_t r 0) x1 x2 x3 = true then (1, m_note (m_t r 0) x1 x2 (-x3).toInt64 0 (-x3).toInt64) else (0, m_t r 0)
theorem l2m_melt {K : Int32 → mo_M → Prop} {x1 x2 x3 : Int32} (H : hs_in g e0 A (hs_put h r) M) (o : rr_ok r) (hN : rc r 4 < 1100) (hK : ∀ M', hs_in g e0 A (hs_put h (mr_melt r x1 x2 x3).2) M' → K (mr_melt r x1 x2 x3).1 M') : pp_M_melt g e0 K M (A 30 0 0) x1 x2 x3 := by
  unfold pp_M_melt
  unfold mr_melt at hK
  have o1 := mt_ok r 0 o
  refine mq_pt (rs_30 H) (Nat.le_of_ble_eq_true rfl) ?_
  have H1 := rw_30_0 H 0
  refine ⟨⟨_, rs_30 H1⟩, l2m_has (r := m_t r 0) H1 o1 (zb_br (fun q1 => ⟨rfl, ?_⟩) (fun q1 => ⟨⟨_, rs_30 H1⟩, l2m_note (r := m_t r 0) H1 o1 (by rw [mt_c r 0 (by decide)]; exact hN) (fun M' H' => ⟨rfl, ?_⟩)⟩))⟩
  · rw [if_neg (by rw [q1]; decide)] at hK; exact hK _ H1
  · rw [if_pos q1] at hK; exact hK _ H'
theorem note_ok (o : rr_ok r) (hN : rc r 4 < 1100) (hT : rc r 2 + 1 < 2 ^ 30) (x1 x2 : Int32) (s t m : Int64) : rr_ok (m_note r x1 x2 s t m) ∧ rc (m_note r x1 x2 s t m) 4 = rc r 4 + 1 ∧ rc (m_note r x1 x2 s t m) 2 = rc r 2 + 1 := by
  have i30 : ri (m_note r x1 x2 s t m) 30 = upd (upd (ri r 30) 2 (ri r 30 2 + 1)) 4 (ri r 30 4 + 1) := rfl
  have n4 : ri (m_note r x1 x2 s t m) 30 4 = nI (rc r 4 + 1) := by rw [i30, ← nI_1, ← rr_n o (by decide) (by decide)]; rfl
  have n2 : ri (m_note r x1 x2 s t m) 30 2 = nI (rc r 2 + 1) := by rw [i30, ← nI_1, ← rr_n o (by decide) (by decide)]; rfl
  have no : ∀ k, k ≠ 2 → k ≠ 4 → ri (m_note r x1 x2 s t m) 30 k = ri r 30 k := fun k h2 h4 => by rw [i30]; unfold upd; rw [if_neg h4, if_neg h2]
  have c4 : rc (m_note r x1 x2 s t m) 4 = rc r 4 + 1 := by show ix_v (ri (m_note r x1 x2 s t m) 30 4) = rc r 4 + 1; rw [n4]; exact ix_vn (by omega)
  have c2 : rc (m_note r x1 x2 s t m) 2 = rc r 2 + 1 := by show ix_v (ri (m_note r x1 x2 s t m) 30 2) = rc r 2 + 1; rw [n2]; exact ix_vn (by omega)
  have co : ∀ k, k ≠ 2 → k ≠ 4 → rc (m_note r x1 x2 s t m) k = rc r k := fun k h2 h4 => by unfold rc; rw [no k h2 h4]
  refine ⟨?_, c4, c2⟩
  unfold rr_ok at o ⊢
  rw [c4, c2, co 1 (by decide) (by decide), co 3 (by decide) (by decide), co 5 (by decide) (by decide), co 6 (by decide) (by decide)]
  obtain ⟨p1, p2, p3, p4, p5, p6, p7, p8, p9, p10, p11⟩ := o
  refine ⟨fun k h1 h2 => ?_, p2, hT, p4, hN, p6, p7, p8, p9, p10, p11⟩
  by_cases y4 : k = 4
  · subst y4; rw [n4, c4]
  · by_cases y2 : k = 2
    · subst y2; rw [n2, c2]
    · rw [no k y2 y4, co k y2 y4]; exact p1 k h1 h2
def mr_oth (r : rS) (x2 x3 x4 : Int32) : Int64 := (x4.toInt64 * (ri r 34 (3 * ix_v x2 + ix_v x3)).toInt64) / (ri r 35 (3 * ix_v x2 + ix_v x3)).toInt64
def mr_xc (r : rS) (x1 x2 x3 x4 : Int32) : rS := m_u (m_note (m_note r x1 x2 (-x4).toInt64 x4.toInt64 0) x1 x3 (mr_oth r x2 x3 x4) (-(mr_oth r x2 x3 x4)) 0) 39 (rc r 4 + 1) 0
def mr_exchange (r : rS) (x1 x2 x3 x4 : Int32) : Int32 × rS := if mr_has (m_t r 0) x1 x2 x4 = true ∧ (ix_n x3 3).isSome = true ∧ ¬ x2 = x3 then (1, mr_xc (m_t r 0) x1 x2 x3 x4) else (0, m_t r 0)
theorem mr_has_c {x1 x2 x3 : Int32} (q : mr_has r x1 x2 x3 = true) : (ix_n x1 (rc r 1)).isSome = true ∧ (ix_n x2 3).isSome = true ∧ hc_amt x3 = true ∧ ¬ mr_at r 40 x1 x2 (ri r 30 2) < x3.toInt64 := by
  unfold mr_has at q
  rw [Bool.and_eq_true, Bool.and_eq_true, Bool.and_eq_true] at q
  exact ⟨q.1.1.1, q.1.1.2, q.1.2, of_decide_eq_true q.2⟩
theorem l2m_exchange {K : Int32 → mo_M → Prop} {x1 x2 x3 x4 : Int32} (H : hs_in g e0 A (hs_put h r) M) (o : rr_ok r) (hN : rc r 4 + 1 < 1100) (hT : rc r 2 + 1 < 2 ^ 30) (hK : ∀ M', hs_in g e0 A (hs_put h (mr_exchange r x1 x2 x3 x4).2) M' → K (mr_exchange r x1 x2 x3 x4).1 M') : pp_M_exchange g e0 K M (A 30 0 0) x1 x2 x3 x4 := by
  unfold pp_M_exchange
  unfold mr_exchange at hK
  have o1 := mt_ok r 0 o
  refine mq_pt (rs_30 H) (Nat.le_of_ble_eq_true rfl) ?_
  have H1 := rw_30_0 H 0
  have hN1 : rc (m_t r 0) 4 + 1 < 1100 := by rw [mt_c r 0 (by decide)]; exact hN
  have hT1 : rc (m_t r 0) 2 + 1 < 2 ^ 30 := by rw [mt_c r 0 (by decide)]; exact hT
  change hs_in g e0 A (hs_put h (m_t r 0)) _ at H1
  generalize m_t r 0 = r1 at H1 o1 hN1 hT1 hK
  refine ⟨⟨_, rs_30 H1⟩, l2m_has (r := r1) H1 o1 (zb_br (fun q1 => ⟨rfl, ?_⟩) (fun q1 => l2m_isCurrency (zb_br (fun q2 => ⟨rfl, ?_⟩) (fun q2 => ⟨fun q3 => ⟨rfl, ?_⟩, fun q3 => ?_⟩))))⟩
  · rw [if_neg (fun y => by rw [y.1] at q1; cases q1)] at hK; exact hK _ H1
  · rw [if_neg (fun y => by rw [y.2.1] at q2; cases q2)] at hK; exact hK _ H1
  · rw [if_neg (fun y => y.2.2 q3)] at hK; exact hK _ H1
  · rw [if_pos ⟨q1, q2, q3⟩] at hK
    obtain ⟨c, hc⟩ := Option.isSome_iff_exists.mp (mr_has_c q1).2.1
    obtain ⟨d, hd⟩ := Option.isSome_iff_exists.mp q2
    obtain ⟨ec, lc⟩ := (ix_some (by decide)).mp hc
    obtain ⟨ed, ld⟩ := (ix_some (by decide)).mp hd
    have ei : (3 : Int32) * x2 + x3 = nI (3 * c + d) := by rw [ec, ed]; exact ix_3cd
    have vc : ix_v x2 = c := by rw [ec]; exact ix_vn (by omega)
    have vd : ix_v x3 = d := by rw [ed]; exact ix_vn (by omega)
    unfold mr_xc mr_oth at hK
    rw [vc, vd] at hK
    have hd0 := o1.2.2.2.2.2.2.2.2.2.2 (3 * c + d) (by omega)
    refine mq_gr (rs_30 H1) rfl (mq_ai (rs_34 H1) ei (by omega) (by decide) (mq_gr (rs_30 H1) rfl (mq_ai (rs_35 H1) ei (by omega) (by decide) ⟨fun z => ?_, ⟨_, rs_30 H1⟩, l2m_note H1 o1 (by omega) (fun M2 H2 => ?_)⟩)))
    · have z' := congrArg Int64.toInt z
      rw [Int32.toInt_toInt64] at z'
      have : (0 : Int64).toInt = 0 := by decide
      omega
    · obtain ⟨o2, c4, c2⟩ := note_ok o1 (show rc r1 4 < 1100 by omega) hT1 x1 x2 (-x4).toInt64 x4.toInt64 0
      refine ⟨⟨_, rs_30 H2⟩, l2m_note H2 o2 (by rw [c4]; exact hN1) (fun M3 H3 => ?_)⟩
      refine mq_gr (rs_30 H3) rfl (mq_gi (rs_30 H3) rfl (mq_si (j := rc r1 4 + 1) (rs_39 H3) ?_ hN1 (by decide) ⟨rfl, hK _ (rw_39 H3 _ _)⟩))
      show ri (m_note r1 x1 x2 (-x4).toInt64 x4.toInt64 0) 30 4 + 1 - 1 = nI (rc r1 4 + 1)
      rw [rr_n o2 (by decide) (by decide), c4, nI_1, nI_pred]
def mr_rate (r : rS) (x1 x2 x3 x4 : Int32) : Int32 × rS := if (ix_n x1 3).isSome = true ∧ (ix_n x2 3).isSome = true ∧ ¬ x1 = x2 ∧ hc_btw x3 = true ∧ hc_btw x4 = true then (1, m_u (m_u (m_t r 0) 34 (3 * ix_v x1 + ix_v x2) x3) 35 (3 * ix_v x1 + ix_v x2) x4) else (0, m_t r 0)
theorem l2m_rate {K : Int32 → mo_M → Prop} {x1 x2 x3 x4 : Int32} (H : hs_in g e0 A (hs_put h r) M) (hK : ∀ M', hs_in g e0 A (hs_put h (mr_rate r x1 x2 x3 x4).2) M' → K (mr_rate r x1 x2 x3 x4).1 M') : pp_M_rate g e0 K M (A 30 0 0) x1 x2 x3 x4 := by
  unfold pp_M_rate
  unfold mr_rate at hK
  refine mq_pt (rs_30 H) (Nat.le_of_ble_eq_true rfl) ?_
  have H1 := rw_30_0 H 0
  change hs_in g e0 A (hs_put h (m_t r 0)) _ at H1
  generalize m_t r 0 = r1 at H1 hK
  refine l2m_isCurrency (zb_br (fun q1 => ⟨rfl, ?_⟩) (fun q1 => l2m_isCurrency (zb_br (fun q2 => ⟨rfl, ?_⟩) (fun q2 => ⟨fun q3 => ⟨rfl, ?_⟩, fun q3 => ⟨fun q4 => ⟨rfl, ?_⟩, fun q4 => ⟨fun q5 => ⟨rfl, ?_⟩, fun q5 => ⟨fun q6 => ⟨rfl, ?_⟩, fun q6 => ⟨fun q7 => ?_, fun q7 => ⟨rfl, ?_⟩⟩⟩⟩⟩⟩))))
  · rw [if_neg (fun y => by rw [y.1] at q1; cases q1)] at hK; exact hK _ H1
  · rw [if_neg (fun y => by rw [y.2.1] at q2; cases q2)] at hK; exact hK _ H1
  · rw [if_neg (fun y => y.2.2.1 q3)] at hK; exact hK _ H1
  · rw [if_neg (fun y => by have := of_decide_eq_true y.2.2.2.1; exact this.1 q4)] at hK; exact hK _ H1
  · rw [if_neg (fun y => by have := of_decide_eq_true y.2.2.2.1; exact this.2 q5)] at hK; exact hK _ H1
  · rw [if_neg (fun y => by have := of_decide_eq_true y.2.2.2.2; exact this.1 q6)] at hK; exact hK _ H1
  · rw [if_pos ⟨q1, q2, q3, decide_eq_true ⟨q4, q5⟩, decide_eq_true ⟨q6, Int32.not_lt.mpr q7⟩⟩] at hK
    obtain ⟨c, hc⟩ := Option.isSome_iff_exists.mp q1
    obtain ⟨d, hd⟩ := Option.isSome_iff_exists.mp q2
    obtain ⟨ec, lc⟩ := (ix_some (by decide)).mp hc
    obtain ⟨ed, ld⟩ := (ix_some (by decide)).mp hd
    have ei : (3 : Int32) * x1 + x2 = nI (3 * c + d) := by rw [ec, ed]; exact ix_3cd
    have vc : ix_v x1 = c := by rw [ec]; exact ix_vn (by omega)
    have vd : ix_v x2 = d := by rw [ed]; exact ix_vn (by omega)
    rw [vc, vd] at hK
    refine mq_gr (rs_30 H1) rfl (mq_si (rs_34 H1) ei (by omega) (by decide) ?_)
    have H2 := rw_34 H1 (3 * c + d) x3
    exact mq_gr (rs_30 H2) rfl (mq_si (rs_35 H2) ei (by omega) (by decide) ⟨rfl, hK _ (rw_35 H2 _ _)⟩)
  · rw [if_neg (fun y => by have := of_decide_eq_true y.2.2.2.2; exact this.2 (Int32.not_le.mp q7))] at hK; exact hK _ H1
def mr_lk (r : rS) (x1 x2 x3 : Int32) : rS := m_u (m_u (m_u (m_u r 31 (rc r 3) x1) 32 (rc r 3) x2) 33 (rc r 3) (vp_nar .boolean x3)) 30 3 (ri r 30 3 + 1)
def mr_link (r : rS) (x1 x2 x3 : Int32) : Int32 × rS := if (ix_n x1 (rc r 1)).isSome = true ∧ (ix_n x2 (rc r 1)).isSome = true ∧ ¬ x1 = x2 ∧ rc r 3 < 12 ∧ rc r 6 = 0 then (nI (rc r 3), mr_lk (m_t r 0) x1 x2 x3) else (-1, m_t r 0)
theorem l2m_link {K : Int32 → mo_M → Prop} {x1 x2 x3 : Int32} (H : hs_in g e0 A (hs_put h r) M) (o : rr_ok r) (hK : ∀ M', hs_in g e0 A (hs_put h (mr_link r x1 x2 x3).2) M' → K (mr_link r x1 x2 x3).1 M') : pp_M_link g e0 K M (A 30 0 0) x1 x2 x3 := by
  unfold pp_M_link
  unfold mr_link at hK
  have o1 := mt_ok r 0 o
  refine mq_pt (rs_30 H) (Nat.le_of_ble_eq_true rfl) ?_
  have H1 := rw_30_0 H 0
  change hs_in g e0 A (hs_put h (m_t r 0)) _ at H1
  rw [← mt_c r 0 (show 1 ≠ 0 by decide), ← mt_c r 0 (show 3 ≠ 0 by decide), ← mt_c r 0 (show 6 ≠ 0 by decide)] at hK
  generalize m_t r 0 = r1 at H1 o1 hK
  have h3 := rr_3 o1
  have h6 := rr_6 o1
  refine ⟨⟨_, rs_30 H1⟩, l2m_isKiosk H1 o1 (zb_br (fun q1 => ?_) (fun q1 => ⟨⟨_, rs_30 H1⟩, l2m_isKiosk H1 o1 (zb_br (fun q2 => ?_) (fun q2 => ⟨fun q3 => ?_, fun q3 => mq_gi (rs_30 H1) rfl ⟨fun q4 => ?_, fun q4 => mq_gi (rs_30 H1) rfl ⟨fun q5 => ?_, fun q5 => ?_⟩⟩⟩))⟩))⟩
  · rw [if_neg (fun y => by rw [y.1] at q1; cases q1)] at hK; exact hK _ H1
  · rw [if_neg (fun y => by rw [y.2.1] at q2; cases q2)] at hK; exact hK _ H1
  · rw [if_neg (fun y => y.2.2.1 q3)] at hK; exact hK _ H1
  · rw [rr_n o1 (by decide) (by decide), show (12 : Int32) = nI 12 from rfl, nI_eq (by omega) (by decide)] at q4
    rw [if_neg (fun y => by have := y.2.2.2.1; omega)] at hK; exact hK _ H1
  · rw [rr_n o1 (by decide) (by decide), show (12 : Int32) = nI 12 from rfl, nI_eq (by omega) (by decide)] at q4
    rw [rr_n o1 (by decide) (by decide), show (0 : Int32) = nI 0 from rfl, nI_leI (by omega) (by decide)] at q5
    rw [if_pos ⟨q1, q2, q3, by omega, by omega⟩] at hK
    have e3 := rr_n o1 (show 1 ≤ 3 by decide) (by decide)
    have l3 : rc r1 3 < 12 := by omega
    refine mq_gr (rs_30 H1) rfl (mq_gi (rs_30 H1) rfl (mq_si (rs_31 H1) e3 l3 (by decide) ?_))
    have H2 := rw_31 H1 (rc r1 3) x1
    refine mq_gr (rs_30 H2) rfl (mq_gi (rs_30 H2) rfl (mq_si (rs_32 H2) e3 l3 (by decide) ?_))
    have H3 := rw_32 H2 (rc r1 3) x2
    refine mq_gr (rs_30 H3) rfl (mq_gi (rs_30 H3) rfl (mq_sz (rs_33 H3) e3 l3 (by decide) ?_))
    have H4 := rw_33 H3 (rc r1 3) (vp_nar .boolean x3)
    refine mq_gi (rs_30 H4) rfl (mq_pt (rs_30 H4) (Nat.le_of_ble_eq_true rfl) ?_)
    have H5 := rw_30_3 H4 (ri r1 30 3 + 1)
    refine mq_gi (rs_30 H5) rfl ?_
    have ev : ri r1 30 3 + 1 - 1 = nI (rc r1 3) := by rw [e3, nI_1, nI_pred]
    show K (ri r1 30 3 + 1 - 1) _
    rw [ev]
    exact hK _ H5
  · rw [rr_n o1 (by decide) (by decide), show (0 : Int32) = nI 0 from rfl, nI_leI (by omega) (by decide)] at q5
    rw [if_neg (fun y => by have := y.2.2.2.2; omega)] at hK; exact hK _ H1
def mr_stock (r : rS) (x1 x2 : Int32) : Int64 := if (ix_n x1 (rc r 1)).isSome = true ∧ (ix_n x2 3).isSome = true then mr_at r 40 x1 x2 (ri r 30 2) else 0
theorem l2m_stock {K : Int64 → mo_M → Prop} {x1 x2 : Int32} (H : hs_in g e0 A (hs_put h r) M) (o : rr_ok r) (hK : ∀ M', hs_in g e0 A (hs_put h (m_t r 0)) M' → K (mr_stock (m_t r 0) x1 x2) M') : pp_M_stock g e0 K M (A 30 0 0) x1 x2 := by
  unfold pp_M_stock
  unfold mr_stock at hK
  have o1 := mt_ok r 0 o
  refine mq_pt (rs_30 H) (Nat.le_of_ble_eq_true rfl) ?_
  have H1 := rw_30_0 H 0
  change hs_in g e0 A (hs_put h (m_t r 0)) _ at H1
  generalize m_t r 0 = r1 at H1 o1 hK
  refine ⟨⟨_, rs_30 H1⟩, l2m_isKiosk H1 o1 (zb_br (fun q1 => ?_) (fun q1 => l2m_isCurrency (zb_br (fun q2 => ?_) (fun q2 => mq_gi (rs_30 H1) rfl ⟨⟨_, rs_30 H1⟩, l2m_stockAt H1 o1 ?_⟩))))⟩
  · rw [if_neg (fun y => by rw [y.1] at q1; cases q1)] at hK; exact hK _ H1
  · rw [if_neg (fun y => by rw [y.2] at q2; cases q2)] at hK; exact hK _ H1
  · rw [if_pos ⟨q1, q2⟩] at hK; exact hK _ H1
def mr_till (r : rS) (x1 x2 : Int32) : Int64 := if (ix_n x1 (rc r 1)).isSome = true ∧ (ix_n x2 3).isSome = true then mr_at r 41 x1 x2 (ri r 30 2) else 0
theorem l2m_till {K : Int64 → mo_M → Prop} {x1 x2 : Int32} (H : hs_in g e0 A (hs_put h r) M) (o : rr_ok r) (hK : ∀ M', hs_in g e0 A (hs_put h (m_t r 0)) M' → K (mr_till (m_t r 0) x1 x2) M') : pp_M_till g e0 K M (A 30 0 0) x1 x2 := by
  unfold pp_M_till
  unfold mr_till at hK
  have o1 := mt_ok r 0 o
  refine mq_pt (rs_30 H) (Nat.le_of_ble_eq_true rfl) ?_
  have H1 := rw_30_0 H 0
  change hs_in g e0 A (hs_put h (m_t r 0)) _ at H1
  generalize m_t r 0 = r1 at H1 o1 hK
  refine ⟨⟨_, rs_30 H1⟩, l2m_isKiosk H1 o1 (zb_br (fun q1 => ?_) (fun q1 => l2m_isCurrency (zb_br (fun q2 => ?_) (fun q2 => mq_gi (rs_30 H1) rfl ⟨⟨_, rs_30 H1⟩, l2m_tillAt H1 o1 ?_⟩))))⟩
  · rw [if_neg (fun y => by rw [y.1] at q1; cases q1)] at hK; exact hK _ H1
  · rw [if_neg (fun y => by rw [y.2] at q2; cases q2)] at hK; exact hK _ H1
  · rw [if_pos ⟨q1, q2⟩] at hK; exact hK _ H1
end RF2
