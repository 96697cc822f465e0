section RF3
variable {g : Nat → ClassId} {e0 : Nat → Nat} {A : hs_A} {h : hs_S} {r : rS} {M : mo_M}
/-- a thing is sent -/
def m_send (r : rS) (x1 x2 x3 x4 x5 : Int32) : rS := m_u (m_u (m_u (m_u (m_u (m_u (m_u (m_u (m_u r 30 2 (ri r 30 2 + 1)) 43 (rc r 5) x1) 44 (rc r 5) x2) 45 (rc r 5) x3) 46 (rc r 5) x4) 47 (rc r 5) x5) 48 (rc r 5) (ri r 30 2 + 1)) 49 (rc r 5) 0) 30 5 (ri r 30 5 + 1)
theorem l2m_send {K : mo_M → Prop} {x1 x2 x3 x4 x5 : Int32} (H : hs_in g e0 A (hs_put h r) M) (o : rr_ok r) (hN : rc r 5 < 800) (hK : ∀ M', hs_in g e0 A (hs_put h (m_send r x1 x2 x3 x4 x5)) M' → K M') : pp_M_send g e0 K M (A 30 0 0) x1 x2 x3 x4 x5 := by
  have e5 : ri r 30 5 = nI (rc r 5) := o.1 5 (by decide) (by decide)
  unfold pp_M_send
  refine mq_gi (rs_30 H) rfl (mq_pt (rs_30 H) (Nat.le_of_ble_eq_true rfl) ?_)
  have H1 := rw_30_2 H (ri r 30 2 + 1)
  refine mq_gr (rs_30 H1) rfl (mq_gi (rs_30 H1) rfl (mq_si (rs_43 H1) e5 hN (by decide) ?_))
  have H2 := rw_43 H1 (rc r 5) x1
  refine mq_gr (rs_30 H2) rfl (mq_gi (rs_30 H2) rfl (mq_si (rs_44 H2) e5 hN (by decide) ?_))
  have H3 := rw_44 H2 (rc r 5) x2
  refine mq_gr (rs_30 H3) rfl (mq_gi (rs_30 H3) rfl (mq_si (rs_45 H3) e5 hN (by decide) ?_))
  have H4 := rw_45 H3 (rc r 5) x3
  refine mq_gr (rs_30 H4) rfl (mq_gi (rs_30 H4) rfl (mq_si (rs_46 H4) e5 hN (by decide) ?_))
  have H5 := rw_46 H4 (rc r 5) x4
  refine mq_gr (rs_30 H5) rfl (mq_gi (rs_30 H5) rfl (mq_si (rs_47 H5) e5 hN (by decide) ?_))
  have H6 := rw_47 H5 (rc r 5) x5
  refine mq_gr (rs_30 H6) rfl (mq_gi (rs_30 H6) rfl (mq_gi (rs_30 H6) rfl (mq_si (rs_48 H6) e5 hN (by decide) ?_)))
  have H7 := rw_48 H6 (rc r 5) (ri r 30 2 + 1)
  refine mq_gr (rs_30 H7) rfl (mq_gi (rs_30 H7) rfl (mq_si (rs_49 H7) e5 hN (by decide) ?_))
  have H8 := rw_49 H7 (rc r 5) 0
  exact mq_gi (rs_30 H8) rfl (mq_pt (rs_30 H8) (Nat.le_of_ble_eq_true rfl) (hK _ (rw_30_5 H8 (ri r 30 5 + 1))))
theorem send_c (o : rr_ok r) (hN : rc r 5 < 800) (hT : rc r 2 + 1 < 2 ^ 30) (x1 x2 x3 x4 x5 : Int32) : (∀ k, 1 ≤ k → k ≤ 6 → ri (m_send r x1 x2 x3 x4 x5) 30 k = nI (rc (m_send r x1 x2 x3 x4 x5) k)) ∧ rc (m_send r x1 x2 x3 x4 x5) 5 = rc r 5 + 1 ∧ rc (m_send r x1 x2 x3 x4 x5) 2 = rc r 2 + 1 ∧ (∀ k, k ≠ 2 → k ≠ 5 → rc (m_send r x1 x2 x3 x4 x5) k = rc r k) := by
  have i30 : ri (m_send r x1 x2 x3 x4 x5) 30 = upd (upd (ri r 30) 2 (ri r 30 2 + 1)) 5 (ri r 30 5 + 1) := rfl
  have n4 : ri (m_send r x1 x2 x3 x4 x5) 30 5 = nI (rc r 5 + 1) := by rw [i30, ← nI_1, ← rr_n o (by decide) (by decide)]; rfl
  have n2 : ri (m_send r x1 x2 x3 x4 x5) 30 2 = nI (rc r 2 + 1) := by rw [i30, ← nI_1, ← rr_n o (by decide) (by decide)]; rfl
  have no : ∀ k, k ≠ 2 → k ≠ 5 → ri (m_send r x1 x2 x3 x4 x5) 30 k = ri r 30 k := fun k h2 h4 => by rw [i30]; unfold upd; rw [if_neg h4, if_neg h2]
  have c4 : rc (m_send r x1 x2 x3 x4 x5) 5 = rc r 5 + 1 := by show ix_v (ri (m_send r x1 x2 x3 x4 x5) 30 5) = rc r 5 + 1; rw [n4]; exact ix_vn (by omega)
  have c2 : rc (m_send r x1 x2 x3 x4 x5) 2 = rc r 2 + 1 := by show ix_v (ri (m_send r x1 x2 x3 x4 x5) 30 2) = rc r 2 + 1; rw [n2]; exact ix_vn (by omega)
  have co : ∀ k, k ≠ 2 → k ≠ 5 → rc (m_send r x1 x2 x3 x4 x5) k = rc r k := fun k h2 h4 => by unfold rc; rw [no k h2 h4]
  refine ⟨fun k h1 h2 => ?_, c4, c2, co⟩
  by_cases y4 : k = 5
  · subst y4; rw [n4, c4]
  · by_cases y2 : k = 2
    · subst y2; rw [n2, c2]
    · rw [no k y2 y4, co k y2 y4]; exact o.1 k h1 h2
theorem send_ok (o : rr_ok r) (hN : rc r 5 < 800) (hT : rc r 2 + 1 < 2 ^ 30) {x1 x2 x3 x4 x5 : Int32} (h2 : ∃ l, l < rc r 3 ∧ x2 = nI l) (h5 : x1 = 3 → ∃ n, n < 16 ∧ x5 = nI n) : rr_ok (m_send r x1 x2 x3 x4 x5) := by
  obtain ⟨c0, c5, c2, co⟩ := send_c o hN hT x1 x2 x3 x4 x5
  have i43 : ri (m_send r x1 x2 x3 x4 x5) 43 = upd (ri r 43) (rc r 5) x1 := rfl
  have i44 : ri (m_send r x1 x2 x3 x4 x5) 44 = upd (ri r 44) (rc r 5) x2 := rfl
  have i47 : ri (m_send r x1 x2 x3 x4 x5) 47 = upd (ri r 47) (rc r 5) x5 := rfl
  have i31 : ri (m_send r x1 x2 x3 x4 x5) 31 = ri r 31 := rfl
  have i32 : ri (m_send r x1 x2 x3 x4 x5) 32 = ri r 32 := rfl
  have i35 : ri (m_send r x1 x2 x3 x4 x5) 35 = ri r 35 := rfl
  unfold rr_ok at o ⊢
  obtain ⟨p1, p2, p3, p4, p5, p6, p7, p8, p9, p10, p11⟩ := o
  refine ⟨c0, ?_⟩
  rw [c5, c2, co 1 (by decide) (by decide), co 3 (by decide) (by decide), co 4 (by decide) (by decide), co 6 (by decide) (by decide), i43, i44, i47, i31, i32, i35]
  refine ⟨p2, hT, p4, p5, hN, p7, p8, fun t ht => ?_, fun t ht hk => ?_, p11⟩
  · unfold upd
    by_cases y : t = rc r 5
    · rw [if_pos y]; exact h2
    · rw [if_neg y]; exact p9 t (by omega)
  · unfold upd at hk ⊢
    by_cases y : t = rc r 5
    · rw [if_pos y] at hk ⊢; exact h5 hk
    · rw [if_neg y] at hk ⊢; exact p10 t (by omega) hk
def mr_there (r : rS) (x : Int32) (t : Nat) : Bool := decide (ri r 44 t = x ∧ ri r 49 t = 0)
theorem l2m_isThere {K : Int32 → mo_M → Prop} {x1 x2 : Int32} {t : Nat} (H : hs_in g e0 A (hs_put h r) M) (hx : x1 = nI t) (ht : t < 800) (hK : K (zb_i (mr_there r x2 t)) M) : pp_M_isThere g e0 K M (A 30 0 0) x1 x2 := by
  unfold pp_M_isThere
  unfold mr_there at hK
  refine mq_gr (rs_30 H) rfl (mq_ai (rs_44 H) hx ht (by decide) ⟨fun z1 => mq_gr (rs_30 H) rfl (mq_ai (rs_49 H) hx ht (by decide) ⟨fun z2 => ⟨rfl, ?_⟩, fun z2 => ⟨rfl, ?_⟩⟩), fun z1 => ⟨rfl, ?_⟩⟩)
  · rw [decide_eq_true (show ri r 44 t = x2 ∧ ri r 49 t = 0 from ⟨z1, z2⟩)] at hK; exact hK
  · rw [decide_eq_false (fun y => z2 y.2)] at hK; exact hK
  · rw [decide_eq_false (fun y => z1 y.1)] at hK; exact hK
def mr_ol (r : rS) (x : Int32) (t : Nat) : Int32 := zb_i (mr_there r x t)
theorem l2m_onLink_loop {K : Int32 → mo_M → Prop} {x : Int32} (H : hs_in g e0 A (hs_put h r) M) (o : rr_ok r) (hK : K (sm_i (mr_ol r x) (rc r 5)) M) : ∀ m t, t + m = rc r 5 → pp_M_onLink_b19 g e0 K (m + 1) M (A 30 0 0) x (sm_i (mr_ol r x) t) (nI t)
  | 0, t, ht => by
    have h5 := rr_5 o
    unfold pp_M_onLink_b19
    refine mq_gi (rs_30 H) rfl ?_
    rw [rr_n o (show 1 ≤ 5 by decide) (by decide)]
    refine le_br (by omega) (by omega) (fun q => ?_) (fun q => absurd q (by omega))
    have e : t = rc r 5 := by omega
    rw [e]
    exact hK
  | m + 1, t, ht => by
    have h5 := rr_5 o
    unfold pp_M_onLink_b19
    refine mq_gi (rs_30 H) rfl ?_
    rw [rr_n o (show 1 ≤ 5 by decide) (by decide)]
    refine le_br (by omega) (by omega) (fun q => absurd q (by omega)) (fun q => ⟨⟨_, rs_30 H⟩, l2m_isThere H rfl (by omega) ?_⟩)
    have go : pp_M_onLink_b19 g e0 K (m + 1) M (A 30 0 0) x (sm_i (mr_ol r x) t + mr_ol r x t) (nI (t + 1)) := l2m_onLink_loop H o hK m (t + 1) (by omega)
    unfold pp_M_onLink_b42
    simp only [nI_1]
    unfold mr_ol at go
    refine zb_br (fun q1 => ?_) (fun q1 => ?_)
    · rw [q1] at go; exact go
    · rw [q1] at go; exact go
def mr_onLink (r : rS) (x : Int32) : Int32 := if (ix_n x (rc r 3)).isSome = true then sm_i (mr_ol r x) (rc r 5) else -1
theorem l2m_onLink {K : Int32 → mo_M → Prop} {x : Int32} (H : hs_in g e0 A (hs_put h r) M) (o : rr_ok r) (hK : ∀ M', hs_in g e0 A (hs_put h (m_t r 0)) M' → K (mr_onLink (m_t r 0) x) M') : pp_M_onLink g e0 K M (A 30 0 0) x := by
  unfold pp_M_onLink
  unfold mr_onLink at hK
  have o1 := mt_ok r 0 o
  refine mq_pt (rs_30 H) (Nat.le_of_ble_eq_true rfl) ?_
  have H1 := rw_30_0 H 0
  change hs_in g e0 A (hs_put h (m_t r 0)) _ at H1
  generalize m_t r 0 = r1 at H1 o1 hK
  refine ⟨⟨_, rs_30 H1⟩, l2m_isLink H1 o1 (zb_br (fun q1 => ?_) (fun q1 => ⟨rc r1 5 + 1, l2m_onLink_loop H1 o1 ?_ (rc r1 5) 0 (Nat.zero_add _)⟩))⟩
  · rw [if_neg (fun y => by rw [y] at q1; cases q1)] at hK; exact hK _ H1
  · rw [if_pos q1] at hK; exact hK _ H1
/-- which thing -/
def mr_ta (r : rS) (x : Int32) : Nat → Nat → Int32 → Int32
  | 0, _, _ => -1
  | m + 1, t, v => if v < 0 then -1 else if mr_there r x t = true then (if v = 0 then nI t else mr_ta r x m (t + 1) (v + (-1))) else mr_ta r x m (t + 1) v
theorem l2m_ta_loop {K : Int32 → mo_M → Prop} {x : Int32} (H : hs_in g e0 A (hs_put h r) M) (o : rr_ok r) : ∀ m t v, t + m = rc r 5 → K (mr_ta r x m t v) M → pp_M_thingAt_b5 g e0 K (m + 1) M (A 30 0 0) x v (nI t)
  | 0, t, v, ht, hK => by
    have h5 := rr_5 o
    unfold pp_M_thingAt_b5
    refine mq_gi (rs_30 H) rfl ?_
    rw [rr_n o (show 1 ≤ 5 by decide) (by decide)]
    exact le_br (by omega) (by omega) (fun q => hK) (fun q => absurd q (by omega))
  | m + 1, t, v, ht, hK => by
    have h5 := rr_5 o
    unfold pp_M_thingAt_b5
    unfold mr_ta at hK
    refine mq_gi (rs_30 H) rfl ?_
    rw [rr_n o (show 1 ≤ 5 by decide) (by decide)]
    refine le_br (by omega) (by omega) (fun q => absurd q (by omega)) (fun q => ⟨fun z => ?_, fun z => ⟨⟨_, rs_30 H⟩, l2m_isThere H rfl (by omega) (zb_br (fun q1 => ?_) (fun q1 => ⟨fun w => ?_, fun w => ?_⟩))⟩⟩)
    · rw [if_pos z] at hK; exact hK
    · rw [if_neg z, if_neg (by rw [q1]; decide)] at hK
      unfold pp_M_thingAt_b41
      rw [nI_1]
      exact l2m_ta_loop H o m (t + 1) v (by omega) hK
    · rw [if_neg z, if_pos q1, if_pos w] at hK; exact hK
    · rw [if_neg z, if_pos q1, if_neg w] at hK
      unfold pp_M_thingAt_b41
      rw [nI_1]
      exact l2m_ta_loop H o m (t + 1) _ (by omega) hK
theorem l2m_thingAt {K : Int32 → mo_M → Prop} {x v : Int32} (H : hs_in g e0 A (hs_put h r) M) (o : rr_ok r) (hK : K (mr_ta r x (rc r 5) 0 v) M) : pp_M_thingAt g e0 K M (A 30 0 0) x v := ⟨rc r 5 + 1, l2m_ta_loop H o (rc r 5) 0 v (Nat.zero_add _) hK⟩
theorem l2m_recording {K : Int32 → mo_M → Prop} {x1 x2 : Int32} {n k : Nat} (H : hs_in g e0 A (hs_put h r) M) (h1 : x1 = nI n) (h2 : x2 = nI k) (hn : n < 16) (hk : k < 6) (hK : K (ri r 50 (6 * n + k)) M) : pp_M_recording g e0 K M (A 30 0 0) x1 x2 := by
  unfold pp_M_recording
  exact mq_gr (rs_30 H) rfl (mq_ai (rs_50 H) (by rw [h1, h2]; exact ix_6nk) (by omega) (by decide) hK)
/-- where a thing's link begins, as a number -/
def m_fr (r : rS) (t : Nat) : Nat := ix_v (ri r 31 (ix_v (ri r 44 t)))
def mr_mk (r : rS) (t n : Nat) : Bool := decide (¬ ri r 50 (6 * n + m_fr r t) ≤ 0 ∧ ¬ ri r 48 t ≤ ri r 50 (6 * n + m_fr r t))
theorem m_fr_ok (o : rr_ok r) {t : Nat} (ht : t < rc r 5) : ∃ l, l < rc r 3 ∧ ri r 44 t = nI l ∧ ri r 31 l = nI (m_fr r t) ∧ m_fr r t < rc r 1 := by
  have h3 := rr_3 o
  have h1 := rr_1 o
  obtain ⟨l, hl, el⟩ := o.2.2.2.2.2.2.2.2.1 t ht
  obtain ⟨a, ha, ea⟩ := (o.2.2.2.2.2.2.2.1 l hl).1
  have e : m_fr r t = a := by
    unfold m_fr
    rw [el, ix_vn (by omega), ea, ix_vn (by omega)]
  exact ⟨l, hl, el, by rw [e]; exact ea, by rw [e]; exact ha⟩
theorem l2m_isMarked {K : Int32 → mo_M → Prop} {x1 x2 : Int32} {t n : Nat} (H : hs_in g e0 A (hs_put h r) M) (o : rr_ok r) (h1 : x1 = nI t) (h2 : x2 = nI n) (ht : t < rc r 5) (hn : n < 16) (hK : K (zb_i (mr_mk r t n)) M) : pp_M_isMarked g e0 K M (A 30 0 0) x1 x2 := by
  have h5 := rr_5 o
  have hk1 := rr_1 o
  have h3 := rr_3 o
  obtain ⟨l, hl, el, ea, ha⟩ := m_fr_ok o ht
  unfold pp_M_isMarked
  unfold mr_mk at hK
  refine mq_gr (rs_30 H) rfl (mq_gr (rs_30 H) rfl (mq_ai (rs_44 H) h1 (by omega) (by decide) (mq_ai (rs_31 H) el (by omega) (by decide) ⟨⟨_, rs_30 H⟩, l2m_recording H h2 ea hn (by omega) ⟨fun z => ⟨rfl, ?_⟩, fun z => mq_gr (rs_30 H) rfl (mq_ai (rs_48 H) h1 (by omega) (by decide) ⟨fun w => ⟨rfl, ?_⟩, fun w => ⟨rfl, ?_⟩⟩)⟩⟩)))
  · rw [decide_eq_false (fun y => y.1 z)] at hK; exact hK
  · rw [decide_eq_false (fun y => y.2 w)] at hK; exact hK
  · rw [decide_eq_true (show ¬ ri r 50 (6 * n + m_fr r t) ≤ 0 ∧ ¬ ri r 48 t ≤ ri r 50 (6 * n + m_fr r t) from ⟨z, w⟩)] at hK; exact hK
/-- what is sent when n is recorded at k -/
def m_s1 (r : rS) (n l : Nat) : rS := m_send r (if ri r 33 l = 0 then 2 else 3) (nI l) (-1) 0 (nI n)
def mr_rl (n k : Nat) : Nat → Nat → rS → rS
  | 0, _, r => r
  | m + 1, l, r => mr_rl n k m (l + 1) (if ri r 31 l = nI k then m_s1 r n l else r)
def m_od (r : rS) (k : Nat) : Nat → Nat → Nat
  | 0, _ => 0
  | m + 1, l => (if ri r 31 l = nI k then 1 else 0) + m_od r k m (l + 1)
theorem m_od_c {r r' : rS} {k : Nat} (e : ri r' 31 = ri r 31) : ∀ m l, m_od r' k m l = m_od r k m l
  | 0, _ => rfl
  | m + 1, l => by unfold m_od; rw [e, m_od_c e m (l + 1)]
theorem s1_ok (o : rr_ok r) (hN : rc r 5 < 800) (hT : rc r 2 + 1 < 2 ^ 30) {n l : Nat} (hl : l < rc r 3) (hn : n < 16) : rr_ok (m_s1 r n l) := send_ok o hN hT ⟨l, hl, rfl⟩ (fun _ => ⟨n, hn, rfl⟩)
theorem l2m_rl_loop {K : mo_M → Prop} {n k : Nat} (hn : n < 16) (hk : k < 6) : ∀ (m l : Nat) (r : rS) (M : mo_M), hs_in g e0 A (hs_put h r) M → rr_ok r → l + m = rc r 3 → rc r 5 + m_od r k m l ≤ 800 → rc r 2 + m < 2 ^ 30 → (∀ M', hs_in g e0 A (hs_put h (mr_rl n k m l r)) M' → K M') → pp_M_record_b37 g e0 K (m + 1) M (A 30 0 0) (nI n) (nI k) (nI l)
  | 0, l, r, M, H, o, hl, hQ, hT, hK => by
    have h3 := rr_3 o
    unfold pp_M_record_b37
    refine mq_gi (rs_30 H) rfl ?_
    rw [rr_n o (show 1 ≤ 3 by decide) (by decide)]
    exact le_br (by omega) (by omega) (fun q => hK M H) (fun q => absurd q (by omega))
  | m + 1, l, r, M, H, o, hl, hQ, hT, hK => by
    have h3 := rr_3 o
    unfold pp_M_record_b37
    unfold m_od at hQ
    unfold mr_rl at hK
    refine mq_gi (rs_30 H) rfl ?_
    rw [rr_n o (show 1 ≤ 3 by decide) (by decide)]
    refine le_br (by omega) (by omega) (fun q => absurd q (by omega)) (fun q => mq_gr (rs_30 H) rfl (mq_ai (rs_31 H) rfl (by omega) (by decide) ⟨fun z => ?_, fun z => ?_⟩))
    · rw [if_pos z] at hK hQ
      have hN : rc r 5 < 800 := by omega
      have o1 := s1_ok (n := n) (l := l) o hN (by omega) q hn
      obtain ⟨-, c5, c2, co⟩ := send_c o hN (show rc r 2 + 1 < 2 ^ 30 by omega) (if ri r 33 l = 0 then 2 else 3) (nI l) (-1) 0 (nI n)
      have go : ∀ M', hs_in g e0 A (hs_put h (m_s1 r n l)) M' → pp_M_record_b37 g e0 K (m + 1) M' (A 30 0 0) (nI n) (nI k) (nI (l + 1)) := fun M' H' => by
        have k3 : rc (m_s1 r n l) 3 = rc r 3 := co 3 (by decide) (by decide)
        have k5 : rc (m_s1 r n l) 5 = rc r 5 + 1 := c5
        have k2 : rc (m_s1 r n l) 2 = rc r 2 + 1 := c2
        refine l2m_rl_loop hn hk m (l + 1) (m_s1 r n l) M' H' o1 (by omega) ?_ (by omega) hK
        rw [k5, m_od_c (r := r) (r' := m_s1 r n l) rfl]
        omega
      unfold m_s1 at go
      refine mq_gr (rs_30 H) rfl (mq_ai (rs_33 H) rfl (by omega) (by decide) ⟨fun w => ?_, fun w => ?_⟩)
      · rw [if_pos w] at go
        unfold pp_M_record_b70 pp_M_record_b77
        rw [nI_1]
        exact ⟨⟨_, rs_30 H⟩, l2m_send H o hN go⟩
      · rw [if_neg w] at go
        unfold pp_M_record_b70 pp_M_record_b77
        rw [nI_1]
        exact ⟨⟨_, rs_30 H⟩, l2m_send H o hN go⟩
    · rw [if_neg z] at hK hQ
      unfold pp_M_record_b77
      rw [nI_1]
      exact l2m_rl_loop hn hk m (l + 1) r M H o (by omega) (by omega) (by omega) hK
/-- n is marked as recorded at k now -/
def m_r1 (r : rS) (n k : Nat) : rS := m_u (m_u r 30 2 (ri r 30 2 + 1)) 50 (6 * n + k) (ri r 30 2 + 1)
def mr_record (r : rS) (n k : Nat) : rS := if ri r 50 (6 * n + k) ≤ 0 then mr_rl n k (rc r 3) 0 (m_r1 r n k) else r
theorem r1_c (o : rr_ok r) (hT : rc r 2 + 1 < 2 ^ 30) (n k : Nat) : rr_ok (m_r1 r n k) ∧ rc (m_r1 r n k) 2 = rc r 2 + 1 ∧ (∀ k', k' ≠ 2 → rc (m_r1 r n k) k' = rc r k') := by
  have i30 : ri (m_r1 r n k) 30 = upd (ri r 30) 2 (ri r 30 2 + 1) := rfl
  have n2 : ri (m_r1 r n k) 30 2 = nI (rc r 2 + 1) := by rw [i30, ← nI_1, ← rr_n o (by decide) (by decide)]; rfl
  have no : ∀ k', k' ≠ 2 → ri (m_r1 r n k) 30 k' = ri r 30 k' := fun k' h2 => by rw [i30]; unfold upd; rw [if_neg h2]
  have c2 : rc (m_r1 r n k) 2 = rc r 2 + 1 := by show ix_v (ri (m_r1 r n k) 30 2) = rc r 2 + 1; rw [n2]; exact ix_vn (by omega)
  have co : ∀ k', k' ≠ 2 → rc (m_r1 r n k) k' = rc r k' := fun k' h2 => by unfold rc; rw [no k' h2]
  refine ⟨?_, c2, co⟩
  unfold rr_ok at o ⊢
  obtain ⟨p1, p2, p3, p4, p5, p6, p7, p8, p9, p10, p11⟩ := o
  rw [c2, co 1 (by decide), co 3 (by decide), co 4 (by decide), co 5 (by decide), co 6 (by decide)]
  refine ⟨fun k' h1 h2 => ?_, p2, hT, p4, p5, p6, p7, p8, p9, p10, p11⟩
  by_cases y2 : k' = 2
  · subst y2; rw [n2, c2]
  · rw [no k' y2, co k' y2]; exact p1 k' h1 h2
theorem l2m_record {K : mo_M → Prop} {x1 x2 : Int32} {n k : Nat} (H : hs_in g e0 A (hs_put h r) M) (o : rr_ok r) (h1 : x1 = nI n) (h2 : x2 = nI k) (hn : n < 16) (hk : k < 6) (hQ : ri r 50 (6 * n + k) ≤ 0 → rc r 5 + m_od r k (rc r 3) 0 ≤ 800) (hT : rc r 2 + 13 < 2 ^ 30) (hK : ∀ M', hs_in g e0 A (hs_put h (mr_record r n k)) M' → K M') : pp_M_record g e0 K M (A 30 0 0) x1 x2 := by
  have h3 := rr_3 o
  unfold pp_M_record
  unfold mr_record at hK
  refine ⟨⟨_, rs_30 H⟩, l2m_recording H h1 h2 hn hk ⟨fun z => ?_, fun z => ?_⟩⟩
  · rw [if_pos z] at hK
    refine mq_gi (rs_30 H) rfl (mq_pt (rs_30 H) (Nat.le_of_ble_eq_true rfl) ?_)
    have H1 := rw_30_2 H (ri r 30 2 + 1)
    refine mq_gr (rs_30 H1) rfl (mq_gi (rs_30 H1) rfl (mq_si (rs_50 H1) (by rw [h1, h2]; exact ix_6nk) (by omega) (by decide) ⟨rc r 3 + 1, ?_⟩))
    have H2 := rw_50 H1 (6 * n + k) (ri r 30 2 + 1)
    obtain ⟨o1, c2, co⟩ := r1_c o (show rc r 2 + 1 < 2 ^ 30 by omega) n k
    rw [h1, h2]
    refine l2m_rl_loop hn hk (rc r 3) 0 (m_r1 r n k) _ H2 o1 (by rw [co 3 (by decide)]; omega) ?_ (by rw [c2]; omega) hK
    rw [co 5 (by decide), m_od_c (r := r) (r' := m_r1 r n k) rfl]
    exact hQ z
  · rw [if_neg z] at hK
    exact hK M H
end RF3
