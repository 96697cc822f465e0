section RF4
variable {g : Nat → ClassId} {e0 : Nat → Nat} {A : hs_A} {h : hs_S} {r : rS} {M : mo_M}
def sm_n (F : Nat → Nat) : Nat → Nat
  | 0 => 0
  | n + 1 => sm_n F n + F n
theorem sm_nc {F G : Nat → Nat} : ∀ {n : Nat}, (∀ i, i < n → F i = G i) → sm_n F n = sm_n G n
  | 0, _ => rfl
  | n + 1, q => by
    show sm_n F n + F n = sm_n G n + G n
    rw [sm_nc (fun i hi => q i (Nat.lt_succ_of_lt hi)), q n (Nat.lt_succ_self n)]
theorem sm_na (F G : Nat → Nat) : ∀ n : Nat, sm_n (fun i => F i + G i) n = sm_n F n + sm_n G n
  | 0 => rfl
  | n + 1 => by
    show sm_n (fun i => F i + G i) n + (F n + G n) = (sm_n F n + F n) + (sm_n G n + G n)
    rw [sm_na F G n]
    omega
theorem sm_n1 {F G : Nat → Nat} {d k : Nat} : ∀ {n : Nat}, k < n → (∀ i, i < n → i ≠ k → F i = G i) → F k + d = G k → sm_n F n + d = sm_n G n
  | 0, hk, _, _ => absurd hk (by omega)
  | n + 1, hk, q, e => by
    show sm_n F n + F n + d = sm_n G n + G n
    by_cases y : k = n
    · subst y
      rw [sm_nc (fun i hi => q i (by omega) (by omega))]
      omega
    · have := sm_n1 (n := n) (d := d) (show k < n by omega) (fun i hi hne => q i (by omega) hne) e
      rw [q n (by omega) (by omega)]
      omega
theorem sm_nz {F : Nat → Nat} : ∀ {n : Nat}, (∀ i, i < n → F i = 0) → sm_n F n = 0
  | 0, _ => rfl
  | n + 1, q => by
    show sm_n F n + F n = 0
    rw [sm_nz (fun i hi => q i (Nat.lt_succ_of_lt hi)), q n (Nat.lt_succ_self n)]
theorem sm_nx {F : Nat → Nat} {L : Nat} : ∀ {n : Nat}, L ≤ n → (∀ i, L ≤ i → i < n → F i = 0) → sm_n F n = sm_n F L
  | 0, hL, _ => by have : L = 0 := by omega
                   rw [this]
  | n + 1, hL, q => by
    by_cases y : L = n + 1
    · rw [y]
    · show sm_n F n + F n = sm_n F L
      rw [q n (by omega) (by omega), sm_nx (n := n) (by omega) (fun i h1 h2 => q i h1 (by omega))]
      rfl
theorem od_sm {r : rS} {k : Nat} : ∀ m l, sm_n (fun i => if ri r 31 i = nI k then 1 else 0) (l + m) = sm_n (fun i => if ri r 31 i = nI k then 1 else 0) l + m_od r k m l
  | 0, l => rfl
  | m + 1, l => by
    have := od_sm (r := r) (k := k) m (l + 1)
    have e1 : m_od r k (m + 1) l = (if ri r 31 l = nI k then 1 else 0) + m_od r k m (l + 1) := rfl
    have e2 : sm_n (fun i => if ri r 31 i = nI k then 1 else 0) (l + 1) = sm_n (fun i => if ri r 31 i = nI k then 1 else 0) l + (if ri r 31 l = nI k then 1 else 0) := rfl
    rw [show l + (m + 1) = l + 1 + m by omega, this, e1, e2]
    omega
/-- what a recording sends leaves the rest -/
theorem s1_i (r : rS) (n l f : Nat) (hf : f < 43 ∧ f ≠ 30 ∨ 49 < f) : ri (m_s1 r n l) f = ri r f := by
  unfold m_s1 m_send
  rw [ri_u, if_neg (by omega), ri_u, if_neg (by omega), ri_u, if_neg (by omega), ri_u, if_neg (by omega), ri_u, if_neg (by omega), ri_u, if_neg (by omega), ri_u, if_neg (by omega), ri_u, if_neg (by omega), ri_u, if_neg (by omega)]
theorem s1_o (r : rS) (n l f t : Nat) (hf : 43 ≤ f ∧ f ≤ 49) (ht : t ≠ rc r 5) : ri (m_s1 r n l) f t = ri r f t := by
  have : f = 43 ∨ f = 44 ∨ f = 45 ∨ f = 46 ∨ f = 47 ∨ f = 48 ∨ f = 49 := by omega
  rcases this with rfl | rfl | rfl | rfl | rfl | rfl | rfl <;> exact if_neg ht
theorem s1_l (r : rS) (n l f : Nat) : rl (m_s1 r n l) f = rl r f := rfl
theorem rl_c {n k : Nat} (hn : n < 16) : ∀ (m l : Nat) (r : rS), rr_ok r → l + m = rc r 3 → rc r 5 + m_od r k m l ≤ 800 → rc r 2 + m < 2 ^ 30 → rr_ok (mr_rl n k m l r) ∧ rc (mr_rl n k m l r) 5 = rc r 5 + m_od r k m l ∧ rc (mr_rl n k m l r) 2 = rc r 2 + m_od r k m l ∧ (∀ k', k' ≠ 2 → k' ≠ 5 → rc (mr_rl n k m l r) k' = rc r k') ∧ (∀ f, f < 43 ∧ f ≠ 30 ∨ 49 < f → ri (mr_rl n k m l r) f = ri r f) ∧ (∀ f, rl (mr_rl n k m l r) f = rl r f) ∧ (∀ f t, 43 ≤ f ∧ f ≤ 49 → t < rc r 5 → ri (mr_rl n k m l r) f t = ri r f t)
  | 0, l, r, o, hl, hQ, hT => ⟨o, rfl, rfl, fun _ _ _ => rfl, fun _ _ => rfl, fun _ => rfl, fun _ _ _ _ => rfl⟩
  | m + 1, l, r, o, hl, hQ, hT => by
    unfold m_od at hQ ⊢
    unfold mr_rl
    by_cases z : ri r 31 l = nI k
    · rw [if_pos z, if_pos z]
      rw [if_pos z] at hQ
      have hN : rc r 5 < 800 := by omega
      have o1 := s1_ok (n := n) (l := l) o hN (by omega) (by omega) hn
      obtain ⟨-, c5, c2, co⟩ := send_c o hN (show rc r 2 + 1 < 2 ^ 30 by omega) (if ri r 33 l = 0 then 2 else 3) (nI l) (-1) 0 (nI n)
      have k3 : rc (m_s1 r n l) 3 = rc r 3 := co 3 (by decide) (by decide)
      have k5 : rc (m_s1 r n l) 5 = rc r 5 + 1 := c5
      have k2 : rc (m_s1 r n l) 2 = rc r 2 + 1 := c2
      have ed := m_od_c (r := r) (r' := m_s1 r n l) (k := k) rfl m (l + 1)
      obtain ⟨q1, q2, q3, q4, q5, q6, q7⟩ := rl_c (k := k) hn m (l + 1) (m_s1 r n l) o1 (by omega) (by rw [k5, ed]; omega) (by omega)
      refine ⟨q1, by rw [q2, k5, ed]; omega, by rw [q3, k2, ed]; omega, fun k' h2 h5 => (q4 k' h2 h5).trans (co k' h2 h5), fun f hf => (q5 f hf).trans (s1_i r n l f hf), fun f => q6 f, fun f t hf ht => (q7 f t hf (by omega)).trans (s1_o r n l f t hf (by omega))⟩
    · rw [if_neg z, if_neg z]
      rw [if_neg z] at hQ
      obtain ⟨q1, q2, q3, q4, q5, q6, q7⟩ := rl_c (k := k) hn m (l + 1) r o (by omega) (by omega) (by omega)
      exact ⟨q1, by rw [q2]; omega, by rw [q3]; omega, q4, q5, q6, q7⟩
/-- what may still be announced -/
def m_uc (r : rS) (n l : Nat) : Nat := if l < rc r 3 ∧ ¬ ri r 50 (6 * n + ix_v (ri r 31 l)) ≤ 0 then 0 else 1
def m_U (r : rS) : Nat := sm_n (fun n => sm_n (m_uc r n) 12) 16
theorem mU_c {r r' : rS} (e3 : rc r' 3 = rc r 3) (e31 : ri r' 31 = ri r 31) (e50 : ri r' 50 = ri r 50) : m_U r' = m_U r := by
  unfold m_U m_uc
  rw [e3, e31, e50]
theorem mU_r1 (o : rr_ok r) (hT : rc r 2 + 1 < 2 ^ 30) {n k : Nat} (hn : n < 16) (hk : k < rc r 1) (hr : ri r 50 (6 * n + k) ≤ 0) : m_U (m_r1 r n k) + m_od r k (rc r 3) 0 = m_U r := by
  obtain ⟨o1, c2, co⟩ := r1_c o hT n k
  have h3 := rr_3 o
  have h1 := rr_1 o
  have i50 : ri (m_r1 r n k) 50 = upd (ri r 50) (6 * n + k) (ri r 30 2 + 1) := rfl
  have i31 : ri (m_r1 r n k) 31 = ri r 31 := rfl
  have fr : ∀ l, l < rc r 3 → ix_v (ri r 31 l) < rc r 1 ∧ ri r 31 l = nI (ix_v (ri r 31 l)) := fun l hl => by
    obtain ⟨a, ha, ea⟩ := (o.2.2.2.2.2.2.2.1 l hl).1
    rw [ea, ix_vn (by omega)]
    exact ⟨ha, rfl⟩
  have pos : ¬ ri r 30 2 + 1 ≤ 0 := by
    rw [rr_n o (by decide) (by decide), nI_1]
    exact nI_nle (by omega) (by omega)
  have eod : m_od r k (rc r 3) 0 = sm_n (fun l => if l < rc r 3 ∧ ri r 31 l = nI k then 1 else 0) 12 := by
    have e1 := od_sm (r := r) (k := k) (rc r 3) 0
    rw [Nat.zero_add] at e1
    have e2 : sm_n (fun i => if ri r 31 i = nI k then 1 else 0) 0 = 0 := rfl
    rw [e2, Nat.zero_add] at e1
    rw [← e1, sm_nx h3 (fun i h1 h2 => by rw [if_neg (by omega)])]
    exact sm_nc (fun i hi => by
      by_cases y : ri r 31 i = nI k
      · rw [if_pos y, if_pos ⟨hi, y⟩]
      · rw [if_neg y, if_neg (fun z => y z.2)])
  unfold m_U
  refine sm_n1 (k := n) (by omega) (fun n' hn' hne => sm_nc (fun l hl => ?_)) ?_
  · unfold m_uc
    rw [co 3 (by decide), i50, i31]
    by_cases y : l < rc r 3
    · have := (fr l y).1
      unfold upd
      rw [if_neg (show ¬ 6 * n' + ix_v (ri r 31 l) = 6 * n + k by omega)]
    · rw [if_neg (fun z => y z.1), if_neg (fun z => y z.1)]
  · rw [eod, ← sm_na]
    refine sm_nc (fun l hl => ?_)
    unfold m_uc
    rw [co 3 (by decide), i50, i31]
    by_cases y : l < rc r 3
    · obtain ⟨f1, f2⟩ := fr l y
      unfold upd
      by_cases z : ri r 31 l = nI k
      · have ek : ix_v (ri r 31 l) = k := by rw [z]; exact ix_vn (by omega)
        rw [ek, if_pos rfl, if_pos ⟨y, pos⟩, if_pos ⟨y, z⟩, if_neg (fun w => w.2 hr)]
      · have ek : ¬ 6 * n + ix_v (ri r 31 l) = 6 * n + k := fun w => z (by rw [f2]; congr 1; omega)
        rw [if_neg ek, if_neg (fun w : l < rc r 3 ∧ ri r 31 l = nI k => z w.2)]
        rfl
    · rw [if_neg (fun z => y z.1), if_neg (fun z => y z.1), if_neg (fun z => y z.1)]
/-- a recording: counts and rows -/
theorem rec_c (o : rr_ok r) {n k : Nat} (hn : n < 16) (hk : k < rc r 1) (hU : rc r 5 + m_U r ≤ 800) (hT : rc r 2 + 13 < 2 ^ 30) : rr_ok (mr_record r n k) ∧ rc (mr_record r n k) 5 + m_U (mr_record r n k) = rc r 5 + m_U r ∧ rc (mr_record r n k) 2 ≤ rc r 2 + 13 ∧ (∀ k', k' ≠ 2 → k' ≠ 5 → rc (mr_record r n k) k' = rc r k') ∧ (∀ f, f < 43 ∧ f ≠ 30 ∨ 49 < f ∧ f ≠ 50 → ri (mr_record r n k) f = ri r f) ∧ (∀ f, rl (mr_record r n k) f = rl r f) ∧ (∀ f t, 43 ≤ f ∧ f ≤ 49 → t < rc r 5 → ri (mr_record r n k) f t = ri r f t) ∧ rc r 5 ≤ rc (mr_record r n k) 5 ∧ rc r 2 ≤ rc (mr_record r n k) 2 := by
  unfold mr_record
  by_cases z : ri r 50 (6 * n + k) ≤ 0
  · rw [if_pos z]
    have h3 := rr_3 o
    obtain ⟨o1, c2, co⟩ := r1_c o (show rc r 2 + 1 < 2 ^ 30 by omega) n k
    have eU := mU_r1 o (by omega) hn hk z
    have ed := m_od_c (r := r) (r' := m_r1 r n k) (k := k) rfl (rc r 3) 0
    obtain ⟨q1, q2, q3, q4, q5, q6, q7⟩ := rl_c (k := k) hn (rc r 3) 0 (m_r1 r n k) o1 (by rw [co 3 (by decide)]; omega) (by rw [co 5 (by decide), ed]; omega) (by rw [c2]; omega)
    have od12 : m_od r k (rc r 3) 0 ≤ rc r 3 := by
      have : ∀ m l, m_od r k m l ≤ m := fun m => by
        induction m with
        | zero => intro l; exact Nat.le_refl _
        | succ m ih =>
          intro l
          unfold m_od
          have := ih (l + 1)
          split <;> omega
      exact this _ _
    have eUU : m_U (mr_rl n k (rc r 3) 0 (m_r1 r n k)) = m_U (m_r1 r n k) := mU_c (q4 3 (by decide) (by decide)) (q5 31 (by omega)) (q5 50 (by omega))
    rw [ed] at q2 q3
    rw [co 5 (by decide)] at q2
    rw [c2] at q3
    refine ⟨q1, by omega, by omega, fun k' h2 h5 => (q4 k' h2 h5).trans (co k' h2), fun f hf => ?_, fun f => q6 f, fun f t hf ht => ?_, by omega, by omega⟩
    · rw [q5 f (by omega)]
      unfold m_r1
      rw [ri_u, if_neg (by omega), ri_u, if_neg (by omega)]
    · rw [q7 f t hf (by rw [co 5 (by decide)]; exact ht)]
      unfold m_r1
      rw [ri_u, if_neg (by omega), ri_u, if_neg (by omega)]
  · rw [if_neg z]
    exact ⟨o, rfl, by omega, fun _ _ _ => rfl, fun _ _ => rfl, fun _ => rfl, fun _ _ _ _ => rfl, Nat.le_refl _, Nat.le_refl _⟩
theorem rcd_q (o : rr_ok r) {n k : Nat} (hn : n < 16) (hk : k < rc r 1) (hU : rc r 5 + m_U r ≤ 800) (hT : rc r 2 + 13 < 2 ^ 30) : ri r 50 (6 * n + k) ≤ 0 → rc r 5 + m_od r k (rc r 3) 0 ≤ 800 := fun z => by
  have := mU_r1 o (by omega) hn hk z
  omega
def mr_snap (r : rS) (x : Int32) : Int32 × rS := if (ix_n x (rc r 1)).isSome = true ∧ rc r 6 < 16 then (nI (rc r 6), mr_record (m_u (m_t r 0) 30 6 (ri r 30 6 + 1)) (rc r 6) (ix_v x)) else (-1, m_t r 0)
theorem u6_ok (o : rr_ok r) (hS : rc r 6 < 16) : rr_ok (m_u r 30 6 (ri r 30 6 + 1)) ∧ rc (m_u r 30 6 (ri r 30 6 + 1)) 6 = rc r 6 + 1 ∧ (∀ k, k ≠ 6 → rc (m_u r 30 6 (ri r 30 6 + 1)) k = rc r k) := by
  have i30 : ri (m_u r 30 6 (ri r 30 6 + 1)) 30 = upd (ri r 30) 6 (ri r 30 6 + 1) := rfl
  have n6 : ri (m_u r 30 6 (ri r 30 6 + 1)) 30 6 = nI (rc r 6 + 1) := by rw [i30, ← nI_1, ← rr_n o (by decide) (by decide)]; rfl
  have no : ∀ k, k ≠ 6 → ri (m_u r 30 6 (ri r 30 6 + 1)) 30 k = ri r 30 k := fun k h2 => by rw [i30]; unfold upd; rw [if_neg h2]
  have c6 : rc (m_u r 30 6 (ri r 30 6 + 1)) 6 = rc r 6 + 1 := by show ix_v (ri (m_u r 30 6 (ri r 30 6 + 1)) 30 6) = rc r 6 + 1; rw [n6]; exact ix_vn (by omega)
  have co : ∀ k, k ≠ 6 → rc (m_u r 30 6 (ri r 30 6 + 1)) k = rc r k := fun k h2 => by unfold rc; rw [no k h2]
  refine ⟨?_, c6, co⟩
  unfold rr_ok at o ⊢
  obtain ⟨p1, p2, p3, p4, p5, p6, p7, p8, p9, p10, p11⟩ := o
  rw [c6, co 1 (by decide), co 2 (by decide), co 3 (by decide), co 4 (by decide), co 5 (by decide)]
  refine ⟨fun k' h1 h2 => ?_, p2, p3, p4, p5, p6, hS, p8, p9, p10, p11⟩
  by_cases y2 : k' = 6
  · subst y2; rw [n6, c6]
  · rw [no k' y2, co k' y2]; exact p1 k' h1 h2
theorem l2m_snap {K : Int32 → mo_M → Prop} {x : Int32} (H : hs_in g e0 A (hs_put h r) M) (o : rr_ok r) (hU : rc r 5 + m_U r ≤ 800) (hT : rc r 2 + 13 < 2 ^ 30) (hK : ∀ M', hs_in g e0 A (hs_put h (mr_snap r x).2) M' → K (mr_snap r x).1 M') : pp_M_snap g e0 K M (A 30 0 0) x := by
  unfold pp_M_snap
  unfold mr_snap at hK
  have o1 := mt_ok r 0 o
  refine mq_pt (rs_30 H) (Nat.le_of_ble_eq_true rfl) ?_
  have H1 := rw_30_0 H 0
  change hs_in g e0 A (hs_put h (m_t r 0)) _ at H1
  have e6 : ri (m_t r 0) 30 6 = ri r 30 6 := mt_n r 0 (by decide)
  have hU1 : rc (m_t r 0) 5 + m_U (m_t r 0) ≤ 800 := by
    rw [mt_c r 0 (by decide), mU_c (r := r) (r' := m_t r 0) (mt_c r 0 (by decide)) (mt_i r 0 (by decide)) (mt_i r 0 (by decide))]
    exact hU
  rw [← e6] at hK
  rw [← mt_c r 0 (show 2 ≠ 0 by decide)] at hT
  rw [← mt_c r 0 (show 1 ≠ 0 by decide), ← mt_c r 0 (show 6 ≠ 0 by decide)] at hK
  clear e6
  generalize m_t r 0 = r1 at H1 o1 hK hU1 hT
  have h6 := rr_6 o1
  have hk1 := rr_1 o1
  refine ⟨⟨_, rs_30 H1⟩, l2m_isKiosk H1 o1 (zb_br (fun q1 => ?_) (fun q1 => mq_gi (rs_30 H1) rfl ⟨fun q2 => ?_, fun q2 => ?_⟩))⟩
  · rw [if_neg (fun y => by rw [y.1] at q1; cases q1)] at hK; exact hK _ H1
  · rw [rr_n o1 (by decide) (by decide), show (16 : Int32) = nI 16 from rfl, nI_eq (by omega) (by decide)] at q2
    rw [if_neg (fun y => by have := y.2; omega)] at hK; exact hK _ H1
  · rw [rr_n o1 (by decide) (by decide), show (16 : Int32) = nI 16 from rfl, nI_eq (by omega) (by decide)] at q2
    have l6 : rc r1 6 < 16 := by omega
    rw [if_pos ⟨q1, l6⟩] at hK
    obtain ⟨k, hk0⟩ := Option.isSome_iff_exists.mp q1
    obtain ⟨ek, lk⟩ := (ix_some (by omega)).mp hk0
    have vk : ix_v x = k := by rw [ek]; exact ix_vn (by omega)
    rw [vk] at hK
    refine mq_gi (rs_30 H1) rfl (mq_pt (rs_30 H1) (Nat.le_of_ble_eq_true rfl) ?_)
    have H2 := rw_30_6 H1 (ri r1 30 6 + 1)
    obtain ⟨o2, c6, co⟩ := u6_ok o1 l6
    have hU2 : rc (m_u r1 30 6 (ri r1 30 6 + 1)) 5 + m_U (m_u r1 30 6 (ri r1 30 6 + 1)) ≤ 800 := by
      rw [co 5 (by decide), mU_c (r := r1) (r' := m_u r1 30 6 (ri r1 30 6 + 1)) (co 3 (by decide)) rfl rfl]
      exact hU1
    have hT2 : rc (m_u r1 30 6 (ri r1 30 6 + 1)) 2 + 13 < 2 ^ 30 := by rw [co 2 (by decide)]; exact hT
    have hk2 : k < rc (m_u r1 30 6 (ri r1 30 6 + 1)) 1 := by rw [co 1 (by decide)]; exact lk
    have e6 : ri r1 30 6 + 1 - 1 = nI (rc r1 6) := by rw [rr_n o1 (by decide) (by decide), nI_1, nI_pred]
    have n6 : ri (m_u r1 30 6 (ri r1 30 6 + 1)) 30 6 = ri r1 30 6 + 1 := rfl
    refine mq_gi (rs_30 H2) rfl ⟨⟨_, rs_30 H2⟩, ?_⟩
    refine l2m_record H2 o2 (n := rc r1 6) (k := k) (by rw [n6]; exact e6) ek l6 (by omega) (rcd_q o2 l6 hk2 hU2 hT2) hT2 (fun M' H' => mq_gi (rs_30 H') rfl ?_)
    obtain ⟨o3, -, -, co3, -⟩ := rec_c o2 l6 hk2 hU2 hT2
    rw [rr_n o3 (by decide) (by decide), co3 6 (by decide) (by decide), c6, nI_pred]
    exact hK _ H'
def mr_bc (r : rS) (x : Int32) (t : Nat) : Int32 := if mr_there r x t = true ∧ ri r 43 t = 1 then 1 else 0
def mr_bg (r : rS) (x1 x2 x3 : Int32) : rS := m_send (m_note r (ri r 31 (ix_v x1)) x2 (-x3).toInt64 0 0) 1 x1 x2 x3 (-1)
theorem l2m_bag_loop {K : Int32 → mo_M → Prop} {x1 x2 x3 : Int32} {l : Nat} (H : hs_in g e0 A (hs_put h r) M) (o : rr_ok r) (e1 : x1 = nI l) (hl : l < rc r 3) (hN : rc r 4 < 1100) (hQ : rc r 5 < 800) (hT : rc r 2 + 1 < 2 ^ 30) (h16 : sm_i (mr_bc r x1) (rc r 5) = 16 → K 0 M) (hK : ¬ sm_i (mr_bc r x1) (rc r 5) = 16 → ∀ M', hs_in g e0 A (hs_put h (mr_bg r x1 x2 x3)) M' → K 1 M') : ∀ m t, t + m = rc r 5 → pp_M_bag_b36 g e0 K (m + 1) M (A 30 0 0) x1 x2 x3 (sm_i (mr_bc r x1) t) (nI t)
  | 0, t, ht => by
    have h5 := rr_5 o
    have h3 := rr_3 o
    unfold pp_M_bag_b36
    refine mq_gi (rs_30 H) rfl ?_
    rw [rr_n o (show 1 ≤ 5 by decide) (by decide)]
    refine le_br (by omega) (by omega) (fun q => ?_) (fun q => absurd q (by omega))
    have e : t = rc r 5 := by omega
    rw [e]
    refine ⟨fun z => ⟨rfl, h16 z⟩, fun z => ?_⟩
    refine mq_gr (rs_30 H) rfl (mq_ai (rs_31 H) e1 (by omega) (by decide) ⟨⟨_, rs_30 H⟩, l2m_note H o hN (fun M1 H1 => ?_)⟩)
    obtain ⟨o1, c4, c2⟩ := note_ok o hN hT (ri r 31 l) x2 (-x3).toInt64 0 0
    have c5 : rc (m_note r (ri r 31 l) x2 (-x3).toInt64 0 0) 5 = rc r 5 := rfl
    refine ⟨⟨_, rs_30 H1⟩, l2m_send H1 o1 (by rw [c5]; exact hQ) (fun M2 H2 => ⟨rfl, hK z M2 ?_⟩)⟩
    unfold mr_bg
    rw [show ix_v x1 = l by rw [e1]; exact ix_vn (by omega)]
    exact H2
  | m + 1, t, ht => by
    have h5 := rr_5 o
    unfold pp_M_bag_b36
    refine mq_gi (rs_30 H) rfl ?_
    rw [rr_n o (show 1 ≤ 5 by decide) (by decide)]
    refine le_br (by omega) (by omega) (fun q => absurd q (by omega)) (fun q => ⟨⟨_, rs_30 H⟩, l2m_isThere H rfl (by omega) ?_⟩)
    have go : pp_M_bag_b36 g e0 K (m + 1) M (A 30 0 0) x1 x2 x3 (sm_i (mr_bc r x1) t + mr_bc r x1 t) (nI (t + 1)) := l2m_bag_loop H o e1 hl hN hQ hT h16 hK m (t + 1) (by omega)
    unfold pp_M_bag_b72 pp_M_bag_b73
    simp only [nI_1]
    unfold mr_bc at go
    refine zb_br (fun q1 => ?_) (fun q1 => mq_gr (rs_30 H) rfl (mq_ai (rs_43 H) rfl (by omega) (by decide) ⟨fun z => ?_, fun z => ?_⟩))
    · rw [if_neg (fun y => by rw [y.1] at q1; cases q1)] at go; exact go
    · rw [if_pos ⟨q1, z⟩] at go; exact go
    · rw [if_neg (fun y => z y.2)] at go; exact go
def mr_bag (r : rS) (x1 x2 x3 : Int32) : Int32 × rS := if (ix_n x1 (rc r 3)).isSome = true ∧ mr_has r (ri r 31 (ix_v x1)) x2 x3 = true ∧ ¬ sm_i (mr_bc r x1) (rc r 5) = 16 then (1, mr_bg r x1 x2 x3) else (0, r)
theorem l2m_bag {K : Int32 → mo_M → Prop} {x1 x2 x3 : Int32} (H : hs_in g e0 A (hs_put h r) M) (o : rr_ok r) (hN : rc r 4 < 1100) (hQ : rc r 5 < 800) (hT : rc r 2 + 1 < 2 ^ 30) (hK : ∀ M', hs_in g e0 A (hs_put h (mr_bag (m_t r 0) x1 x2 x3).2) M' → K (mr_bag (m_t r 0) x1 x2 x3).1 M') : pp_M_bag g e0 K M (A 30 0 0) x1 x2 x3 := by
  unfold pp_M_bag
  unfold mr_bag at hK
  have o1 := mt_ok r 0 o
  refine mq_pt (rs_30 H) (Nat.le_of_ble_eq_true rfl) ?_
  have H1 := rw_30_0 H 0
  change hs_in g e0 A (hs_put h (m_t r 0)) _ at H1
  rw [← mt_c r 0 (show 4 ≠ 0 by decide)] at hN
  rw [← mt_c r 0 (show 5 ≠ 0 by decide)] at hQ
  rw [← mt_c r 0 (show 2 ≠ 0 by decide)] at hT
  generalize m_t r 0 = r1 at H1 o1 hK hN hQ hT
  have h3 := rr_3 o1
  refine ⟨⟨_, rs_30 H1⟩, l2m_isLink H1 o1 (zb_br (fun q1 => ⟨rfl, ?_⟩) (fun q1 => ?_))⟩
  · rw [if_neg (fun y => by rw [y.1] at q1; cases q1)] at hK; exact hK _ H1
  · obtain ⟨l, hl0⟩ := Option.isSome_iff_exists.mp q1
    obtain ⟨el, ll⟩ := (ix_some (by omega)).mp hl0
    have vl : ix_v x1 = l := by rw [el]; exact ix_vn (by omega)
    refine mq_gr (rs_30 H1) rfl (mq_ai (rs_31 H1) el (by omega) (by decide) ⟨⟨_, rs_30 H1⟩, l2m_has H1 o1 ?_⟩)
    refine zb_br (fun q2 => ⟨rfl, ?_⟩) (fun q2 => ⟨rc r1 5 + 1, l2m_bag_loop H1 o1 el ll hN hQ hT (fun z => ?_) (fun z M' H' => ?_) (rc r1 5) 0 (Nat.zero_add _)⟩)
    · rw [if_neg (fun y => by have := y.2.1; rw [vl, q2] at this; cases this)] at hK; exact hK _ H1
    · rw [if_neg (fun y => y.2.2 z)] at hK; exact hK _ H1
    · rw [if_pos ⟨q1, by rw [vl]; exact q2, z⟩] at hK; exact hK _ H'
def mr_recorded (r : rS) (x1 x2 : Int32) : Int32 := if (ix_n x1 (rc r 6)).isSome = true ∧ (ix_n x2 (rc r 1)).isSome = true ∧ ¬ ri r 50 (6 * ix_v x1 + ix_v x2) ≤ 0 then 1 else 0
theorem l2m_recorded {K : Int32 → mo_M → Prop} {x1 x2 : Int32} (H : hs_in g e0 A (hs_put h r) M) (o : rr_ok r) (hK : ∀ M', hs_in g e0 A (hs_put h (m_t r 0)) M' → K (mr_recorded (m_t r 0) x1 x2) M') : pp_M_recorded g e0 K M (A 30 0 0) x1 x2 := by
  unfold pp_M_recorded
  unfold mr_recorded at hK
  have o1 := mt_ok r 0 o
  refine mq_pt (rs_30 H) (Nat.le_of_ble_eq_true rfl) ?_
  have H1 := rw_30_0 H 0
  change hs_in g e0 A (hs_put h (m_t r 0)) _ at H1
  generalize m_t r 0 = r1 at H1 o1 hK
  have h6 := rr_6 o1
  have h1 := rr_1 o1
  refine ⟨⟨_, rs_30 H1⟩, l2m_isNumber H1 o1 (zb_br (fun q1 => ⟨rfl, ?_⟩) (fun q1 => ⟨⟨_, rs_30 H1⟩, l2m_isKiosk H1 o1 (zb_br (fun q2 => ⟨rfl, ?_⟩) (fun q2 => ⟨⟨_, rs_30 H1⟩, ?_⟩))⟩))⟩
  · rw [if_neg (fun y => by rw [y.1] at q1; cases q1)] at hK; exact hK _ H1
  · rw [if_neg (fun y => by rw [y.2.1] at q2; cases q2)] at hK; exact hK _ H1
  · obtain ⟨n, hn0⟩ := Option.isSome_iff_exists.mp q1
    obtain ⟨en, ln⟩ := (ix_some (by omega)).mp hn0
    obtain ⟨k, hk0⟩ := Option.isSome_iff_exists.mp q2
    obtain ⟨ek, lk⟩ := (ix_some (by omega)).mp hk0
    have vn : ix_v x1 = n := by rw [en]; exact ix_vn (by omega)
    have vk : ix_v x2 = k := by rw [ek]; exact ix_vn (by omega)
    rw [vn, vk] at hK
    refine l2m_recording H1 en ek (by omega) (by omega) ⟨fun z => ⟨rfl, ?_⟩, fun z => ⟨rfl, ?_⟩⟩
    · rw [if_neg (fun y => y.2.2 z)] at hK; exact hK _ H1
    · rw [if_pos ⟨q1, q2, z⟩] at hK; exact hK _ H1
end RF4
