section RF7
variable {g : Nat → ClassId} {e0 : Nat → Nat} {A : hs_A} {h : hs_S} {r : rS} {M : mo_M}
/-- thing t on the road of n, if it is -/
abbrev mr_rdP (r : rS) (n l : Nat) (x3 x4 x5 : Int32) (t : Nat) : Prop := ri r 44 t = nI l ∧ ri r 43 t = 1 ∧ ri r 45 t = x3 ∧ x4 ≤ ri r 49 t ∧ ((ri r 33 l = 0 ∧ mr_mk r t n = false) ∨ (¬ ri r 33 l = 0 ∧ (x5 = 0 ∨ ¬ x5 ≤ ri r 49 t)))
def mr_rdF (r : rS) (n l : Nat) (x3 x4 x5 : Int32) (t : Nat) : Int64 := if mr_rdP r n l x3 x4 x5 t then (ri r 46 t).toInt64 else 0
theorem l2m_rd_loop {K : Int64 → mo_M → Prop} {x1 x2 x3 x4 x5 : Int32} {n l : Nat} (H : hs_in g e0 A (hs_put h r) M) (o : rr_ok r) (e1 : x1 = nI n) (e2 : x2 = nI l) (hn : n < 16) (hl : l < rc r 3) (h4 : ¬ x4 ≤ 0) (hK : K (sm_l (mr_rdF r n l x3 x4 x5) (rc r 5)) M) : ∀ m t, t + m = rc r 5 → pp_M_roadOf_b40 g e0 K (m + 1) M (A 30 0 0) x1 x2 x3 x4 x5 (sm_l (mr_rdF r n l x3 x4 x5) t) (nI t)
  | 0, t, ht => by
    have h5 := rr_5 o
    unfold pp_M_roadOf_b40
    refine mq_gi (rs_30 H) rfl ?_
    rw [rr_n o (show 1 ≤ 5 by decide) (by decide)]
    refine le_br (by omega) (by omega) (fun q => ?_) (fun q => absurd q (by omega))
    have e : t = rc r 5 := by omega
    rw [e]
    exact hK
  | m + 1, t, ht => by
    have h5 := rr_5 o
    have h3 := rr_3 o
    unfold pp_M_roadOf_b40
    refine mq_gi (rs_30 H) rfl ?_
    rw [rr_n o (show 1 ≤ 5 by decide) (by decide)]
    have go : pp_M_roadOf_b40 g e0 K (m + 1) M (A 30 0 0) x1 x2 x3 x4 x5 (sm_l (mr_rdF r n l x3 x4 x5) t + mr_rdF r n l x3 x4 x5 t) (nI (t + 1)) := l2m_rd_loop H o e1 e2 hn hl h4 hK m (t + 1) (by omega)
    unfold pp_M_roadOf_b128 pp_M_roadOf_b151 pp_M_roadOf_b172 pp_M_roadOf_b175
    simp only [nI_1]
    have skip : ¬ mr_rdP r n l x3 x4 x5 t → pp_M_roadOf_b40 g e0 K (m + 1) M (A 30 0 0) x1 x2 x3 x4 x5 (sm_l (mr_rdF r n l x3 x4 x5) t) (nI (t + 1)) := fun z => by
      rw [show mr_rdF r n l x3 x4 x5 t = 0 from if_neg z, Int64.add_zero] at go
      exact go
    have skip0 : ¬ mr_rdP r n l x3 x4 x5 t → pp_M_roadOf_b40 g e0 K (m + 1) M (A 30 0 0) x1 x2 x3 x4 x5 (sm_l (mr_rdF r n l x3 x4 x5) t + 0) (nI (t + 1)) := fun z => by
      rw [show mr_rdF r n l x3 x4 x5 t = 0 from if_neg z] at go
      exact go
    have take : mr_rdP r n l x3 x4 x5 t → mp_gr M (A 30 0 0) 4 21 (fun v25 => mp_ai (g 0) M v25 (nI t) (fun v26 => pp_M_roadOf_b40 g e0 K (m + 1) M (A 30 0 0) x1 x2 x3 x4 x5 (sm_l (mr_rdF r n l x3 x4 x5) t + v26.toInt64) (nI (t + 1)))) := fun z => by
      rw [show mr_rdF r n l x3 x4 x5 t = (ri r 46 t).toInt64 from if_pos z] at go
      exact mq_gr (rs_30 H) rfl (mq_ai (rs_46 H) rfl (by omega) (by decide) go)
    refine le_br (by omega) (by omega) (fun q => absurd q (by omega)) (fun q => ⟨fun z => absurd z h4, fun _ => ?_⟩)
    refine mq_gr (rs_30 H) rfl (mq_ai (rs_44 H) rfl (by omega) (by decide) ⟨fun z1 => ?_, fun z1 => skip (fun y => z1 (by rw [e2]; exact y.1))⟩)
    refine mq_gr (rs_30 H) rfl (mq_ai (rs_43 H) rfl (by omega) (by decide) ⟨fun z2 => ?_, fun z2 => skip (fun y => z2 y.2.1)⟩)
    refine mq_gr (rs_30 H) rfl (mq_ai (rs_45 H) rfl (by omega) (by decide) ⟨fun z3 => ?_, fun z3 => skip (fun y => z3 y.2.2.1)⟩)
    refine mq_gr (rs_30 H) rfl (mq_ai (rs_49 H) rfl (by omega) (by decide) ⟨fun z4 => ?_, fun z4 => skip (fun y => z4 y.2.2.2.1)⟩)
    rw [e2] at z1
    refine mq_gr (rs_30 H) rfl (mq_ai (rs_33 H) e2 (by omega) (by decide) ⟨fun z5 => ⟨⟨_, rs_30 H⟩, l2m_isMarked H o rfl e1 (by omega) hn (zb_br (fun z6 => ⟨fun w => absurd w (by decide), fun _ => take ⟨z1, z2, z3, z4, Or.inl ⟨z5, z6⟩⟩⟩) (fun z6 => ⟨fun _ => skip0 (fun y => ?_), fun w => absurd trivial w⟩))⟩, fun z5 => ⟨fun z6 => ⟨fun w => absurd w (by decide), fun _ => take ⟨z1, z2, z3, z4, Or.inr ⟨z5, Or.inl z6⟩⟩⟩, fun z6 => mq_gr (rs_30 H) rfl (mq_ai (rs_49 H) rfl (by omega) (by decide) ⟨fun z7 => ⟨fun _ => skip0 (fun y => ?_), fun w => absurd trivial w⟩, fun z7 => ⟨fun w => absurd w (by decide), fun _ => take ⟨z1, z2, z3, z4, Or.inr ⟨z5, Or.inr z7⟩⟩⟩⟩)⟩⟩)
    · rcases y.2.2.2.2 with v | v
      · rw [v.2] at z6; cases z6
      · exact v.1 z5
    · rcases y.2.2.2.2 with v | v
      · exact z5 v.1
      · rcases v.2 with u | u
        · exact z6 u
        · exact u z7
def mr_until (r : rS) (n l : Nat) : Int32 := if ri r 33 l = 0 then 0 else mr_ma r (nI n) (nI l) (rc r 5) 0
def mr_roadOf (r : rS) (n l : Nat) (x3 : Int32) : Int64 := if ri r 50 (6 * n + ix_v (ri r 32 l)) ≤ 0 then 0 else sm_l (mr_rdF r n l x3 (ri r 50 (6 * n + ix_v (ri r 32 l))) (mr_until r n l)) (rc r 5)
theorem l2m_roadOf {K : Int64 → mo_M → Prop} {x1 x2 x3 : Int32} {n l : Nat} (H : hs_in g e0 A (hs_put h r) M) (o : rr_ok r) (e1 : x1 = nI n) (e2 : x2 = nI l) (hn : n < 16) (hl : l < rc r 3) (hK : K (mr_roadOf r n l x3) M) : pp_M_roadOf g e0 K M (A 30 0 0) x1 x2 x3 := by
  have h3 := rr_3 o
  have h1 := rr_1 o
  obtain ⟨k, hk, ek⟩ := (o.2.2.2.2.2.2.2.1 l hl).2
  have vk : ix_v (ri r 32 l) = k := by rw [ek]; exact ix_vn (by omega)
  unfold pp_M_roadOf
  unfold mr_roadOf at hK
  rw [vk] at hK
  have go : ∀ v, v = mr_until r n l → pp_M_roadOf_b32 g e0 K M (A 30 0 0) x1 x2 x3 (ri r 50 (6 * n + k)) v := fun v hv => by
    subst hv
    unfold pp_M_roadOf_b32
    by_cases z : ri r 50 (6 * n + k) ≤ 0
    · rw [if_pos z] at hK
      refine ⟨1, ?_⟩
      unfold pp_M_roadOf_b40
      exact mq_gi (rs_30 H) rfl ⟨fun _ => hK, fun _ => ⟨fun _ => hK, fun w => absurd z w⟩⟩
    · rw [if_neg z] at hK
      exact ⟨rc r 5 + 1, l2m_rd_loop H o e1 e2 hn hl z hK (rc r 5) 0 (Nat.zero_add _)⟩
  refine mq_gr (rs_30 H) rfl (mq_ai (rs_32 H) e2 (by omega) (by decide) ⟨⟨_, rs_30 H⟩, l2m_recording H e1 ek hn (by omega) (mq_gr (rs_30 H) rfl (mq_ai (rs_33 H) e2 (by omega) (by decide) ⟨fun z => go 0 ?_, fun z => ⟨⟨_, rs_30 H⟩, l2m_markerAt H o (go _ ?_)⟩⟩))⟩)
  · unfold mr_until; rw [if_pos z]
  · unfold mr_until; rw [if_neg z, e1, e2]
def mr_road (r : rS) (x1 x2 x3 : Int32) : Int64 := if (ix_n x1 (rc r 6)).isSome = true ∧ (ix_n x2 (rc r 3)).isSome = true ∧ (ix_n x3 3).isSome = true then mr_roadOf r (ix_v x1) (ix_v x2) x3 else 0
theorem l2m_road {K : Int64 → mo_M → Prop} {x1 x2 x3 : Int32} (H : hs_in g e0 A (hs_put h r) M) (o : rr_ok r) (hK : ∀ M', hs_in g e0 A (hs_put h (m_t r 0)) M' → K (mr_road (m_t r 0) x1 x2 x3) M') : pp_M_road g e0 K M (A 30 0 0) x1 x2 x3 := by
  unfold pp_M_road
  unfold mr_road at hK
  have o1 := mt_ok r 0 o
  refine mq_pt (rs_30 H) (Nat.le_of_ble_eq_true rfl) ?_
  have H1 := rw_30_0 H 0
  change hs_in g e0 A (hs_put h (m_t r 0)) _ at H1
  generalize m_t r 0 = r1 at H1 o1 hK
  have h6 := rr_6 o1
  have h3 := rr_3 o1
  refine ⟨⟨_, rs_30 H1⟩, l2m_isNumber H1 o1 (zb_br (fun q1 => ?_) (fun q1 => ⟨⟨_, rs_30 H1⟩, l2m_isLink H1 o1 (zb_br (fun q2 => ?_) (fun q2 => l2m_isCurrency (zb_br (fun q3 => ?_) (fun q3 => ⟨⟨_, rs_30 H1⟩, ?_⟩))))⟩))⟩
  · rw [if_neg (fun y => by rw [y.1] at q1; cases q1)] at hK; exact hK _ H1
  · rw [if_neg (fun y => by rw [y.2.1] at q2; cases q2)] at hK; exact hK _ H1
  · rw [if_neg (fun y => by rw [y.2.2] at q3; cases q3)] at hK; exact hK _ H1
  · obtain ⟨n, hn0⟩ := Option.isSome_iff_exists.mp q1
    obtain ⟨en, ln⟩ := (ix_some (by omega)).mp hn0
    obtain ⟨l, hl0⟩ := Option.isSome_iff_exists.mp q2
    obtain ⟨el, ll⟩ := (ix_some (by omega)).mp hl0
    have vn : ix_v x1 = n := by rw [en]; exact ix_vn (by omega)
    have vl : ix_v x2 = l := by rw [el]; exact ix_vn (by omega)
    rw [if_pos ⟨q1, q2, q3⟩, vn, vl] at hK
    exact l2m_roadOf H1 o1 en el (by omega) ll (hK _ H1)
/-- total -/
def mr_tF (r : rS) (n : Nat) (x : Int32) (k : Nat) : Int64 := mr_at r 40 (nI k) x (ri r 50 (6 * n + k)) + mr_at r 41 (nI k) x (ri r 50 (6 * n + k))
def mr_tG (r : rS) (n : Nat) (x : Int32) (l : Nat) : Int64 := mr_roadOf r n l x
theorem l2m_t96 {K : Int64 → mo_M → Prop} {x1 x2 : Int32} {n : Nat} {v : Int64} (H : hs_in g e0 A (hs_put h r) M) (o : rr_ok r) (e1 : x1 = nI n) (hn : n < 16) (hK : K (v + sm_l (mr_tG r n x2) (rc r 3)) M) : ∀ m l, l + m = rc r 3 → pp_M_total_b96 g e0 K (m + 1) M (A 30 0 0) x1 x2 1 (v + sm_l (mr_tG r n x2) l) (nI l)
  | 0, l, hl => by
    have h3 := rr_3 o
    unfold pp_M_total_b96
    refine mq_gi (rs_30 H) rfl ?_
    rw [rr_n o (show 1 ≤ 3 by decide) (by decide)]
    refine le_br (by omega) (by omega) (fun q => ?_) (fun q => absurd q (by omega))
    have e : l = rc r 3 := by omega
    rw [e]
    exact hK
  | m + 1, l, hl => by
    have h3 := rr_3 o
    unfold pp_M_total_b96
    refine mq_gi (rs_30 H) rfl ?_
    rw [rr_n o (show 1 ≤ 3 by decide) (by decide)]
    refine le_br (by omega) (by omega) (fun q => absurd q (by omega)) (fun q => ⟨fun z => absurd z (by decide), fun _ => ⟨⟨_, rs_30 H⟩, l2m_roadOf H o e1 rfl hn q ?_⟩⟩)
    rw [nI_1, Int64.add_assoc]
    exact l2m_t96 H o e1 hn hK m (l + 1) (by omega)
theorem l2m_t40 {K : Int64 → mo_M → Prop} {x1 x2 : Int32} {n : Nat} (H : hs_in g e0 A (hs_put h r) M) (o : rr_ok r) (e1 : x1 = nI n) (hn : n < 16) (hK : K (sm_l (mr_tF r n x2) (rc r 1) + sm_l (mr_tG r n x2) (rc r 3)) M) : ∀ m k, k + m = rc r 1 → pp_M_total_b40 g e0 K (m + 1) M (A 30 0 0) x1 x2 1 (sm_l (mr_tF r n x2) k) (nI k)
  | 0, k, hk => by
    have h1 := rr_1 o
    unfold pp_M_total_b40 pp_M_total_b93
    refine mq_gi (rs_30 H) rfl ?_
    rw [rr_n o (show 1 ≤ 1 by decide) (by decide)]
    refine le_br (by omega) (by omega) (fun q => ⟨rc r 3 + 1, ?_⟩) (fun q => absurd q (by omega))
    have e : k = rc r 1 := by omega
    rw [e]
    have := l2m_t96 H o e1 hn hK (rc r 3) 0 (Nat.zero_add _)
    rw [show sm_l (mr_tG r n x2) 0 = 0 from rfl, Int64.add_zero] at this
    exact this
  | m + 1, k, hk => by
    have h1 := rr_1 o
    unfold pp_M_total_b40
    refine mq_gi (rs_30 H) rfl ?_
    rw [rr_n o (show 1 ≤ 1 by decide) (by decide)]
    refine le_br (by omega) (by omega) (fun q => absurd q (by omega)) (fun q => ⟨fun z => absurd z (by decide), fun _ => ⟨⟨_, rs_30 H⟩, l2m_recording H e1 rfl hn (by omega) ⟨⟨_, rs_30 H⟩, l2m_stockAt H o ⟨⟨_, rs_30 H⟩, l2m_recording H e1 rfl hn (by omega) ⟨⟨_, rs_30 H⟩, l2m_tillAt H o ?_⟩⟩⟩⟩⟩)
    rw [nI_1]
    exact l2m_t40 H o e1 hn hK m (k + 1) (by omega)
theorem l2m_t40_0 {K : Int64 → mo_M → Prop} {x1 x2 x6 : Int32} {v : Int64} {m : Nat} (H : hs_in g e0 A (hs_put h r) M) (hK : K v M) : pp_M_total_b40 g e0 K (m + 1) M (A 30 0 0) x1 x2 0 v x6 := by
  have fin : pp_M_total_b96 g e0 K 1 M (A 30 0 0) x1 x2 0 v 0 := by
    unfold pp_M_total_b96
    exact mq_gi (rs_30 H) rfl ⟨fun _ => hK, fun _ => ⟨fun _ => hK, fun z => absurd rfl z⟩⟩
  unfold pp_M_total_b40 pp_M_total_b93
  exact mq_gi (rs_30 H) rfl ⟨fun _ => ⟨1, fin⟩, fun _ => ⟨fun _ => ⟨1, fin⟩, fun z => absurd rfl z⟩⟩
def mr_tis (r : rS) (x1 x2 : Int32) : Bool := (ix_n x2 3).isSome && mr_fin r x1
def mr_total (r : rS) (x1 x2 : Int32) : Int64 := if mr_tis r x1 x2 = true then sm_l (mr_tF r (ix_v x1) x2) (rc r 1) + sm_l (mr_tG r (ix_v x1) x2) (rc r 3) else 0
def mr_ttT (r : rS) (x1 x2 : Int32) : Int32 := if mr_tis r x1 x2 = true then 0 else 1
theorem mt_mt (r : rS) (u v : Int32) : m_t (m_t r u) v = m_t r v := by
  unfold m_t m_u rsi
  refine Prod.ext rfl (funext fun f => ?_)
  by_cases y : f = 30
  · subst y
    show upd (upd (r.2 30) 0 u) 0 v = upd (r.2 30) 0 v
    funext n
    unfold upd
    split <;> rfl
  · show (if f = 30 then _ else if f = 30 then _ else r.2 f) = (if f = 30 then _ else r.2 f)
    rw [if_neg y, if_neg y, if_neg y]
theorem l2m_t20 {K : Int64 → mo_M → Prop} {x1 x2 : Int32} (H : hs_in g e0 A (hs_put h r) M) (er : m_t r 0 = m_t r 0) (o : rr_ok (m_t r 0)) (hi : mr_tis (m_t r 0) x1 x2 = true) (hK : ∀ M', hs_in g e0 A (hs_put h (m_t r (mr_ttT (m_t r 0) x1 x2))) M' → K (mr_total (m_t r 0) x1 x2) M') : pp_M_total_b20 g e0 K M (A 30 0 0) x1 x2 1 := by
  unfold pp_M_total_b20 pp_M_total_b31
  unfold mr_ttT mr_total at hK
  rw [if_pos hi, if_pos hi] at hK
  refine ⟨fun z => absurd z (by decide), fun _ => mq_pt (rs_30 H) (Nat.le_of_ble_eq_true rfl) ?_⟩
  have H1 := rw_30_0 H 0
  change hs_in g e0 A (hs_put h (m_t r 0)) _ at H1
  unfold mr_tis mr_fin at hi
  generalize m_t r 0 = r1 at H1 o hi hK
  rw [Bool.and_eq_true, Bool.and_eq_true] at hi
  have h6 := rr_6 o
  obtain ⟨n, hn0⟩ := Option.isSome_iff_exists.mp hi.2.1
  obtain ⟨en, ln⟩ := (ix_some (by omega)).mp hn0
  have vn : ix_v x1 = n := by rw [en]; exact ix_vn (by omega)
  rw [vn] at hK
  exact ⟨rc r1 1 + 1, l2m_t40 H1 o en (by omega) (hK _ H1) (rc r1 1) 0 (Nat.zero_add _)⟩
theorem l2m_t19 {K : Int64 → mo_M → Prop} {x1 x2 : Int32} (H : hs_in g e0 A (hs_put h r) M) (hi : mr_tis (m_t r 0) x1 x2 = false) (hK : ∀ M', hs_in g e0 A (hs_put h (m_t r (mr_ttT (m_t r 0) x1 x2))) M' → K (mr_total (m_t r 0) x1 x2) M') : pp_M_total_b19 g e0 K M (A 30 0 0) x1 x2 := by
  unfold pp_M_total_b19 pp_M_total_b20 pp_M_total_b31
  unfold mr_ttT mr_total at hK
  rw [if_neg (by rw [hi]; decide), if_neg (by rw [hi]; decide)] at hK
  refine ⟨fun _ => mq_pt (rs_30 H) (Nat.le_of_ble_eq_true rfl) ?_, fun z => absurd rfl z⟩
  have H1 := rw_30_0 H 1
  exact ⟨1, l2m_t40_0 H1 (hK _ H1)⟩
theorem l2m_total {K : Int64 → mo_M → Prop} {x1 x2 : Int32} (H : hs_in g e0 A (hs_put h r) M) (o : rr_ok r) (hK : ∀ M', hs_in g e0 A (hs_put h (m_t r (mr_ttT (m_t r 0) x1 x2))) M' → K (mr_total (m_t r 0) x1 x2) M') : pp_M_total g e0 K M (A 30 0 0) x1 x2 := by
  unfold pp_M_total
  have o1 := mt_ok r 0 o
  refine l2m_isCurrency (zb_br (fun q1 => l2m_t19 H ?_ hK) (fun q1 => ⟨⟨_, rs_30 H⟩, l2m_finished H o (fun M1 H1 => zb_br (fun q2 => ?_) (fun q2 => ?_))⟩))
  · unfold mr_tis; rw [q1]; rfl
  · refine l2m_t19 H1 ?_ ?_
    · rw [mt_mt]; unfold mr_tis; rw [q1, q2]; rfl
    · rw [mt_mt, mt_mt]; exact hK
  · refine l2m_t20 H1 rfl (mt_ok _ 0 o1) ?_ ?_
    · rw [mt_mt]; unfold mr_tis; rw [q1, q2]; rfl
    · rw [mt_mt, mt_mt]; exact hK
/-- minted -/
def mr_mF (r : rS) (n : Nat) (x : Int32) (k : Nat) : Int64 := if ri r 50 (6 * n + k) ≤ 0 then 0 else mr_at r 42 (nI k) x (ri r 50 (6 * n + k))
theorem l2m_mi_loop {K : Int64 → mo_M → Prop} {x1 x2 : Int32} {n : Nat} (H : hs_in g e0 A (hs_put h r) M) (o : rr_ok r) (e1 : x1 = nI n) (hn : n < 16) (hK : K (sm_l (mr_mF r n x2) (rc r 1)) M) : ∀ m k, k + m = rc r 1 → pp_M_minted_b27 g e0 K (m + 1) M (A 30 0 0) x1 x2 (sm_l (mr_mF r n x2) k) (nI k)
  | 0, k, hk => by
    have h1 := rr_1 o
    unfold pp_M_minted_b27
    refine mq_gi (rs_30 H) rfl ?_
    rw [rr_n o (show 1 ≤ 1 by decide) (by decide)]
    refine le_br (by omega) (by omega) (fun q => ?_) (fun q => absurd q (by omega))
    have e : k = rc r 1 := by omega
    rw [e]
    exact hK
  | m + 1, k, hk => by
    have h1 := rr_1 o
    unfold pp_M_minted_b27
    refine mq_gi (rs_30 H) rfl ?_
    rw [rr_n o (show 1 ≤ 1 by decide) (by decide)]
    have go : pp_M_minted_b27 g e0 K (m + 1) M (A 30 0 0) x1 x2 (sm_l (mr_mF r n x2) k + mr_mF r n x2 k) (nI (k + 1)) := l2m_mi_loop H o e1 hn hK m (k + 1) (by omega)
    unfold mr_mF at go
    unfold pp_M_minted_b65
    simp only [nI_1]
    refine le_br (by omega) (by omega) (fun q => absurd q (by omega)) (fun q => ⟨⟨_, rs_30 H⟩, l2m_recording H e1 rfl hn (by omega) ⟨fun z => ?_, fun z => ⟨⟨_, rs_30 H⟩, l2m_recording H e1 rfl hn (by omega) ⟨⟨_, rs_30 H⟩, l2m_mintedAt H o ?_⟩⟩⟩⟩)
    · rw [if_pos z] at go; exact go
    · rw [if_neg z] at go; exact go
def mr_minted (r : rS) (x1 x2 : Int32) : Int64 := if (ix_n x1 (rc r 6)).isSome = true ∧ (ix_n x2 3).isSome = true then sm_l (mr_mF r (ix_v x1) x2) (rc r 1) else 0
theorem l2m_minted {K : Int64 → mo_M → Prop} {x1 x2 : Int32} (H : hs_in g e0 A (hs_put h r) M) (o : rr_ok r) (hK : ∀ M', hs_in g e0 A (hs_put h (m_t r 0)) M' → K (mr_minted (m_t r 0) x1 x2) M') : pp_M_minted g e0 K M (A 30 0 0) x1 x2 := by
  unfold pp_M_minted
  unfold mr_minted at hK
  have o1 := mt_ok r 0 o
  refine mq_pt (rs_30 H) (Nat.le_of_ble_eq_true rfl) ?_
  have H1 := rw_30_0 H 0
  change hs_in g e0 A (hs_put h (m_t r 0)) _ at H1
  generalize m_t r 0 = r1 at H1 o1 hK
  have h6 := rr_6 o1
  refine ⟨⟨_, rs_30 H1⟩, l2m_isNumber H1 o1 (zb_br (fun q1 => ?_) (fun q1 => l2m_isCurrency (zb_br (fun q2 => ?_) (fun q2 => ?_))))⟩
  · rw [if_neg (fun y => by rw [y.1] at q1; cases q1)] at hK; exact hK _ H1
  · rw [if_neg (fun y => by rw [y.2] at q2; cases q2)] at hK; exact hK _ H1
  · obtain ⟨n, hn0⟩ := Option.isSome_iff_exists.mp q1
    obtain ⟨en, ln⟩ := (ix_some (by omega)).mp hn0
    have vn : ix_v x1 = n := by rw [en]; exact ix_vn (by omega)
    rw [if_pos ⟨q1, q2⟩, vn] at hK
    exact ⟨rc r1 1 + 1, l2m_mi_loop H1 o1 en (by omega) (hK _ H1) (rc r1 1) 0 (Nat.zero_add _)⟩
/-- trueTotal -/
def mr_ttF (r : rS) (x : Int32) (k : Nat) : Int64 := mr_at r 40 (nI k) x (ri r 30 2) + mr_at r 41 (nI k) x (ri r 30 2)
def mr_ttG (r : rS) (x : Int32) (t : Nat) : Int64 := if ri r 49 t = 0 ∧ ri r 43 t = 1 ∧ ri r 45 t = x then (ri r 46 t).toInt64 else 0
theorem l2m_tt61 {K : Int64 → mo_M → Prop} {x : Int32} {v : Int64} (H : hs_in g e0 A (hs_put h r) M) (o : rr_ok r) (hK : K (v + sm_l (mr_ttG r x) (rc r 5)) M) : ∀ m t, t + m = rc r 5 → pp_M_trueTotal_b61 g e0 K (m + 1) M (A 30 0 0) x (v + sm_l (mr_ttG r x) t) (nI t)
  | 0, t, ht => by
    have h5 := rr_5 o
    unfold pp_M_trueTotal_b61
    refine mq_gi (rs_30 H) rfl ?_
    rw [rr_n o (show 1 ≤ 5 by decide) (by decide)]
    refine le_br (by omega) (by omega) (fun q => ?_) (fun q => absurd q (by omega))
    have e : t = rc r 5 := by omega
    rw [e]
    exact hK
  | m + 1, t, ht => by
    have h5 := rr_5 o
    unfold pp_M_trueTotal_b61
    refine mq_gi (rs_30 H) rfl ?_
    rw [rr_n o (show 1 ≤ 5 by decide) (by decide)]
    have go : pp_M_trueTotal_b61 g e0 K (m + 1) M (A 30 0 0) x (v + (sm_l (mr_ttG r x) t + mr_ttG r x t)) (nI (t + 1)) := l2m_tt61 H o hK m (t + 1) (by omega)
    rw [← Int64.add_assoc] at go
    unfold pp_M_trueTotal_b114 pp_M_trueTotal_b115
    simp only [nI_1]
    have no : ¬ (ri r 49 t = 0 ∧ ri r 43 t = 1 ∧ ri r 45 t = x) → pp_M_trueTotal_b61 g e0 K (m + 1) M (A 30 0 0) x (v + sm_l (mr_ttG r x) t + 0) (nI (t + 1)) := fun z => by
      rw [show mr_ttG r x t = 0 from if_neg z] at go
      exact go
    refine le_br (by omega) (by omega) (fun q => absurd q (by omega)) (fun q => ?_)
    refine mq_gr (rs_30 H) rfl (mq_ai (rs_49 H) rfl (by omega) (by decide) ⟨fun z1 => ?_, fun z1 => no (fun y => z1 y.1)⟩)
    refine mq_gr (rs_30 H) rfl (mq_ai (rs_43 H) rfl (by omega) (by decide) ⟨fun z2 => ?_, fun z2 => no (fun y => z2 y.2.1)⟩)
    refine mq_gr (rs_30 H) rfl (mq_ai (rs_45 H) rfl (by omega) (by decide) ⟨fun z3 => ?_, fun z3 => no (fun y => z3 y.2.2)⟩)
    refine mq_gr (rs_30 H) rfl (mq_ai (rs_46 H) rfl (by omega) (by decide) ?_)
    rw [show mr_ttG r x t = (ri r 46 t).toInt64 from if_pos ⟨z1, z2, z3⟩] at go
    exact go
theorem l2m_tt58 {K : Int64 → mo_M → Prop} {x : Int32} {v : Int64} (H : hs_in g e0 A (hs_put h r) M) (o : rr_ok r) (hK : K (v + sm_l (mr_ttG r x) (rc r 5)) M) : pp_M_trueTotal_b58 g e0 K M (A 30 0 0) x v := by
  unfold pp_M_trueTotal_b58
  have := l2m_tt61 H o hK (rc r 5) 0 (Nat.zero_add _)
  rw [show sm_l (mr_ttG r x) 0 = 0 from rfl, Int64.add_zero] at this
  exact ⟨rc r 5 + 1, this⟩
theorem l2m_tt10 {K : Int64 → mo_M → Prop} {x : Int32} (H : hs_in g e0 A (hs_put h r) M) (o : rr_ok r) (hc : (ix_n x 3).isSome = true) (hK : K (sm_l (mr_ttF r x) (rc r 1) + sm_l (mr_ttG r x) (rc r 5)) M) : ∀ m k, k + m = rc r 1 → pp_M_trueTotal_b10 g e0 K (m + 1) M (A 30 0 0) x (sm_l (mr_ttF r x) k) (nI k)
  | 0, k, hk => by
    have h1 := rr_1 o
    unfold pp_M_trueTotal_b10
    refine mq_gi (rs_30 H) rfl ?_
    rw [rr_n o (show 1 ≤ 1 by decide) (by decide)]
    refine le_br (by omega) (by omega) (fun q => ?_) (fun q => absurd q (by omega))
    have e : k = rc r 1 := by omega
    rw [e]
    exact l2m_tt58 H o hK
  | m + 1, k, hk => by
    have h1 := rr_1 o
    unfold pp_M_trueTotal_b10
    refine mq_gi (rs_30 H) rfl ?_
    rw [rr_n o (show 1 ≤ 1 by decide) (by decide)]
    refine le_br (by omega) (by omega) (fun q => absurd q (by omega)) (fun q => l2m_isCurrency (zb_br (fun z => by rw [hc] at z; cases z) (fun _ => mq_gi (rs_30 H) rfl ⟨⟨_, rs_30 H⟩, l2m_stockAt H o (mq_gi (rs_30 H) rfl ⟨⟨_, rs_30 H⟩, l2m_tillAt H o ?_⟩)⟩)))
    rw [nI_1]
    exact l2m_tt10 H o hc hK m (k + 1) (by omega)
def mr_trueTotal (r : rS) (x : Int32) : Int64 := (if (ix_n x 3).isSome = true then sm_l (mr_ttF r x) (rc r 1) else 0) + sm_l (mr_ttG r x) (rc r 5)
theorem l2m_trueTotal {K : Int64 → mo_M → Prop} {x : Int32} (H : hs_in g e0 A (hs_put h r) M) (o : rr_ok r) (hK : ∀ M', hs_in g e0 A (hs_put h (m_t r 0)) M' → K (mr_trueTotal (m_t r 0) x) M') : pp_M_trueTotal g e0 K M (A 30 0 0) x := by
  unfold pp_M_trueTotal
  unfold mr_trueTotal at hK
  have o1 := mt_ok r 0 o
  refine mq_pt (rs_30 H) (Nat.le_of_ble_eq_true rfl) ?_
  have H1 := rw_30_0 H 0
  change hs_in g e0 A (hs_put h (m_t r 0)) _ at H1
  generalize m_t r 0 = r1 at H1 o1 hK
  have h1 := rr_1 o1
  have h1' := o1.2.1.1
  by_cases hc : (ix_n x 3).isSome = true
  · rw [if_pos hc] at hK
    exact ⟨rc r1 1 + 1, l2m_tt10 H1 o1 hc (hK _ H1) (rc r1 1) 0 (Nat.zero_add _)⟩
  · rw [if_neg hc] at hK
    refine ⟨1, ?_⟩
    unfold pp_M_trueTotal_b10
    refine mq_gi (rs_30 H1) rfl ⟨fun _ => l2m_tt58 H1 o1 (hK _ H1), fun _ => l2m_isCurrency (zb_br (fun _ => l2m_tt58 H1 o1 (hK _ H1)) (fun z => absurd z hc))⟩
/-- below -/
def mr_bl (r : rS) (n : Nat) (x2 : Int32) (y : Int64) : Nat → Nat → Int32
  | 0, _ => -1
  | m + 1, k => if ¬ ri r 50 (6 * n + k) ≤ 0 ∧ mr_at r 40 (nI k) x2 (ri r 50 (6 * n + k)) < y then nI k else mr_bl r n x2 y m (k + 1)
theorem l2m_bl_loop {K : Int32 → mo_M → Prop} {x1 x2 : Int32} {y : Int64} {n : Nat} (H : hs_in g e0 A (hs_put h r) M) (o : rr_ok r) (e1 : x1 = nI n) (hn : n < 16) : ∀ m k, k + m = rc r 1 → K (mr_bl r n x2 y m k) M → pp_M_below_b25 g e0 K (m + 1) M (A 30 0 0) x1 x2 y (nI k)
  | 0, k, hk, hK => by
    have h1 := rr_1 o
    unfold pp_M_below_b25
    refine mq_gi (rs_30 H) rfl ?_
    rw [rr_n o (show 1 ≤ 1 by decide) (by decide)]
    exact le_br (by omega) (by omega) (fun q => hK) (fun q => absurd q (by omega))
  | m + 1, k, hk, hK => by
    have h1 := rr_1 o
    unfold pp_M_below_b25
    unfold mr_bl at hK
    refine mq_gi (rs_30 H) rfl ?_
    rw [rr_n o (show 1 ≤ 1 by decide) (by decide)]
    have go : ¬ (¬ ri r 50 (6 * n + k) ≤ 0 ∧ mr_at r 40 (nI k) x2 (ri r 50 (6 * n + k)) < y) → pp_M_below_b66 g e0 K (fun M x0 x1 x2 x3 x5 => pp_M_below_b25 g e0 K (m + 1) M x0 x1 x2 x3 x5) M (A 30 0 0) x1 x2 y (nI k) := fun z => by
      rw [if_neg z] at hK
      unfold pp_M_below_b66
      rw [nI_1]
      exact l2m_bl_loop H o e1 hn m (k + 1) (by omega) hK
    refine le_br (by omega) (by omega) (fun q => absurd q (by omega)) (fun q => ⟨⟨_, rs_30 H⟩, l2m_recording H e1 rfl hn (by omega) ⟨fun z => go (fun w => w.1 z), fun z => ⟨⟨_, rs_30 H⟩, l2m_recording H e1 rfl hn (by omega) ⟨⟨_, rs_30 H⟩, l2m_stockAt H o ⟨fun w => go (fun v => ?_), fun w => ?_⟩⟩⟩⟩⟩)
    · exact absurd ((lg_cmp_ge _ _).mp w) (Int64.not_le.mpr v.2)
    · rw [if_pos ⟨z, Int64.not_le.mp (fun v => w ((lg_cmp_ge _ _).mpr v))⟩] at hK
      exact hK
def mr_below (r : rS) (x1 x2 : Int32) (y : Int64) : Int32 := if (ix_n x1 (rc r 6)).isSome = true ∧ (ix_n x2 3).isSome = true then mr_bl r (ix_v x1) x2 y (rc r 1) 0 else -1
theorem l2m_below {K : Int32 → mo_M → Prop} {x1 x2 : Int32} {y : Int64} (H : hs_in g e0 A (hs_put h r) M) (o : rr_ok r) (hK : ∀ M', hs_in g e0 A (hs_put h (m_t r 0)) M' → K (mr_below (m_t r 0) x1 x2 y) M') : pp_M_below g e0 K M (A 30 0 0) x1 x2 y := by
  unfold pp_M_below
  unfold mr_below at hK
  have o1 := mt_ok r 0 o
  refine mq_pt (rs_30 H) (Nat.le_of_ble_eq_true rfl) ?_
  have H1 := rw_30_0 H 0
  change hs_in g e0 A (hs_put h (m_t r 0)) _ at H1
  generalize m_t r 0 = r1 at H1 o1 hK
  have h6 := rr_6 o1
  refine ⟨⟨_, rs_30 H1⟩, l2m_isNumber H1 o1 (zb_br (fun q1 => ?_) (fun q1 => l2m_isCurrency (zb_br (fun q2 => ?_) (fun q2 => ?_))))⟩
  · rw [if_neg (fun y => by rw [y.1] at q1; cases q1)] at hK; exact hK _ H1
  · rw [if_neg (fun y => by rw [y.2] at q2; cases q2)] at hK; exact hK _ H1
  · obtain ⟨n, hn0⟩ := Option.isSome_iff_exists.mp q1
    obtain ⟨en, ln⟩ := (ix_some (by omega)).mp hn0
    have vn : ix_v x1 = n := by rw [en]; exact ix_vn (by omega)
    rw [if_pos ⟨q1, q2⟩, vn] at hK
    exact ⟨rc r1 1 + 1, l2m_bl_loop H1 o1 en (by omega) (rc r1 1) 0 (Nat.zero_add _) (hK _ H1)⟩
/-- events -/
def mr_evF (r : rS) (x2 x3 : Int32) (i : Nat) : Int32 := if ri r 36 i = x2 ∧ ¬ x3 < ri r 38 i then ri r 39 i else 0
def mr_evs (r : rS) (x2 x3 : Int32) : Int32 := sm_i (mr_evF r x2 x3) (rc r 4)
theorem l2m_ev_loop {K : Int32 → mo_M → Prop} {x2 x3 : Int32} (H : hs_in g e0 A (hs_put h r) M) (o : rr_ok r) (hK : K (mr_evs r x2 x3) M) : ∀ m i, i + m = rc r 4 → pp_M_events_b60 g e0 K (m + 1) M (A 30 0 0) x2 x3 (sm_i (mr_evF r x2 x3) i) (nI i)
  | 0, i, hi => by
    have h4 := rr_4 o
    unfold pp_M_events_b60
    refine mq_gi (rs_30 H) rfl ?_
    rw [rr_n o (show 1 ≤ 4 by decide) (by decide)]
    refine le_br (by omega) (by omega) (fun q => ?_) (fun q => absurd q (by omega))
    have e : i = rc r 4 := by omega
    rw [e]
    exact hK
  | m + 1, i, hi => by
    have h4 := rr_4 o
    unfold pp_M_events_b60
    refine mq_gi (rs_30 H) rfl ?_
    rw [rr_n o (show 1 ≤ 4 by decide) (by decide)]
    refine le_br (by omega) (by omega) (fun q => absurd q (by omega)) (fun q => ?_)
    have go : pp_M_events_b60 g e0 K (m + 1) M (A 30 0 0) x2 x3 (sm_i (mr_evF r x2 x3) i + mr_evF r x2 x3 i) (nI (i + 1)) := l2m_ev_loop H o hK m (i + 1) (by omega)
    unfold pp_M_events_b103 pp_M_events_b104
    simp only [nI_1]
    have no : ¬ (ri r 36 i = x2 ∧ ¬ x3 < ri r 38 i) → pp_M_events_b60 g e0 K (m + 1) M (A 30 0 0) x2 x3 (sm_i (mr_evF r x2 x3) i + 0) (nI (i + 1)) := fun z => by
      rw [show mr_evF r x2 x3 i = 0 from if_neg z] at go
      exact go
    refine mq_gr (rs_30 H) rfl (mq_ai (rs_36 H) rfl (by omega) (by decide) ⟨fun z1 => ?_, fun z1 => no (fun y => z1 y.1)⟩)
    refine mq_gr (rs_30 H) rfl (mq_ai (rs_38 H) rfl (by omega) (by decide) ⟨fun z3 => no (fun y => y.2 z3), fun z3 => ?_⟩)
    refine mq_gr (rs_30 H) rfl (mq_ai (rs_39 H) rfl (by omega) (by decide) ?_)
    rw [show mr_evF r x2 x3 i = ri r 39 i from if_pos ⟨z1, z3⟩] at go
    exact go
def mr_events (r : rS) (x1 x2 : Int32) : Int32 := if (ix_n x2 (rc r 1)).isSome = true then (if x1 < 0 then mr_evs r x2 (ri r 30 2) else if (ix_n x1 (rc r 6)).isSome = true ∧ ¬ ri r 50 (6 * ix_v x1 + ix_v x2) = 0 then mr_evs r x2 (ri r 50 (6 * ix_v x1 + ix_v x2)) else -1) else -1
theorem l2m_events {K : Int32 → mo_M → Prop} {x1 x2 : Int32} (H : hs_in g e0 A (hs_put h r) M) (o : rr_ok r) (hK : ∀ M', hs_in g e0 A (hs_put h (m_t r 0)) M' → K (mr_events (m_t r 0) x1 x2) M') : pp_M_events g e0 K M (A 30 0 0) x1 x2 := by
  unfold pp_M_events
  unfold mr_events at hK
  have o1 := mt_ok r 0 o
  refine mq_pt (rs_30 H) (Nat.le_of_ble_eq_true rfl) ?_
  have H1 := rw_30_0 H 0
  change hs_in g e0 A (hs_put h (m_t r 0)) _ at H1
  generalize m_t r 0 = r1 at H1 o1 hK
  have h6 := rr_6 o1
  have h1 := rr_1 o1
  have z0 : (0 : Int32).toInt = 0 := by decide
  refine ⟨⟨_, rs_30 H1⟩, l2m_isKiosk H1 o1 (zb_br (fun q1 => ?_) (fun q1 => mq_gi (rs_30 H1) rfl ?_))⟩
  · rw [if_neg (fun y => by rw [y] at q1; cases q1)] at hK; exact hK _ H1
  · rw [if_pos q1] at hK
    rw [rr_n o1 (show 1 ≤ 6 by decide) (by decide)]
    obtain ⟨k, hk0⟩ := Option.isSome_iff_exists.mp q1
    obtain ⟨ek, lk⟩ := (ix_some (by omega)).mp hk0
    have vk : ix_v x2 = k := by rw [ek]; exact ix_vn (by omega)
    rw [vk] at hK
    refine ⟨fun q2 => ?_, fun q2 => ⟨fun q3 => ?_, fun q3 => ?_⟩⟩
    · have q2' := Int32.le_iff_toInt_le.mp q2
      rw [nI_toInt (by omega)] at q2'
      rw [if_neg (fun y => by have := Int32.lt_iff_toInt_lt.mp y; omega), if_neg (fun y => by rw [show ix_n x1 (rc r1 6) = none from ix_none.mpr (by omega)] at y; cases y.1)] at hK
      exact hK _ H1
    · rw [if_pos q3] at hK
      unfold pp_M_events_b36 pp_M_events_b53
      exact ⟨fun q4 => absurd q3 (Int32.not_lt.mpr q4), fun _ => mq_gi (rs_30 H1) rfl ⟨rc r1 4 + 1, l2m_ev_loop H1 o1 (hK _ H1) (rc r1 4) 0 (Nat.zero_add _)⟩⟩
    · rw [if_neg q3] at hK
      have q2' := mt Int32.le_iff_toInt_le.mpr q2
      have q3' := mt Int32.lt_iff_toInt_lt.mpr q3
      rw [nI_toInt (by omega)] at q2'
      have hn0 : ix_n x1 (rc r1 6) = some x1.toInt.toNat := by unfold ix_n; rw [if_pos (by omega)]
      obtain ⟨en, ln⟩ := (ix_some (by omega)).mp hn0
      have vn : ix_v x1 = x1.toInt.toNat := rfl
      rw [vn, hn0] at hK
      generalize x1.toInt.toNat = n at en ln hK
      refine ⟨⟨_, rs_30 H1⟩, l2m_recording H1 en ek (by omega) (by omega) ⟨fun z => ?_, fun z => ?_⟩⟩
      · rw [if_neg (fun y => y.2 z)] at hK; exact hK _ H1
      · rw [if_pos ⟨rfl, z⟩] at hK
        unfold pp_M_events_b36 pp_M_events_b53
        exact ⟨fun _ => ⟨⟨_, rs_30 H1⟩, l2m_recording H1 en ek (by omega) (by omega) ⟨rc r1 4 + 1, l2m_ev_loop H1 o1 (hK _ H1) (rc r1 4) 0 (Nat.zero_add _)⟩⟩, fun q4 => absurd (Int32.not_lt.mp q3) q4⟩
end RF7
