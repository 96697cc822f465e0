section RF6
variable {g : Nat → ClassId} {e0 : Nat → Nat} {A : hs_A} {h : hs_S} {r : rS} {M : mo_M}
def mr_ma (r : rS) (x1 x2 : Int32) : Nat → Nat → Int32
  | 0, _ => 0
  | m + 1, t => if ri r 44 t = x2 ∧ ri r 43 t = 3 ∧ ri r 47 t = x1 then ri r 49 t else mr_ma r x1 x2 m (t + 1)
theorem l2m_ma_loop {K : Int32 → mo_M → Prop} {x1 x2 : Int32} (H : hs_in g e0 A (hs_put h r) M) (o : rr_ok r) : ∀ m t, t + m = rc r 5 → K (mr_ma r x1 x2 m t) M → pp_M_markerAt_b2 g e0 K (m + 1) M (A 30 0 0) x1 x2 (nI t)
  | 0, t, ht, hK => by
    have h5 := rr_5 o
    unfold pp_M_markerAt_b2
    refine mq_gi (rs_30 H) rfl ?_
    rw [rr_n o (show 1 ≤ 5 by decide) (by decide)]
    exact le_br (by omega) (by omega) (fun q => hK) (fun q => absurd q (by omega))
  | m + 1, t, ht, hK => by
    have h5 := rr_5 o
    unfold pp_M_markerAt_b2
    unfold mr_ma at hK
    refine mq_gi (rs_30 H) rfl ?_
    rw [rr_n o (show 1 ≤ 5 by decide) (by decide)]
    have go : ¬ (ri r 44 t = x2 ∧ ri r 43 t = 3 ∧ ri r 47 t = x1) → pp_M_markerAt_b47 g e0 K (fun M x0 x1 x2 x3 => pp_M_markerAt_b2 g e0 K (m + 1) M x0 x1 x2 x3) M (A 30 0 0) x1 x2 (nI t) := fun z => by
      rw [if_neg z] at hK
      unfold pp_M_markerAt_b47
      rw [nI_1]
      exact l2m_ma_loop H o m (t + 1) (by omega) hK
    refine le_br (by omega) (by omega) (fun q => absurd q (by omega)) (fun q => mq_gr (rs_30 H) rfl (mq_ai (rs_44 H) rfl (by omega) (by decide) ⟨fun z1 => mq_gr (rs_30 H) rfl (mq_ai (rs_43 H) rfl (by omega) (by decide) ⟨fun z2 => mq_gr (rs_30 H) rfl (mq_ai (rs_47 H) rfl (by omega) (by decide) ⟨fun z3 => mq_gr (rs_30 H) rfl (mq_ai (rs_49 H) rfl (by omega) (by decide) ?_), fun z3 => go (fun y => z3 y.2.2)⟩), fun z2 => go (fun y => z2 y.2.1)⟩), fun z1 => go (fun y => z1 y.1)⟩))
    rw [if_pos ⟨z1, z2, z3⟩] at hK
    exact hK
theorem l2m_markerAt {K : Int32 → mo_M → Prop} {x1 x2 : Int32} (H : hs_in g e0 A (hs_put h r) M) (o : rr_ok r) (hK : K (mr_ma r x1 x2 (rc r 5) 0) M) : pp_M_markerAt g e0 K M (A 30 0 0) x1 x2 := ⟨rc r 5 + 1, l2m_ma_loop H o (rc r 5) 0 (Nat.zero_add _) hK⟩
/-- no bag from before n is on the link -/
def mr_dn (r : rS) (x : Int32) (n : Nat) : Nat → Nat → Bool
  | 0, _ => true
  | m + 1, t => if mr_there r x t = true ∧ ri r 43 t = 1 ∧ mr_mk r t n = false then false else mr_dn r x n m (t + 1)
theorem l2m_dn_0 {K : Int32 → mo_M → Prop} {x1 x2 x4 : Int32} {m : Nat} (H : hs_in g e0 A (hs_put h r) M) (hK : K 0 M) : pp_M_isDone_b61 g e0 K (m + 1) M (A 30 0 0) x1 x2 0 x4 := by
  unfold pp_M_isDone_b61
  exact mq_gi (rs_30 H) rfl ⟨fun _ => ⟨rfl, hK⟩, fun _ => ⟨fun _ => ⟨rfl, hK⟩, fun z => absurd rfl z⟩⟩
theorem l2m_dn_loop {K : Int32 → mo_M → Prop} {x1 x2 : Int32} {n : Nat} (H : hs_in g e0 A (hs_put h r) M) (o : rr_ok r) (e1 : x1 = nI n) (hn : n < 16) : ∀ m t, t + m = rc r 5 → K (zb_i (mr_dn r x2 n m t)) M → pp_M_isDone_b61 g e0 K (m + 1) M (A 30 0 0) x1 x2 1 (nI t)
  | 0, t, ht, hK => by
    have h5 := rr_5 o
    unfold pp_M_isDone_b61
    refine mq_gi (rs_30 H) rfl ?_
    rw [rr_n o (show 1 ≤ 5 by decide) (by decide)]
    exact le_br (by omega) (by omega) (fun q => ⟨rfl, hK⟩) (fun q => absurd q (by omega))
  | m + 1, t, ht, hK => by
    have h5 := rr_5 o
    unfold pp_M_isDone_b61
    unfold mr_dn at hK
    refine mq_gi (rs_30 H) rfl ?_
    rw [rr_n o (show 1 ≤ 5 by decide) (by decide)]
    have go : ¬ (mr_there r x2 t = true ∧ ri r 43 t = 1 ∧ mr_mk r t n = false) → pp_M_isDone_b105 g e0 K (fun M x0 x1 x2 x3 x4 => pp_M_isDone_b61 g e0 K (m + 1) M x0 x1 x2 x3 x4) M (A 30 0 0) x1 x2 (nI t) := fun z => by
      rw [if_neg z] at hK
      unfold pp_M_isDone_b105 pp_M_isDone_b110
      rw [nI_1]
      exact l2m_dn_loop H o e1 hn m (t + 1) (by omega) hK
    refine le_br (by omega) (by omega) (fun q => absurd q (by omega)) (fun q => ⟨fun z => absurd z (by decide), fun _ => ⟨⟨_, rs_30 H⟩, l2m_isThere H rfl (by omega) (zb_br (fun z1 => go (fun y => by rw [y.1] at z1; cases z1)) (fun z1 => mq_gr (rs_30 H) rfl (mq_ai (rs_43 H) rfl (by omega) (by decide) ⟨fun z2 => ⟨⟨_, rs_30 H⟩, l2m_isMarked H o rfl e1 (by omega) hn (zb_br (fun z3 => ?_) (fun z3 => go (fun y => by rw [y.2.2] at z3; cases z3)))⟩, fun z2 => go (fun y => z2 y.2.1)⟩)))⟩⟩)
    rw [if_pos ⟨z1, z2, z3⟩] at hK
    unfold pp_M_isDone_b110
    exact l2m_dn_0 H hK
def mr_done (r : rS) (n l : Nat) : Bool := if ri r 33 l = 0 then decide (¬ ri r 50 (6 * n + ix_v (ri r 31 l)) ≤ 0) && decide (¬ ri r 50 (6 * n + ix_v (ri r 32 l)) ≤ 0) && mr_dn r (nI l) n (rc r 5) 0 else decide (¬ mr_ma r (nI n) (nI l) (rc r 5) 0 ≤ 0)
theorem l2m_isDone {K : Int32 → mo_M → Prop} {x1 x2 : Int32} {n l : Nat} (H : hs_in g e0 A (hs_put h r) M) (o : rr_ok r) (e1 : x1 = nI n) (e2 : x2 = nI l) (hn : n < 16) (hl : l < rc r 3) (hK : K (zb_i (mr_done r n l)) M) : pp_M_isDone g e0 K M (A 30 0 0) x1 x2 := by
  subst e1
  subst e2
  have h3 := rr_3 o
  have h1 := rr_1 o
  obtain ⟨⟨a, ha, ea⟩, ⟨b, hb, eb⟩⟩ := o.2.2.2.2.2.2.2.1 l hl
  unfold pp_M_isDone pp_M_isDone_b56 pp_M_isDone_b57
  unfold mr_done at hK
  rw [ea, eb, ix_vn (by omega), ix_vn (by omega)] at hK
  refine mq_gr (rs_30 H) rfl (mq_ai (rs_33 H) rfl (by omega) (by decide) ⟨fun z => mq_gr (rs_30 H) rfl (mq_ai (rs_31 H) rfl (by omega) (by decide) ⟨⟨_, rs_30 H⟩, l2m_recording H rfl ea hn (by omega) ⟨fun w => ⟨1, l2m_dn_0 H ?_⟩, fun w => mq_gr (rs_30 H) rfl (mq_ai (rs_32 H) rfl (by omega) (by decide) ⟨⟨_, rs_30 H⟩, l2m_recording H rfl eb hn (by omega) ⟨fun v => ⟨1, l2m_dn_0 H ?_⟩, fun v => ⟨rc r 5 + 1, l2m_dn_loop H o rfl hn (rc r 5) 0 (Nat.zero_add _) ?_⟩⟩⟩)⟩⟩), fun z => ⟨⟨_, rs_30 H⟩, l2m_markerAt H o ⟨fun w => ⟨rfl, ?_⟩, fun w => ⟨rfl, ?_⟩⟩⟩⟩)
  · rw [if_pos z, decide_eq_false (fun y => y w)] at hK; exact hK
  · rw [if_pos z, show decide (¬ ri r 50 (6 * n + a) ≤ 0) = true from decide_eq_true w, decide_eq_false (fun y => y v)] at hK; exact hK
  · rw [if_pos z, show decide (¬ ri r 50 (6 * n + a) ≤ 0) = true from decide_eq_true w, show decide (¬ ri r 50 (6 * n + b) ≤ 0) = true from decide_eq_true v] at hK; exact hK
  · rw [if_neg z, decide_eq_false (fun y => y w)] at hK; exact hK
  · rw [if_neg z, show decide (¬ mr_ma r (nI n) (nI l) (rc r 5) 0 ≤ 0) = true from decide_eq_true w] at hK; exact hK
/-- finished -/
def mr_fk (r : rS) (n : Nat) : Nat → Nat → Bool
  | 0, _ => true
  | m + 1, k => if ri r 50 (6 * n + k) ≤ 0 then false else mr_fk r n m (k + 1)
def mr_fl (r : rS) (n : Nat) : Nat → Nat → Bool
  | 0, _ => true
  | m + 1, l => if mr_done r n l = true then mr_fl r n m (l + 1) else false
theorem l2m_f48_0 {K : Int32 → mo_M → Prop} {x1 x3 : Int32} {m : Nat} (H : hs_in g e0 A (hs_put h r) M) (hK : K 0 M) : pp_M_finished_b48 g e0 K (m + 1) M (A 30 0 0) x1 0 x3 := by
  unfold pp_M_finished_b48
  exact mq_gi (rs_30 H) rfl ⟨fun _ => ⟨rfl, hK⟩, fun _ => ⟨fun _ => ⟨rfl, hK⟩, fun z => absurd rfl z⟩⟩
theorem l2m_f48 {K : Int32 → mo_M → Prop} {x1 : Int32} {n : Nat} (H : hs_in g e0 A (hs_put h r) M) (o : rr_ok r) (e1 : x1 = nI n) (hn : n < 16) : ∀ m l, l + m = rc r 3 → K (zb_i (mr_fl r n m l)) M → pp_M_finished_b48 g e0 K (m + 1) M (A 30 0 0) x1 1 (nI l)
  | 0, l, hl, hK => by
    have h3 := rr_3 o
    unfold pp_M_finished_b48
    refine mq_gi (rs_30 H) rfl ?_
    rw [rr_n o (show 1 ≤ 3 by decide) (by decide)]
    exact le_br (by omega) (by omega) (fun q => ⟨rfl, hK⟩) (fun q => absurd q (by omega))
  | m + 1, l, hl, hK => by
    have h3 := rr_3 o
    unfold pp_M_finished_b48
    unfold mr_fl at hK
    refine mq_gi (rs_30 H) rfl ?_
    rw [rr_n o (show 1 ≤ 3 by decide) (by decide)]
    refine le_br (by omega) (by omega) (fun q => absurd q (by omega)) (fun q => ⟨fun z => absurd z (by decide), fun _ => ⟨⟨_, rs_30 H⟩, l2m_isDone H o e1 rfl hn q ?_⟩⟩)
    rw [nI_1]
    cases hd : mr_done r n l with
    | true =>
      rw [if_pos hd] at hK
      exact l2m_f48 H o e1 hn m (l + 1) (by omega) hK
    | false =>
      rw [if_neg (by rw [hd]; decide)] at hK
      exact l2m_f48_0 H hK
theorem l2m_f13_0 {K : Int32 → mo_M → Prop} {x1 x3 : Int32} {m : Nat} (H : hs_in g e0 A (hs_put h r) M) (hK : K 0 M) : pp_M_finished_b13 g e0 K (m + 1) M (A 30 0 0) x1 0 x3 := by
  unfold pp_M_finished_b13 pp_M_finished_b46
  exact mq_gi (rs_30 H) rfl ⟨fun _ => ⟨1, l2m_f48_0 H hK⟩, fun _ => ⟨fun _ => ⟨1, l2m_f48_0 H hK⟩, fun z => absurd rfl z⟩⟩
theorem l2m_f13 {K : Int32 → mo_M → Prop} {x1 : Int32} {n : Nat} (H : hs_in g e0 A (hs_put h r) M) (o : rr_ok r) (e1 : x1 = nI n) (hn : n < 16) : ∀ m k, k + m = rc r 1 → K (zb_i (mr_fk r n m k && mr_fl r n (rc r 3) 0)) M → pp_M_finished_b13 g e0 K (m + 1) M (A 30 0 0) x1 1 (nI k)
  | 0, k, hk, hK => by
    have h1 := rr_1 o
    unfold pp_M_finished_b13 pp_M_finished_b46
    refine mq_gi (rs_30 H) rfl ?_
    rw [rr_n o (show 1 ≤ 1 by decide) (by decide)]
    exact le_br (by omega) (by omega) (fun q => ⟨rc r 3 + 1, l2m_f48 H o e1 hn (rc r 3) 0 (Nat.zero_add _) hK⟩) (fun q => absurd q (by omega))
  | m + 1, k, hk, hK => by
    have h1 := rr_1 o
    unfold pp_M_finished_b13
    unfold mr_fk at hK
    refine mq_gi (rs_30 H) rfl ?_
    rw [rr_n o (show 1 ≤ 1 by decide) (by decide)]
    refine le_br (by omega) (by omega) (fun q => absurd q (by omega)) (fun q => ⟨fun z => absurd z (by decide), fun _ => ⟨⟨_, rs_30 H⟩, l2m_recording H e1 rfl hn (by omega) ⟨fun w => ?_, fun w => ?_⟩⟩⟩)
    · rw [if_pos w] at hK
      unfold pp_M_finished_b39
      exact l2m_f13_0 H hK
    · rw [if_neg w] at hK
      unfold pp_M_finished_b39
      rw [nI_1]
      exact l2m_f13 H o e1 hn m (k + 1) (by omega) hK
def mr_fin (r : rS) (x : Int32) : Bool := (ix_n x (rc r 6)).isSome && (mr_fk r (ix_v x) (rc r 1) 0 && mr_fl r (ix_v x) (rc r 3) 0)
theorem l2m_finished {K : Int32 → mo_M → Prop} {x : Int32} (H : hs_in g e0 A (hs_put h r) M) (o : rr_ok r) (hK : ∀ M', hs_in g e0 A (hs_put h (m_t r 0)) M' → K (zb_i (mr_fin (m_t r 0) x)) M') : pp_M_finished g e0 K M (A 30 0 0) x := by
  unfold pp_M_finished
  have o1 := mt_ok r 0 o
  refine mq_pt (rs_30 H) (Nat.le_of_ble_eq_true rfl) ?_
  have H1 := rw_30_0 H 0
  change hs_in g e0 A (hs_put h (m_t r 0)) _ at H1
  generalize m_t r 0 = r1 at H1 o1 hK
  have h6 := rr_6 o1
  unfold mr_fin at hK
  refine ⟨⟨_, rs_30 H1⟩, l2m_isNumber H1 o1 ?_⟩
  cases hn0 : ix_n x (rc r1 6) with
  | none =>
    rw [hn0] at hK
    exact ⟨1, l2m_f13_0 H1 (hK _ H1)⟩
  | some n =>
    obtain ⟨en, ln⟩ := (ix_some (by omega)).mp hn0
    have vn : ix_v x = n := by rw [en]; exact ix_vn (by omega)
    rw [hn0, vn] at hK
    exact ⟨rc r1 1 + 1, l2m_f13 H1 o1 en (by omega) (rc r1 1) 0 (Nat.zero_add _) (hK _ H1)⟩
/-- piece -/
def mr_pis (r : rS) (x1 x2 x3 : Int32) : Bool := (ix_n x1 (rc r 6)).isSome && (ix_n x2 (rc r 1)).isSome && (ix_n x3 3).isSome && decide (¬ ri r 50 (6 * ix_v x1 + ix_v x2) ≤ 0)
def mr_pcT (r : rS) (x1 x2 x3 x4 : Int32) : Int32 := if mr_pis r x1 x2 x3 = false then 1 else if x4 < 0 ∨ ¬ x4 ≤ 1 then 2 else 0
def mr_piece (r : rS) (x1 x2 x3 x4 : Int32) : Int64 := if mr_pcT r x1 x2 x3 x4 = 0 then (if x4 = 0 then mr_at r 40 x2 x3 (ri r 50 (6 * ix_v x1 + ix_v x2)) else mr_at r 41 x2 x3 (ri r 50 (6 * ix_v x1 + ix_v x2))) else 0
theorem at_t (r : rS) (v : Int32) (f : Nat) (x1 x2 x3 : Int32) : mr_at (m_t r v) f x1 x2 x3 = mr_at r f x1 x2 x3 := by
  unfold mr_at
  rw [mt_c r v (show 4 ≠ 0 by decide)]
  refine sm_lc (fun i _ => ?_)
  unfold rm_st
  rw [mt_i r v (show 36 ≠ 30 by decide), mt_i r v (show 37 ≠ 30 by decide), mt_i r v (show 38 ≠ 30 by decide), mt_l]
theorem l2m_p37 {K : Int64 → mo_M → Prop} {x1 x2 x3 x4 : Int32} (H : hs_in g e0 A (hs_put h r) M) (o : rr_ok r) (hK : ∀ M', hs_in g e0 A (hs_put h (m_t r (mr_pcT r x1 x2 x3 x4))) M' → K (mr_piece r x1 x2 x3 x4) M') : pp_M_piece_b37 g e0 K M (A 30 0 0) x1 x2 x3 x4 (zb_i (mr_pis r x1 x2 x3)) := by
  have h6 := rr_6 o
  have h1 := rr_1 o
  have bad : ∀ v : Int32, ¬ v ≤ 0 → (∀ M', hs_in g e0 A (hs_put h (m_t r v)) M' → K 0 M') → pp_M_piece_b65 g e0 K M (A 30 0 0) x1 x2 x3 x4 v (A 30 0 0) := by
    intro v hv hK'
    unfold pp_M_piece_b65
    refine mq_pt (rs_30 H) (Nat.le_of_ble_eq_true rfl) ?_
    have H1 := rw_30_0 H v
    exact mq_gi (rs_30 H1) rfl ⟨fun z => absurd z hv, fun _ => hK' _ H1⟩
  unfold pp_M_piece_b37 pp_M_piece_b60
  unfold mr_piece mr_pcT at hK
  refine zb_br (fun z => ?_) (fun z => ⟨fun w => ?_, fun w => ⟨fun y => ?_, fun y => ?_⟩⟩)
  · rw [if_pos z, if_neg (by decide)] at hK
    exact bad 1 (by decide) hK
  · rw [if_neg (by rw [z]; decide), if_pos (Or.inl w), if_neg (by decide)] at hK
    exact bad 2 (by decide) hK
  · rw [if_neg (by rw [z]; decide), if_neg (fun v => v.elim w (fun u => u y)), if_pos rfl] at hK
    unfold mr_pis at z
    rw [Bool.and_eq_true, Bool.and_eq_true, Bool.and_eq_true] at z
    obtain ⟨n, hn0⟩ := Option.isSome_iff_exists.mp z.1.1.1
    obtain ⟨en, ln⟩ := (ix_some (by omega)).mp hn0
    obtain ⟨k, hk0⟩ := Option.isSome_iff_exists.mp z.1.1.2
    obtain ⟨ek, lk⟩ := (ix_some (by omega)).mp hk0
    have vn : ix_v x1 = n := by rw [en]; exact ix_vn (by omega)
    have vk : ix_v x2 = k := by rw [ek]; exact ix_vn (by omega)
    have o1 := mt_ok r 0 o
    rw [vn, vk, ← at_t r 0, ← at_t r 0, ← mt_i r 0 (show 50 ≠ 30 by decide)] at hK
    unfold pp_M_piece_b65
    refine mq_pt (rs_30 H) (Nat.le_of_ble_eq_true rfl) ?_
    have H1 := rw_30_0 H 0
    change hs_in g e0 A (hs_put h (m_t r 0)) _ at H1
    refine mq_gi (rs_30 H1) rfl ⟨fun _ => ⟨fun a => ⟨⟨_, rs_30 H1⟩, l2m_recording H1 en ek (by omega) (by omega) ⟨⟨_, rs_30 H1⟩, l2m_stockAt H1 o1 ?_⟩⟩, fun a => ⟨⟨_, rs_30 H1⟩, l2m_recording H1 en ek (by omega) (by omega) ⟨⟨_, rs_30 H1⟩, l2m_tillAt H1 o1 ?_⟩⟩⟩, fun u => absurd (show (0 : Int32) ≤ 0 by decide) u⟩
    · rw [if_pos a] at hK; exact hK _ H1
    · rw [if_neg a] at hK; exact hK _ H1
  · rw [if_neg (by rw [z]; decide), if_pos (Or.inr y), if_neg (by decide)] at hK
    exact bad 2 (by decide) hK
theorem l2m_piece {K : Int64 → mo_M → Prop} {x1 x2 x3 x4 : Int32} (H : hs_in g e0 A (hs_put h r) M) (o : rr_ok r) (hK : ∀ M', hs_in g e0 A (hs_put h (m_t r (mr_pcT r x1 x2 x3 x4))) M' → K (mr_piece r x1 x2 x3 x4) M') : pp_M_piece g e0 K M (A 30 0 0) x1 x2 x3 x4 := by
  have key := l2m_p37 H o hK
  have h6 := rr_6 o
  have h1 := rr_1 o
  unfold pp_M_piece pp_M_piece_b36
  unfold mr_pis at key
  refine ⟨⟨_, rs_30 H⟩, l2m_isNumber H o (zb_br (fun q1 => ?_) (fun q1 => ⟨⟨_, rs_30 H⟩, l2m_isKiosk H o (zb_br (fun q2 => ?_) (fun q2 => l2m_isCurrency (zb_br (fun q3 => ?_) (fun q3 => ⟨⟨_, rs_30 H⟩, ?_⟩))))⟩))⟩
  · rw [q1] at key; exact key
  · rw [q1, q2] at key; exact key
  · rw [q1, q2, q3] at key; exact key
  · obtain ⟨n, hn0⟩ := Option.isSome_iff_exists.mp q1
    obtain ⟨en, ln⟩ := (ix_some (by omega)).mp hn0
    obtain ⟨k, hk0⟩ := Option.isSome_iff_exists.mp q2
    obtain ⟨ek, lk⟩ := (ix_some (by omega)).mp hk0
    have vn : ix_v x1 = n := by rw [en]; exact ix_vn (by omega)
    have vk : ix_v x2 = k := by rw [ek]; exact ix_vn (by omega)
    rw [q1, q2, q3, vn, vk] at key
    refine l2m_recording H en ek (by omega) (by omega) ⟨fun z => ?_, fun z => ?_⟩
    · rw [decide_eq_false (fun y => y z)] at key; exact key
    · rw [show decide (¬ ri r 50 (6 * n + k) ≤ 0) = true from decide_eq_true z] at key; exact key
end RF6
