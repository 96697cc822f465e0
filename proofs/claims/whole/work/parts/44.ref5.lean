section RF5
variable {g : Nat → ClassId} {e0 : Nat → Nat} {A : hs_A} {h : hs_S} {r : rS} {M : mo_M}
theorem ta_sp {x : Int32} : ∀ m t v, mr_ta r x m t v = -1 ∨ ∃ t', t ≤ t' ∧ t' < t + m ∧ mr_ta r x m t v = nI t' ∧ mr_there r x t' = true
  | 0, t, v => Or.inl rfl
  | m + 1, t, v => by
    unfold mr_ta
    by_cases z : v < 0
    · rw [if_pos z]; exact Or.inl rfl
    · rw [if_neg z]
      by_cases q1 : mr_there r x t = true
      · rw [if_pos q1]
        by_cases w : v = 0
        · rw [if_pos w]; exact Or.inr ⟨t, by omega, by omega, rfl, q1⟩
        · rw [if_neg w]
          rcases ta_sp (x := x) m (t + 1) (v + (-1)) with y | ⟨t', h1, h2, h3, h4⟩
          · exact Or.inl y
          · exact Or.inr ⟨t', by omega, by omega, h3, h4⟩
      · rw [if_neg q1]
        rcases ta_sp (x := x) m (t + 1) v with y | ⟨t', h1, h2, h3, h4⟩
        · exact Or.inl y
        · exact Or.inr ⟨t', by omega, by omega, h3, h4⟩
/-- which thing a call speaks of; -1: none -/
def mr_sel (r : rS) (x1 x2 : Int32) : Int32 := if (ix_n x1 (rc r 3)).isSome = true ∧ ¬ x2 < 0 then mr_ta r x1 (rc r 5) 0 x2 else -1
theorem sel_sp (o : rr_ok r) {x1 x2 : Int32} (hs : ¬ mr_sel r x1 x2 < 0) : ∃ l t, l < rc r 3 ∧ x1 = nI l ∧ t < rc r 5 ∧ mr_sel r x1 x2 = nI t ∧ mr_there r x1 t = true := by
  have h3 := rr_3 o
  unfold mr_sel at hs ⊢
  by_cases z : (ix_n x1 (rc r 3)).isSome = true ∧ ¬ x2 < 0
  · rw [if_pos z] at hs ⊢
    obtain ⟨l, hl0⟩ := Option.isSome_iff_exists.mp z.1
    obtain ⟨el, ll⟩ := (ix_some (by omega)).mp hl0
    rcases ta_sp (r := r) (x := x1) (rc r 5) 0 x2 with y | ⟨t', h1, h2, h3', h4⟩
    · rw [y] at hs; exact absurd (by decide) hs
    · exact ⟨l, t', ll, el, by omega, h3', h4⟩
  · rw [if_neg z] at hs; exact absurd (by decide) hs
def m_tk (r : rS) (t : Nat) : rS := m_u (m_u r 30 2 (ri r 30 2 + 1)) 49 t (ri r 30 2 + 1)
theorem l2m_tk {K : Int32 → mo_M → Prop} {x : Int32} {t : Nat} (H : hs_in g e0 A (hs_put h r) M) (hx : x = nI t) (ht : t < 800) (hK : ∀ M', hs_in g e0 A (hs_put h (m_tk r t)) M' → K 1 M') : pp_M_deliver_b158 g e0 K M (A 30 0 0) x := by
  unfold pp_M_deliver_b158
  refine mq_gi (rs_30 H) rfl (mq_pt (rs_30 H) (Nat.le_of_ble_eq_true rfl) ?_)
  have H1 := rw_30_2 H (ri r 30 2 + 1)
  exact mq_gr (rs_30 H1) rfl (mq_gi (rs_30 H1) rfl (mq_si (rs_49 H1) hx ht (by decide) ⟨rfl, hK _ (rw_49 H1 t (ri r 30 2 + 1))⟩))
def mr_df (r : rS) (l t : Nat) : rS := m_tk (if ri r 43 t = 1 then m_note r (ri r 32 l) (ri r 45 t) (ri r 46 t).toInt64 0 0 else r) t
def mr_dl (t k : Nat) : Nat → Nat → rS → rS
  | 0, _, r => r
  | m + 1, n, r => mr_dl t k m (n + 1) (if ¬ ri r 43 t = 3 ∧ mr_mk r t n = true then mr_record r n k else r)
theorem l2m_dl_loop {K : Int32 → mo_M → Prop} {x1 x3 : Int32} {t l k : Nat} (e1 : x1 = nI l) (e3 : x3 = nI t) : ∀ (m n : Nat) (r : rS) (M : mo_M), hs_in g e0 A (hs_put h r) M → rr_ok r → l < rc r 3 → ri r 32 l = nI k → k < rc r 1 → t < rc r 5 → n + m = rc r 6 → rc r 5 + m_U r ≤ 800 → rc r 2 + 13 * m + 2 < 2 ^ 30 → rc r 4 < 1100 → (∀ M', hs_in g e0 A (hs_put h (mr_df (mr_dl t k m n r) l t)) M' → K 1 M') → pp_M_deliver_b76 g e0 K (m + 1) M (A 30 0 0) x1 x3 (nI n)
  | 0, n, r, M, H, o, hl, ek, hk, ht, hn, hU, hT, hN, hK => by
    have h6 := rr_6 o
    have h5 := rr_5 o
    have h3 := rr_3 o
    unfold pp_M_deliver_b76
    unfold mr_dl mr_df at hK
    refine mq_gi (rs_30 H) rfl ?_
    rw [rr_n o (show 1 ≤ 6 by decide) (by decide)]
    refine le_br (by omega) (by omega) (fun q => mq_gr (rs_30 H) rfl (mq_ai (rs_43 H) e3 (by omega) (by decide) ⟨fun z => ?_, fun z => ?_⟩)) (fun q => absurd q (by omega))
    · rw [if_pos z] at hK
      refine mq_gr (rs_30 H) rfl (mq_ai (rs_32 H) e1 (by omega) (by decide) (mq_gr (rs_30 H) rfl (mq_ai (rs_45 H) e3 (by omega) (by decide) (mq_gr (rs_30 H) rfl (mq_ai (rs_46 H) e3 (by omega) (by decide) ⟨⟨_, rs_30 H⟩, l2m_note H o hN (fun M1 H1 => ?_)⟩)))))
      exact l2m_tk H1 e3 (by omega) hK
    · rw [if_neg z] at hK
      exact l2m_tk H e3 (by omega) hK
  | m + 1, n, r, M, H, o, hl, ek, hk, ht, hn, hU, hT, hN, hK => by
    have h6 := rr_6 o
    have h5 := rr_5 o
    have h3 := rr_3 o
    have h1 := rr_1 o
    unfold pp_M_deliver_b76
    unfold mr_dl at hK
    refine mq_gi (rs_30 H) rfl ?_
    rw [rr_n o (show 1 ≤ 6 by decide) (by decide)]
    refine le_br (by omega) (by omega) (fun q => absurd q (by omega)) (fun q => mq_gr (rs_30 H) rfl (mq_ai (rs_43 H) e3 (by omega) (by decide) ⟨fun z => ?_, fun z => ⟨⟨_, rs_30 H⟩, l2m_isMarked H o e3 rfl ht (by omega) (zb_br (fun w => ?_) (fun w => ?_))⟩⟩))
    · rw [if_neg (fun y => y.1 z)] at hK
      unfold pp_M_deliver_b117
      rw [nI_1]
      exact l2m_dl_loop e1 e3 m (n + 1) r M H o hl ek hk ht (by omega) hU (by omega) hN hK
    · rw [if_neg (fun y => by rw [y.2] at w; cases w)] at hK
      unfold pp_M_deliver_b117
      rw [nI_1]
      exact l2m_dl_loop e1 e3 m (n + 1) r M H o hl ek hk ht (by omega) hU (by omega) hN hK
    · rw [if_pos ⟨z, w⟩] at hK
      have hn16 : n < 16 := by omega
      refine mq_gr (rs_30 H) rfl (mq_ai (rs_32 H) e1 (by omega) (by decide) ⟨⟨_, rs_30 H⟩, l2m_record H o rfl ek hn16 (by omega) (rcd_q o hn16 hk hU (by omega)) (by omega) (fun M1 H1 => ?_)⟩)
      obtain ⟨o1, c5, c2, co, ci, cl, ct, g5, g2⟩ := rec_c o hn16 hk hU (show rc r 2 + 13 < 2 ^ 30 by omega)
      unfold pp_M_deliver_b117
      rw [nI_1]
      refine l2m_dl_loop e1 e3 m (n + 1) (mr_record r n k) M1 H1 o1 ?_ ?_ ?_ (by omega) ?_ (by omega) (by omega) ?_ hK
      · rw [co 3 (by decide) (by decide)]; exact hl
      · rw [ci 32 (by omega)]; exact ek
      · rw [co 1 (by decide) (by decide)]; exact hk
      · rw [co 6 (by decide) (by decide)]; omega
      · rw [co 4 (by decide) (by decide)]; exact hN
def mr_dv (r : rS) (l t : Nat) : rS := mr_df (mr_dl t (ix_v (ri r 32 l)) (rc r 6) 0 (if ri r 43 t = 3 then mr_record r (ix_v (ri r 47 t)) (ix_v (ri r 32 l)) else r)) l t
def mr_deliver (r : rS) (x1 x2 : Int32) : Int32 × rS := if mr_sel r x1 x2 < 0 then (0, r) else if ¬ ri r 33 (ix_v x1) = 0 ∧ ¬ x2 ≤ 0 then (0, r) else (1, mr_dv r (ix_v x1) (ix_v (mr_sel r x1 x2)))
theorem l2m_dv27 {K : Int32 → mo_M → Prop} {x1 x2 : Int32} (H : hs_in g e0 A (hs_put h r) M) (o : rr_ok r) (hU : rc r 5 + m_U r ≤ 800) (hT : rc r 2 + 300 < 2 ^ 30) (hN : rc r 4 < 1100) (hK : ∀ M', hs_in g e0 A (hs_put h (mr_deliver r x1 x2).2) M' → K (mr_deliver r x1 x2).1 M') : pp_M_deliver_b27 g e0 K M (A 30 0 0) x1 x2 (mr_sel r x1 x2) := by
  have h6 := rr_6 o
  have h5 := rr_5 o
  have h3 := rr_3 o
  have h1 := rr_1 o
  unfold pp_M_deliver_b27
  unfold mr_deliver at hK
  refine ⟨fun z => ⟨rfl, ?_⟩, fun z => ?_⟩
  · rw [if_pos z] at hK; exact hK _ H
  · rw [if_neg z] at hK
    obtain ⟨l, t, hl, el, ht, et, hth⟩ := sel_sp o z
    have vl : ix_v x1 = l := by rw [el]; exact ix_vn (by omega)
    have vt : ix_v (mr_sel r x1 x2) = t := by rw [et]; exact ix_vn (by omega)
    rw [vl, vt] at hK
    obtain ⟨k, hk, ek⟩ := (o.2.2.2.2.2.2.2.1 l hl).2
    have vk : ix_v (ri r 32 l) = k := by rw [ek]; exact ix_vn (by omega)
    have go : (∀ M', hs_in g e0 A (hs_put h (mr_dv r l t)) M' → K 1 M') → pp_M_deliver_b47 g e0 K M (A 30 0 0) x1 (mr_sel r x1 x2) := by
      intro hK'
      unfold mr_dv at hK'
      rw [vk] at hK'
      unfold pp_M_deliver_b47 pp_M_deliver_b73
      refine mq_gr (rs_30 H) rfl (mq_ai (rs_43 H) et (by omega) (by decide) ⟨fun w => ?_, fun w => ?_⟩)
      · rw [if_pos w] at hK'
        obtain ⟨n, hn, en⟩ := o.2.2.2.2.2.2.2.2.2.1 t ht w
        have vn : ix_v (ri r 47 t) = n := by rw [en]; exact ix_vn (by omega)
        rw [vn] at hK'
        refine mq_gr (rs_30 H) rfl (mq_ai (rs_47 H) et (by omega) (by decide) (mq_gr (rs_30 H) rfl (mq_ai (rs_32 H) el (by omega) (by decide) ⟨⟨_, rs_30 H⟩, l2m_record H o en ek hn (by omega) (rcd_q o hn hk hU (by omega)) (by omega) (fun M1 H1 => ⟨rc r 6 + 1, ?_⟩)⟩)))
        obtain ⟨o1, c5, c2, co, ci, cl, ct, g5, g2⟩ := rec_c o hn hk hU (show rc r 2 + 13 < 2 ^ 30 by omega)
        refine l2m_dl_loop el et (rc r 6) 0 (mr_record r n k) M1 H1 o1 ?_ ?_ ?_ (by omega) ?_ (by omega) (by omega) ?_ hK'
        · rw [co 3 (by decide) (by decide)]; exact hl
        · rw [ci 32 (by omega)]; exact ek
        · rw [co 1 (by decide) (by decide)]; exact hk
        · rw [co 6 (by decide) (by decide)]; omega
        · rw [co 4 (by decide) (by decide)]; exact hN
      · rw [if_neg w] at hK'
        exact ⟨rc r 6 + 1, l2m_dl_loop el et (rc r 6) 0 r M H o hl ek hk ht (by omega) hU (by omega) hN hK'⟩
    refine mq_gr (rs_30 H) rfl (mq_ai (rs_33 H) el (by omega) (by decide) ⟨fun w => ?_, fun w => ⟨fun y => ?_, fun y => ⟨rfl, ?_⟩⟩⟩)
    · rw [if_neg (fun v => v.1 w)] at hK; exact go hK
    · rw [if_neg (fun v => v.2 y)] at hK; exact go hK
    · rw [if_pos ⟨w, y⟩] at hK; exact hK _ H
theorem l2m_deliver {K : Int32 → mo_M → Prop} {x1 x2 : Int32} (H : hs_in g e0 A (hs_put h r) M) (o : rr_ok r) (hU : rc r 5 + m_U r ≤ 800) (hT : rc r 2 + 300 < 2 ^ 30) (hN : rc r 4 < 1100) (hK : ∀ M', hs_in g e0 A (hs_put h (mr_deliver (m_t r 0) x1 x2).2) M' → K (mr_deliver (m_t r 0) x1 x2).1 M') : pp_M_deliver g e0 K M (A 30 0 0) x1 x2 := by
  unfold pp_M_deliver
  have o1 := mt_ok r 0 o
  refine mq_pt (rs_30 H) (Nat.le_of_ble_eq_true rfl) ?_
  have H1 := rw_30_0 H 0
  change hs_in g e0 A (hs_put h (m_t r 0)) _ at H1
  rw [← mt_c r 0 (show 4 ≠ 0 by decide)] at hN
  rw [← mt_c r 0 (show 2 ≠ 0 by decide)] at hT
  rw [← mt_c r 0 (show 5 ≠ 0 by decide), ← mU_c (r := r) (r' := m_t r 0) (mt_c r 0 (by decide)) (mt_i r 0 (by decide)) (mt_i r 0 (by decide))] at hU
  generalize m_t r 0 = r1 at H1 o1 hK hN hU hT
  have key := l2m_dv27 H1 o1 hU hT hN hK
  unfold mr_sel at key
  refine ⟨⟨_, rs_30 H1⟩, l2m_isLink H1 o1 (zb_br (fun q1 => ?_) (fun q1 => ⟨fun q2 => ?_, fun q2 => ⟨⟨_, rs_30 H1⟩, l2m_thingAt H1 o1 ?_⟩⟩))⟩
  · rw [if_neg (fun y => by rw [y.1] at q1; cases q1)] at key; exact key
  · rw [if_neg (fun y => y.2 q2)] at key; exact key
  · rw [if_pos ⟨q1, q2⟩] at key; exact key
/-- a thing's marks, as the reference adds them -/
def mr_mb (r : rS) (t n : Nat) : Int32 := if mr_mk r t n = true then (1 : Int32) <<< (nI n &&& 31) else 0
theorem l2m_mb_loop {K : Int32 → mo_M → Prop} {x4 : Int32} {t : Nat} (H : hs_in g e0 A (hs_put h r) M) (o : rr_ok r) (e4 : x4 = nI t) (ht : t < rc r 5) (h3 : ¬ ri r 43 t = 3) (hK : K (sm_i (mr_mb r t) (rc r 6)) M) : ∀ m n, n + m = rc r 6 → pp_M_thing_b125 g e0 K (m + 1) M (A 30 0 0) x4 (sm_i (mr_mb r t) n) (nI n)
  | 0, n, hn => by
    have h6 := rr_6 o
    unfold pp_M_thing_b125
    refine mq_gi (rs_30 H) rfl ?_
    rw [rr_n o (show 1 ≤ 6 by decide) (by decide)]
    refine le_br (by omega) (by omega) (fun q => ?_) (fun q => absurd q (by omega))
    have e : n = rc r 6 := by omega
    rw [e]
    exact hK
  | m + 1, n, hn => by
    have h6 := rr_6 o
    have h5 := rr_5 o
    unfold pp_M_thing_b125
    refine mq_gi (rs_30 H) rfl ?_
    rw [rr_n o (show 1 ≤ 6 by decide) (by decide)]
    refine le_br (by omega) (by omega) (fun q => absurd q (by omega)) (fun q => mq_gr (rs_30 H) rfl (mq_ai (rs_43 H) e4 (by omega) (by decide) ⟨fun z => absurd z h3, fun z => ⟨⟨_, rs_30 H⟩, l2m_isMarked H o e4 rfl ht (by omega) ?_⟩⟩))
    have go : pp_M_thing_b125 g e0 K (m + 1) M (A 30 0 0) x4 (sm_i (mr_mb r t) n + mr_mb r t n) (nI (n + 1)) := l2m_mb_loop H o e4 ht h3 hK m (n + 1) (by omega)
    unfold pp_M_thing_b166
    simp only [nI_1]
    unfold mr_mb at go
    refine zb_br (fun q1 => ?_) (fun q1 => ?_)
    · rw [if_neg (by rw [q1]; decide)] at go; exact go
    · rw [if_pos q1] at go; exact go
def mr_thv (r : rS) (t : Nat) (x : Int32) : Int32 := if x = 0 then ri r 43 t else if x = 1 then ri r 45 t else if x = 2 then (if ri r 43 t = 3 then ri r 47 t else ri r 46 t) else (if ri r 43 t = 3 then 0 else sm_i (mr_mb r t) (rc r 6))
def mr_tht (r : rS) (x1 x2 x3 : Int32) : Int32 := if mr_sel r x1 x2 < 0 then 1 else if x3 < 0 ∨ ¬ x3 ≤ 3 then 2 else 0
def mr_thing (r : rS) (x1 x2 x3 : Int32) : Int32 := if mr_tht r x1 x2 x3 = 0 then mr_thv r (ix_v (mr_sel r x1 x2)) x3 else 0
theorem mk_t (r : rS) (v : Int32) (t n : Nat) : mr_mk (m_t r v) t n = mr_mk r t n := by
  unfold mr_mk m_fr
  rw [mt_i r v (show 50 ≠ 30 by decide), mt_i r v (show 48 ≠ 30 by decide), mt_i r v (show 31 ≠ 30 by decide), mt_i r v (show 44 ≠ 30 by decide)]
theorem thv_t (r : rS) (v : Int32) (t : Nat) (x : Int32) : mr_thv (m_t r v) t x = mr_thv r t x := by
  unfold mr_thv
  rw [mt_i r v (show 43 ≠ 30 by decide), mt_i r v (show 45 ≠ 30 by decide), mt_i r v (show 46 ≠ 30 by decide), mt_i r v (show 47 ≠ 30 by decide), mt_c r v (show 6 ≠ 0 by decide)]
  have : mr_mb (m_t r v) t = mr_mb r t := funext fun n => by unfold mr_mb; rw [mk_t]
  rw [this]
theorem l2m_th22 {K : Int32 → mo_M → Prop} {x1 x2 x3 : Int32} (H : hs_in g e0 A (hs_put h r) M) (o : rr_ok r) (hK : ∀ M', hs_in g e0 A (hs_put h (m_t r (mr_tht r x1 x2 x3))) M' → K (mr_thing r x1 x2 x3) M') : pp_M_thing_b22 g e0 K M (A 30 0 0) x3 (mr_sel r x1 x2) := by
  have h6 := rr_6 o
  have h5 := rr_5 o
  have bad : ∀ v : Int32, ¬ v ≤ 0 → (∀ M', hs_in g e0 A (hs_put h (m_t r v)) M' → K 0 M') → pp_M_thing_b48 g e0 K M (A 30 0 0) x3 (mr_sel r x1 x2) v (A 30 0 0) := by
    intro v hv hK'
    unfold pp_M_thing_b48
    refine mq_pt (rs_30 H) (Nat.le_of_ble_eq_true rfl) ?_
    have H1 := rw_30_0 H v
    exact mq_gi (rs_30 H1) rfl ⟨fun z => absurd z hv, fun _ => hK' _ H1⟩
  unfold pp_M_thing_b22 pp_M_thing_b43
  unfold mr_thing mr_tht at hK
  refine ⟨fun z => ?_, fun z => ?_⟩
  · have z' : ¬ mr_sel r x1 x2 < 0 := Int32.not_lt.mpr z
    rw [if_neg z'] at hK
    refine ⟨fun w => ?_, fun w => ⟨fun y => ?_, fun y => ?_⟩⟩
    · rw [if_pos (Or.inl w), if_neg (by decide)] at hK
      exact bad 2 (by decide) hK
    · rw [if_neg (fun v => v.elim w (fun u => u y)), if_pos rfl] at hK
      obtain ⟨l, t, hl, el, ht, et, hth⟩ := sel_sp o z'
      have vt : ix_v (mr_sel r x1 x2) = t := by rw [et]; exact ix_vn (by omega)
      rw [vt, ← thv_t r 0] at hK
      unfold pp_M_thing_b48
      refine mq_pt (rs_30 H) (Nat.le_of_ble_eq_true rfl) ?_
      have H1 := rw_30_0 H 0
      change hs_in g e0 A (hs_put h (m_t r 0)) _ at H1
      have o1 := mt_ok r 0 o
      have ht1 : t < rc (m_t r 0) 5 := by rw [mt_c r 0 (by decide)]; exact ht
      rw [et]
      refine mq_gi (rs_30 H1) rfl ⟨fun _ => ?_, fun u => absurd (show (0 : Int32) ≤ 0 by decide) u⟩
      generalize m_t r 0 = r1 at H1 hK o1 ht1
      unfold mr_thv at hK
      refine ⟨fun a0 => ?_, fun a0 => ⟨fun a1 => ?_, fun a1 => ⟨fun a2 => ?_, fun a2 => ?_⟩⟩⟩
      · rw [if_pos a0] at hK
        exact mq_gr (rs_30 H1) rfl (mq_ai (rs_43 H1) rfl (by omega) (by decide) (hK _ H1))
      · rw [if_neg a0, if_pos a1] at hK
        exact mq_gr (rs_30 H1) rfl (mq_ai (rs_45 H1) rfl (by omega) (by decide) (hK _ H1))
      · rw [if_neg a0, if_neg a1, if_pos a2] at hK
        refine mq_gr (rs_30 H1) rfl (mq_ai (rs_43 H1) rfl (by omega) (by decide) ⟨fun b => ?_, fun b => ?_⟩)
        · rw [if_pos b] at hK
          exact mq_gr (rs_30 H1) rfl (mq_ai (rs_47 H1) rfl (by omega) (by decide) (hK _ H1))
        · rw [if_neg b] at hK
          exact mq_gr (rs_30 H1) rfl (mq_ai (rs_46 H1) rfl (by omega) (by decide) (hK _ H1))
      · rw [if_neg a0, if_neg a1, if_neg a2] at hK
        have h6' := rr_6 o1
        have h5' := rr_5 o1
        by_cases b : ri r1 43 t = 3
        · rw [if_pos b] at hK
          refine ⟨1, ?_⟩
          unfold pp_M_thing_b125
          refine mq_gi (rs_30 H1) rfl ⟨fun _ => hK _ H1, fun _ => mq_gr (rs_30 H1) rfl (mq_ai (rs_43 H1) rfl (by omega) (by decide) ⟨fun _ => hK _ H1, fun c => absurd b c⟩)⟩
        · rw [if_neg b] at hK
          exact ⟨rc r1 6 + 1, l2m_mb_loop H1 o1 rfl ht1 b (hK _ H1) (rc r1 6) 0 (Nat.zero_add _)⟩
    · rw [if_pos (Or.inr y), if_neg (by decide)] at hK
      exact bad 2 (by decide) hK
  · have z' : mr_sel r x1 x2 < 0 := Int32.not_le.mp z
    rw [if_pos z', if_neg (by decide)] at hK
    exact bad 1 (by decide) hK
theorem l2m_thing {K : Int32 → mo_M → Prop} {x1 x2 x3 : Int32} (H : hs_in g e0 A (hs_put h r) M) (o : rr_ok r) (hK : ∀ M', hs_in g e0 A (hs_put h (m_t r (mr_tht r x1 x2 x3))) M' → K (mr_thing r x1 x2 x3) M') : pp_M_thing g e0 K M (A 30 0 0) x1 x2 x3 := by
  have key := l2m_th22 H o hK
  unfold pp_M_thing
  unfold mr_sel at key
  refine ⟨⟨_, rs_30 H⟩, l2m_isLink H o (zb_br (fun q1 => ?_) (fun q1 => ⟨fun q2 => ?_, fun q2 => ⟨⟨_, rs_30 H⟩, l2m_thingAt H o ?_⟩⟩))⟩
  · rw [if_neg (fun y => by rw [y.1] at q1; cases q1)] at key; exact key
  · rw [if_neg (fun y => y.2 q2)] at key; exact key
  · rw [if_pos ⟨q1, q2⟩] at key; exact key
end RF5
