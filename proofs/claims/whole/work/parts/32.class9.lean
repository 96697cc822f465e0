section CL9
variable {g : Nat → ClassId} {e0 : Nat → Nat} {A : hs_A} {h : hs_S} {M : mo_M} {f i j : Nat}
/-- the link's marker of x is taken -/
def hc_mt (h : hs_S) (l : Nat) (x : Int32) : hs_S := hs_si h 19 l 0 (upd (hs_i h 19 l 0) 1 (hs_i h 19 l 0 1 ||| ((1 : Int32) <<< (x &&& 31))))
def hc_tm (h : hs_S) (l n : Nat) (x : Int32) : hs_S := hc_mt (hc_rec h (hs_n h 4 l) n x) l x
theorem l2_takeMarker {K : mo_M → Prop} {l n mc ms : Nat} {x : Int32} (H : hs_in g e0 A h M) (o : hs_ok h) (hl : l < hs_n h 1 0) (hx : x = nI n) (hn : n < 16) (hb : hs_qb h 800) (hm : hc_bit (hs_i h 8 (hs_n h 4 l) 0 1) x = false → 24 ≤ mc ∧ 15600 ≤ ms) (hK : ∀ A' M', hs_sm A A' → hs_in g e0 A' (hc_tm h l n x) M' → K M') : pp_H_takeMarker g e0 mc ms K M (A 0 0 0) (A 19 l 0) x := by
  have ht := (o.2.2.2.1 l hl).2
  unfold pp_H_takeMarker
  refine mq_gr (hs_19 H hl) rfl ⟨mc, ms, by omega, by omega, ⟨_, hs_0 H⟩, l2_recordAt H o ht hx hn hb hm (fun A' M' sm H' => ?_)⟩
  have hl' : l < hs_n (hc_rec h (hs_n h 4 l) n x) 1 0 := by rw [hn_rec (by decide) (by decide)]; exact hl
  have hl7 := Nat.lt_of_lt_of_le hl' H'.2.2
  rw [← sm 19 l 0 (by decide) (by decide) (by decide)]
  exact mq_gi (hs_19 H' hl') rfl (mq_pt (hs_19 H' hl') (Nat.le_of_ble_eq_true rfl) ⟨by omega, by omega, hK A' _ sm (hs_w19_1 H' hl7 _)⟩)
/-- what is in the hand is kept aside -/
def hc_keep (h : hs_S) : hs_S := hs_sn (hs_sn (hs_si h 26 0 0 (hs_i h 25 0 0)) 6 0 0) 8 0 1
def hs_kA (A : hs_A) : hs_A := fun f i j => if f = 26 then A 25 0 0 else A f i j
theorem hk_n (h : hs_S) (a b : Nat) (h6 : a ≠ 6) (h8 : a ≠ 8) : hs_n (hc_keep h) a b = hs_n h a b := by simp [hc_keep, hs_n_sn, hs_n_si, h6, h8]
theorem hk_dom (h25 : f ≠ 25) (h26 : f ≠ 26) : hs_dom (hc_keep h) f i j = hs_dom h f i j := by
  unfold hs_dom
  simp only [hk_n h 0 0 (by decide) (by decide), hk_n h 7 0 (by decide) (by decide), hk_n h 5 _ (by decide) (by decide), h25, h26, if_false]
  rfl
theorem hs_keep (H : hs_in g e0 A h M) (h6 : hs_n h 6 0 = 1) : hs_in g e0 (hs_kA A) (hc_keep h) M := by
  have d25 : hs_dom h 25 0 0 = true := by simp [hs_dom, h6]
  have hA : ∀ f i j, f ≠ 26 → hs_kA A f i j = A f i j := fun f i j hf => if_neg hf
  have n25 : ∀ i j, hs_dom (hc_keep h) 25 i j = false := fun i j => by simp [hs_dom, hc_keep, hs_n_sn]
  have m25 : ∀ f i j, hs_dom (hc_keep h) f i j = true → f ≠ 25 := fun f i j hd q => by rw [q, n25] at hd; cases hd
  refine ⟨fun f i j hd => ?_, fun f i j f' i' j' hd hd' e => ?_, ?_⟩
  · have q25 := m25 f i j hd
    by_cases q26 : f = 26
    · subst q26
      have hij : i = 0 ∧ j = 0 := by simp [hs_dom] at hd; exact hd.2
      obtain ⟨rfl, rfl⟩ := hij
      exact hs_25 H h6
    · rw [hk_dom q25 q26] at hd
      rw [hA f i j q26, H.1 f i j hd]
      congr 1
      refine (hs_eA (h' := hc_keep h) (A' := hs_kA A) hd H.2.2 rfl ?_ (hk_n h 0 0 (by decide) (by decide)) (hk_n h 2 0 (by decide) (by decide)) (fun _ => ⟨hk_n h 3 i (by decide) (by decide), hk_n h 4 i (by decide) (by decide)⟩) (fun _ => ⟨hk_n h 5 i (by decide) (by decide), ?_⟩) (fun _ => rfl) (fun a b c hz9 => ?_) (fun a b c hz9 _ => hA a b c (by omega)) (fun _ => hA 21 i 0 (by decide)) (fun _ p _ _ => hA 24 i p (by decide))).symm
      · show (if f = 26 ∧ i = 0 ∧ j = 0 then _ else hs_i h f i j) = _
        rw [if_neg (fun z => q26 z.1)]
      · unfold hs_z
        rw [hk_n h 1 0 (by decide) (by decide)]
        rfl
      · exact hA a b c (by omega)
  · have q25 := m25 f i j hd
    have r25 := m25 f' i' j' hd'
    have eq26 : ∀ i j, hs_kA A 26 i j = A 25 0 0 := fun _ _ => rfl
    by_cases q1 : f = 26 <;> by_cases q2 : f' = 26
    · subst q1
      subst q2
      have hij : i = 0 ∧ j = 0 := by simp [hs_dom] at hd; exact hd.2
      have hij' : i' = 0 ∧ j' = 0 := by simp [hs_dom] at hd'; exact hd'.2
      exact ⟨rfl, hij.1.trans hij'.1.symm, hij.2.trans hij'.2.symm⟩
    · subst q1
      rw [hk_dom r25 q2] at hd'
      rw [eq26, hA f' i' j' q2] at e
      exact absurd (H.2.1 _ _ _ _ _ _ d25 hd' e).1.symm r25
    · subst q2
      rw [hk_dom q25 q1] at hd
      rw [eq26, hA f i j q1] at e
      exact absurd (H.2.1 _ _ _ _ _ _ hd d25 e).1 q25
    · rw [hk_dom q25 q1] at hd
      rw [hk_dom r25 q2] at hd'
      rw [hA f i j q1, hA f' i' j' q2] at e
      exact H.2.1 _ _ _ _ _ _ hd hd' e
  · rw [hk_n h 1 0 (by decide) (by decide), hk_n h 7 0 (by decide) (by decide)]
    exact H.2.2
/-- what was kept aside is gone -/
def hc_unk (h : hs_S) : hs_S := hs_sn h 8 0 0
theorem hs_unk (H : hs_in g e0 A h M) : hs_in g e0 A (hc_unk h) M := by
  have hn : ∀ a b, a ≠ 8 → hs_n (hc_unk h) a b = hs_n h a b := fun a b ha => by simp [hc_unk, hs_n_sn, ha]
  have hd26 : ∀ i j, hs_dom (hc_unk h) 26 i j = false := fun i j => by simp [hs_dom, hc_unk, hs_n_sn]
  have hdom : ∀ f i j, f ≠ 26 → hs_dom (hc_unk h) f i j = hs_dom h f i j := fun f i j hf => by
    unfold hs_dom
    simp only [hn 0 0 (by decide), hn 7 0 (by decide), hn 6 0 (by decide), hn 5 _ (by decide), hf, if_false]
    rfl
  have n26 : ∀ f i j, hs_dom (hc_unk h) f i j = true → f ≠ 26 := fun f i j hd q => by rw [q, hd26] at hd; cases hd
  refine ⟨fun f i j hd => ?_, fun f i j f' i' j' hd hd' e => ?_, ?_⟩
  · have q := n26 f i j hd
    rw [hdom f i j q] at hd
    rw [H.1 f i j hd]
    congr 1
  · have q := n26 f i j hd
    have q' := n26 f' i' j' hd'
    rw [hdom f i j q] at hd
    rw [hdom f' i' j' q'] at hd'
    exact H.2.1 _ _ _ _ _ _ hd hd' e
  · rw [hn 1 0 (by decide), hn 7 0 (by decide)]
    exact H.2.2
/-- is the kept bag late for n on link l -/
def hc_late (h : hs_S) (l n : Nat) : Bool := if hs_i h 19 l 0 0 = 0 then hc_bit (hs_i h 26 0 0 3) (nI n) else hc_bit (hs_i h 19 l 0 1) (nI n)
def hc_ar1 (h : hs_S) (l c n : Nat) : hs_S := if hc_bit (hs_i h 8 (hs_n h 4 l) 0 1) (nI n) = true ∧ hc_late h l n = false then hs_sl h 23 l n (vp_updL (hs_l h 23 l n) c (hs_l h 23 l n c + (hs_i h 26 0 0 2).toInt64)) else h
def hc_arl (l c : Nat) : Nat → Nat → hs_S → hs_S
  | 0, _, h => h
  | m + 1, n, h => hc_arl l c m (n + 1) (hc_ar1 h l c n)
theorem ar1_same (h : hs_S) (l c n : Nat) : (hc_ar1 h l c n).2 = h.2 := by
  unfold hc_ar1
  split <;> rfl
theorem l2_ar_34 {K : mo_M → Prop} {B : mo_M → Nat → Nat → Int32 → Prop} {l c n : Nat} {s0 : Int32} (H : hs_in g e0 A h M) (o : hs_ok h) (hl : l < hs_n h 1 0) (h8 : hs_n h 8 0 = 1) (hc : hs_i h 26 0 0 1 = nI c) (hc3 : c < 3) (hn : n < 16) (hs : s0 = zb_i (hc_late h l n)) (hK : ∀ M', hs_in g e0 A (hc_ar1 h l c n) M' → B M' (A 19 l 0) (A 26 0 0) (nI n + 1)) : pp_L_addToRoads_b34 g e0 K B M (A 19 l 0) (A 26 0 0) (nI n) s0 := by
  have ht := (o.2.2.2.1 l hl).2
  have hl7 := Nat.lt_of_lt_of_le hl H.2.2
  unfold pp_L_addToRoads_b34 pp_L_addToRoads_b69
  unfold hc_ar1 at hK
  refine mq_gr (hs_19 H hl) rfl ⟨⟨_, hs_8 H ht⟩, l2_hasMark H ht (zb_br (fun q => ?_) (fun q => ?_))⟩
  · rw [if_neg (fun z => by rw [z.1] at q; cases q)] at hK
    exact hK M H
  · rw [hs]
    refine zb_br (fun r => ?_) (fun r => ?_)
    · rw [if_pos ⟨q, r⟩] at hK
      exact mq_gr (hs_19 H hl) rfl (mq_aq (hs_22 H hl) rfl hn (by decide) rfl (mq_gi (hs_26 H h8) rfl (mq_al (hs_23 H hl hn) hc hc3 (by decide) (mq_gi (hs_26 H h8) rfl (mq_sl (hs_23 H hl hn) hc hc3 (by decide) (hK _ (hs_wl H (by simp [hs_dom, hl7, hn]) rfl _)))))))
    · rw [if_neg (fun z => by rw [z.2] at r; cases r)] at hK
      exact hK M H
theorem l2_ar_loop {K : mo_M → Prop} {l c : Nat} (hc3 : c < 3) : ∀ (m n : Nat) (h : hs_S) (M : mo_M), hs_in g e0 A h M → hs_ok h → l < hs_n h 1 0 → hs_n h 8 0 = 1 → hs_i h 26 0 0 1 = nI c → n + m = 16 → (∀ M', hs_in g e0 A (hc_arl l c m n h) M' → K M') → pp_L_addToRoads_b2 g e0 K (m + 1) M (A 19 l 0) (A 26 0 0) (nI n)
  | 0, n, h, M, H, o, hl, h8, hc, hn, hK => by
    unfold pp_L_addToRoads_b2
    exact le_br (a := 16) (b := n) (by decide) (by omega) (fun q => hK M H) (fun q => absurd q (by omega))
  | m + 1, n, h, M, H, o, hl, h8, hc, hn, hK => by
    unfold pp_L_addToRoads_b2
    refine le_br (a := 16) (b := n) (by decide) (by omega) (fun q => absurd q (by omega)) (fun q => ?_)
    have e2 := ar1_same h l c n
    have go : ∀ M', hs_in g e0 A (hc_ar1 h l c n) M' → pp_L_addToRoads_b2 g e0 K (m + 1) M' (A 19 l 0) (A 26 0 0) (nI n + 1) := by
      intro M' H'
      rw [nI_1]
      have en : ∀ a b, hs_n (hc_ar1 h l c n) a b = hs_n h a b := fun a b => by unfold hs_n; rw [e2]
      have ei : ∀ a b d, hs_i (hc_ar1 h l c n) a b d = hs_i h a b d := fun a b d => by unfold hs_i; rw [e2]
      have eo : hs_ok (hc_ar1 h l c n) := by
        have : ∀ (h' : hs_S), h'.2 = h.2 → hs_ok h' := fun h' e => by
          obtain ⟨a, b⟩ := h'
          dsimp only at e
          subst e
          exact o
        exact this _ e2
      exact l2_ar_loop hc3 m (n + 1) (hc_ar1 h l c n) M' H' eo (by rw [en]; exact hl) (by rw [en]; exact h8) (by rw [ei]; exact hc) (by omega) hK
    refine mq_gi (hs_19 H hl) rfl ⟨fun z => mq_gi (hs_26 H h8) rfl (l2_hasBit (l2_ar_34 H o hl h8 hc hc3 q ?_ go)), fun z => mq_gi (hs_19 H hl) rfl (l2_hasBit (l2_ar_34 H o hl h8 hc hc3 q ?_ go))⟩
    · unfold hc_late; rw [if_pos z]
    · unfold hc_late; rw [if_neg z]
theorem l2_addToRoads {K : mo_M → Prop} {l c : Nat} (H : hs_in g e0 A h M) (o : hs_ok h) (hl : l < hs_n h 1 0) (h8 : hs_n h 8 0 = 1) (hc : hs_i h 26 0 0 1 = nI c) (hc3 : c < 3) (hK : ∀ M', hs_in g e0 A (hc_arl l c 16 0 h) M' → K M') : pp_L_addToRoads g e0 K M (A 19 l 0) (A 26 0 0) := ⟨17, l2_ar_loop hc3 16 0 h M H o hl h8 hc rfl hK⟩
/-- the kept bag's marks are recorded -/
def hc_tb1 (h : hs_S) (l n : Nat) : hs_S := if hc_bit (hs_i h 26 0 0 3) (nI n) = true then hc_rec h (hs_n h 4 l) n (nI n) else h
def hc_tbl (l : Nat) : Nat → Nat → hs_S → hs_S
  | 0, _, h => h
  | m + 1, n, h => hc_tbl l m (n + 1) (hc_tb1 h l n)
def hc_tb0 (h : hs_S) (l n : Nat) : Nat := if hc_bit (hs_i h 26 0 0 3) (nI n) = true ∧ hc_bit (hs_i h 8 (hs_n h 4 l) 0 1) (nI n) = false then 1 else 0
def hc_tbc (l : Nat) : Nat → Nat → hs_S → Nat
  | 0, _, _ => 0
  | m + 1, n, h => hc_tb0 h l n + hc_tbc l m (n + 1) (hc_tb1 h l n)
def hc_tbe (h : hs_S) (l c : Nat) : hs_S := if hs_i h 26 0 0 0 = 1 then hc_arl l c 16 0 (hc_recv h (hs_n h 4 l) c (hs_i h 26 0 0 2)) else h
theorem l2_tb_loop {K : mo_M → Prop} {l c mc ms : Nat} : ∀ (m n : Nat) (A : hs_A) (h : hs_S) (M : mo_M) (cu su : Nat), hs_in g e0 A h M → hs_ok h → l < hs_n h 1 0 → hs_n h 8 0 = 1 → (hs_i h 26 0 0 0 = 1 → hs_i h 26 0 0 1 = nI c ∧ c < 3) → n + m = 16 → hs_qb h (780 + n) → cu + 24 * hc_tbc l m n h ≤ mc → su + 15600 * hc_tbc l m n h ≤ ms → (∀ A' M', hs_sm A A' → hs_in g e0 A' (hc_tbe (hc_tbl l m n h) l c) M' → K M') → pp_H_takeBag_b2 g e0 mc ms K (m + 1) M cu su (A 0 0 0) (A 19 l 0) (A 26 0 0) (nI n)
  | 0, n, A, h, M, cu, su, H, o, hl, h8, hc, hn, hb, hm, hs, hK => by
    have ht := (o.2.2.2.1 l hl).2
    unfold pp_H_takeBag_b2
    refine le_br (a := 16) (b := n) (by decide) (by omega) (fun q => ?_) (fun q => absurd q (by omega))
    unfold hc_tbl hc_tbe at hK
    refine mq_gi (hs_26 H h8) rfl ⟨fun z => ?_, fun z => ?_⟩
    · rw [if_pos z] at hK
      obtain ⟨ec, c3⟩ := hc z
      refine mq_gr (hs_19 H hl) rfl (mq_gi (hs_26 H h8) rfl (mq_gi (hs_26 H h8) rfl ⟨by omega, by omega, ⟨_, hs_8 H ht⟩, l2_receiveCoins H ht ((ix_some (by decide)).mpr ⟨ec, c3⟩) (fun M' H' => ?_)⟩))
      exact ⟨by omega, by omega, ⟨_, hs_19 H' hl⟩, l2_addToRoads H' o hl h8 ec c3 (fun M'' H'' => ⟨by omega, by omega, hK A M'' (hs_sm_rf A) H''⟩)⟩
    · rw [if_neg z] at hK
      exact ⟨by omega, by omega, hK A M (hs_sm_rf A) H⟩
  | m + 1, n, A, h, M, cu, su, H, o, hl, h8, hc, hn, hb, hm, hs, hK => by
    have ht := (o.2.2.2.1 l hl).2
    unfold pp_H_takeBag_b2
    refine le_br (a := 16) (b := n) (by decide) (by omega) (fun q => absurd q (by omega)) (fun q => ?_)
    have hm' : cu + 24 * (hc_tb0 h l n + hc_tbc l m (n + 1) (hc_tb1 h l n)) ≤ mc := hm
    have hs' : su + 15600 * (hc_tb0 h l n + hc_tbc l m (n + 1) (hc_tb1 h l n)) ≤ ms := hs
    have hK' : ∀ A' M', hs_sm A A' → hs_in g e0 A' (hc_tbe (hc_tbl l m (n + 1) (hc_tb1 h l n)) l c) M' → K M' := hK
    generalize hz : hc_tbc l m (n + 1) (hc_tb1 h l n) = z at hm' hs'
    refine mq_gi (hs_26 H h8) rfl ⟨by omega, by omega, l2_hasBit (zb_br (fun r => ?_) (fun r => ?_))⟩
    · have e1 : hc_tb1 h l n = h := by unfold hc_tb1; rw [if_neg (by rw [r]; decide)]
      rw [e1] at hK' hz
      unfold pp_H_takeBag_b28
      rw [nI_1]
      exact l2_tb_loop m (n + 1) A h M cu su H o hl h8 hc (by omega) (fun b hb' => by have := hb b hb'; omega) (by omega) (by omega) hK'
    · have e1 : hc_tb1 h l n = hc_rec h (hs_n h 4 l) n (nI n) := by unfold hc_tb1; rw [if_pos r]
      rw [e1] at hK' hz
      obtain ⟨cc, tt, hct, hct0⟩ : ∃ cc tt : Nat, (hc_bit (hs_i h 8 (hs_n h 4 l) 0 1) (nI n) = false → 24 ≤ cc ∧ 15600 ≤ tt) ∧ (cc = 24 * hc_tb0 h l n ∧ tt = 15600 * hc_tb0 h l n) := by
        refine ⟨_, _, fun y => ?_, rfl, rfl⟩
        unfold hc_tb0
        rw [if_pos ⟨r, y⟩]
        exact ⟨by omega, by omega⟩
      refine mq_gr (hs_19 H hl) rfl ⟨cc, tt, by omega, by omega, ⟨_, hs_0 H⟩, l2_recordAt (mc := cc) (ms := tt) H o ht rfl q (fun b hb' => by have := hb b hb'; omega) hct (fun A' M' sm H' => ?_)⟩
      unfold pp_H_takeBag_b28
      rw [nI_1, ← sm 0 0 0 (by decide) (by decide) (by decide), ← sm 19 l 0 (by decide) (by decide) (by decide), ← sm 26 0 0 (by decide) (by decide) (by decide)]
      have ei : hs_i (hc_rec h (hs_n h 4 l) n (nI n)) 26 0 0 = hs_i h 26 0 0 := hi_rec (by decide) (by decide) (by decide) (by decide)
      refine l2_tb_loop m (n + 1) A' (hc_rec h (hs_n h 4 l) n (nI n)) M' (cu + cc) (su + tt) H' (ok_rec o (fun b hb' => by have := hb b hb'; omega)) (by rw [hn_rec (by decide) (by decide)]; exact hl) (by rw [hn_rec (by decide) (by decide)]; exact h8) (by rw [ei]; exact hc) (by omega) (fun b hb' => by have := qb_rec (k := hs_n h 4 l) (n := n) (x := nI n) hb b hb'; omega) (by omega) (by omega) (fun A'' M'' s2 H'' => hK' A'' M'' (hs_sm_tr sm s2) H'')
theorem l2_takeBag {K : mo_M → Prop} {l c mc ms : Nat} (H : hs_in g e0 A h M) (o : hs_ok h) (hl : l < hs_n h 1 0) (h8 : hs_n h 8 0 = 1) (hc : hs_i h 26 0 0 0 = 1 → hs_i h 26 0 0 1 = nI c ∧ c < 3) (hb : hs_qb h 780) (hm : 24 * hc_tbc l 16 0 h ≤ mc) (hs : 15600 * hc_tbc l 16 0 h ≤ ms) (hK : ∀ A' M', hs_sm A A' → hs_in g e0 A' (hc_tbe (hc_tbl l 16 0 h) l c) M' → K M') : pp_H_takeBag g e0 mc ms K M (A 0 0 0) (A 19 l 0) (A 26 0 0) := ⟨17, l2_tb_loop 16 0 A h M 0 0 H o hl h8 hc rfl hb (by omega) (by omega) hK⟩
end CL9
