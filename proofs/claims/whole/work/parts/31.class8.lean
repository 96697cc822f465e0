section CL8
variable {g : Nat → ClassId} {e0 : Nat → Nat} {A : hs_A} {h : hs_S} {M : mo_M}
theorem hs_nq {f i j q : Nat} (H : hs_in g e0 A h M) (hd : hs_dom h f i j = true) (hq : mo_fr M q) : A f i j ≠ q := fun e => by
  have := H.1 f i j hd
  rw [e, hq q (Nat.le_refl _)] at this
  cases this
theorem hn_snd (h : hs_S) (l : Nat) (t : hs_T) (a b : Nat) (h5 : a ≠ 5) (h6 : a ≠ 6) : hs_n (hc_snd h l t) a b = hs_n h a b := by
  unfold hc_snd
  rw [hp_n _ l a b h5 h6, hh_n h t a b h6]
theorem hi_snd (h : hs_S) (l : Nat) (t : hs_T) (a b c : Nat) (h20 : a ≠ 20) (h25 : a ≠ 25) : hs_i (hc_snd h l t) a b c = hs_i h a b c := by
  unfold hc_snd
  rw [hp_i, if_neg (fun z => h20 z.1)]
  show (if a = 25 ∧ b = 0 ∧ c = 0 then _ else hs_i h a b c) = _
  rw [if_neg (fun z => h25 z.1)]
theorem hl_snd (h : hs_S) (l : Nat) (t : hs_T) (a b c : Nat) : hs_l (hc_snd h l t) a b c = hs_l h a b c := rfl
theorem hq_snd (h : hs_S) (l : Nat) (t : hs_T) (b : Nat) : hs_q (hc_snd h l t) b = if b = l then hs_q h l ++ [t] else hs_q h b := by
  unfold hc_snd
  rw [hp_q]
  rfl
theorem hs_ok_snd {l : Nat} {t : hs_T} (o : hs_ok h) (hl : l < hs_n h 1 0) (hb : (hs_q h l).length ≤ 40000) : hs_ok (hc_snd h l t) := hs_ok_push (hs_ok_hand o) (by rw [hh_n h t 1 0 (by decide)]; exact hl) hb
/-- what is announced on link l -/
def hc_at (h : hs_S) (l : Nat) (x : Int32) : hs_T := if hs_i h 19 l 0 0 = 0 then (2, -1, 0, hs_i h 8 (hs_n h 3 l) 0 1) else (3, -1, x, 0)
def hc_ann (h : hs_S) (l : Nat) (x : Int32) : hs_S := hc_snd h l (hc_at h l x)
theorem l2_announce {K : mo_M → Prop} {l mc ms : Nat} {x : Int32} (H : hs_in g e0 A h M) (o : hs_ok h) (hl : l < hs_n h 1 0) (hb : (hs_q h l).length ≤ 800) (hm : 2 ≤ mc) (hs : 1300 ≤ ms) (hK : ∀ A' M', hs_sm A A' → hs_in g e0 A' (hc_ann h l x) M' → K M') : pp_L_announce g e0 mc ms K M (A 19 l 0) x := by
  have hl7 := Nat.lt_of_lt_of_le hl H.2.2
  have hf := (o.2.2.2.1 l hl).1
  unfold pp_L_announce
  unfold hc_ann hc_at at hK
  refine mq_gi (hs_19 H hl) rfl ⟨fun z => ?_, fun z => ?_⟩
  · rw [if_pos z] at hK
    refine mq_gr (hs_19 H hl) rfl ⟨by omega, by omega, fun q hq => ?_⟩
    have n1 := hs_nq (f := 19) (i := l) (j := 0) H (by simp [hs_dom, hl7]) hq
    have n2 := hs_nq (f := 8) (i := hs_n h 3 l) (j := 0) H (by simp [hs_dom, hf]) hq
    refine mq_gr ((va_up_ne _ _ n1).trans (hs_19 H hl)) rfl (mq_gi ((va_up_ne _ _ n2).trans (hs_8 H hf)) rfl ⟨by omega, by omega, ?_⟩)
    exact l2_send H o hl hb hm hs hK q hq
  · rw [if_neg z] at hK
    refine mq_gr (hs_19 H hl) rfl ⟨by omega, by omega, fun q hq => ⟨by omega, by omega, ?_⟩⟩
    exact l2_send H o hl hb hm hs hK q hq
/-- all links that go out of k announce x -/
def hc_rl (k : Nat) (x : Int32) : Nat → Nat → hs_S → hs_S
  | 0, _, h => h
  | m + 1, l, h => hc_rl k x m (l + 1) (if hs_n h 3 l = k then hc_ann h l x else h)
theorem l2_rl_loop {K : mo_M → Prop} {k mc ms : Nat} {x : Int32} : ∀ (m l : Nat) (A : hs_A) (h : hs_S) (M : mo_M) (cu su : Nat), hs_in g e0 A h M → hs_ok h → k < hs_n h 0 0 → l + m = hs_n h 1 0 → (∀ b, l ≤ b → b < hs_n h 1 0 → (hs_q h b).length ≤ 800) → cu + 2 * m ≤ mc → su + 1300 * m ≤ ms → (∀ A' M', hs_sm A A' → hs_in g e0 A' (hc_rl k x m l h) M' → K M') → pp_H_recordAt_b16 g e0 mc ms K (m + 1) M cu su (A 0 0 0) (A 8 k 0) x (nI l)
  | 0, l, A, h, M, cu, su, H, o, hk, hl, hb, hc, hs, hK => by
    have h31 := hs_okL o
    unfold pp_H_recordAt_b16
    refine mq_gr (hs_0 H) rfl ⟨by omega, by omega, ⟨_, hs_20 H (Or.inr rfl)⟩, l2_size H (Or.inr rfl) ?_⟩
    rw [hs_z12]
    exact le_br h31 (by omega) (fun q => ⟨by omega, by omega, hK A M (hs_sm_rf A) H⟩) (fun q => absurd q (by omega))
  | m + 1, l, A, h, M, cu, su, H, o, hk, hl, hb, hc, hs, hK => by
    have h31 := hs_okL o
    unfold pp_H_recordAt_b16
    refine mq_gr (hs_0 H) rfl ⟨by omega, by omega, ⟨_, hs_20 H (Or.inr rfl)⟩, l2_size H (Or.inr rfl) ?_⟩
    rw [hs_z12]
    refine le_br h31 (by omega) (fun q => absurd q (by omega)) (fun q => ?_)
    have hf := (o.2.2.2.1 l q).1
    refine mq_gr (hs_0 H) rfl ⟨by omega, by omega, ⟨_, hs_20 H (Or.inr rfl)⟩, l2_get (p := l) H o (Or.inr rfl) q rfl ⟨⟨_, hs_19 H q⟩, mq_gr (hs_19 H q) rfl ⟨fun e => ?_, fun e => ?_⟩⟩⟩
    · have ek : hs_n h 3 l = k := (H.2.1 _ _ _ _ _ _ (show hs_dom h 8 (hs_n h 3 l) 0 = true by simp [hs_dom, hf]) (show hs_dom h 8 k 0 = true by simp [hs_dom, hk]) e).2.1
      obtain ⟨t, ht⟩ : ∃ t : Nat, t = 1300 := ⟨_, rfl⟩
      have hbl : (hs_q h l).length ≤ 800 := hb l (Nat.le_refl l) q
      refine mq_gr (hs_0 H) rfl ⟨by omega, by omega, ⟨_, hs_20 H (Or.inr rfl)⟩, l2_get (p := l) H o (Or.inr rfl) q rfl ?_⟩
      rw [if_pos rfl]
      refine ⟨⟨_, hs_19 H q⟩, 2, t, by omega, by omega, ⟨_, hs_19 H q⟩, ?_⟩
      have ht2 : 1300 ≤ t := Nat.le_of_eq ht.symm
      refine l2_announce (mc := 2) (ms := t) H o q hbl (Nat.le_refl 2) ht2 (fun A' M' sm H' => ?_)
      unfold pp_H_recordAt_b60
      rw [nI_1, ← sm 0 0 0 (by decide) (by decide) (by decide), ← sm 8 k 0 (by decide) (by decide) (by decide)]
      refine l2_rl_loop m (l + 1) A' (hc_ann h l x) M' (cu + 2) (su + t) H' (hs_ok_snd o q (by omega)) ?_ ?_ ?_ (by omega) (by omega) (fun A'' M'' s2 H'' => hK A'' M'' (hs_sm_tr sm s2) ?_)
      · unfold hc_ann; rw [hn_snd h l _ 0 0 (by decide) (by decide)]; exact hk
      · unfold hc_ann; rw [hn_snd h l _ 1 0 (by decide) (by decide)]; omega
      · intro b hb1 hb2
        unfold hc_ann at hb2 ⊢
        rw [hn_snd h l _ 1 0 (by decide) (by decide)] at hb2
        rw [hq_snd, if_neg (by omega)]
        exact hb b (by omega) hb2
      · unfold hc_rl
        rw [if_pos ek]
        exact H''
    · have ek : ¬ hs_n h 3 l = k := fun z => e (by rw [z])
      unfold pp_H_recordAt_b60
      rw [nI_1]
      refine l2_rl_loop m (l + 1) A h M cu su H o hk (by omega) (fun b hb1 hb2 => hb b (by omega) hb2) (by omega) (by omega) (fun A' M' s2 H' => hK A' M' s2 ?_)
      unfold hc_rl
      rw [if_neg ek]
      exact H'
theorem hn_rl {k : Nat} {x : Int32} {a b : Nat} (h5 : a ≠ 5) (h6 : a ≠ 6) : ∀ (m l : Nat) (h : hs_S), hs_n (hc_rl k x m l h) a b = hs_n h a b
  | 0, _, _ => rfl
  | m + 1, l, h => by
    unfold hc_rl
    rw [hn_rl h5 h6 m (l + 1)]
    split
    · exact hn_snd h l _ a b h5 h6
    · rfl
theorem hi_rl {k : Nat} {x : Int32} {a b c : Nat} (h5 : a ≠ 20) (h6 : a ≠ 25) : ∀ (m l : Nat) (h : hs_S), hs_i (hc_rl k x m l h) a b c = hs_i h a b c
  | 0, _, _ => rfl
  | m + 1, l, h => by
    unfold hc_rl
    rw [hi_rl h5 h6 m (l + 1)]
    split
    · exact hi_snd h l _ a b c h5 h6
    · rfl
theorem hl_rl {k : Nat} {x : Int32} {a b c : Nat} : ∀ (m l : Nat) (h : hs_S), hs_l (hc_rl k x m l h) a b c = hs_l h a b c
  | 0, _, _ => rfl
  | m + 1, l, h => by
    unfold hc_rl
    rw [hl_rl m (l + 1)]
    split <;> rfl
theorem hc_at_ann (h : hs_S) (l b : Nat) (x : Int32) : hc_at (hc_ann h l x) b x = hc_at h b x := by
  unfold hc_at
  have e1 : hs_i (hc_ann h l x) 19 b 0 = hs_i h 19 b 0 := hi_snd h l _ 19 b 0 (by decide) (by decide)
  have e2 : hs_n (hc_ann h l x) 3 b = hs_n h 3 b := hn_snd h l _ 3 b (by decide) (by decide)
  have e3 : hs_i (hc_ann h l x) 8 (hs_n h 3 b) 0 = hs_i h 8 (hs_n h 3 b) 0 := hi_snd h l _ 8 _ 0 (by decide) (by decide)
  rw [e1, e2, e3]
theorem hq_rl {k : Nat} {x : Int32} {b : Nat} : ∀ (m l : Nat) (h : hs_S), hs_q (hc_rl k x m l h) b = if (l ≤ b ∧ b < l + m) ∧ hs_n h 3 b = k then hs_q h b ++ [hc_at h b x] else hs_q h b
  | 0, l, h => by rw [if_neg (by omega)]; rfl
  | m + 1, l, h => by
    unfold hc_rl
    rw [hq_rl m (l + 1)]
    by_cases ek : hs_n h 3 l = k
    · rw [if_pos ek]
      have e1 : hs_n (hc_ann h l x) 3 b = hs_n h 3 b := hn_snd h l _ 3 b (by decide) (by decide)
      have e2 : hs_q (hc_ann h l x) b = if b = l then hs_q h l ++ [hc_at h l x] else hs_q h b := hq_snd h l _ b
      rw [e1, e2, hc_at_ann]
      by_cases eb : b = l
      · subst eb
        rw [if_neg (by omega), if_pos rfl, if_pos ⟨by omega, ek⟩]
      · rw [if_neg eb]
        by_cases q : (l + 1 ≤ b ∧ b < l + 1 + m) ∧ hs_n h 3 b = k
        · rw [if_pos q, if_pos ⟨by omega, q.2⟩]
        · rw [if_neg q, if_neg (fun z => q ⟨by omega, z.2⟩)]
    · rw [if_neg ek]
      by_cases q : (l + 1 ≤ b ∧ b < l + 1 + m) ∧ hs_n h 3 b = k
      · rw [if_pos q, if_pos ⟨by omega, q.2⟩]
      · rw [if_neg q, if_neg (fun z => q ⟨?_, z.2⟩)]
        have : l ≠ b := fun y => ek (by rw [y]; exact z.2)
        omega
theorem ok_rl {k : Nat} {x : Int32} : ∀ (m l : Nat) (h : hs_S), hs_ok h → l + m = hs_n h 1 0 → (∀ b, l ≤ b → b < hs_n h 1 0 → (hs_q h b).length ≤ 40000) → hs_ok (hc_rl k x m l h)
  | 0, _, _, o, _, _ => o
  | m + 1, l, h, o, hl, hb => by
    unfold hc_rl
    by_cases ek : hs_n h 3 l = k
    · rw [if_pos ek]
      refine ok_rl m (l + 1) (hc_ann h l x) (hs_ok_snd o (by omega) (hb l (Nat.le_refl _) (by omega))) ?_ ?_
      · unfold hc_ann; rw [hn_snd h l _ 1 0 (by decide) (by decide)]; omega
      · intro b hb1 hb2
        unfold hc_ann at hb2 ⊢
        rw [hn_snd h l _ 1 0 (by decide) (by decide)] at hb2
        rw [hq_snd, if_neg (by omega)]
        exact hb b (by omega) hb2
    · rw [if_neg ek]
      exact ok_rl m (l + 1) h o (by omega) (fun b hb1 hb2 => hb b (by omega) hb2)
/-- kiosk k records x, if it hasn't -/
def hc_rec (h : hs_S) (k n : Nat) (x : Int32) : hs_S := if hc_bit (hs_i h 8 k 0 1) x = true then h else hc_rl k x (hs_n h 1 0) 0 (hc_page h k n x)
def hs_qb (h : hs_S) (B : Nat) : Prop := ∀ b, b < hs_n h 1 0 → (hs_q h b).length ≤ B
theorem l2_recordAt {K : mo_M → Prop} {k n mc ms : Nat} {x : Int32} (H : hs_in g e0 A h M) (o : hs_ok h) (hk : k < hs_n h 0 0) (hx : x = nI n) (hn : n < 16) (hb : hs_qb h 800) (hm : hc_bit (hs_i h 8 k 0 1) x = false → 24 ≤ mc ∧ 15600 ≤ ms) (hK : ∀ A' M', hs_sm A A' → hs_in g e0 A' (hc_rec h k n x) M' → K M') : pp_H_recordAt g e0 mc ms K M (A 0 0 0) (A 8 k 0) x := by
  unfold pp_H_recordAt
  unfold hc_rec at hK
  refine ⟨by omega, by omega, ⟨_, hs_8 H hk⟩, l2_hasMark H hk (zb_br (fun q => ?_) (fun q => ?_))⟩
  · rw [if_neg (by rw [q]; decide)] at hK
    obtain ⟨m1, m2⟩ := hm q
    have o2 := o.2.1
    refine ⟨by omega, by omega, ⟨_, hs_8 H hk⟩, l2_keepPage H hk hx hn (fun M' H' => ⟨hs_n h 1 0 + 1, ?_⟩)⟩
    exact l2_rl_loop (hs_n h 1 0) 0 A (hc_page h k n x) M' 0 0 H' o hk (Nat.zero_add _) (fun b _ hb' => hb b hb') (by omega) (by omega) hK
  · rw [if_pos q] at hK
    exact ⟨by omega, by omega, hK A M (hs_sm_rf A) H⟩
theorem hn_rec {k n a b : Nat} {x : Int32} (h5 : a ≠ 5) (h6 : a ≠ 6) : hs_n (hc_rec h k n x) a b = hs_n h a b := by
  unfold hc_rec
  split
  · rfl
  · rw [hn_rl h5 h6]; rfl
theorem ok_rec {k n : Nat} {x : Int32} (o : hs_ok h) (hb : hs_qb h 40000) : hs_ok (hc_rec h k n x) := by
  unfold hc_rec
  split
  · exact o
  · exact ok_rl _ 0 (hc_page h k n x) o (Nat.zero_add _) (fun b _ hb' => hb b hb')
theorem qb_rec {k n B : Nat} {x : Int32} (hb : hs_qb h B) : hs_qb (hc_rec h k n x) (B + 1) := by
  intro b hb'
  rw [hn_rec (by decide) (by decide)] at hb'
  have := hb b hb'
  unfold hc_rec
  split
  · omega
  · rw [hq_rl]
    have e : hs_q (hc_page h k n x) b = hs_q h b := rfl
    rw [e]
    split
    · rw [List.length_append, List.length_singleton]; omega
    · omega
theorem hi_rec {k n a b c : Nat} {x : Int32} (ha : a ≠ 8) (ha15 : a ≠ 15) (h20 : a ≠ 20) (h25 : a ≠ 25) : hs_i (hc_rec h k n x) a b c = hs_i h a b c := by
  unfold hc_rec
  split
  · rfl
  · rw [hi_rl h20 h25]
    show (if a = 8 ∧ b = k ∧ c = 0 then _ else if a = 15 ∧ b = k ∧ c = 0 then _ else hs_i h a b c) = _
    rw [if_neg (fun z => ha z.1), if_neg (fun z => ha15 z.1)]
end CL8
