theorem ix_nI {k n : Nat} (hk : k < n) (hn : n < 2 ^ 31) : ix_n (nI k) n = some k := (ix_some hn).mpr ⟨rfl, hk⟩
theorem le_br {a b : Nat} {A B : Prop} (ha : a < 2 ^ 31) (hb : b < 2 ^ 31) (f : a ≤ b → A) (k : b < a → B) : (nI a ≤ nI b → A) ∧ (¬ nI a ≤ nI b → B) := ⟨fun q => f ((nI_leI ha hb).mp q), fun q => k (by have := mt (nI_leI ha hb).mpr q; omega)⟩
theorem dr_c {α : Type} {l : List α} {j : Nat} {d : α} (hj : j < l.length) : l.drop j = l.getD j d :: l.drop (j + 1) := by
  rw [List.drop_eq_getElem_cons hj, List.getD_eq_getElem?_getD, List.getElem?_eq_getElem hj]
  rfl
section CL4
variable {g : Nat → ClassId} {e0 : Nat → Nat} {A : hs_A} {h : hs_S} {M : mo_M}
theorem l2_kloop {E B : Prop} {x : Int32} {k : Nat} (H : hs_in g e0 A h M) (o : hs_ok h) (hx : x = nI k) (hk : k ≤ hs_n h 0 0) (hE : k = hs_n h 0 0 → E) (hB : k < hs_n h 0 0 → B) : mp_gr M (A 0 0 0) 0 0 (fun v => mp_ln (g 3) M v (fun v' => ((v' ≤ x → E) ∧ (¬ (v' ≤ x) → B)))) := by
  subst hx
  have := hs_okK o
  exact mq_gr (hs_0 H) rfl (mq_ln (hs_1 H) (le_br this (by omega) (fun q => hE (by dsimp only at q; omega)) (fun q => hB q)))
theorem l2_lloop {E B : mo_M → Prop} {x : Int32} {l : Nat} (H : hs_in g e0 A h M) (o : hs_ok h) (hx : x = nI l) (hl : l ≤ hs_n h 1 0) (hE : l = hs_n h 1 0 → E M) (hB : l < hs_n h 1 0 → B M) : mp_gr M (A 0 0 0) 0 1 (fun v => (mp_is M v 5 ∧ pp_A_size g e0 (fun r M3 => ((r ≤ x → E M3) ∧ (¬ (r ≤ x) → B M3))) M v)) := by
  subst hx
  have := hs_okL o
  exact mq_gr (hs_0 H) rfl ⟨⟨_, hs_20 H (Or.inr rfl)⟩, l2_size H (Or.inr rfl) (by rw [hs_z12]; exact le_br this (by omega) (fun q => hE (by omega)) (fun q => hB q))⟩
def hc_ak (h : hs_S) (x : Int32) : Bool := decide (∀ k, k < hs_n h 0 0 → hc_bit (hs_i h 8 k 0 1) x = true)
theorem l2_ak_loop {K : Int32 → mo_M → Prop} {x : Int32} (H : hs_in g e0 A h M) (o : hs_ok h) (hK : K (zb_i (hc_ak h x)) M) : ∀ m k, k + m = hs_n h 0 0 → (∀ k', k' < k → hc_bit (hs_i h 8 k' 0 1) x = true) → pp_H_allKiosksRecorded_b2 g e0 K (m + 1) M (A 0 0 0) x (nI k)
  | 0, k, hk, hp => by
    unfold pp_H_allKiosksRecorded_b2
    refine l2_kloop H o rfl (by omega) (fun q => ⟨rfl, ?_⟩) (fun q => absurd q (by omega))
    rw [show hc_ak h x = true from decide_eq_true (fun k' hk' => hp k' (by omega))] at hK
    exact hK
  | m + 1, k, hk, hp => by
    unfold pp_H_allKiosksRecorded_b2
    refine l2_kloop H o rfl (by omega) (fun q => absurd q (by omega)) (fun q => l2_kio H o (ix_nI q (hs_okK o)) (fun _ => ⟨⟨_, hs_8 H q⟩, l2_hasMark H q (zb_br (fun t => ⟨rfl, ?_⟩) (fun t => ?_))⟩))
    · rw [show hc_ak h x = false from decide_eq_false (fun z => by rw [z k q] at t; cases t)] at hK
      exact hK
    · rw [nI_1]
      exact l2_ak_loop H o hK m (k + 1) (by omega) (fun k' hk' => by
        rcases Nat.lt_or_ge k' k with r | r
        · exact hp k' r
        · rw [show k' = k by omega]; exact t)
theorem l2_allKiosksRecorded {K : Int32 → mo_M → Prop} {x : Int32} (H : hs_in g e0 A h M) (o : hs_ok h) (hK : K (zb_i (hc_ak h x)) M) : pp_H_allKiosksRecorded g e0 K M (A 0 0 0) x := by
  unfold pp_H_allKiosksRecorded
  exact ⟨_, l2_ak_loop H o hK (hs_n h 0 0) 0 (by omega) (fun k' hk' => absurd hk' (Nat.not_lt_zero _))⟩
def hc_bf (x : Int32) (q : List hs_T) : Bool := q.any (fun t => decide (t.1 = 1) && !(hc_bit t.2.2.2 x))
theorem l2_bf_loop {K : Int32 → mo_M → Prop} {x : Int32} {l : Nat} (H : hs_in g e0 A h M) (o : hs_ok h) (hl : l < hs_n h 1 0) : ∀ m j, j + m = (hs_q h l).length → K (zb_i (hc_bf x ((hs_q h l).drop j))) M → pp_L_hasBagFromBefore_b2 g e0 K (m + 1) M (A 19 l 0) x (nI j)
  | 0, j, hj, hK => by
    have h31 := hs_okq o hl
    unfold pp_L_hasBagFromBefore_b2
    refine l2_tsz H o hl (le_br h31 (by omega) (fun q => ⟨rfl, ?_⟩) (fun q => absurd q (by omega)))
    rw [List.drop_eq_nil_of_le (by omega)] at hK
    exact hK
  | m + 1, j, hj, hK => by
    have h31 := hs_okq o hl
    have hlt : j < (hs_q h l).length := by omega
    unfold pp_L_hasBagFromBefore_b2
    rw [dr_c (d := (0, 0, 0, 0)) hlt, hc_bf, List.any_cons] at hK
    refine l2_tsz H o hl (le_br h31 (by omega) (fun q => absurd q (by omega)) (fun q => l2_thg H o hl rfl hlt (mq_gi (hs_24 H hl hlt) rfl ⟨fun t => mq_gi (hs_24 H hl hlt) rfl (l2_hasBit (zb_br (fun r => ⟨rfl, ?_⟩) (fun r => ?_))), fun t => ?_⟩)))
    · rw [t, r] at hK
      exact hK
    · unfold pp_L_hasBagFromBefore_b46
      rw [nI_1]
      refine l2_bf_loop H o hl m (j + 1) (by omega) ?_
      rw [r, Bool.not_true, Bool.and_false, Bool.false_or] at hK
      exact hK
    · unfold pp_L_hasBagFromBefore_b46
      rw [nI_1]
      refine l2_bf_loop H o hl m (j + 1) (by omega) ?_
      rw [decide_eq_false t, Bool.false_and, Bool.false_or] at hK
      exact hK
theorem l2_hasBagFromBefore {K : Int32 → mo_M → Prop} {x : Int32} {l : Nat} (H : hs_in g e0 A h M) (o : hs_ok h) (hl : l < hs_n h 1 0) (hK : K (zb_i (hc_bf x (hs_q h l))) M) : pp_L_hasBagFromBefore g e0 K M (A 19 l 0) x := by
  unfold pp_L_hasBagFromBefore
  exact ⟨_, l2_bf_loop H o hl (hs_q h l).length 0 (by omega) hK⟩
def hc_done (h : hs_S) (l : Nat) (x : Int32) : Bool := if hs_i h 19 l 0 0 = 0 then (hc_bit (hs_i h 8 (hs_n h 3 l) 0 1) x && hc_bit (hs_i h 8 (hs_n h 4 l) 0 1) x && !(hc_bf x (hs_q h l))) else hc_bit (hs_i h 19 l 0 1) x
theorem l2_isDone {K : Int32 → mo_M → Prop} {x : Int32} {l : Nat} (H : hs_in g e0 A h M) (o : hs_ok h) (hl : l < hs_n h 1 0) (hK : K (zb_i (hc_done h l x)) M) : pp_L_isDone g e0 K M (A 19 l 0) x := by
  obtain ⟨hf, ht⟩ := o.2.2.2.1 l hl
  unfold pp_L_isDone
  unfold hc_done at hK
  refine mq_gi (hs_19 H hl) rfl ⟨fun q => mq_gr (hs_19 H hl) rfl ⟨⟨_, hs_8 H hf⟩, l2_hasMark H hf (zb_br (fun r => ⟨rfl, ?_⟩) (fun r => mq_gr (hs_19 H hl) rfl ⟨⟨_, hs_8 H ht⟩, l2_hasMark H ht (zb_br (fun t => ⟨rfl, ?_⟩) (fun t => ⟨⟨_, hs_19 H hl⟩, l2_hasBagFromBefore H o hl (zb_br (fun z => ⟨rfl, ?_⟩) (fun z => ⟨rfl, ?_⟩))⟩))⟩))⟩, fun q => mq_gi (hs_19 H hl) rfl (l2_hasBit ⟨zb_nar _, ?_⟩)⟩
  · rw [if_pos q, r] at hK; exact hK
  · rw [if_pos q, r, t] at hK; exact hK
  · rw [if_pos q, r, t, z] at hK; exact hK
  · rw [if_pos q, r, t, z] at hK; exact hK
  · rw [if_neg q] at hK; exact hK
def hc_al (h : hs_S) (x : Int32) : Bool := decide (∀ l, l < hs_n h 1 0 → hc_done h l x = true)
theorem l2_al_loop {K : Int32 → mo_M → Prop} {x : Int32} (H : hs_in g e0 A h M) (o : hs_ok h) (hK : K (zb_i (hc_al h x)) M) : ∀ m l, l + m = hs_n h 1 0 → (∀ l', l' < l → hc_done h l' x = true) → pp_H_allLinksDone_b2 g e0 K (m + 1) M (A 0 0 0) x (nI l)
  | 0, l, hl, hp => by
    unfold pp_H_allLinksDone_b2
    refine l2_lloop H o rfl (by omega) (fun q => ⟨rfl, ?_⟩) (fun q => absurd q (by omega))
    rw [show hc_al h x = true from decide_eq_true (fun k' hk' => hp k' (by omega))] at hK
    exact hK
  | m + 1, l, hl, hp => by
    unfold pp_H_allLinksDone_b2
    refine l2_lloop H o rfl (by omega) (fun q => absurd q (by omega)) (fun q => l2_lnk H o (ix_nI q (hs_okL o)) (fun _ => ⟨⟨_, hs_19 H q⟩, l2_isDone H o q (zb_br (fun t => ⟨rfl, ?_⟩) (fun t => ?_))⟩))
    · rw [show hc_al h x = false from decide_eq_false (fun z => by rw [z l q] at t; cases t)] at hK
      exact hK
    · rw [nI_1]
      exact l2_al_loop H o hK m (l + 1) (by omega) (fun k' hk' => by
        rcases Nat.lt_or_ge k' l with r | r
        · exact hp k' r
        · rw [show k' = l by omega]; exact t)
def hc_finished (h : hs_S) (x : Int32) : Bool := (ix_n x (hs_n h 2 0)).isSome && (hc_ak h x && hc_al h x)
theorem l2_finished {K : Int32 → mo_M → Prop} {x : Int32} (H : hs_in g e0 A h M) (o : hs_ok h) (hK : K (zb_i (hc_finished h x)) M) : pp_H_finished g e0 K M (A 0 0 0) x := by
  unfold pp_H_finished
  unfold hc_finished at hK
  refine ⟨⟨_, hs_0 H⟩, l2_hasNumber H o (zb_br (fun q => ⟨rfl, ?_⟩) (fun q => ⟨⟨_, hs_0 H⟩, l2_allKiosksRecorded H o (zb_br (fun r => ⟨rfl, ?_⟩) (fun r => ⟨⟨_, hs_0 H⟩, ?_⟩))⟩))⟩
  · rw [q] at hK; exact hK
  · rw [q, r] at hK; exact hK
  · unfold pp_H_allLinksDone
    refine ⟨_, l2_al_loop H o ?_ (hs_n h 1 0) 0 (by omega) (fun k' hk' => absurd hk' (Nat.not_lt_zero _))⟩
    refine zb_br (fun t => ⟨rfl, ?_⟩) (fun t => ⟨rfl, ?_⟩)
    · rw [q, r, t] at hK; exact hK
    · rw [q, r, t] at hK; exact hK
def hc_road (h : hs_S) (x1 x2 x3 : Int32) : Int64 := match ix_n x1 (hs_n h 2 0), ix_n x2 (hs_n h 1 0), ix_n x3 3 with
  | some n, some l, some c => hs_l h 23 l n c
  | _, _, _ => 0
theorem l2_road {K : Int64 → mo_M → Prop} {x1 x2 x3 : Int32} (H : hs_in g e0 A h M) (o : hs_ok h) (hK : K (hc_road h x1 x2 x3) M) : pp_H_road g e0 K M (A 0 0 0) x1 x2 x3 := by
  unfold pp_H_road
  unfold hc_road at hK
  refine ⟨⟨_, hs_0 H⟩, l2_hasNumber H o (zb_br (fun q => ?_) (fun q => ⟨⟨_, hs_0 H⟩, l2_hasLink H o (zb_br (fun r => ?_) (fun r => l2_hasCurrency (zb_br (fun t => ?_) (fun t => ?_))))⟩))⟩
  · rw [Option.isSome_eq_false_iff, Option.isNone_iff_eq_none] at q
    rw [q] at hK
    exact hK
  · rw [Option.isSome_eq_false_iff, Option.isNone_iff_eq_none] at r
    rw [r] at hK
    generalize ix_n x1 (hs_n h 2 0) = z at hK
    cases z <;> exact hK
  · rw [Option.isSome_eq_false_iff, Option.isNone_iff_eq_none] at t
    rw [t] at hK
    generalize ix_n x1 (hs_n h 2 0) = z at hK
    generalize ix_n x2 (hs_n h 1 0) = y at hK
    cases z <;> cases y <;> exact hK
  · obtain ⟨n, hn⟩ := Option.isSome_iff_exists.mp q
    obtain ⟨l, hl⟩ := Option.isSome_iff_exists.mp r
    obtain ⟨c, hc⟩ := Option.isSome_iff_exists.mp t
    rw [hn, hl, hc] at hK
    obtain ⟨e1, hn1⟩ := (ix_some (hs_okN o)).mp hn
    obtain ⟨e3, hc3⟩ := (ix_some (by decide)).mp hc
    have hn16 : n < 16 := by have := o.2.2.1; omega
    exact l2_lnk H o hl (fun ll => mq_gr (hs_19 H ll) rfl (mq_aq (hs_22 H ll) e1 hn16 (by decide) rfl (mq_al (hs_23 H ll hn16) e3 hc3 (by decide) hK)))
end CL4
