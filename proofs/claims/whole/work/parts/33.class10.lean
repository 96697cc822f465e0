section CL10
variable {g : Nat → ClassId} {e0 : Nat → Nat} {A : hs_A} {h : hs_S} {M : mo_M} {f i j : Nat}
def ix_v (x : Int32) : Nat := x.toInt.toNat
theorem ix_vn {k : Nat} (hk : k < 2 ^ 31) : ix_v (nI k) = k := by unfold ix_v; rw [nI_toInt hk]; simp
/-- the books agree but for queues, the hand and what is kept -/
def hs_s6 (A A' : hs_A) : Prop := ∀ f i j, f ≠ 21 → f ≠ 24 → f ≠ 25 → f ≠ 26 → A' f i j = A f i j
theorem hs_s6_rf (A : hs_A) : hs_s6 A A := fun _ _ _ _ _ _ _ => rfl
theorem hs_s6_tr {A A' A'' : hs_A} (h1 : hs_s6 A A') (h2 : hs_s6 A' A'') : hs_s6 A A'' := fun f i j a b c d => (h2 f i j a b c d).trans (h1 f i j a b c d)
theorem hs_s6_sm {A A' : hs_A} (h1 : hs_sm A A') : hs_s6 A A' := fun f i j a b c _ => h1 f i j a b c
theorem hs_s6_k {A A' : hs_A} (s : hs_s6 A A') {f i j : Nat} (hf : f < 21 ∨ 26 < f) : A' f i j = A f i j := s f i j (by omega) (by omega) (by omega) (by omega)
theorem hs_s6_tA (A : hs_A) (l i0 : Nat) : hs_s6 A (hs_tA A l i0) := fun f i j a b c _ => by
  unfold hs_tA
  rw [if_neg c, if_neg (fun z => b z.1)]
theorem hs_s6_kA (A : hs_A) : hs_s6 A (hs_kA A) := fun f i j _ _ _ d => if_neg d
theorem l2_takeOut {K : Nat → mo_M → Prop} {l i0 : Nat} {x : Int32} (H : hs_in g e0 A h M) (o : hs_ok h) (hl : l < hs_n h 1 0) (h6 : hs_n h 6 0 = 0) (hx : x = nI i0) (hi0 : i0 < (hs_q h l).length) (hK : ∀ M', hs_in g e0 (hs_tA A l i0) (hc_take h l i0) M' → K (A 24 l i0) M') : pp_A_remove g e0 K M (A 20 l 0) x := by
  have h12 := hs_okl o hl
  have hz := hs_zl h h12
  have hcap := o.2.2.2.2 l (Or.inl hl)
  rw [hz] at hcap
  have hc0 : 0 < hs_n h 5 l := by omega
  have ha := hs_20 H (Or.inl hl)
  rw [if_neg (by omega), hz] at ha
  refine l2_remove (f := fun p => if p < hs_z h l then some (if l = 12 then A 19 p 0 else A 24 l p) else none) ha (hs_21 H (Or.inl hl) hc0) hcap.1 hcap.2 ?_ ?_ hx hi0 ?_ (fun M' S1 S2 S3 => hK M' (hs_take H o hl h6 hi0 S1 S2 S3))
  · intro p hp
    rw [hz, if_neg (by omega)]
  · intro p y hy
    by_cases hp : p < hs_z h l
    · rw [if_pos hp, if_neg h12] at hy
      cases hy
      rw [hz] at hp
      exact Or.inr ⟨_, hs_24 H hl hp⟩
    · rw [if_neg hp] at hy
      cases hy
  · rw [hz, if_pos hi0, if_neg h12]
def hc_tj (h : hs_S) (l j : Nat) : hs_T := (hs_q h l).getD j (0, 0, 0, 0)
def hc_dl (h : hs_S) (l j : Nat) : hs_S := if (hc_tj h l j).1 = 3 then hc_tm (hc_drop (hc_take h l j)) l (ix_v (hc_tj h l j).2.2.1) (hc_tj h l j).2.2.1 else hc_unk (hc_tbe (hc_tbl l 16 0 (hc_keep (hc_take h l j))) l (ix_v (hc_tj h l j).2.1))
def hc_dlc (h : hs_S) (l j : Nat) : Nat := if (hc_tj h l j).1 = 3 then (if hc_bit (hs_i h 8 (hs_n h 4 l) 0 1) (hc_tj h l j).2.2.1 = true then 0 else 1) else hc_tbc l 16 0 (hc_keep (hc_take h l j))
def hc_deliver (h : hs_S) (x1 x2 : Int32) : Int32 × hs_S := match hc_th h x1 x2 with
  | some (l, j) => if ¬ hs_i h 19 l 0 0 = 0 ∧ ¬ x2 = 0 then (0, h) else (1, hc_dl h l j)
  | none => (0, h)
def hc_dvc (h : hs_S) (x1 x2 : Int32) : Nat := match hc_th h x1 x2 with
  | some (l, j) => if ¬ hs_i h 19 l 0 0 = 0 ∧ ¬ x2 = 0 then 0 else hc_dlc h l j
  | none => 0
/-- what a thing on a link is -/
def hs_tk (t : hs_T) : Prop := (t.1 = 3 → ∃ n, n < 16 ∧ t.2.2.1 = nI n) ∧ (t.1 = 1 → ∃ c, c < 3 ∧ t.2.1 = nI c)
theorem hs_ok_take {l i0 : Nat} (o : hs_ok h) (hl : l < hs_n h 1 0) : hs_ok (hc_take h l i0) := by
  have h12 := hs_okl o hl
  obtain ⟨o1, o2, o3, o4, o5⟩ := o
  refine ⟨by rw [ht_n h l i0 0 0 (by decide)]; exact o1, by rw [ht_n h l i0 1 0 (by decide)]; exact o2, by rw [ht_n h l i0 2 0 (by decide)]; exact o3, ?_, ?_⟩
  · intro b hb
    rw [ht_n h l i0 1 0 (by decide)] at hb
    rw [ht_n h l i0 3 b (by decide), ht_n h l i0 4 b (by decide), ht_n h l i0 0 0 (by decide)]
    exact o4 b hb
  · intro b hb
    rw [ht_n h l i0 1 0 (by decide)] at hb
    rw [ht_n h l i0 5 b (by decide)]
    have ob := o5 b hb
    by_cases q : b = l
    · subst q
      rw [hs_zl h h12] at ob
      rw [hs_zl _ h12, ht_q, if_pos rfl]
      have := List.length_eraseIdx_le (hs_q h b) i0
      omega
    · have ez : hs_z (hc_take h l i0) b = hs_z h b := by unfold hs_z; rw [ht_q, if_neg q, ht_n h l i0 1 0 (by decide)]
      rw [ez]
      exact ob
theorem hs_ok_drop (o : hs_ok h) : hs_ok (hc_drop h) := o
theorem hs_ok_keep (o : hs_ok h) : hs_ok (hc_keep h) := o
theorem qb_take {l i0 B : Nat} (hb : hs_qb h B) : hs_qb (hc_take h l i0) B := by
  intro b hb'
  rw [ht_n h l i0 1 0 (by decide)] at hb'
  have := hb b hb'
  rw [ht_q]
  split
  · rename_i q
    subst q
    have := List.length_eraseIdx_le (hs_q h b) i0
    omega
  · exact this
theorem l2_dv36 {K : Int32 → mo_M → Prop} {l j mc ms cu su : Nat} {x : Int32} (H : hs_in g e0 A h M) (o : hs_ok h) (hl : l < hs_n h 1 0) (h6 : hs_n h 6 0 = 0) (hx : x = nI j) (hj : j < (hs_q h l).length) (htk : hs_tk (hc_tj h l j)) (hb : hs_qb h 780) (hm : cu + 24 * hc_dlc h l j ≤ mc) (hs : su + 15600 * hc_dlc h l j ≤ ms) (hK : ∀ A' M', hs_s6 A A' → hs_in g e0 A' (hc_dl h l j) M' → K 1 M') : pp_H_deliver_b36 g e0 mc ms K M cu su (A 0 0 0) x (A 19 l 0) := by
  unfold pp_H_deliver_b36
  unfold hc_dl at hK
  unfold hc_dlc at hm hs
  refine mq_gr (hs_19 H hl) rfl ⟨by omega, by omega, ⟨_, hs_20 H (Or.inl hl)⟩, l2_takeOut H o hl h6 hx hj (fun M1 H1 => ?_)⟩
  have h61 : hs_n (hc_take h l j) 6 0 = 1 := by simp [hc_take, hs_n_sn]
  have m25 := hs_25 H1 h61
  have er : hs_i (hc_take h l j) 25 0 0 = hs_row (hc_tj h l j) := rfl
  have o1 := hs_ok_take (i0 := j) o hl
  have hl1 : l < hs_n (hc_take h l j) 1 0 := by rw [ht_n h l j 1 0 (by decide)]; exact hl
  have e8 : ∀ k, hs_i (hc_take h l j) 8 k 0 = hs_i h 8 k 0 := fun k => rfl
  have e4 : hs_n (hc_take h l j) 4 l = hs_n h 4 l := ht_n h l j 4 l (by decide)
  have q1 := qb_take (l := l) (i0 := j) hb
  have sA := hs_s6_tA A l j
  have is0 : mp_is M1 (hs_tA A l j 0 0 0) 0 := ⟨_, hs_0 H1⟩
  refine ⟨⟨_, m25⟩, mq_gi m25 rfl ⟨fun z => ?_, fun z => ?_⟩⟩
  · have z' : (hc_tj h l j).1 = 3 := z
    rw [if_pos z'] at hK hm hs
    obtain ⟨n, hn, en⟩ := htk.1 z'
    refine mq_gi m25 rfl ⟨24 * (if hc_bit (hs_i h 8 (hs_n h 4 l) 0 1) (hc_tj h l j).2.2.1 = true then 0 else 1), 15600 * (if hc_bit (hs_i h 8 (hs_n h 4 l) 0 1) (hc_tj h l j).2.2.1 = true then 0 else 1), hm, hs, is0, ?_⟩
    have ev : ix_v (hc_tj h l j).2.2.1 = n := by rw [en]; exact ix_vn (by omega)
    rw [ev] at hK
    refine l2_takeMarker (A := hs_tA A l j) (h := hc_drop (hc_take h l j)) (l := l) (n := n) (x := (hc_tj h l j).2.2.1) (hs_drop H1) (hs_ok_drop o1) hl1 en hn (fun b hb' => by have := q1 b hb'; exact Nat.le_trans this (by decide)) ?_ (fun A' M' sm H' => ⟨hm, hs, rfl, hK A' M' (hs_s6_tr sA (hs_s6_sm sm)) H'⟩)
    intro y
    have y' : hc_bit (hs_i h 8 (hs_n (hc_take h l j) 4 l) 0 1) (hc_tj h l j).2.2.1 = false := y
    rw [e4] at y'
    rw [if_neg (by rw [y']; decide)]
    exact ⟨Nat.le_refl _, Nat.le_refl _⟩
  · have z' : ¬ (hc_tj h l j).1 = 3 := z
    rw [if_neg z'] at hK hm hs
    have H2 := hs_keep H1 h61
    refine ⟨24 * hc_tbc l 16 0 (hc_keep (hc_take h l j)), 15600 * hc_tbc l 16 0 (hc_keep (hc_take h l j)), hm, hs, is0, ?_⟩
    refine l2_takeBag (A := hs_kA (hs_tA A l j)) (h := hc_keep (hc_take h l j)) (l := l) (c := ix_v (hc_tj h l j).2.1) H2 (hs_ok_keep o1) hl1 rfl ?_ q1 (Nat.le_refl _) (Nat.le_refl _) (fun A' M' sm H' => ⟨hm, hs, rfl, hK A' M' (hs_s6_tr (hs_s6_tr sA (hs_s6_kA _)) (hs_s6_sm sm)) (hs_unk H')⟩)
    intro y
    obtain ⟨c, hc, ec⟩ := htk.2 y
    have : hs_i (hc_keep (hc_take h l j)) 26 0 0 1 = (hc_tj h l j).2.1 := rfl
    rw [this, ec, ix_vn (by omega)]
    exact ⟨rfl, hc⟩
theorem l2_deliver {K : Int32 → mo_M → Prop} {mc ms : Nat} {x1 x2 : Int32} (H : hs_in g e0 A h M) (o : hs_ok h) (h6 : hs_n h 6 0 = 0) (htk : ∀ l t, l < hs_n h 1 0 → t ∈ hs_q h l → hs_tk t) (hb : hs_qb h 780) (hm : 24 * hc_dvc h x1 x2 ≤ mc) (hs : 15600 * hc_dvc h x1 x2 ≤ ms) (hK : ∀ A' M', hs_s6 A A' → hs_in g e0 A' (hc_deliver h x1 x2).2 M' → K (hc_deliver h x1 x2).1 M') : pp_H_deliver g e0 mc ms K M (A 0 0 0) x1 x2 := by
  unfold pp_H_deliver
  unfold hc_deliver at hK
  unfold hc_dvc at hm hs
  refine ⟨by omega, by omega, ⟨_, hs_0 H⟩, l2_hasThing H o (zb_br (fun q => ⟨by omega, by omega, rfl, ?_⟩) (fun q => ?_))⟩
  · rw [Option.isSome_eq_false_iff, Option.isNone_iff_eq_none] at q
    rw [q] at hK
    exact hK A M (hs_s6_rf A) H
  · obtain ⟨⟨l, j⟩, hth⟩ := Option.isSome_iff_exists.mp q
    rw [hth] at hK hm hs
    unfold hc_th at hth
    cases hl0 : ix_n x1 (hs_n h 1 0) with
    | none => rw [hl0] at hth; cases hth
    | some l' =>
      rw [hl0] at hth
      dsimp only at hth
      cases hj0 : ix_n x2 (hs_q h l').length with
      | none => rw [hj0] at hth; cases hth
      | some j' =>
        rw [hj0] at hth
        cases hth
        obtain ⟨ex1, hl⟩ := (ix_some (hs_okL o)).mp hl0
        obtain ⟨ex2, hj⟩ := (ix_some (hs_okq o hl)).mp hj0
        have htj : hs_tk (hc_tj h l j) := by
          refine htk l _ hl ?_
          unfold hc_tj
          rw [List.getD_eq_getElem?_getD, List.getElem?_eq_getElem hj]
          exact List.getElem_mem hj
        dsimp only at hK hm hs
        refine mq_gr (hs_0 H) rfl ⟨by omega, by omega, ⟨_, hs_20 H (Or.inr rfl)⟩, l2_get (p := l) H o (Or.inr rfl) hl ex1 ?_⟩
        rw [if_pos rfl]
        refine ⟨⟨_, hs_19 H hl⟩, mq_gi (hs_19 H hl) rfl ⟨fun z => ?_, fun z => ⟨fun y => ?_, fun y => ⟨by omega, by omega, rfl, ?_⟩⟩⟩⟩
        · rw [if_neg (fun w => w.1 z)] at hK hm hs
          exact l2_dv36 H o hl h6 ex2 hj htj hb (by omega) (by omega) hK
        · rw [if_neg (fun w => w.2 y)] at hK hm hs
          exact l2_dv36 H o hl h6 ex2 hj htj hb (by omega) (by omega) hK
        · rw [if_pos ⟨z, y⟩] at hK
          exact hK A M (hs_s6_rf A) H
/-- the number of numbers is written -/
theorem hs_wn2 (H : hs_in g e0 A h M) (v : Nat) : hs_in g e0 A (hs_sn h 2 0 v) (va_up M (A 0 0 0) (some (.inr (0, [.ref (A 1 0 0), .ref (A 20 12 0), .ref (A 4 0 0), .ref (A 6 0 0), .int (nI v)])))) := by
  refine hs_wr (h' := hs_sn h 2 0 v) H (f := 0) (i := 0) (j := 0) rfl H.2.2 (fun _ _ _ => rfl) (fun f' i' j' hd hne => ?_) rfl
  have q0 : f' ≠ 0 := fun q => by
    subst q
    simp [hs_dom] at hd
    exact hne ⟨rfl, hd⟩
  unfold hs_e
  rw [show hs_l (hs_sn h 2 0 v) f' i' j' = hs_l h f' i' j' from rfl, show hs_i (hs_sn h 2 0 v) f' i' j' = hs_i h f' i' j' from rfl]
  unfold hs_o
  simp only [q0, if_false]
  rfl
def hc_snap (h : hs_S) (x : Int32) : Int32 × hs_S := match ix_n x (hs_n h 0 0) with
  | some k => if hs_n h 2 0 < 16 then (nI (hs_n h 2 0), hc_rec (hs_sn h 2 0 (hs_n h 2 0 + 1)) k (hs_n h 2 0) (nI (hs_n h 2 0))) else (-1, h)
  | none => (-1, h)
def hc_snc (h : hs_S) (x : Int32) : Nat := match ix_n x (hs_n h 0 0) with
  | some k => if hs_n h 2 0 < 16 ∧ hc_bit (hs_i h 8 k 0 1) (nI (hs_n h 2 0)) = false then 1 else 0
  | none => 0
theorem l2_snap {K : Int32 → mo_M → Prop} {mc ms : Nat} {x : Int32} (H : hs_in g e0 A h M) (o : hs_ok h) (hb : hs_qb h 780) (hm : 24 * hc_snc h x ≤ mc) (hs : 15600 * hc_snc h x ≤ ms) (hK : ∀ A' M', hs_s6 A A' → hs_in g e0 A' (hc_snap h x).2 M' → K (hc_snap h x).1 M') : pp_H_snap g e0 mc ms K M (A 0 0 0) x := by
  have o2 := o.2.2.1
  unfold pp_H_snap
  unfold hc_snap at hK
  unfold hc_snc at hm hs
  refine ⟨by omega, by omega, ⟨_, hs_0 H⟩, l2_hasKiosk H o (zb_br (fun q => ⟨by omega, by omega, ?_⟩) (fun q => ?_))⟩
  · rw [Option.isSome_eq_false_iff, Option.isNone_iff_eq_none] at q
    rw [q] at hK
    exact hK A M (hs_s6_rf A) H
  · obtain ⟨k, hk0⟩ := Option.isSome_iff_exists.mp q
    rw [hk0] at hK hm hs
    dsimp only at hK hm hs
    obtain ⟨ek, hk⟩ := (ix_some (hs_okK o)).mp hk0
    have elt : nI (hs_n h 2 0) < (16 : Int32) ↔ hs_n h 2 0 < 16 := by
      have := nI_ltI (a := hs_n h 2 0) (b := 16) (by omega) (by decide)
      exact this
    refine mq_gi (hs_0 H) rfl ⟨fun z => ?_, fun z => ⟨by omega, by omega, ?_⟩⟩
    · have z' := elt.mp z
      rw [if_pos z'] at hK
      refine mq_gi (hs_0 H) rfl (mq_gi (hs_0 H) rfl (mq_pt (hs_0 H) (Nat.le_of_ble_eq_true rfl) ?_))
      have H1 := hs_wn2 H (hs_n h 2 0 + 1)
      rw [← nI_1] at H1
      have hk1 : k < hs_n (hs_sn h 2 0 (hs_n h 2 0 + 1)) 0 0 := hk
      have o1 : hs_ok (hs_sn h 2 0 (hs_n h 2 0 + 1)) := ⟨o.1, o.2.1, z', o.2.2.2.1, o.2.2.2.2⟩
      refine mq_gr (hs_0 H1) rfl (mq_aq (hs_1 H1) ek hk1 (hs_okK o1) rfl ?_)
      obtain ⟨cc, tt, hct, hct1, hct2⟩ : ∃ cc tt : Nat, (hc_bit (hs_i h 8 k 0 1) (nI (hs_n h 2 0)) = false → 24 ≤ cc ∧ 15600 ≤ tt) ∧ cc ≤ mc ∧ tt ≤ ms := by
        refine ⟨mc, ms, fun y => ?_, Nat.le_refl _, Nat.le_refl _⟩
        rw [if_pos ⟨z', y⟩] at hm hs
        exact ⟨by omega, by omega⟩
      exact ⟨cc, tt, by omega, by omega, ⟨_, hs_0 H1⟩, l2_recordAt H1 o1 hk1 rfl z' (fun b hb' => Nat.le_trans (hb b hb') (by decide)) hct (fun A' M' sm H' => ⟨by omega, by omega, hK A' M' (hs_s6_sm sm) H'⟩)⟩
    · rw [if_neg (fun w => z (elt.mpr w))] at hK
      exact hK A M (hs_s6_rf A) H
/-- a bag -/
def hc_bg (h : hs_S) (l c : Nat) (x2 x3 : Int32) : hs_S := hc_snd (hc_give h (hs_n h 3 l) c x3) l (1, x2, x3, hs_i h 8 (hs_n h 3 l) 0 1)
def hc_bag (h : hs_S) (x1 x2 x3 : Int32) : Int32 × hs_S := match ix_n x1 (hs_n h 1 0), ix_n x2 3 with
  | some l, some c => if hc_can h (hs_n h 3 l) c x3 = true ∧ hc_cb (hs_q h l) < 16 then (1, hc_bg h l c x2 x3) else (0, h)
  | _, _ => (0, h)
theorem hc_give_mk (h : hs_S) (k c : Nat) (x : Int32) : hs_i (hc_give h k c x) 8 k 0 1 = hs_i h 8 k 0 1 := by
  show (if (8 : Nat) = 8 ∧ k = k ∧ (0 : Nat) = 0 then upd (hs_i h 8 k 0) 0 (hs_i h 8 k 0 0 + 1) else hs_i h 8 k 0) 1 = _
  rw [if_pos ⟨rfl, rfl, rfl⟩]
  rfl
theorem l2_sendBag {K : mo_M → Prop} {l c mc ms : Nat} {x2 x3 : Int32} (H : hs_in g e0 A h M) (o : hs_ok h) (hl : l < hs_n h 1 0) (hc : ix_n x2 3 = some c) (hb : (hs_q h l).length ≤ 800) (hm : 2 ≤ mc) (hs : 1300 ≤ ms) (hK : ∀ A' M', hs_sm A A' → hs_in g e0 A' (hc_bg h l c x2 x3) M' → K M') : pp_L_sendBag g e0 mc ms K M (A 19 l 0) x2 x3 := by
  have hl7 := Nat.lt_of_lt_of_le hl H.2.2
  have hf := (o.2.2.2.1 l hl).1
  unfold pp_L_sendBag
  unfold hc_bg at hK
  refine mq_gr (hs_19 H hl) rfl ⟨by omega, by omega, ⟨_, hs_8 H hf⟩, l2_giveCoins H hf hc (fun M1 H1 => ?_)⟩
  have hl1 : l < hs_n (hc_give h (hs_n h 3 l) c x3) 1 0 := hl
  have hf1 : hs_n h 3 l < hs_n (hc_give h (hs_n h 3 l) c x3) 0 0 := hf
  refine mq_gr (hs_19 H1 hl1) rfl ⟨by omega, by omega, fun q hq => ?_⟩
  have n1 := hs_nq (f := 19) (i := l) (j := 0) H1 (show hs_dom h 19 l 0 = true by simp [hs_dom, hl7]) hq
  have n2 := hs_nq (f := 8) (i := hs_n h 3 l) (j := 0) H1 (show hs_dom h 8 (hs_n h 3 l) 0 = true by simp [hs_dom, hf]) hq
  refine mq_gr ((va_up_ne _ _ n1).trans (hs_19 H1 hl1)) rfl (mq_gi ((va_up_ne _ _ n2).trans (hs_8 H1 hf1)) rfl ⟨by omega, by omega, ?_⟩)
  rw [hc_give_mk]
  exact l2_send H1 o hl1 hb hm hs hK q hq
theorem l2_bag {K : Int32 → mo_M → Prop} {mc ms : Nat} {x1 x2 x3 : Int32} (H : hs_in g e0 A h M) (o : hs_ok h) (hb : hs_qb h 780) (hm : 2 ≤ mc) (hs : 1300 ≤ ms) (hK : ∀ A' M', hs_s6 A A' → hs_in g e0 A' (hc_bag h x1 x2 x3).2 M' → K (hc_bag h x1 x2 x3).1 M') : pp_H_bag g e0 mc ms K M (A 0 0 0) x1 x2 x3 := by
  unfold pp_H_bag
  unfold hc_bag at hK
  refine ⟨by omega, by omega, ⟨_, hs_0 H⟩, l2_hasLink H o (zb_br (fun q => ⟨by omega, by omega, rfl, ?_⟩) (fun q => ?_))⟩
  · rw [Option.isSome_eq_false_iff, Option.isNone_iff_eq_none] at q
    rw [q] at hK
    exact hK A M (hs_s6_rf A) H
  · obtain ⟨l, hl0⟩ := Option.isSome_iff_exists.mp q
    rw [hl0] at hK
    obtain ⟨el, hl⟩ := (ix_some (hs_okL o)).mp hl0
    have hf := (o.2.2.2.1 l hl).1
    refine mq_gr (hs_0 H) rfl ⟨by omega, by omega, ⟨_, hs_20 H (Or.inr rfl)⟩, l2_get (p := l) H o (Or.inr rfl) hl el ?_⟩
    rw [if_pos rfl]
    refine ⟨⟨_, hs_19 H hl⟩, by omega, by omega, l2_hasCurrency (zb_br (fun r => ⟨by omega, by omega, rfl, ?_⟩) (fun r => ?_))⟩
    · rw [Option.isSome_eq_false_iff, Option.isNone_iff_eq_none] at r
      rw [r] at hK
      exact hK A M (hs_s6_rf A) H
    · obtain ⟨c, hc0⟩ := Option.isSome_iff_exists.mp r
      rw [hc0] at hK
      dsimp only at hK
      refine mq_gr (hs_19 H hl) rfl ⟨by omega, by omega, ⟨_, hs_8 H hf⟩, l2_hasCoins H hf hc0 (zb_br (fun t => ⟨by omega, by omega, rfl, ?_⟩) (fun t => ⟨by omega, by omega, ⟨_, hs_19 H hl⟩, l2_countBags H o hl ?_⟩))⟩
      · rw [if_neg (fun w => by rw [w.1] at t; cases t)] at hK
        exact hK A M (hs_s6_rf A) H
      · have hcb : hc_cb (hs_q h l) ≤ (hs_q h l).length := List.length_filter_le _ _
        have hq31 := hs_okq o hl
        have elt : nI (hc_cb (hs_q h l)) < (16 : Int32) ↔ hc_cb (hs_q h l) < 16 := nI_ltI (a := hc_cb (hs_q h l)) (b := 16) (by omega) (by decide)
        refine ⟨fun w => ?_, fun w => ⟨by omega, by omega, rfl, ?_⟩⟩
        · rw [if_pos ⟨t, elt.mp w⟩] at hK
          exact ⟨mc, ms, by omega, by omega, ⟨_, hs_19 H hl⟩, l2_sendBag H o hl hc0 (Nat.le_trans (hb l hl) (by decide)) hm hs (fun A' M' sm H' => ⟨by omega, by omega, rfl, hK A' M' (hs_s6_sm sm) H'⟩)⟩
        · rw [if_neg (fun y => w (elt.mpr y.2))] at hK
          exact hK A M (hs_s6_rf A) H
end CL10
