section MV2
variable {g : Nat → ClassId} {e0 : Nat → Nat} {A A' : hs_A} {h h' : hs_S} {M M' : mo_M} {f i j : Nat}
def hs_row (t : hs_T) : Nat → Int32 := fun k => if k = 0 then t.1 else if k = 1 then t.2.1 else if k = 2 then t.2.2.1 else t.2.2.2
/-- a new thing in the hand -/
def hc_hand (h : hs_S) (t : hs_T) : hs_S := hs_sn (hs_si h 25 0 0 (hs_row t)) 6 0 1
def hs_hA (A : hs_A) (q : Nat) : hs_A := fun f i j => if f = 25 then q else A f i j
theorem hh_n (h : hs_S) (t : hs_T) (a b : Nat) (ha : a ≠ 6) : hs_n (hc_hand h t) a b = hs_n h a b := by simp [hc_hand, hs_n_sn, hs_n_si, ha]
theorem hh_dom {t : hs_T} (h25 : f ≠ 25) : hs_dom (hc_hand h t) f i j = hs_dom h f i j := by
  unfold hs_dom
  simp only [hh_n h t 0 0 (by decide), hh_n h t 7 0 (by decide), hh_n h t 8 0 (by decide), hh_n h t 5 _ (by decide), h25, if_false]
  rfl
theorem hs_hand {q : Nat} {t : hs_T} (H : hs_in g e0 A h M) (hq : mo_fr M q) (hM : M' q = some (.inr (3, [.int t.1, .int t.2.1, .int t.2.2.1, .int t.2.2.2]))) (ho : ∀ b, b ≠ q → M' b = M b) : hs_in g e0 (hs_hA A q) (hc_hand h t) M' := by
  have nq : ∀ f i j, hs_dom h f i j = true → A f i j ≠ q := fun f i j hd e => by
    have := H.1 f i j hd
    rw [e, hq q (Nat.le_refl _)] at this
    cases this
  have hA : ∀ f i j, f ≠ 25 → hs_hA A q f i j = A f i j := fun f i j hf => if_neg hf
  have hA25 : ∀ i j, hs_hA A q 25 i j = q := fun i j => rfl
  refine ⟨fun f i j hd => ?_, fun f i j f' i' j' hd hd' e => ?_, ?_⟩
  · by_cases q25 : f = 25
    · subst q25
      have hij : i = 0 ∧ j = 0 := by simp [hs_dom] at hd; exact hd.2
      obtain ⟨rfl, rfl⟩ := hij
      rw [hA25, hM]
      rfl
    · rw [hh_dom q25] at hd
      rw [hA f i j q25, ho _ (nq f i j hd), H.1 f i j hd]
      congr 1
      refine (hs_eA (h' := hc_hand h t) (A' := hs_hA A q) hd H.2.2 rfl ?_ (hh_n h t 0 0 (by decide)) (hh_n h t 2 0 (by decide)) (fun _ => ⟨hh_n h t 3 i (by decide), hh_n h t 4 i (by decide)⟩) (fun _ => ⟨hh_n h t 5 i (by decide), ?_⟩) (fun _ => rfl) (fun a b c hz9 => hA a b c (by omega)) (fun a b c hz9 _ => hA a b c (by omega)) (fun _ => hA 21 i 0 (by decide)) (fun _ p _ _ => hA 24 i p (by decide))).symm
      · show (if f = 25 ∧ i = 0 ∧ j = 0 then _ else hs_i h f i j) = _
        rw [if_neg (fun z => q25 z.1)]
      · unfold hs_z
        rw [hh_n h t 1 0 (by decide)]
        rfl
  · by_cases q1 : f = 25 <;> by_cases q2 : f' = 25
    · subst q1
      subst q2
      have hij : i = 0 ∧ j = 0 := by simp [hs_dom] at hd; exact hd.2
      have hij' : i' = 0 ∧ j' = 0 := by simp [hs_dom] at hd'; exact hd'.2
      exact ⟨rfl, hij.1.trans hij'.1.symm, hij.2.trans hij'.2.symm⟩
    · subst q1
      rw [hh_dom q2] at hd'
      rw [hA25, hA f' i' j' q2] at e
      exact absurd e.symm (nq _ _ _ hd')
    · subst q2
      rw [hh_dom q1] at hd
      rw [hA25, hA f i j q1] at e
      exact absurd e (nq _ _ _ hd)
    · rw [hh_dom q1] at hd
      rw [hh_dom q2] at hd'
      rw [hA f i j q1, hA f' i' j' q2] at e
      exact H.2.1 _ _ _ _ _ _ hd hd' e
  · rw [hh_n h t 1 0 (by decide), hh_n h t 7 0 (by decide)]
    exact H.2.2
/-- the hand is empty again -/
def hc_drop (h : hs_S) : hs_S := hs_sn h 6 0 0
theorem hs_drop (H : hs_in g e0 A h M) : hs_in g e0 A (hc_drop h) M := by
  have hn : ∀ a b, a ≠ 6 → hs_n (hc_drop h) a b = hs_n h a b := fun a b ha => by simp [hc_drop, hs_n_sn, ha]
  have hd25 : ∀ i j, hs_dom (hc_drop h) 25 i j = false := fun i j => by simp [hs_dom, hc_drop, hs_n_sn]
  have hdom : ∀ f i j, f ≠ 25 → hs_dom (hc_drop h) f i j = hs_dom h f i j := fun f i j hf => by
    unfold hs_dom
    simp only [hn 0 0 (by decide), hn 7 0 (by decide), hn 8 0 (by decide), hn 5 _ (by decide), hf, if_false]
    rfl
  have n25 : ∀ f i j, hs_dom (hc_drop h) f i j = true → f ≠ 25 := fun f i j hd q => by rw [q, hd25] at hd; cases hd
  refine ⟨fun f i j hd => ?_, fun f i j f' i' j' hd hd' e => ?_, ?_⟩
  · have q := n25 f i j hd
    rw [hdom f i j q] at hd
    rw [H.1 f i j hd]
    congr 1
  · have q := n25 f i j hd
    have q' := n25 f' i' j' hd'
    rw [hdom f i j q] at hd
    rw [hdom f' i' j' q'] at hd'
    exact H.2.1 _ _ _ _ _ _ hd hd' e
  · rw [hn 1 0 (by decide), hn 7 0 (by decide)]
    exact H.2.2
/-- the i0-th thing of link l goes into the hand -/
def hc_take (h : hs_S) (l i0 : Nat) : hs_S := hs_sn (hs_sq (hs_si (hs_si h 20 l 0 (upd (hs_i h 20 l 0) 0 (hs_i h 20 l 0 0 + 1))) 25 0 0 (hs_row ((hs_q h l).getD i0 (0, 0, 0, 0)))) l ((hs_q h l).eraseIdx i0)) 6 0 1
def hs_tA (A : hs_A) (l i0 : Nat) : hs_A := fun f i j => if f = 25 then A 24 l i0 else if f = 24 ∧ i = l then (if j < i0 then A 24 l j else A 24 l (j + 1)) else A f i j
theorem ht_n (h : hs_S) (l i0 a b : Nat) (ha : a ≠ 6) : hs_n (hc_take h l i0) a b = hs_n h a b := by simp [hc_take, hs_n_sn, hs_n_si, hs_n_sq, ha]
theorem ht_q (h : hs_S) (l i0 b : Nat) : hs_q (hc_take h l i0) b = if b = l then (hs_q h l).eraseIdx i0 else hs_q h b := by simp [hc_take, hs_q_sn, hs_q_si, hs_q_sq]
theorem ht_i (h : hs_S) (l i0 a b c : Nat) : hs_i (hc_take h l i0) a b c = if a = 25 ∧ b = 0 ∧ c = 0 then hs_row ((hs_q h l).getD i0 (0, 0, 0, 0)) else if a = 20 ∧ b = l ∧ c = 0 then upd (hs_i h 20 l 0) 0 (hs_i h 20 l 0 0 + 1) else hs_i h a b c := rfl
theorem ht_dom {l i0 : Nat} (h24 : f ≠ 24) (h25 : f ≠ 25) : hs_dom (hc_take h l i0) f i j = hs_dom h f i j := by
  unfold hs_dom
  simp only [ht_n h l i0 0 0 (by decide), ht_n h l i0 7 0 (by decide), ht_n h l i0 8 0 (by decide), ht_n h l i0 5 _ (by decide), h24, h25, if_false]
theorem er_get {q : List hs_T} {i0 j : Nat} (d : hs_T) : (q.eraseIdx i0).getD j d = q.getD (if j < i0 then j else j + 1) d := by
  rw [List.getD_eq_getElem?_getD, List.getD_eq_getElem?_getD, List.getElem?_eraseIdx]
  split <;> rfl
theorem hs_take {l i0 : Nat} (H : hs_in g e0 A h M) (o : hs_ok h) (hl : l < hs_n h 1 0) (h6 : hs_n h 6 0 = 0) (hi0 : i0 < (hs_q h l).length) (S1 : M' (A 20 l 0) = some (.inr (5, [.int (hs_i h 20 l 0 0 + 1), .ref (A 21 l 0), .int (nI ((hs_q h l).length - 1))]))) (S2 : M' (A 21 l 0) = some (.inl (g 6, hs_n h 5 l, hs_rf (ls_rm (fun p => if p < hs_z h l then some (if l = 12 then A 19 p 0 else A 24 l p) else none) i0)))) (S3 : ∀ b, b ≠ A 20 l 0 → b ≠ A 21 l 0 → M' b = M b) : hs_in g e0 (hs_tA A l i0) (hc_take h l i0) M' := by
  have h12 := hs_okl o hl
  have hz : hs_z h l = (hs_q h l).length := hs_zl h h12
  have hle := (o.2.2.2.2 l (Or.inl hl)).1
  rw [hz] at hle
  have hl7 : l < hs_n h 7 0 := Nat.lt_of_lt_of_le hl H.2.2
  have d20 : hs_dom h 20 l 0 = true := by simp [hs_dom, hl7]
  have d21 : hs_dom h 21 l 0 = true := by simp [hs_dom, hl7]; omega
  have elen : ((hs_q h l).eraseIdx i0).length = (hs_q h l).length - 1 := by rw [List.length_eraseIdx, if_pos hi0]
  have hzz : hs_z (hc_take h l i0) l = (hs_q h l).length - 1 := by rw [hs_zl _ h12, ht_q, if_pos rfl, elen]
  -- each name has an old one at its address
  have one : ∀ f i j, hs_dom (hc_take h l i0) f i j = true → ∃ a b c, hs_tA A l i0 f i j = A a b c ∧ hs_dom h a b c = true ∧ ((f = 25 ∧ i = 0 ∧ j = 0 ∧ a = 24 ∧ b = l ∧ c = i0) ∨ (f = 24 ∧ i = l ∧ a = 24 ∧ b = l ∧ c = (if j < i0 then j else j + 1)) ∨ (f ≠ 25 ∧ ¬ (f = 24 ∧ i = l) ∧ a = f ∧ b = i ∧ c = j)) := by
    intro f i j hd
    by_cases q25 : f = 25
    · subst q25
      have hij : i = 0 ∧ j = 0 := by simp [hs_dom] at hd; exact hd.2
      exact ⟨24, l, i0, rfl, by simp [hs_dom, hl7, hi0], Or.inl ⟨rfl, hij.1, hij.2, rfl, rfl, rfl⟩⟩
    by_cases q24 : f = 24
    · subst q24
      have hd2 : i < hs_n h 7 0 ∧ j < (hs_q (hc_take h l i0) i).length := by simpa [hs_dom, ht_n h l i0 7 0 (by decide)] using hd
      obtain ⟨a1, a2⟩ := hd2
      rw [ht_q] at a2
      by_cases qi : i = l
      · subst qi
        rw [if_pos rfl, elen] at a2
        refine ⟨24, i, if j < i0 then j else j + 1, ?_, ?_, Or.inr (Or.inl ⟨rfl, rfl, rfl, rfl, rfl⟩)⟩
        · unfold hs_tA
          rw [if_neg q25, if_pos ⟨rfl, rfl⟩]
          split <;> rfl
        · simp only [hs_dom]
          simp [a1]
          split <;> omega
      · rw [if_neg qi] at a2
        refine ⟨24, i, j, ?_, by simp [hs_dom, a1, a2], Or.inr (Or.inr ⟨q25, fun z => qi z.2, rfl, rfl, rfl⟩)⟩
        unfold hs_tA
        rw [if_neg q25, if_neg (fun z => qi z.2)]
    · rw [ht_dom q24 q25] at hd
      refine ⟨f, i, j, ?_, hd, Or.inr (Or.inr ⟨q25, fun z => q24 z.1, rfl, rfl, rfl⟩)⟩
      unfold hs_tA
      rw [if_neg q25, if_neg (fun z => q24 z.1)]
  have hAo : ∀ f i j, f ≠ 25 → ¬ (f = 24 ∧ i = l) → hs_tA A l i0 f i j = A f i j := fun f i j a1 a2 => by
    unfold hs_tA
    rw [if_neg a1, if_neg a2]
  have keep : ∀ f i j, hs_dom h f i j = true → ¬ (f = 21 ∧ i = l) → ¬ (f = 20 ∧ i = l) → M' (A f i j) = M (A f i j) := by
    intro f i j hd a1 a2
    exact S3 _ (fun e => by obtain ⟨q1, q2, -⟩ := H.2.1 _ _ _ _ _ _ hd d20 e; exact a2 ⟨q1, q2⟩) (fun e => by obtain ⟨q1, q2, -⟩ := H.2.1 _ _ _ _ _ _ hd d21 e; exact a1 ⟨q1, q2⟩)
  refine ⟨fun f i j hd => ?_, fun f i j f' i' j' hd hd' e => ?_, ?_⟩
  · obtain ⟨a, b, c, e1, e2, e3⟩ := one f i j hd
    rw [e1]
    rcases e3 with ⟨rfl, rfl, rfl, rfl, rfl, rfl⟩ | ⟨rfl, rfl, rfl, rfl, rfl⟩ | ⟨q25, q24, rfl, rfl, rfl⟩
    · rw [keep 24 b c e2 (fun z => by cases z.1) (fun z => by cases z.1), hm_24 H hl7 hi0]
      rfl
    · have hj : (if j < i0 then j else j + 1) < (hs_q h b).length := by simp [hs_dom] at e2; exact e2.2
      rw [keep 24 b _ e2 (fun z => by cases z.1) (fun z => by cases z.1), hm_24 H hl7 hj]
      simp only [hs_e, hs_c, hs_o, ht_q, if_true, er_get]
      rfl
    · by_cases q20 : a = 20 ∧ b = l
      · obtain ⟨rfl, rfl⟩ := q20
        have hj : c = 0 := by simp [hs_dom] at e2; exact e2.2
        subst hj
        rw [S1]
        have e5 : ¬ hs_n (hc_take h b i0) 5 b = 0 := by rw [ht_n h b i0 5 b (by decide)]; omega
        simp only [hs_e, hs_c, hs_o, hzz, e5, ht_i, hAo 21 b 0 (by decide) (fun z => by cases z.1)]
        simp [upd]
      by_cases q21 : a = 21 ∧ b = l
      · obtain ⟨rfl, rfl⟩ := q21
        have hj : c = 0 := by simp [hs_dom] at e2; exact e2.2.1
        subst hj
        rw [S2]
        have ef : ls_rm (fun p => if p < hs_z h b then some (if b = 12 then A 19 p 0 else A 24 b p) else none) i0 = (fun p => if p < hs_z (hc_take h b i0) b then some (if b = 12 then hs_tA A b i0 19 p 0 else hs_tA A b i0 24 b p) else none) := by
          funext p
          rw [hzz, hz]
          unfold ls_rm
          dsimp only
          rw [if_neg h12]
          have e24 : hs_tA A b i0 24 b p = if p < i0 then A 24 b p else A 24 b (p + 1) := by
            unfold hs_tA
            rw [if_neg (by decide), if_pos ⟨rfl, rfl⟩]
          rw [e24]
          by_cases hp : p < i0
          · rw [if_pos hp, if_pos hp]
            by_cases hp2 : p < (hs_q h b).length - 1
            · rw [if_pos hp2, if_pos (show p < (hs_q h b).length by omega), if_neg h12]
            · omega
          · rw [if_neg hp, if_neg hp]
            by_cases hp2 : p < (hs_q h b).length - 1
            · rw [if_pos hp2, if_pos (show p + 1 < (hs_q h b).length by omega), if_neg h12, if_neg h12]
            · rw [if_neg hp2, if_neg (show ¬ p + 1 < (hs_q h b).length by omega)]
        rw [ef]
        simp only [hs_e, hs_c, hs_o, ht_n h b i0 5 b (by decide)]
        rfl
      · rw [keep a b c e2 q21 q20, H.1 a b c e2]
        congr 1
        refine (hs_eA (h' := hc_take h l i0) (A' := hs_tA A l i0) e2 H.2.2 rfl ?_ (ht_n h l i0 0 0 (by decide)) (ht_n h l i0 2 0 (by decide)) (fun _ => ⟨ht_n h l i0 3 b (by decide), ht_n h l i0 4 b (by decide)⟩) (fun z => ⟨ht_n h l i0 5 b (by decide), ?_⟩) (fun z => ?_) (fun a' b' c' hz9 => hAo a' b' c' (by omega) (by omega)) (fun a' b' c' hz9 _ => hAo a' b' c' (by omega) (by omega)) (fun z => hAo 21 b 0 (by decide) (fun y => by cases y.1)) (fun z p hp hi12 => ?_)).symm
        · rw [ht_i, if_neg (fun z => q25 z.1), if_neg (fun z => q20 ⟨z.1, z.2.1⟩)]
        · have qi : b ≠ l := by rcases z with rfl | rfl; exact fun y => q20 ⟨rfl, y⟩; exact fun y => q21 ⟨rfl, y⟩
          unfold hs_z
          rw [ht_q, if_neg qi, ht_n h l i0 1 0 (by decide)]
        · have qi : b ≠ l := fun y => q24 ⟨z, y⟩
          rw [ht_q, if_neg qi]
        · exact hAo 24 b p (by decide) (fun y => q21 ⟨z, y.2⟩)
  · obtain ⟨a, b, c, e1, e2, e3⟩ := one f i j hd
    obtain ⟨a', b', c', e1', e2', e3'⟩ := one f' i' j' hd'
    rw [e1, e1'] at e
    obtain ⟨r1, r2, r3⟩ := H.2.1 _ _ _ _ _ _ e2 e2' e
    rcases e3 with ⟨x1, x2, x3, x4, x5, x6⟩ | ⟨x1, x2, x3, x4, x5⟩ | ⟨x1, x2, x3, x4, x5⟩ <;> rcases e3' with ⟨y1, y2, y3, y4, y5, y6⟩ | ⟨y1, y2, y3, y4, y5⟩ | ⟨y1, y2, y3, y4, y5⟩
    · exact ⟨by omega, by omega, by omega⟩
    · exfalso; split at y5 <;> omega
    · exfalso; exact y2 ⟨by omega, by omega⟩
    · exfalso; split at x5 <;> omega
    · exact ⟨by omega, by omega, by split at x5 <;> split at y5 <;> omega⟩
    · exfalso; exact y2 ⟨by omega, by omega⟩
    · exfalso; exact x2 ⟨by omega, by omega⟩
    · exfalso; exact x2 ⟨by omega, by omega⟩
    · exact ⟨by omega, by omega, by omega⟩
  · rw [ht_n h l i0 1 0 (by decide), ht_n h l i0 7 0 (by decide)]
    exact H.2.2
end MV2
