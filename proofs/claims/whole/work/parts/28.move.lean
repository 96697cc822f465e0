section MOV
variable {g : Nat → ClassId} {e0 : Nat → Nat} {A A' : hs_A} {h h' : hs_S} {M M' : mo_M} {f i j : Nat}
/-- what lies at a name when the book and the counts change elsewhere -/
theorem hs_eA (hd : hs_dom h f i j = true) (h17 : hs_n h 1 0 ≤ hs_n h 7 0) (hl : hs_l h' f i j = hs_l h f i j) (hi : hs_i h' f i j = hs_i h f i j) (h0 : hs_n h' 0 0 = hs_n h 0 0) (h2 : hs_n h' 2 0 = hs_n h 2 0) (h3 : f = 19 → hs_n h' 3 i = hs_n h 3 i ∧ hs_n h' 4 i = hs_n h 4 i) (h5 : f = 20 ∨ f = 21 → hs_n h' 5 i = hs_n h 5 i ∧ hs_z h' i = hs_z h i) (h24 : f = 24 → (hs_q h' i).getD j (0, 0, 0, 0) = (hs_q h i).getD j (0, 0, 0, 0))
    (hA1 : ∀ f' i' j', (f' < 19 ∨ 26 < f') → A' f' i' j' = A f' i' j') (hA2 : ∀ f' i' j', (f' = 19 ∨ f' = 20 ∨ f' = 22 ∨ f' = 23) → (i' < hs_n h 7 0 ∨ i' = 12) → A' f' i' j' = A f' i' j') (hA21 : f = 20 → A' 21 i 0 = A 21 i 0) (hA24 : f = 21 → ∀ p, p < hs_z h i → i ≠ 12 → A' 24 i p = A 24 i p) : hs_e g e0 A' h' f i j = hs_e g e0 A h f i j := by
  unfold hs_e
  rw [hl, hi]
  have hlow : ∀ f' i' j', f' < 19 → A' f' i' j' = A f' i' j' := fun f' i' j' hf => hA1 f' i' j' (Or.inl hf)
  have hhi : ∀ f' i' j', 26 < f' → A' f' i' j' = A f' i' j' := fun f' i' j' hf => hA1 f' i' j' (Or.inr hf)
  by_cases q20 : f = 20
  · subst q20
    obtain ⟨e5, ez⟩ := h5 (Or.inl rfl)
    unfold hs_o
    simp only [hi, e5, ez, hA21 rfl]
    rfl
  by_cases q21 : f = 21
  · subst q21
    obtain ⟨e5, ez⟩ := h5 (Or.inr rfl)
    have ef : (fun p => if p < hs_z h' i then some (if i = 12 then A' 19 p 0 else A' 24 i p) else none) = (fun p => if p < hs_z h i then some (if i = 12 then A 19 p 0 else A 24 i p) else none) := by
      funext p
      rw [ez]
      by_cases hp : p < hs_z h i
      · rw [if_pos hp, if_pos hp]
        by_cases hi12 : i = 12
        · rw [if_pos hi12, if_pos hi12, hA2 19 p 0 (Or.inl rfl) (Or.inl (by rw [hi12] at hp; have : hs_z h 12 = hs_n h 1 0 := rfl; omega))]
        · rw [if_neg hi12, if_neg hi12, hA24 rfl p hp hi12]
      · rw [if_neg hp, if_neg hp]
    unfold hs_o
    simp only [ef, e5]
    rfl
  by_cases q19 : f = 19
  · subst q19
    obtain ⟨e3, e4⟩ := h3 rfl
    have hin : i < hs_n h 7 0 := by simp [hs_dom] at hd; exact hd.1
    unfold hs_o
    simp only [hi, e3, e4, hlow 8 _ _ (by decide), hA2 20 i 0 (Or.inr (Or.inl rfl)) (Or.inl hin), hA2 22 i 0 (Or.inr (Or.inr (Or.inl rfl))) (Or.inl hin)]
    rfl
  by_cases q22 : f = 22
  · subst q22
    have hin : i < hs_n h 7 0 := by simp [hs_dom] at hd; exact hd.1
    have ef : (fun n => if n < 16 then some (A' 23 i n) else none) = (fun n => if n < 16 then some (A 23 i n) else none) := funext fun n => by rw [hA2 23 i n (Or.inr (Or.inr (Or.inr rfl))) (Or.inl hin)]
    unfold hs_o
    simp only [ef]
    rfl
  by_cases q24 : f = 24
  · subst q24
    unfold hs_o
    simp only [h24 rfl]
    rfl
  unfold hs_o
  simp only [q20, q21, q19, q22, q24, if_false, hi, h0, h2, hlow 1 _ _ (by decide), hlow 4 _ _ (by decide), hlow 6 _ _ (by decide), hlow 5 _ _ (by decide), hlow 7 _ _ (by decide), hlow 8 _ _ (by decide), hlow 9 _ _ (by decide), hlow 10 _ _ (by decide), hlow 11 _ _ (by decide), hlow 12 _ _ (by decide), hlow 13 _ _ (by decide), hlow 14 _ _ (by decide), hlow 15 _ _ (by decide), hlow 16 _ _ (by decide), hlow 17 _ _ (by decide), hlow 18 _ _ (by decide), hA2 20 12 0 (Or.inr (Or.inl rfl)) (Or.inr rfl), hhi 31 _ _ (by decide), hhi 32 _ _ (by decide), hhi 33 _ _ (by decide), hhi 34 _ _ (by decide), hhi 35 _ _ (by decide), hhi 36 _ _ (by decide), hhi 37 _ _ (by decide), hhi 38 _ _ (by decide), hhi 39 _ _ (by decide), hhi 40 _ _ (by decide), hhi 41 _ _ (by decide), hhi 42 _ _ (by decide), hhi 43 _ _ (by decide), hhi 44 _ _ (by decide), hhi 45 _ _ (by decide), hhi 46 _ _ (by decide), hhi 47 _ _ (by decide), hhi 48 _ _ (by decide), hhi 49 _ _ (by decide), hhi 50 _ _ (by decide)]
/-- a thing goes from the hand to the end of a queue -/
def hc_push (h : hs_S) (l : Nat) : hs_S := hs_sn (hs_sn (hs_sq (hs_si h 20 l 0 (upd (hs_i h 20 l 0) 0 (hs_i h 20 l 0 0 + 1))) l (hs_q h l ++ [(hs_i h 25 0 0 0, hs_i h 25 0 0 1, hs_i h 25 0 0 2, hs_i h 25 0 0 3)])) 5 l (if (hs_q h l).length = hs_n h 5 l then ls_nc (hs_q h l).length else hs_n h 5 l)) 6 0 0
def hs_pA (A : hs_A) (l n d : Nat) : hs_A := fun f i j => if f = 24 ∧ i = l ∧ j = n then A 25 0 0 else if f = 21 ∧ i = l ∧ j = 0 then d else A f i j
theorem hp_n (h : hs_S) (l a b : Nat) (ha : a ≠ 5) (ha6 : a ≠ 6) : hs_n (hc_push h l) a b = hs_n h a b := by simp [hc_push, hs_n_sn, hs_n_sq, hs_n_si, ha, ha6]
theorem hp_n5 (h : hs_S) (l b : Nat) : hs_n (hc_push h l) 5 b = if b = l then (if (hs_q h l).length = hs_n h 5 l then ls_nc (hs_q h l).length else hs_n h 5 l) else hs_n h 5 b := by simp [hc_push, hs_n_sn, hs_n_sq, hs_n_si]
theorem hp_n6 (h : hs_S) (l : Nat) : hs_n (hc_push h l) 6 0 = 0 := by simp [hc_push, hs_n_sn]
theorem hp_q (h : hs_S) (l b : Nat) : hs_q (hc_push h l) b = if b = l then hs_q h l ++ [(hs_i h 25 0 0 0, hs_i h 25 0 0 1, hs_i h 25 0 0 2, hs_i h 25 0 0 3)] else hs_q h b := by simp [hc_push, hs_q_sn, hs_q_sq, hs_q_si]
theorem hp_l (h : hs_S) (l a b c : Nat) : hs_l (hc_push h l) a b c = hs_l h a b c := rfl
theorem hp_i (h : hs_S) (l a b c : Nat) : hs_i (hc_push h l) a b c = if a = 20 ∧ b = l ∧ c = 0 then upd (hs_i h 20 l 0) 0 (hs_i h 20 l 0 0 + 1) else hs_i h a b c := rfl
theorem hp_dom {l : Nat} (h21 : f ≠ 21) (h24 : f ≠ 24) (h25 : f ≠ 25) : hs_dom (hc_push h l) f i j = hs_dom h f i j := by
  unfold hs_dom
  simp only [hp_n h l 0 0 (by decide) (by decide), hp_n h l 7 0 (by decide) (by decide), hp_n h l 8 0 (by decide) (by decide), h21, h24, h25, if_false]
theorem ls_ncp (n : Nat) : n < ls_nc n := by unfold ls_nc; split <;> (try split) <;> omega
theorem hs_push {l d' : Nat} (H : hs_in g e0 A h M) (o : hs_ok h) (hl : l < hs_n h 1 0) (h6 : hs_n h 6 0 = 1) (S : ls_sp g M M' (A 20 l 0) (if hs_n h 5 l = 0 then e0 0 else A 21 l 0) (A 25 0 0) (hs_q h l).length (hs_n h 5 l) (hs_i h 20 l 0 0) (fun p => if p < hs_z h l then some (if l = 12 then A 19 p 0 else A 24 l p) else none) d') : hs_in g e0 (hs_pA A l (hs_q h l).length d') (hc_push h l) M' := by
  obtain ⟨S1, S2, S3, S4⟩ := S
  have h12 := hs_okl o hl
  have hz : hs_z h l = (hs_q h l).length := hs_zl h h12
  have hle := (o.2.2.2.2 l (Or.inl hl)).1
  rw [hz] at hle
  have hl7 : l < hs_n h 7 0 := Nat.lt_of_lt_of_le hl H.2.2
  have d20 : hs_dom h 20 l 0 = true := by simp [hs_dom, hl7]
  have d25 : hs_dom h 25 0 0 = true := by simp [hs_dom, h6]
  -- no other name's address is d'
  have nd : ∀ f i j, hs_dom h f i j = true → ¬ (f = 21 ∧ i = l) → A f i j ≠ d' := by
    intro f i j hd hq e
    rcases S4 with ⟨c1, c2⟩ | ⟨-, c2⟩
    · rw [if_neg (by omega)] at c2
      have d21 : hs_dom h 21 l 0 = true := by simp [hs_dom, hl7]; omega
      obtain ⟨q1, q2, -⟩ := H.2.1 _ _ _ _ _ _ hd d21 (e.trans c2)
      exact hq ⟨q1, q2⟩
    · have := H.1 f i j hd
      rw [e, c2 d' (Nat.le_refl _)] at this
      cases this
  have old : ∀ f i j, hs_dom (hc_push h l) f i j = true → ¬ (f = 21 ∧ i = l) → (f = 24 ∧ i = l ∧ j = (hs_q h l).length) ∨ (hs_dom h f i j = true ∧ ¬ (f = 24 ∧ i = l ∧ j = (hs_q h l).length) ∧ f ≠ 25) := by
    intro f i j hd hq
    by_cases q25 : f = 25
    · subst q25
      simp [hs_dom, hp_n6] at hd
    by_cases q24 : f = 24
    · subst q24
      have hd2 : i < hs_n h 7 0 ∧ j < (hs_q (hc_push h l) i).length := by simpa [hs_dom, hp_n h l 7 0 (by decide) (by decide)] using hd
      obtain ⟨a1, a2⟩ := hd2
      rw [hp_q] at a2
      by_cases qi : i = l
      · subst qi
        rw [if_pos rfl, List.length_append, List.length_singleton] at a2
        by_cases qj : j = (hs_q h i).length
        · exact Or.inl ⟨rfl, rfl, qj⟩
        · exact Or.inr ⟨by simp [hs_dom, a1]; omega, fun z => qj z.2.2, by decide⟩
      · rw [if_neg qi] at a2
        exact Or.inr ⟨by simp [hs_dom, a1, a2], fun z => qi z.2.1, by decide⟩
    by_cases q21 : f = 21
    · subst q21
      have qi : i ≠ l := fun z => hq ⟨rfl, z⟩
      refine Or.inr ⟨?_, fun z => q24 z.1, q25⟩
      simp only [hs_dom, hp_n h l 7 0 (by decide) (by decide), hp_n5, if_neg qi] at hd
      simpa [hs_dom] using hd
    · rw [hp_dom q21 q24 q25] at hd
      exact Or.inr ⟨hd, fun z => q24 z.1, q25⟩
  have hA24 : hs_pA A l (hs_q h l).length d' 24 l (hs_q h l).length = A 25 0 0 := by simp [hs_pA]
  have hA21 : hs_pA A l (hs_q h l).length d' 21 l 0 = d' := by simp [hs_pA]
  have hAo : ∀ f i j, ¬ (f = 24 ∧ i = l ∧ j = (hs_q h l).length) → ¬ (f = 21 ∧ i = l) → hs_pA A l (hs_q h l).length d' f i j = A f i j := by
    intro f i j a1 a2
    unfold hs_pA
    rw [if_neg a1, if_neg (fun z => a2 ⟨z.1, z.2.1⟩)]
  have keep : ∀ f i j, hs_dom h f i j = true → ¬ (f = 21 ∧ i = l) → ¬ (f = 20 ∧ i = l) → M' (A f i j) = M (A f i j) := by
    intro f i j hd a1 a2
    exact S3 _ (fun e => by
      obtain ⟨q1, q2, -⟩ := H.2.1 _ _ _ _ _ _ hd d20 e
      exact a2 ⟨q1, q2⟩) (nd f i j hd a1)
  refine ⟨fun f i j hd => ?_, fun f i j f' i' j' hd hd' e => ?_, ?_⟩
  · by_cases q21 : f = 21 ∧ i = l
    · obtain ⟨rfl, rfl⟩ := q21
      have hj : j = 0 := by simp [hs_dom] at hd; exact hd.2.1
      subst hj
      rw [hA21, S2]
      have ez : hs_z (hc_push h i) i = (hs_q h i).length + 1 := by rw [hs_zl _ h12, hp_q, if_pos rfl, List.length_append, List.length_singleton]
      have ef : va_up (fun p => if p < hs_z h i then some (if i = 12 then A 19 p 0 else A 24 i p) else none) (hs_q h i).length (some (A 25 0 0)) = (fun p => if p < hs_z (hc_push h i) i then some (if i = 12 then hs_pA A i (hs_q h i).length d' 19 p 0 else hs_pA A i (hs_q h i).length d' 24 i p) else none) := by
        funext p
        rw [ez, hz]
        by_cases hp : p = (hs_q h i).length
        · subst hp
          rw [va_up_self, if_pos (by omega), if_neg h12, hA24]
        · rw [va_up_ne _ _ hp]
          by_cases hp2 : p < (hs_q h i).length
          · rw [if_pos hp2, if_neg h12, if_pos (show p < (hs_q h i).length + 1 by omega), if_neg h12, hAo 24 i p (fun z => hp z.2.2) (fun z => by cases z.1)]
          · rw [if_neg hp2, if_neg (by omega)]
      rw [ef]
      simp only [hs_e, hs_c, hs_o, hp_n5]
      rfl
    · rcases old f i j hd q21 with ⟨rfl, rfl, rfl⟩ | ⟨hd0, n24, n25⟩
      · rw [hA24, keep 25 0 0 d25 (fun z => by cases z.1) (fun z => by cases z.1), hs_25 H h6]
        simp [hs_e, hs_c, hs_o, hp_q]
      · rw [hAo f i j n24 q21]
        by_cases q20 : f = 20 ∧ i = l
        · obtain ⟨rfl, rfl⟩ := q20
          have hj : j = 0 := by simp [hs_dom] at hd; exact hd.2
          subst hj
          rw [S1]
          have ez : hs_z (hc_push h i) i = (hs_q h i).length + 1 := by rw [hs_zl _ h12, hp_q, if_pos rfl, List.length_append, List.length_singleton]
          have e5 : ¬ hs_n (hc_push h i) 5 i = 0 := by
            rw [hp_n5, if_pos rfl]
            have := ls_ncp (hs_q h i).length
            split <;> omega
          simp only [hs_e, hs_c, hs_o, ez, e5, hp_i, hA21]
          simp [upd]
        · rw [keep f i j hd0 q21 q20, H.1 f i j hd0]
          congr 1
          refine (hs_eA (h' := hc_push h l) (A' := hs_pA A l (hs_q h l).length d') hd0 H.2.2 rfl ?_ (hp_n h l 0 0 (by decide) (by decide)) (hp_n h l 2 0 (by decide) (by decide)) (fun _ => ⟨hp_n h l 3 i (by decide) (by decide), hp_n h l 4 i (by decide) (by decide)⟩) (fun z => ?_) (fun z => ?_) (fun a b c hz9 => ?_) (fun a b c hz9 _ => ?_) (fun z => ?_) (fun z p hp hi12 => ?_)).symm
          · rw [hp_i, if_neg (fun z => q20 ⟨z.1, z.2.1⟩)]
          · have qi : i ≠ l := by rcases z with rfl | rfl; exact fun y => q20 ⟨rfl, y⟩; exact fun y => q21 ⟨rfl, y⟩
            refine ⟨by rw [hp_n5, if_neg qi], ?_⟩
            unfold hs_z
            rw [hp_q, if_neg qi, hp_n h l 1 0 (by decide) (by decide)]
          · rw [hp_q]
            by_cases qi : i = l
            · subst qi
              subst z
              have hj : j < (hs_q h i).length := by simp [hs_dom] at hd0; exact hd0.2
              rw [if_pos rfl, List.getD_eq_getElem?_getD, List.getElem?_append_left hj, ← List.getD_eq_getElem?_getD]
            · rw [if_neg qi]
          · exact hAo a b c (fun y => by omega) (fun y => by omega)
          · exact hAo a b c (fun y => by omega) (fun y => by omega)
          · exact hAo 21 i 0 (fun y => by cases y.1) (fun y => q20 ⟨z, y.2⟩)
          · exact hAo 24 i p (fun y => q21 ⟨z, y.2.1⟩) (fun y => by cases y.1)
  · -- apart
    have one : ∀ f i j, hs_dom (hc_push h l) f i j = true → ¬ (f = 21 ∧ i = l) → ∃ a b c, hs_pA A l (hs_q h l).length d' f i j = A a b c ∧ hs_dom h a b c = true ∧ ¬ (a = 21 ∧ b = l) ∧ ((a = 25 ∧ f = 24 ∧ i = l ∧ j = (hs_q h l).length) ∨ (a ≠ 25 ∧ a = f ∧ b = i ∧ c = j)) := by
      intro f i j hd hq
      rcases old f i j hd hq with ⟨rfl, rfl, rfl⟩ | ⟨hd0, n24, n25⟩
      · exact ⟨25, 0, 0, hA24, d25, (fun z => by cases z.1), Or.inl ⟨rfl, rfl, rfl, rfl⟩⟩
      · exact ⟨f, i, j, hAo f i j n24 hq, hd0, hq, Or.inr ⟨n25, rfl, rfl, rfl⟩⟩
    by_cases q : f = 21 ∧ i = l <;> by_cases q' : f' = 21 ∧ i' = l
    · obtain ⟨rfl, rfl⟩ := q
      obtain ⟨rfl, rfl⟩ := q'
      have hj : j = 0 := by simp [hs_dom] at hd; exact hd.2.1
      have hj' : j' = 0 := by simp [hs_dom] at hd'; exact hd'.2.1
      exact ⟨rfl, rfl, hj.trans hj'.symm⟩
    · obtain ⟨rfl, rfl⟩ := q
      have hj : j = 0 := by simp [hs_dom] at hd; exact hd.2.1
      subst hj
      obtain ⟨a, b, c, e1, e2, e3, -⟩ := one f' i' j' hd' q'
      rw [hA21, e1] at e
      exact absurd e.symm (nd a b c e2 e3)
    · obtain ⟨rfl, rfl⟩ := q'
      have hj : j' = 0 := by simp [hs_dom] at hd'; exact hd'.2.1
      subst hj
      obtain ⟨a, b, c, e1, e2, e3, -⟩ := one f i j hd q
      rw [hA21, e1] at e
      exact absurd e (nd a b c e2 e3)
    · obtain ⟨a, b, c, e1, e2, e3, e4⟩ := one f i j hd q
      obtain ⟨a', b', c', e1', e2', e3', e4'⟩ := one f' i' j' hd' q'
      rw [e1, e1'] at e
      obtain ⟨r1, r2, r3⟩ := H.2.1 _ _ _ _ _ _ e2 e2' e
      rcases e4 with ⟨x1, x2, x3, x4⟩ | ⟨x1, x2, x3, x4⟩ <;> rcases e4' with ⟨y1, y2, y3, y4⟩ | ⟨y1, y2, y3, y4⟩
      · exact ⟨by omega, by omega, by omega⟩
      · omega
      · omega
      · exact ⟨by omega, by omega, by omega⟩
  · rw [hp_n h l 1 0 (by decide) (by decide), hp_n h l 7 0 (by decide) (by decide)]
    exact H.2.2
end MOV
