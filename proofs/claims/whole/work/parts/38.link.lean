section LNK
variable {g : Nat → ClassId} {e0 : Nat → Nat} {A A' : hs_A} {h h' : hs_S} {M M' : mo_M}
/-- all is there: house, reference, the law's cell -/
theorem hs_start {n q : Nat} (H : hs_pin g e0 (fun a b c => hP n a b c ∨ (30 ≤ a ∧ a ≤ 50 ∧ b = 0 ∧ c = 0)) A (hc_new n) M) (hq : mo_fr M q) : hs_in g e0 (hs_u A 60 q) (hc_new n) (va_up M q (some (.inl (g 1, 1, .inr (.inl (fun _ => 0)))))) := by
  have hA : ∀ a b c, a ≠ 60 → hs_u A 60 q a b c = A a b c := fun a b c ha => if_neg ha
  have p60 : ∀ a b c, (hP n a b c ∨ (30 ≤ a ∧ a ≤ 50 ∧ b = 0 ∧ c = 0)) → a < 60 := fun a b c p => by unfold hP kP at p; omega
  have key : hs_pin g e0 (fun f i j => hs_dom (hc_new n) f i j = true) (hs_u A 60 q) (hc_new n) (va_up M q (some (.inl (g 1, 1, .inr (.inl (fun _ => 0)))))) := by
    refine hs_padd (Q := fun a b c => a = 60 ∧ b = 0 ∧ c = 0) H (fun a b c p => ?_) (fun a b c p => hA a b c (by have := p60 a b c p; omega)) (fun a b c p => va_up_ne _ _ (by have := fr_lt (H.1 a b c p) hq; omega)) (fun a b c p => ?_) (fun a b c p => ?_) (fun a b c a' b' c' p p' e => by omega) (fun a b c a' b' c' p p' => ?_)
    · have e0' : hs_n (hc_new n) 0 0 = n := rfl
      have e7 : hs_n (hc_new n) 7 0 = 0 := rfl
      have e5 : hs_n (hc_new n) 5 b = 0 := rfl
      have e6 : hs_n (hc_new n) 6 0 = 0 := rfl
      have e8 : hs_n (hc_new n) 8 0 = 0 := rfl
      unfold hs_dom at p
      rw [e0', e7, e5, e6, e8] at p
      unfold hP kP
      by_cases c0 : a = 0 ∨ a = 1 ∨ a = 4 ∨ a = 6
      · rw [if_pos c0] at p
        have := of_decide_eq_true p
        omega
      rw [if_neg c0] at p
      by_cases c1 : a = 5 ∨ a = 7
      · rw [if_pos c1] at p
        have := of_decide_eq_true p
        omega
      rw [if_neg c1] at p
      by_cases c2 : a = 8 ∨ a = 9 ∨ a = 10 ∨ a = 11 ∨ a = 12 ∨ a = 13 ∨ a = 14 ∨ a = 15
      · rw [if_pos c2] at p
        have := of_decide_eq_true p
        omega
      rw [if_neg c2] at p
      by_cases c3 : a = 16 ∨ a = 17 ∨ a = 18
      · rw [if_pos c3] at p
        have := of_decide_eq_true p
        omega
      rw [if_neg c3] at p
      by_cases c4 : a = 19 ∨ a = 22
      · rw [if_pos c4] at p
        have := of_decide_eq_true p
        omega
      rw [if_neg c4] at p
      by_cases c5 : a = 20
      · rw [if_pos c5] at p
        have := of_decide_eq_true p
        omega
      rw [if_neg c5] at p
      by_cases c6 : a = 21
      · rw [if_pos c6] at p
        have := of_decide_eq_true p
        omega
      rw [if_neg c6] at p
      by_cases c7 : a = 23
      · rw [if_pos c7] at p
        have := of_decide_eq_true p
        omega
      rw [if_neg c7] at p
      by_cases c8 : a = 24
      · rw [if_pos c8] at p
        have := of_decide_eq_true p
        omega
      rw [if_neg c8] at p
      by_cases c9 : a = 25
      · rw [if_pos c9] at p
        have := of_decide_eq_true p
        omega
      rw [if_neg c9] at p
      by_cases c10 : a = 26
      · rw [if_pos c10] at p
        have := of_decide_eq_true p
        omega
      rw [if_neg c10] at p
      by_cases c11 : 30 ≤ a ∧ a ≤ 50 ∨ a = 60
      · rw [if_pos c11] at p
        have := of_decide_eq_true p
        omega
      rw [if_neg c11] at p
      cases p
    · by_cases y : a < 30
      · exact hs_eL (fun a b c ha => hA a b c (by omega)) y
      · by_cases z : a = 30
        · subst z
          rfl
        · have := p60 a b c p
          exact hs_eM (by omega) (by unfold hP kP at p; omega)
    · obtain ⟨rfl, rfl, rfl⟩ := p
      show va_up M q _ q = _
      rw [va_up_self]
      rfl
    · obtain ⟨rfl, rfl, rfl⟩ := p'
      show A a b c ≠ q
      have := fr_lt (H.1 a b c p) hq
      omega
  exact ⟨key.1, key.2, Nat.le_refl _⟩
/-- a link is made -/
def hc_lk (h : hs_S) (L k1 k2 : Nat) (x : Int32) : hs_S := (fun f i j => if f = 23 ∧ i = L then (fun _ => 0) else h.1 f i j, fun f i j => if f = 19 ∧ i = L then (fun n => if n = 0 then x else 0) else if f = 20 ∧ i = L then (fun _ => 0) else h.2.1 f i j, fun i => if i = L then [] else h.2.2.1 i, fun f i => if f = 3 ∧ i = L then k1 else if f = 4 ∧ i = L then k2 else if f = 5 ∧ i = L then 0 else if f = 7 ∧ i = 0 then L + 1 else h.2.2.2 f i)
theorem lk_n (h : hs_S) (L k1 k2 : Nat) (x : Int32) (a b : Nat) : hs_n (hc_lk h L k1 k2 x) a b = if a = 3 ∧ b = L then k1 else if a = 4 ∧ b = L then k2 else if a = 5 ∧ b = L then 0 else if a = 7 ∧ b = 0 then L + 1 else hs_n h a b := rfl
theorem lk_q (h : hs_S) (L k1 k2 : Nat) (x : Int32) (b : Nat) : hs_q (hc_lk h L k1 k2 x) b = if b = L then [] else hs_q h b := rfl
theorem lk_l (h : hs_S) (L k1 k2 : Nat) (x : Int32) (a b c : Nat) : hs_l (hc_lk h L k1 k2 x) a b c = if a = 23 ∧ b = L then (fun _ => 0) else hs_l h a b c := rfl
theorem lk_i (h : hs_S) (L k1 k2 : Nat) (x : Int32) (a b c : Nat) : hs_i (hc_lk h L k1 k2 x) a b c = if a = 19 ∧ b = L then (fun n => if n = 0 then x else 0) else if a = 20 ∧ b = L then (fun _ => 0) else hs_i h a b c := rfl
theorem lk_no (h : hs_S) (L k1 k2 : Nat) (x : Int32) {a b : Nat} (h3 : a ≠ 3) (h4 : a ≠ 4) (h5 : a ≠ 5) (h7 : a ≠ 7) : hs_n (hc_lk h L k1 k2 x) a b = hs_n h a b := by rw [lk_n, if_neg (by omega), if_neg (by omega), if_neg (by omega), if_neg (by omega)]
def hs_lA (A : hs_A) (L q10 q1 q5 : Nat) : hs_A := fun f i j => if f = 19 ∧ i = L then q10 else if f = 20 ∧ i = L then q1 else if f = 22 ∧ i = L then q5 else if f = 23 ∧ i = L then q5 + 1 + j else A f i j
theorem hs_lk {L k1 k2 q10 q1 q5 : Nat} {x : Int32} (H : hs_in g e0 A h M) (h7 : hs_n h 7 0 = L) (hL : L < 12) (hq : mo_fr M q10) (r1 : q10 < q1) (r2 : q1 < q5) (C10 : M' q10 = some (.inr (2, [.ref (A 8 k1 0), .ref (A 8 k2 0), .int x, .ref q1, .ref q5, .int 0]))) (C1 : M' q1 = some (.inr (5, [.int 0, .ref (e0 0), .int 0]))) (C5 : M' q5 = some (.inl (g 4, 16, hs_rf (fun i => if i < 16 then some (q5 + 1 + i) else none)))) (D5 : ∀ j, j < 16 → M' (q5 + 1 + j) = some (.inl (g 1, 3, .inr (.inl (fun _ => 0))))) (F : ∀ b, b < q10 → M' b = M b) : hs_in g e0 (hs_lA A L q10 q1 q5) (hc_lk h L k1 k2 x) M' := by
  have hA : ∀ a b c, ¬ ((a = 19 ∨ a = 20 ∨ a = 22 ∨ a = 23) ∧ b = L) → hs_lA A L q10 q1 q5 a b c = A a b c := fun a b c ha => by
    unfold hs_lA
    rw [if_neg (by omega), if_neg (by omega), if_neg (by omega), if_neg (by omega)]
  have pL : ∀ a b c, hs_dom h a b c = true → ¬ ((a = 19 ∨ a = 20 ∨ a = 22 ∨ a = 23) ∧ b = L) := fun a b c p z => by
    obtain ⟨z1, rfl⟩ := z
    rcases z1 with rfl | rfl | rfl | rfl <;> simp [hs_dom, h7] at p
    omega
  have pl : ∀ a b c, hs_dom h a b c = true → A a b c < q10 := fun a b c p => fr_lt (H.1 a b c p) hq
  have key : hs_pin g e0 (fun f i j => hs_dom (hc_lk h L k1 k2 x) f i j = true) (hs_lA A L q10 q1 q5) (hc_lk h L k1 k2 x) M' := by
    refine hs_padd (P := fun f i j => hs_dom h f i j = true) (Q := fun a b c => ((a = 19 ∨ a = 20 ∨ a = 22) ∧ c = 0 ∨ a = 23 ∧ c < 16) ∧ b = L) ⟨H.1, H.2.1⟩ (fun a b c p => ?_) (fun a b c p => hA a b c (pL a b c p)) (fun a b c p => F _ (pl a b c p)) (fun a b c p => ?_) (fun a b c p => ?_) (fun a b c a' b' c' p p' e => ?_) (fun a b c a' b' c' p p' => ?_)
    · by_cases bL : b = L
      · by_cases y : a = 19 ∨ a = 20 ∨ a = 22 ∨ a = 23
        · refine Or.inr ⟨?_, bL⟩
          rcases y with rfl | rfl | rfl | rfl <;> simp [hs_dom] at p <;> omega
        · refine Or.inl ?_
          by_cases y21 : a = 21
          · subst y21
            exfalso
            simp [hs_dom, lk_n, bL] at p
          by_cases y24 : a = 24
          · subst y24
            exfalso
            simp [hs_dom, lk_q, bL] at p
          have n19 : a ≠ 19 := fun z => y (Or.inl z)
          have n20 : a ≠ 20 := fun z => y (Or.inr (Or.inl z))
          have n22 : a ≠ 22 := fun z => y (Or.inr (Or.inr (Or.inl z)))
          have n23 : a ≠ 23 := fun z => y (Or.inr (Or.inr (Or.inr z)))
          unfold hs_dom at p ⊢
          simp only [n19, n20, y21, n22, n23, y24, or_self, if_false, lk_no h L k1 k2 x (show (0 : Nat) ≠ 3 by decide) (show (0 : Nat) ≠ 4 by decide) (show (0 : Nat) ≠ 5 by decide) (show (0 : Nat) ≠ 7 by decide), lk_no h L k1 k2 x (show (6 : Nat) ≠ 3 by decide) (show (6 : Nat) ≠ 4 by decide) (show (6 : Nat) ≠ 5 by decide) (show (6 : Nat) ≠ 7 by decide), lk_no h L k1 k2 x (show (8 : Nat) ≠ 3 by decide) (show (8 : Nat) ≠ 4 by decide) (show (8 : Nat) ≠ 5 by decide) (show (8 : Nat) ≠ 7 by decide)] at p ⊢
          exact p
      · refine Or.inl ?_
        have e7 : hs_n (hc_lk h L k1 k2 x) 7 0 = L + 1 := by rw [lk_n, if_neg (by omega), if_neg (by omega), if_neg (by omega), if_pos ⟨rfl, rfl⟩]
        have e5 : hs_n (hc_lk h L k1 k2 x) 5 b = hs_n h 5 b := by rw [lk_n, if_neg (by omega), if_neg (by omega), if_neg (by omega), if_neg (by omega)]
        have eq : hs_q (hc_lk h L k1 k2 x) b = hs_q h b := by rw [lk_q, if_neg bL]
        have i1 : (b < L + 1) ↔ (b < L) := by omega
        unfold hs_dom at p ⊢
        simp only [e7, e5, eq, h7, i1, lk_no h L k1 k2 x (show (0 : Nat) ≠ 3 by decide) (show (0 : Nat) ≠ 4 by decide) (show (0 : Nat) ≠ 5 by decide) (show (0 : Nat) ≠ 7 by decide), lk_no h L k1 k2 x (show (6 : Nat) ≠ 3 by decide) (show (6 : Nat) ≠ 4 by decide) (show (6 : Nat) ≠ 5 by decide) (show (6 : Nat) ≠ 7 by decide), lk_no h L k1 k2 x (show (8 : Nat) ≠ 3 by decide) (show (8 : Nat) ≠ 4 by decide) (show (8 : Nat) ≠ 5 by decide) (show (8 : Nat) ≠ 7 by decide)] at p ⊢
        exact p
    · have hn := pL a b c p
      have nz : (a = 20 ∨ a = 21 ∨ a = 24) → b ≠ L := fun y bL => by
        subst bL
        rcases y with rfl | rfl | rfl <;> simp [hs_dom, h7] at p <;> omega
      refine hs_eA p H.2.2 (by rw [lk_l, if_neg (by omega)]) (by rw [lk_i, if_neg (by omega), if_neg (by omega)]) (lk_no h L k1 k2 x (by decide) (by decide) (by decide) (by decide)) (lk_no h L k1 k2 x (by decide) (by decide) (by decide) (by decide)) (fun y => ?_) (fun y => ?_) (fun y => ?_) (fun f' i' j' hz => hA _ _ _ (by omega)) (fun f' i' j' hz hi => hA _ _ _ (by omega)) (fun _ => hA _ _ _ (by omega)) (fun _ p _ _ => hA _ _ _ (by omega))
      · have bL : b ≠ L := by omega
        exact ⟨by rw [lk_n, if_neg (by omega), if_neg (by omega), if_neg (by omega), if_neg (by omega)], by rw [lk_n, if_neg (by omega), if_neg (by omega), if_neg (by omega), if_neg (by omega)]⟩
      · have bL : b ≠ L := nz (by omega)
        refine ⟨by rw [lk_n, if_neg (by omega), if_neg (by omega), if_neg (by omega), if_neg (by omega)], ?_⟩
        unfold hs_z
        rw [lk_q, if_neg bL, lk_no h L k1 k2 x (by decide) (by decide) (by decide) (by decide)]
      · rw [lk_q, if_neg (nz (by omega))]
    · obtain ⟨p1, rfl⟩ := p
      have i8 : ∀ k, hs_lA A b q10 q1 q5 8 k 0 = A 8 k 0 := fun k => hA 8 k 0 (by omega)
      have i19 : hs_i (hc_lk h b k1 k2 x) 19 b 0 = fun n => if n = 0 then x else 0 := by rw [lk_i, if_pos ⟨rfl, rfl⟩]
      have i20 : hs_i (hc_lk h b k1 k2 x) 20 b 0 = fun _ => 0 := by rw [lk_i, if_neg (by omega), if_pos ⟨rfl, rfl⟩]
      have n3 : hs_n (hc_lk h b k1 k2 x) 3 b = k1 := by rw [lk_n, if_pos ⟨rfl, rfl⟩]
      have n4 : hs_n (hc_lk h b k1 k2 x) 4 b = k2 := by rw [lk_n, if_neg (by omega), if_pos ⟨rfl, rfl⟩]
      have n5 : hs_n (hc_lk h b k1 k2 x) 5 b = 0 := by rw [lk_n, if_neg (by omega), if_neg (by omega), if_pos ⟨rfl, rfl⟩]
      have a19 : hs_lA A b q10 q1 q5 19 b 0 = q10 := by unfold hs_lA; rw [if_pos ⟨rfl, rfl⟩]
      have a20 : hs_lA A b q10 q1 q5 20 b 0 = q1 := by unfold hs_lA; rw [if_neg (by omega), if_pos ⟨rfl, rfl⟩]
      have a22 : hs_lA A b q10 q1 q5 22 b 0 = q5 := by unfold hs_lA; rw [if_neg (by omega), if_neg (by omega), if_pos ⟨rfl, rfl⟩]
      have a23 : ∀ j, hs_lA A b q10 q1 q5 23 b j = q5 + 1 + j := fun j => by unfold hs_lA; rw [if_neg (by omega), if_neg (by omega), if_neg (by omega), if_pos ⟨rfl, rfl⟩]
      rcases p1 with ⟨y, rfl⟩ | ⟨rfl, hc⟩
      · rcases y with rfl | rfl | rfl
        · rw [a19]
          simp only [hs_e, hs_c, hs_o, i19, n3, n4, i8, a20, a22]
          exact C10
        · rw [a20]
          have z0 : hs_z (hc_lk h b k1 k2 x) b = 0 := by unfold hs_z; rw [if_neg (by omega), lk_q, if_pos rfl]; rfl
          simp only [hs_e, hs_c, hs_o, i20, n5, z0]
          exact C1
        · rw [a22]
          simp only [hs_e, hs_c, hs_o, a23]
          exact C5
      · rw [a23]
        have l23 : hs_l (hc_lk h b k1 k2 x) 23 b c = fun _ => 0 := by rw [lk_l, if_pos ⟨rfl, rfl⟩]
        simp only [hs_e, hs_c, l23]
        exact D5 c hc
    · obtain ⟨p1, rfl⟩ := p
      obtain ⟨p2, rfl⟩ := p'
      unfold hs_lA at e
      rcases p1 with ⟨y, rfl⟩ | ⟨rfl, hc⟩ <;> rcases p2 with ⟨y', rfl⟩ | ⟨rfl, hc'⟩ <;> (try rcases y with rfl | rfl | rfl) <;> (try rcases y' with rfl | rfl | rfl) <;> simp at e ⊢ <;> omega
    · obtain ⟨p1, rfl⟩ := p'
      have := pl a b c p
      unfold hs_lA
      rcases p1 with ⟨y, rfl⟩ | ⟨rfl, hc⟩ <;> (try rcases y with rfl | rfl | rfl) <;> simp <;> omega
  refine ⟨key.1, key.2, ?_⟩
  rw [lk_no h L k1 k2 x (by decide) (by decide) (by decide) (by decide), lk_n, if_neg (by omega), if_neg (by omega), if_neg (by omega), if_pos ⟨rfl, rfl⟩]
  have := H.2.2
  omega
/-- the made link is put on the house's list -/
def hc_lp (h : hs_S) : hs_S := hs_sn (hs_sn (hs_si h 20 12 0 (upd (hs_i h 20 12 0) 0 (hs_i h 20 12 0 0 + 1))) 1 0 (hs_n h 1 0 + 1)) 5 12 (if hs_n h 1 0 = hs_n h 5 12 then ls_nc (hs_n h 1 0) else hs_n h 5 12)
theorem lp_n (h : hs_S) (a b : Nat) : hs_n (hc_lp h) a b = if a = 5 ∧ b = 12 then (if hs_n h 1 0 = hs_n h 5 12 then ls_nc (hs_n h 1 0) else hs_n h 5 12) else if a = 1 ∧ b = 0 then hs_n h 1 0 + 1 else hs_n h a b := rfl
theorem lp_no (h : hs_S) {a b : Nat} (h1 : a ≠ 1) (h5 : a ≠ 5) : hs_n (hc_lp h) a b = hs_n h a b := by rw [lp_n, if_neg (by omega), if_neg (by omega)]
theorem lp_q (h : hs_S) (b : Nat) : hs_q (hc_lp h) b = hs_q h b := rfl
theorem lp_l (h : hs_S) (a b c : Nat) : hs_l (hc_lp h) a b c = hs_l h a b c := rfl
theorem lp_i (h : hs_S) (a b c : Nat) : hs_i (hc_lp h) a b c = if a = 20 ∧ b = 12 ∧ c = 0 then upd (hs_i h 20 12 0) 0 (hs_i h 20 12 0 0 + 1) else hs_i h a b c := rfl
def hs_dA (A : hs_A) (d : Nat) : hs_A := fun f i j => if f = 21 ∧ i = 12 then d else A f i j
theorem hs_lp {d' : Nat} (H : hs_in g e0 A h M) (o : hs_ok h) (h7 : hs_n h 7 0 = hs_n h 1 0 + 1) (S : ls_sp g M M' (A 20 12 0) (if hs_n h 5 12 = 0 then e0 0 else A 21 12 0) (A 19 (hs_n h 1 0) 0) (hs_n h 1 0) (hs_n h 5 12) (hs_i h 20 12 0 0) (fun p => if p < hs_n h 1 0 then some (A 19 p 0) else none) d') : hs_in g e0 (hs_dA A d') (hc_lp h) M' := by
  obtain ⟨S1, S2, S3, S4⟩ := S
  have hcap := (o.2.2.2.2 12 (Or.inr rfl)).1
  rw [hs_z12] at hcap
  have d20 : hs_dom h 20 12 0 = true := by simp [hs_dom]
  have hA : ∀ a b c, ¬ (a = 21 ∧ b = 12) → hs_dA A d' a b c = A a b c := fun a b c ha => if_neg ha
  have nd : ∀ a b c, hs_dom h a b c = true → ¬ (a = 21 ∧ b = 12) → A a b c ≠ d' := by
    intro a b c p hn e
    rcases S4 with ⟨s1, s2⟩ | ⟨s1, s2⟩
    · rw [if_neg (by omega)] at s2
      have d21 : hs_dom h 21 12 0 = true := by simp [hs_dom]; omega
      obtain ⟨z1, z2, -⟩ := H.2.1 _ _ _ _ _ _ p d21 (e.trans s2)
      exact hn ⟨z1, z2⟩
    · have := fr_lt (H.1 a b c p) s2
      omega
  have n20 : ∀ a b c, hs_dom h a b c = true → ¬ (a = 20 ∧ b = 12) → A a b c ≠ A 20 12 0 := fun a b c p hn e => by
    obtain ⟨z1, z2, -⟩ := H.2.1 _ _ _ _ _ _ p d20 e
    exact hn ⟨z1, z2⟩
  have hnc := ls_ncp (hs_n h 1 0)
  have n5p : 0 < hs_n (hc_lp h) 5 12 := by
    rw [lp_n, if_pos ⟨rfl, rfl⟩]
    split <;> omega
  have key : hs_pin g e0 (fun f i j => hs_dom (hc_lp h) f i j = true) (hs_dA A d') (hc_lp h) M' := by
    refine hs_padd (P := fun f i j => hs_dom h f i j = true ∧ ¬ ((f = 20 ∨ f = 21) ∧ i = 12)) (Q := fun a b c => (a = 20 ∨ a = 21) ∧ b = 12 ∧ c = 0) ⟨fun a b c p => H.1 a b c p.1, fun a b c a' b' c' p p' => H.2.1 a b c a' b' c' p.1 p'.1⟩ (fun a b c p => ?_) (fun a b c p => hA a b c (by have := p.2; omega)) (fun a b c p => S3 _ (n20 a b c p.1 (by have := p.2; omega)) (nd a b c p.1 (by have := p.2; omega))) (fun a b c p => ?_) (fun a b c p => ?_) (fun a b c a' b' c' p p' e => ?_) (fun a b c a' b' c' p p' => ?_)
    · by_cases y : (a = 20 ∨ a = 21) ∧ b = 12
      · refine Or.inr ⟨y.1, y.2, ?_⟩
        obtain ⟨y1, rfl⟩ := y
        rcases y1 with rfl | rfl <;> simp [hs_dom] at p
        · exact p
        · exact p.1
      · refine Or.inl ⟨?_, y⟩
        have e5 : ∀ z : a = 21, hs_n (hc_lp h) 5 b = hs_n h 5 b := fun z => by rw [lp_n, if_neg (by omega), if_neg (by omega)]
        unfold hs_dom at p ⊢
        simp only [lp_q, lp_no h (show (0 : Nat) ≠ 1 by decide) (show (0 : Nat) ≠ 5 by decide), lp_no h (show (6 : Nat) ≠ 1 by decide) (show (6 : Nat) ≠ 5 by decide), lp_no h (show (7 : Nat) ≠ 1 by decide) (show (7 : Nat) ≠ 5 by decide), lp_no h (show (8 : Nat) ≠ 1 by decide) (show (8 : Nat) ≠ 5 by decide)] at p ⊢
        by_cases z : a = 21
        · rw [e5 z] at p
          exact p
        · simp only [z, if_false] at p ⊢
          exact p
    · obtain ⟨p1, p2⟩ := p
      refine hs_eA p1 H.2.2 rfl (by rw [lp_i, if_neg (by omega)]) (lp_no h (by decide) (by decide)) (lp_no h (by decide) (by decide)) (fun _ => ⟨lp_no h (by decide) (by decide), lp_no h (by decide) (by decide)⟩) (fun y => ⟨?_, ?_⟩) (fun _ => rfl) (fun f' i' j' hz => hA _ _ _ (by omega)) (fun f' i' j' hz hi => hA _ _ _ (by omega)) (fun _ => hA _ _ _ (by omega)) (fun _ p _ _ => hA _ _ _ (by omega))
      · rw [lp_n, if_neg (by omega), if_neg (by omega)]
      · unfold hs_z
        rw [if_neg (by omega), if_neg (by omega)]
        rfl
    · obtain ⟨y, rfl, rfl⟩ := p
      rcases y with rfl | rfl
      · rw [hA 20 12 0 (by omega), S1]
        have a21 : hs_dA A d' 21 12 0 = d' := if_pos ⟨rfl, rfl⟩
        have i20 : hs_i (hc_lp h) 20 12 0 = upd (hs_i h 20 12 0) 0 (hs_i h 20 12 0 0 + 1) := by rw [lp_i, if_pos ⟨rfl, rfl, rfl⟩]
        have z12 : hs_z (hc_lp h) 12 = hs_n h 1 0 + 1 := rfl
        simp only [hs_e, hs_c, hs_o, i20, z12, a21, if_neg (show ¬ hs_n (hc_lp h) 5 12 = 0 by omega)]
        simp [upd]
      · have a21 : hs_dA A d' 21 12 0 = d' := if_pos ⟨rfl, rfl⟩
        rw [a21, S2]
        have n5 : hs_n (hc_lp h) 5 12 = if hs_n h 1 0 = hs_n h 5 12 then ls_nc (hs_n h 1 0) else hs_n h 5 12 := by rw [lp_n, if_pos ⟨rfl, rfl⟩]
        have ef : va_up (fun p => if p < hs_n h 1 0 then some (A 19 p 0) else none) (hs_n h 1 0) (some (A 19 (hs_n h 1 0) 0)) = (fun p => if p < hs_z (hc_lp h) 12 then some (if (12 : Nat) = 12 then hs_dA A d' 19 p 0 else hs_dA A d' 24 12 p) else none) := by
          funext p
          have z12 : hs_z (hc_lp h) 12 = hs_n h 1 0 + 1 := rfl
          rw [z12, if_pos rfl, hA 19 p 0 (by omega)]
          by_cases y : p = hs_n h 1 0
          · subst y
            rw [va_up_self, if_pos (by omega)]
          · rw [va_up_ne _ _ y]
            by_cases z : p < hs_n h 1 0
            · rw [if_pos z, if_pos (by omega)]
            · rw [if_neg z, if_neg (by omega)]
        rw [ef]
        simp only [hs_e, hs_c, hs_o, n5]
        rfl
    · obtain ⟨y, rfl, rfl⟩ := p
      obtain ⟨y', rfl, rfl⟩ := p'
      have a21 : hs_dA A d' 21 12 0 = d' := if_pos ⟨rfl, rfl⟩
      have a20 : hs_dA A d' 20 12 0 = A 20 12 0 := hA 20 12 0 (by omega)
      have := nd 20 12 0 d20 (by omega)
      rcases y with rfl | rfl <;> rcases y' with rfl | rfl
      · exact ⟨rfl, rfl, rfl⟩
      · rw [a21, a20] at e; exact absurd e this
      · rw [a21, a20] at e; exact absurd e.symm this
      · exact ⟨rfl, rfl, rfl⟩
    · obtain ⟨y', rfl, rfl⟩ := p'
      rcases y' with rfl | rfl
      · rw [hA 20 12 0 (by omega)]
        exact n20 a b c p.1 (by have := p.2; omega)
      · show A a b c ≠ d'
        exact nd a b c p.1 (by have := p.2; omega)
  refine ⟨key.1, key.2, ?_⟩
  have e1 : hs_n (hc_lp h) 1 0 = hs_n h 1 0 + 1 := rfl
  have e7 : hs_n (hc_lp h) 7 0 = hs_n h 7 0 := lp_no h (by decide) (by decide)
  omega
end LNK
