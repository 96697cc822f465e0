section HO2
variable {g : Nat → ClassId} {e0 : Nat → Nat} {A A' : hs_A} {h : hs_S} {M M' : mo_M}
def kI (g : Nat → ClassId) (e0 : Nat → Nat) (M0 : mo_M) (x0 q1 q5 q8 q12 n : Nat) (k : Nat) (A : hs_A) (M : mo_M) : Prop := hs_pin g e0 (kP k) A (hc_new n) M ∧ (∀ f i j, kP k f i j → q12 < A f i j) ∧ M x0 = some (.inr (0, [.ref q12, .ref q1, .ref q5, .ref q8, .int 0])) ∧ M q12 = some (.inl (g 3, n, hs_rf (fun i => if i < k then some (A 8 i 0) else none))) ∧ (∀ b, b < q12 → b ≠ x0 → M b = M0 b)
theorem nw_i0 {n f i j : Nat} (h5 : f ≠ 5) (h7 : f ≠ 7) (h34 : f ≠ 34) (h35 : f ≠ 35) (h30 : f ≠ 30) : hs_i (hc_new n) f i j = fun _ => 0 := by
  funext k
  show (if (f = 5 ∨ f = 7) ∧ k < 3 then (1 : Int32) else if (f = 34 ∨ f = 35) ∧ k < 9 then 1 else if f = 30 ∧ k = 1 then nI n else 0) = 0
  rw [if_neg (by omega), if_neg (by omega), if_neg (by omega)]
theorem kI_step {M0 M21 M24 : mo_M} {x0 q1 q5 q8 q12 n k q20 : Nat} {a : Nat → Nat} (hx : x0 < q12) (I : kI g e0 M0 x0 q1 q5 q8 q12 n k A M) (hk : k < n) (hq : mo_fr M q20) (e21 : M21 = va_up M q20 (some (.inr (1, [.null, .null, .null, .int 0, .int 0, .null, .null, .null, .null])))) (S : kc_sp g M21 q20 a M24) : kI g e0 M0 x0 q1 q5 q8 q12 n (k + 1) (fun f i j => if i = k then kB q20 a f j else A f i j) (va_up M24 q12 (some (.inl (g 3, n, hs_rf (va_up (fun i => if i < k then some (A 8 i 0) else none) k (some q20)))))) := by
  obtain ⟨I1, I2, I3, I4, I5⟩ := I
  obtain ⟨S1, S2, S3, S4, S5, S6, S7, S8⟩ := S
  have l12 : q12 < q20 := fr_lt I4 hq
  have keep : ∀ b, b < q20 → b ≠ q12 → va_up M24 q12 (some (.inl (g 3, n, hs_rf (va_up (fun i => if i < k then some (A 8 i 0) else none) k (some q20))))) b = M b := fun b h1 h2 => by
    rw [va_up_ne _ _ h2, S8 b (by omega) (by omega), e21, va_up_ne _ _ (by omega)]
  have hAk : ∀ f j, (fun f i j => if i = k then kB q20 a f j else A f i j) f k j = kB q20 a f j := fun f j => if_pos rfl
  have hAn : ∀ f i j, i ≠ k → (fun f i j => if i = k then kB q20 a f j else A f i j) f i j = A f i j := fun f i j hi => if_neg hi
  generalize hA'e : (fun f i j => if i = k then kB q20 a f j else A f i j) = A' at hAk hAn
  refine ⟨?_, ?_, ?_, ?_, ?_⟩
  · refine hs_padd (Q := fun f i j => kP (k + 1) f i j ∧ i = k) I1 (fun f i j p => ?_) (fun f i j p => hAn f i j (by have := p.2; omega)) (fun f i j p => ?_) (fun f i j p => ?_) (fun f i j p => ?_) (fun f i j f' i' j' p p' e => ?_) (fun f i j f' i' j' p p' => ?_)
    · by_cases y : i = k
      · exact Or.inr ⟨p, y⟩
      · exact Or.inl ⟨p.1, by have := p.2; omega⟩
    · exact keep _ (fr_lt (I1.1 f i j p) hq) (by have := I2 f i j p; omega)
    · exact kE (fun f j _ _ => hAn f i j (by have := p.2; omega)) (by have := p.1; omega) (by have := p.1; omega)
    · obtain ⟨p1, rfl⟩ := p
      obtain ⟨pf, -⟩ := p1
      have hge := kB_ge (j := j) (f := f) S6 (by omega)
      rw [hAk, va_up_ne _ _ (by omega)]
      rcases f_cs (f := f) (by omega) (by omega) with rfl | rfl | rfl | rfl | rfl | rfl | rfl | rfl | rfl | rfl | rfl
      · have hj : j = 0 := by omega
        subst hj
        simp only [hs_e, hs_c, hs_o, hAk, nw_i0 (show (8 : Nat) ≠ 5 by decide) (show (8 : Nat) ≠ 7 by decide) (show (8 : Nat) ≠ 34 by decide) (show (8 : Nat) ≠ 35 by decide) (show (8 : Nat) ≠ 30 by decide)]
        exact S1
      · exact S2 1 (by decide) (by decide)
      · exact S2 2 (by decide) (by decide)
      · exact S2 3 (by decide) (by decide)
      · simp only [hs_e, hs_c, hs_o, hAk]
        exact S3 4 (by decide) (by decide)
      · simp only [hs_e, hs_c, hs_o, hAk]
        exact S3 5 (by decide) (by decide)
      · simp only [hs_e, hs_c, hs_o, hAk]
        exact S3 6 (by decide) (by decide)
      · simp only [hs_e, hs_c, nw_i0 (show (15 : Nat) ≠ 5 by decide) (show (15 : Nat) ≠ 7 by decide) (show (15 : Nat) ≠ 34 by decide) (show (15 : Nat) ≠ 35 by decide) (show (15 : Nat) ≠ 30 by decide)]
        exact S5
      · exact S4 4 j (by decide) (by decide) (by omega)
      · exact S4 5 j (by decide) (by decide) (by omega)
      · exact S4 6 j (by decide) (by decide) (by omega)
    · obtain ⟨p1, rfl⟩ := p
      obtain ⟨p2, rfl⟩ := p'
      rw [hAk, hAk] at e
      obtain ⟨z1, z2⟩ := kB_inj S6 p1.1 p2.1 e
      exact ⟨z1, rfl, z2⟩
    · obtain ⟨p1, rfl⟩ := p'
      rw [hAk]
      have h1 := fr_lt (I1.1 f i j p) hq
      have h2 := kB_ge (j := j') (f := f') S6 (by have := p1.1; omega)
      omega
  · intro f i j p
    by_cases y : i = k
    · subst y
      rw [hAk]
      have h2 := kB_ge (j := j) (f := f) S6 (by have := p.1; omega)
      omega
    · rw [hAn f i j y]
      exact I2 f i j ⟨p.1, by have := p.2; omega⟩
  · rw [keep x0 (by omega) (by omega)]; exact I3
  · rw [va_up_self]
    congr 5
    funext i
    by_cases y : i = k
    · subst y
      rw [va_up_self, if_pos (by omega), hAk]
      rfl
    · rw [va_up_ne _ _ y, hAn 8 i 0 y]
      by_cases z : i < k
      · rw [if_pos z, if_pos (by omega)]
      · rw [if_neg z, if_neg (by omega)]
  · intro b h1 h2
    rw [keep b (by omega) (by omega)]
    exact I5 b h1 h2
theorem l2_H59 {K : mo_M → Prop} {M0 : mo_M} {x0 q1 q5 q8 q12 n mc ms : Nat} (hx : x0 < q12) (hn : n ≤ 6) (hK : ∀ A M' cu su, cu ≤ mc → su ≤ ms → kI g e0 M0 x0 q1 q5 q8 q12 n n A M' → ∃ n18 : Nat, pp_H_init_b89 g e0 mc ms K n18 M' cu su x0 0) : ∀ (m k : Nat) (A : hs_A) (M : mo_M) (cu su : Nat), k + m = n → cu + 61 * m ≤ mc → su + 309 * m ≤ ms → kI g e0 M0 x0 q1 q5 q8 q12 n k A M → pp_H_init_b59 g e0 mc ms K (m + 1) M cu su x0 (nI k)
  | 0, k, A, M, cu, su, hk, hm, hs, I => by
    have e : k = n := by omega
    subst e
    obtain ⟨I1, I2, I3, I4, I5⟩ := I
    unfold pp_H_init_b59
    refine mq_gr I3 rfl (mq_ln I4 ?_)
    exact le_br (a := k) (b := k) (by omega) (by omega) (fun q => hK A M cu su (by omega) (by omega) ⟨I1, I2, I3, I4, I5⟩) (fun q => absurd q (by omega))
  | m + 1, k, A, M, cu, su, hk, hm, hs, I => by
    have I' := I
    obtain ⟨I1, I2, I3, I4, I5⟩ := I
    unfold pp_H_init_b59
    refine mq_gr I3 rfl (mq_ln I4 ?_)
    obtain ⟨c6, hc6⟩ : ∃ c : Nat, c = 60 := ⟨_, rfl⟩
    obtain ⟨t3, ht3⟩ : ∃ t : Nat, t = 300 := ⟨_, rfl⟩
    refine le_br (a := n) (b := k) (by omega) (by omega) (fun q => absurd q (by omega)) (fun q => mq_gr I3 rfl ⟨by omega, by omega, fun q20 hq => ⟨c6, t3, by omega, by omega, ?_⟩⟩)
    have hc6' : 60 ≤ c6 := Nat.le_of_eq hc6.symm
    have ht3' : 300 ≤ t3 := Nat.le_of_eq ht3.symm
    refine l2_K_init (va_up_self _ _ _) hc6' ht3' (fun a M24 S => ?_)
    have l12 : q12 < q20 := fr_lt I4 hq
    have m12 : M24 q12 = M q12 := by rw [S.2.2.2.2.2.2.2 q12 (by have := S.2.2.2.2.2.1; omega) (by omega), va_up_ne _ _ (by omega)]
    refine ⟨n, _, m12.trans I4, vp_in_nI q (by omega), ⟨_, S.1⟩, ?_⟩
    rw [nI_clamp (by omega), nI_1]
    exact l2_H59 hx hn hK m (k + 1) _ _ _ _ (by omega) (by omega) (by omega) (kI_step hx I' q hq rfl S)
/-- the names of a new house -/
def hP (n f i j : Nat) : Prop := kP n f i j ∨ ((f = 0 ∨ f = 1 ∨ f = 4 ∨ f = 6) ∧ i = 0 ∧ j = 0 ∨ (f = 5 ∨ f = 7) ∧ i < 3 ∧ j = 0 ∨ f = 20 ∧ i = 12 ∧ j = 0)
def hB (x0 q1 q5 q8 q12 : Nat) (A : hs_A) : hs_A := fun f i j => if f = 0 then x0 else if f = 1 then q12 else if f = 4 then q5 else if f = 5 then q5 + 1 + i else if f = 6 then q8 else if f = 7 then q8 + 1 + i else if f = 20 then q1 else A f i j
theorem rt_1 {n f i j : Nat} (hf : f = 5 ∨ f = 7) (hi : i < 3) : rt_f i 3 0 = hs_i (hc_new n) f i j := by
  funext k
  show (if k < 3 ∧ (i < 3 ∨ (i = 3 ∧ k < 0)) then (1 : Int32) else 0) = (if (f = 5 ∨ f = 7) ∧ k < 3 then (1 : Int32) else if (f = 34 ∨ f = 35) ∧ k < 9 then 1 else if f = 30 ∧ k = 1 then nI n else 0)
  by_cases y : k < 3
  · rw [if_pos (by omega), if_pos (by omega)]
  · rw [if_neg (by omega), if_neg (by omega), if_neg (by omega), if_neg (by omega)]
theorem hP_make {M0 : mo_M} {x0 q1 q5 q8 q12 n : Nat} (r : x0 < q1 ∧ q1 < q5 ∧ q5 + 3 < q8 ∧ q8 + 3 < q12) (I : kI g e0 M0 x0 q1 q5 q8 q12 n n A M) (hq1 : M0 q1 = some (.inr (5, [.int 0, .ref (e0 0), .int 0]))) (R : rt_I g M x0 q1 q5 q8 q12 M' 3 0) : hs_pin g e0 (hP n) (hB x0 q1 q5 q8 q12 A) (hc_new n) M' := by
  obtain ⟨I1, I2, I3, I4, I5⟩ := I
  obtain ⟨R1, R2, R3, R4, R5, R6⟩ := R
  obtain ⟨r1, r2, r3, r4⟩ := r
  have hAk : ∀ f i j, 8 ≤ f → f ≤ 18 → hB x0 q1 q5 q8 q12 A f i j = A f i j := fun f i j h1 h2 => by
    unfold hB
    rw [if_neg (by omega), if_neg (by omega), if_neg (by omega), if_neg (by omega), if_neg (by omega), if_neg (by omega), if_neg (by omega)]
  refine hs_padd (Q := fun f i j => (f = 0 ∨ f = 1 ∨ f = 4 ∨ f = 6) ∧ i = 0 ∧ j = 0 ∨ (f = 5 ∨ f = 7) ∧ i < 3 ∧ j = 0 ∨ f = 20 ∧ i = 12 ∧ j = 0) I1 (fun f i j p => p) (fun f i j p => hAk f i j (by have := p.1; omega) (by have := p.1; omega)) (fun f i j p => R6 _ (Or.inl (by have := I2 f i j p; omega))) (fun f i j p => kE (fun f j h1 h2 => hAk f i j h1 h2) (by have := p.1; omega) (by have := p.1; omega)) (fun f i j p => ?_) (fun f i j f' i' j' p p' e => ?_) (fun f i j f' i' j' p p' => ?_)
  · rcases p with ⟨hf, rfl, rfl⟩ | ⟨hf, hi, rfl⟩ | ⟨rfl, rfl, rfl⟩
    · rcases hf with rfl | rfl | rfl | rfl
      · exact R1
      · show M' q12 = _
        rw [R6 q12 (Or.inl (Nat.le_refl _)), I4]
        rfl
      · exact R2
      · exact R3
    · rcases hf with rfl | rfl
      · show M' (q5 + 1 + i) = some (.inl (g 0, 3, .inl (hs_i (hc_new n) 5 i 0)))
        rw [← rt_1 (Or.inl rfl) hi]
        exact R4 i hi
      · show M' (q8 + 1 + i) = some (.inl (g 0, 3, .inl (hs_i (hc_new n) 7 i 0)))
        rw [← rt_1 (Or.inr rfl) hi]
        exact R5 i hi
    · show M' q1 = _
      rw [R6 q1 (Or.inr rfl), I5 q1 (by omega) (by omega), hq1]
      rfl
  · unfold hB at e
    rcases p with ⟨hf, rfl, rfl⟩ | ⟨hf, hi, rfl⟩ | ⟨rfl, rfl, rfl⟩ <;> rcases p' with ⟨hf', rfl, rfl⟩ | ⟨hf', hi', rfl⟩ | ⟨rfl, rfl, rfl⟩ <;> (try rcases hf with rfl | rfl | rfl | rfl) <;> (try rcases hf with rfl | rfl) <;> (try rcases hf' with rfl | rfl | rfl | rfl) <;> (try rcases hf' with rfl | rfl) <;> simp at e ⊢ <;> omega
  · have h1 := I2 f i j p
    unfold hB
    rcases p' with ⟨hf', rfl, rfl⟩ | ⟨hf', hi', rfl⟩ | ⟨rfl, rfl, rfl⟩ <;> (try rcases hf' with rfl | rfl | rfl | rfl) <;> (try rcases hf' with rfl | rfl) <;> simp <;> omega
theorem l2_H_init {K : mo_M → Prop} {x0 mc ms : Nat} {x : Int32} (hx : M x0 = some (.inr (0, [.null, .null, .null, .null, .int 0]))) (hm : 400 ≤ mc) (hs : 2000 ≤ ms) (hK : ∀ A M', A 0 0 0 = x0 → hs_pin g e0 (hP (ck_n x)) A (hc_new (ck_n x)) M' → K M') : pp_H_init g e0 mc ms K M x0 x := by
  have c3 : ((3 : Int32)).toNatClampNeg = 3 := rfl
  have hck := ck_b x
  unfold pp_H_init
  simp only [c3, ck_h, nI_clamp (show ck_n x < 2 ^ 31 by omega)]
  refine ⟨by omega, by omega, fun q1 f1 => ⟨by omega, by omega, ?_⟩⟩
  have l1 := fr_lt hx f1
  unfold pp_A_init pp_AL_init pp_AC_init
  refine cs_pt (va_up_self _ _ _) (Nat.le_of_ble_eq_true rfl) (fun Ma Xa Fa => cs_pt Xa (Nat.le_of_ble_eq_true rfl) (fun Mb Xb Fb => ?_))
  have hx1 : Mb x0 = some (.inr (0, [.null, .null, .null, .null, .int 0])) := by rw [Fb x0 (by omega), Fa x0 (by omega), va_up_ne _ _ (by omega)]; exact hx
  refine cs_pt hx1 (Nat.le_of_ble_eq_true rfl) (fun M4 X4 F4 => ⟨by omega, by omega, ?_⟩)
  have C1 : M4 q1 = some (.inr (5, [.int 0, .ref (e0 0), .int 0])) := by rw [F4 q1 (by omega)]; exact Xb
  refine cs_mn X4 (Nat.le_of_ble_eq_true rfl) (show (3 : Int32) = nI 3 from rfl) (show (3 : Int32) = nI 3 from rfl) (by decide) (by decide) (fun q5 M5 f5 l5 X5 C5 D5 F5 => ⟨by omega, by omega, ?_⟩)
  refine cs_mn X5 (Nat.le_of_ble_eq_true rfl) (show (3 : Int32) = nI 3 from rfl) (show (3 : Int32) = nI 3 from rfl) (by decide) (by decide) (fun q8 M8 f8 l8 X8 C8 D8 F8 => ?_)
  refine cs_pt X8 (Nat.le_of_ble_eq_true rfl) (fun M9 X9 F9 => ⟨by omega, by omega, by omega, by omega, by omega, by omega, ?_⟩)
  have r15 : q1 < q5 := fr_lt C1 f5
  have r58 : q5 + 3 < q8 := by have := fr_lt (D5 2 (by decide)) f8; omega
  refine cs_na X9 (Nat.le_of_ble_eq_true rfl) rfl (by omega) (fun q12 M12 f12 l12 X12 C12 F12 => ⟨ck_n x + 1, ?_⟩)
  have r812 : q8 + 3 < q12 := by
    have := fr_lt (M := M9) (a := q8 + 1 + 2) (by rw [F9 _ (by omega)]; exact D8 2 (by decide)) f12
    omega
  have I0 : kI g e0 M12 x0 q1 q5 q8 q12 (ck_n x) 0 (fun _ _ _ => 0) M12 := by
    refine ⟨⟨fun f i j p => absurd p.2 (by omega), fun f i j f' i' j' p => absurd p.2 (by omega)⟩, fun f i j p => absurd p.2 (by omega), X12, ?_, fun b _ _ => rfl⟩
    rw [C12]
    congr 5
  refine l2_H59 (M0 := M12) (by omega) hck.2 (fun A M' cu su hcu hsu I => ⟨4, ?_⟩) (ck_n x) 0 (fun _ _ _ => 0) M12 _ _ (by omega) (by omega) (by omega) I0
  refine l2_rt89 (M0 := M') (q1 := q1) (q5 := q5) (q8 := q8) (q12 := q12) ⟨l1, r15, r58, r812⟩ hcu hsu 3 0 M' rfl ?_ (fun M'' R => hK _ M'' rfl (hP_make ⟨l1, r15, r58, r812⟩ I ?_ R))
  · have I5 := I.2.2.2.2
    have G12 : ∀ b, b < q12 → b ≠ x0 → M' b = M8 b := fun b h1 h2 => by rw [I5 b h1 h2, F12 b h2 (by omega), F9 b h2]
    have z : ∀ i, rt_f i 0 0 = fun _ => 0 := fun i => funext fun n => by unfold rt_f; rw [if_neg (by omega)]
    refine ⟨I.2.2.1, ?_, ?_, fun i hi => ?_, fun i hi => ?_, fun b _ => rfl⟩
    · rw [G12 q5 (by omega) (by omega), F8 q5 (by omega) (by omega)]; exact C5
    · rw [G12 q8 (by omega) (by omega)]; exact C8
    · rw [G12 _ (by omega) (by omega), F8 _ (by omega) (by omega), z]; exact D5 i hi
    · rw [G12 _ (by omega) (by omega), z]; exact D8 i hi
  · rw [F12 q1 (by omega) (by omega), F9 q1 (by omega), F8 q1 (by omega) (by omega), F5 q1 (by omega) (by omega)]
    exact C1
end HO2
