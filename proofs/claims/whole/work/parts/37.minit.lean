section MIN
variable {g : Nat → ClassId} {e0 : Nat → Nat} {A A' : hs_A} {h : hs_S} {M M' : mo_M} {P : Nat → Nat → Nat → Prop}
def hs_u (A : hs_A) (f q : Nat) : hs_A := fun a b c => if a = f then q else A a b c
def mP (P : Nat → Nat → Nat → Prop) (f a b c : Nat) : Prop := P a b c ∨ (31 ≤ a ∧ a < f ∧ b = 0 ∧ c = 0)
def mr (A : hs_A) (f a : Nat) : Value := if a < f then .ref (A a 0 0) else .null
def mF (A : hs_A) (f : Nat) (x : Int32) : List Value := [.int 0, .int x, .int 0, .int 0, mr A f 31, mr A f 32, mr A f 33, mr A f 34, mr A f 35, .int 0, mr A f 36, mr A f 37, mr A f 38, mr A f 39, mr A f 40, mr A f 41, mr A f 42, .int 0, mr A f 43, mr A f 44, mr A f 45, mr A f 46, mr A f 47, mr A f 48, mr A f 49, .int 0, mr A f 50]
theorem hs_eL {f i j : Nat} (hA : ∀ a b c, a < 30 → A' a b c = A a b c) (hf : f < 30) : hs_e g e0 A' h f i j = hs_e g e0 A h f i j := by
  have h30 : ¬ f = 30 := by omega
  unfold hs_e hs_o
  simp only [h30, if_false, hA 1 _ _ (by decide), hA 4 _ _ (by decide), hA 5 _ _ (by decide), hA 6 _ _ (by decide), hA 7 _ _ (by decide), hA 8 _ _ (by decide), hA 9 _ _ (by decide), hA 10 _ _ (by decide), hA 11 _ _ (by decide), hA 12 _ _ (by decide), hA 13 _ _ (by decide), hA 14 _ _ (by decide), hA 15 _ _ (by decide), hA 16 _ _ (by decide), hA 17 _ _ (by decide), hA 18 _ _ (by decide), hA 19 _ _ (by decide), hA 20 _ _ (by decide), hA 21 _ _ (by decide), hA 22 _ _ (by decide), hA 23 _ _ (by decide), hA 24 _ _ (by decide)]
theorem m_cs {f : Nat} (h1 : 31 ≤ f) (h2 : f ≤ 50) : f = 31 ∨ f = 32 ∨ f = 33 ∨ f = 34 ∨ f = 35 ∨ f = 36 ∨ f = 37 ∨ f = 38 ∨ f = 39 ∨ f = 40 ∨ f = 41 ∨ f = 42 ∨ f = 43 ∨ f = 44 ∨ f = 45 ∨ f = 46 ∨ f = 47 ∨ f = 48 ∨ f = 49 ∨ f = 50 := by omega
theorem hs_eM {f i j : Nat} (h1 : 31 ≤ f) (h2 : f ≤ 50) : hs_e g e0 A' h f i j = hs_e g e0 A h f i j := by
  rcases m_cs h1 h2 with rfl | rfl | rfl | rfl | rfl | rfl | rfl | rfl | rfl | rfl | rfl | rfl | rfl | rfl | rfl | rfl | rfl | rfl | rfl | rfl <;> rfl
def cs_B (g : Nat → ClassId) (e0 : Nat → Nat) (P : Nat → Nat → Nat → Prop) (A : hs_A) (h : hs_S) (M : mo_M) (x0 : Nat) (fs : List Value) : Prop := hs_pin g e0 P A h M ∧ M x0 = some (.inr (4, fs)) ∧ (∀ a b c, P a b c → A a b c ≠ x0)
theorem cs_add {f q x0 : Nat} {fs fs' : List Value} (hP : ∀ a b c, P a b c → a < 30) (B : cs_B g e0 (mP P f) A h M x0 fs) (h1 : 31 ≤ f) (h2 : f ≤ 50) (hq : mo_fr M q) (hM1 : M' x0 = some (.inr (4, fs'))) (hM2 : M' q = some (hs_e g e0 A h f 0 0)) (hF : ∀ b, b ≠ x0 → b ≠ q → M' b = M b) : cs_B g e0 (mP P (f + 1)) (hs_u A f q) h M' x0 fs' := by
  obtain ⟨B1, B2, B3⟩ := B
  have hA : ∀ a b c, a ≠ f → hs_u A f q a b c = A a b c := fun a b c ha => if_neg ha
  have hAf : ∀ b c, hs_u A f q f b c = q := fun b c => if_pos rfl
  have hx : x0 < q := fr_lt B2 hq
  have pf : ∀ a b c, mP P f a b c → a ≠ f := fun a b c p => by
    rcases p with p | p
    · have := hP a b c p; omega
    · omega
  refine ⟨hs_padd (Q := fun a b c => a = f ∧ b = 0 ∧ c = 0) B1 (fun a b c p => ?_) (fun a b c p => hA a b c (pf a b c p)) (fun a b c p => hF _ (B3 a b c p) (by have := fr_lt (B1.1 a b c p) hq; omega)) (fun a b c p => ?_) (fun a b c p => ?_) (fun a b c a' b' c' p p' e => ?_) (fun a b c a' b' c' p p' => ?_), hM1, fun a b c p => ?_⟩
  · rcases p with p | ⟨p1, p2, p3, p4⟩
    · exact Or.inl (Or.inl p)
    · by_cases y : a = f
      · exact Or.inr ⟨y, p3, p4⟩
      · exact Or.inl (Or.inr ⟨p1, by omega, p3, p4⟩)
  · rcases p with p | p
    · exact hs_eL (fun a b c ha => hA a b c (by omega)) (hP a b c p)
    · exact hs_eM (by omega) (by omega)
  · obtain ⟨rfl, rfl, rfl⟩ := p
    rw [hAf, hM2, hs_eM h1 h2]
  · omega
  · obtain ⟨rfl, rfl, rfl⟩ := p'
    rw [hAf]
    have := fr_lt (B1.1 a b c p) hq
    omega
  · by_cases y : a = f
    · subst y
      rw [hAf]
      omega
    · rw [hA a b c y]
      refine B3 a b c ?_
      rcases p with p | ⟨p1, p2, p3, p4⟩
      · exact Or.inl p
      · exact Or.inr ⟨p1, by omega, p3, p4⟩
theorem cs_st {f k n' x0 : Nat} {n : Int32} {cA : ClassId} {x : (Nat → Int32) ⊕ (Nat → Int64) ⊕ (Nat → UInt32) ⊕ (Nat → UInt64) ⊕ (Nat → Option Nat)} {fs : List Value} {N : mo_M → Prop} (hP : ∀ a b c, P a b c → a < 30) (B : cs_B g e0 (mP P f) A h M x0 fs) (h1 : 31 ≤ f) (h2 : f ≤ 50) (hk : k < fs.length) (hn : n = nI n') (hn' : n' ≤ 1000000) (he : hs_e g e0 A h f 0 0 = .inl (cA, n', x)) (hN : ∀ q M', cs_B g e0 (mP P (f + 1)) (hs_u A f q) h M' x0 (fs.set k (.ref q)) → N M') : mp_na cA M n x (fun q M2 => mp_pt M2 x0 4 k (.ref q) N) := by
  refine cs_na B.2.1 hk hn hn' (fun q M' hq hlt hx hc hF => hN q M' (cs_add hP B h1 h2 hq hx ?_ hF))
  rw [hc, he]
theorem cs_n9 {f k x0 : Nat} {fs : List Value} {N : mo_M → Prop} (hP : ∀ a b c, P a b c → a < 30) (B : cs_B g e0 (mP P f) A h M x0 fs) (h1 : 31 ≤ f) (h2 : f ≤ 50) (hk : k < fs.length) (he : hs_e g e0 A h f 0 0 = .inl (g 0, 9, .inl (fun n => if n < 9 then 1 else 0))) (hN : ∀ q M', cs_B g e0 (mP P (f + 1)) (hs_u A f q) h M' x0 (fs.set k (.ref q)) → N M') : mp_na (g 0) M ((9 : Int32)) (.inl (fun _ => 0)) (fun q M11 => mp_si (g 0) M11 q ((0 : Int32)) ((1 : Int32)) (fun M12 => mp_si (g 0) M12 q ((1 : Int32)) ((1 : Int32)) (fun M13 => mp_si (g 0) M13 q ((2 : Int32)) ((1 : Int32)) (fun M14 => mp_si (g 0) M14 q ((3 : Int32)) ((1 : Int32)) (fun M15 => mp_si (g 0) M15 q ((4 : Int32)) ((1 : Int32)) (fun M16 => mp_si (g 0) M16 q ((5 : Int32)) ((1 : Int32)) (fun M17 => mp_si (g 0) M17 q ((6 : Int32)) ((1 : Int32)) (fun M18 => mp_si (g 0) M18 q ((7 : Int32)) ((1 : Int32)) (fun M19 => mp_si (g 0) M19 q ((8 : Int32)) ((1 : Int32)) (fun M20 => mp_pt M20 x0 4 k (.ref q) N)))))))))) := by
  refine ⟨by decide, by decide, fun q hq => ?_⟩
  have hx : x0 < q := fr_lt B.2.1 hq
  have hne : x0 ≠ q := by omega

  refine mq_si (j := 0) (va_up_self _ _ _) rfl (by decide) (by decide) ?_
  refine mq_si (j := 1) (va_up_self _ _ _) rfl (by decide) (by decide) ?_
  refine mq_si (j := 2) (va_up_self _ _ _) rfl (by decide) (by decide) ?_
  refine mq_si (j := 3) (va_up_self _ _ _) rfl (by decide) (by decide) ?_
  refine mq_si (j := 4) (va_up_self _ _ _) rfl (by decide) (by decide) ?_
  refine mq_si (j := 5) (va_up_self _ _ _) rfl (by decide) (by decide) ?_
  refine mq_si (j := 6) (va_up_self _ _ _) rfl (by decide) (by decide) ?_
  refine mq_si (j := 7) (va_up_self _ _ _) rfl (by decide) (by decide) ?_
  refine mq_si (j := 8) (va_up_self _ _ _) rfl (by decide) (by decide) ?_
  refine cs_pt (by rw [va_up_ne _ _ hne, va_up_ne _ _ hne, va_up_ne _ _ hne, va_up_ne _ _ hne, va_up_ne _ _ hne, va_up_ne _ _ hne, va_up_ne _ _ hne, va_up_ne _ _ hne, va_up_ne _ _ hne, va_up_ne _ _ hne]; exact B.2.1) hk (fun M' hx1 hF => hN q M' (cs_add hP B h1 h2 hq hx1 ?_ (fun b b1 b2 => ?_)))
  · rw [hF q (by omega), va_up_self, he]
    congr 4
    refine congrArg Sum.inl (funext fun n => ?_)
    unfold upd
    by_cases y : n < 9
    · rw [if_pos y]
      have : n = 0 ∨ n = 1 ∨ n = 2 ∨ n = 3 ∨ n = 4 ∨ n = 5 ∨ n = 6 ∨ n = 7 ∨ n = 8 := by omega
      rcases this with rfl | rfl | rfl | rfl | rfl | rfl | rfl | rfl | rfl <;> rfl
    · rw [if_neg y, if_neg (by omega), if_neg (by omega), if_neg (by omega), if_neg (by omega), if_neg (by omega), if_neg (by omega), if_neg (by omega), if_neg (by omega), if_neg (by omega)]
  · rw [hF b b1, va_up_ne _ _ b2, va_up_ne _ _ b2, va_up_ne _ _ b2, va_up_ne _ _ b2, va_up_ne _ _ b2, va_up_ne _ _ b2, va_up_ne _ _ b2, va_up_ne _ _ b2, va_up_ne _ _ b2, va_up_ne _ _ b2]
theorem nw_i1 {n f : Nat} (hf : f = 34 ∨ f = 35) : hs_i (hc_new n) f 0 0 = fun k => if k < 9 then 1 else 0 := by
  funext k
  show (if (f = 5 ∨ f = 7) ∧ k < 3 then (1 : Int32) else if (f = 34 ∨ f = 35) ∧ k < 9 then 1 else if f = 30 ∧ k = 1 then nI n else 0) = _
  rw [if_neg (by omega)]
  by_cases y : k < 9
  · rw [if_pos ⟨hf, y⟩, if_pos y]
  · rw [if_neg (fun z => y z.2), if_neg y, if_neg (by omega)]
theorem nw_e {n f : Nat} (h1 : hs_c f = 2 ∨ hs_c f = 3) (h5 : f ≠ 5) (h7 : f ≠ 7) (h34 : f ≠ 34) (h35 : f ≠ 35) (h30 : f ≠ 30) : hs_e g e0 A (hc_new n) f 0 0 = .inl ((if hs_c f = 2 then g 0 else g 2), hs_len f, .inl (fun _ => 0)) := by
  unfold hs_e
  rw [nw_i0 h5 h7 h34 h35 h30]
  rcases h1 with h1 | h1 <;> rw [h1] <;> rfl
theorem l2_M_init {K : mo_M → Prop} {x0 mc ms : Nat} {x : Int32} (H : hs_pin g e0 P A (hc_new (ck_n x)) M) (hP : ∀ a b c, P a b c → a < 30) (hne : ∀ a b c, P a b c → A a b c ≠ x0) (hx : M x0 = some (.inr (4, [.int 0, .int 0, .int 0, .int 0, .null, .null, .null, .null, .null, .int 0, .null, .null, .null, .null, .null, .null, .null, .int 0, .null, .null, .null, .null, .null, .null, .null, .int 0, .null]))) (hm : 30 ≤ mc) (hs : 14000 ≤ ms) (hK : ∀ A' M', (∀ a b c, a < 30 → A' a b c = A a b c) → A' 30 0 0 = x0 → hs_pin g e0 (fun a b c => P a b c ∨ (30 ≤ a ∧ a ≤ 50 ∧ b = 0 ∧ c = 0)) A' (hc_new (ck_n x)) M' → K M') : pp_M_init g e0 mc ms K M x0 x := by
  have c12 : ((12 : Int32)).toNatClampNeg = 12 := rfl
  have c9 : ((9 : Int32)).toNatClampNeg = 9 := rfl
  have c1100 : ((1100 : Int32)).toNatClampNeg = 1100 := rfl
  have c800 : ((800 : Int32)).toNatClampNeg = 800 := rfl
  have c96 : ((96 : Int32)).toNatClampNeg = 96 := rfl
  have B31 : cs_B g e0 (mP P 31) A (hc_new (ck_n x)) M x0 (mF A 31 0) := ⟨⟨fun a b c p => H.1 a b c (p.elim id (fun z => absurd z.2.1 (by omega))), fun a b c a' b' c' p p' => H.2 a b c a' b' c' (p.elim id (fun z => absurd z.2.1 (by omega))) (p'.elim id (fun z => absurd z.2.1 (by omega)))⟩, hx, fun a b c p => hne a b c (p.elim id (fun z => absurd z.2.1 (by omega)))⟩
  have A30 : ∀ a b c, a < 30 → A a b c = A a b c := fun _ _ _ _ => rfl
  unfold pp_M_init
  simp only [c12, c9, c1100, c800, c96]
  refine ⟨by omega, by omega, cs_st (k := 4) (n' := 12) hP B31 (by decide) (by decide) (Nat.le_of_ble_eq_true rfl) rfl (by decide) (nw_e (Or.inl rfl) (by decide) (by decide) (by decide) (by decide) (by decide)) (fun q31 M31 B32 => ?_)⟩
  have A30 : ∀ a b c, a < 30 → hs_u A 31 q31 a b c = A a b c := fun a b c ha => (if_neg (by omega)).trans (A30 a b c ha)
  change cs_B g e0 (mP P 32) (hs_u A 31 q31) (hc_new (ck_n x)) M31 x0 (mF (hs_u A 31 q31) 32 0) at B32
  generalize hs_u A 31 q31 = A31 at B32 A30
  refine ⟨by omega, by omega, cs_st (k := 5) (n' := 12) hP B32 (by decide) (by decide) (Nat.le_of_ble_eq_true rfl) rfl (by decide) (nw_e (Or.inl rfl) (by decide) (by decide) (by decide) (by decide) (by decide)) (fun q32 M32 B33 => ?_)⟩
  have A30 : ∀ a b c, a < 30 → hs_u A31 32 q32 a b c = A a b c := fun a b c ha => (if_neg (by omega)).trans (A30 a b c ha)
  change cs_B g e0 (mP P 33) (hs_u A31 32 q32) (hc_new (ck_n x)) M32 x0 (mF (hs_u A31 32 q32) 33 0) at B33
  generalize hs_u A31 32 q32 = A32 at B33 A30
  refine ⟨by omega, by omega, cs_st (k := 6) (n' := 12) hP B33 (by decide) (by decide) (Nat.le_of_ble_eq_true rfl) rfl (by decide) (nw_e (Or.inr rfl) (by decide) (by decide) (by decide) (by decide) (by decide)) (fun q33 M33 B34 => ?_)⟩
  have A30 : ∀ a b c, a < 30 → hs_u A32 33 q33 a b c = A a b c := fun a b c ha => (if_neg (by omega)).trans (A30 a b c ha)
  change cs_B g e0 (mP P 34) (hs_u A32 33 q33) (hc_new (ck_n x)) M33 x0 (mF (hs_u A32 33 q33) 34 0) at B34
  generalize hs_u A32 33 q33 = A33 at B34 A30
  refine ⟨by omega, by omega, cs_n9 (k := 7) hP B34 (by decide) (by decide) (Nat.le_of_ble_eq_true rfl) (by show Sum.inl (g 0, 9, Sum.inl (hs_i (hc_new (ck_n x)) 34 0 0)) = _; rw [nw_i1 (Or.inl rfl)]) (fun q34 M34 B35 => ?_)⟩
  have A30 : ∀ a b c, a < 30 → hs_u A33 34 q34 a b c = A a b c := fun a b c ha => (if_neg (by omega)).trans (A30 a b c ha)
  change cs_B g e0 (mP P 35) (hs_u A33 34 q34) (hc_new (ck_n x)) M34 x0 (mF (hs_u A33 34 q34) 35 0) at B35
  generalize hs_u A33 34 q34 = A34 at B35 A30
  refine ⟨by omega, by omega, cs_n9 (k := 8) hP B35 (by decide) (by decide) (Nat.le_of_ble_eq_true rfl) (by show Sum.inl (g 0, 9, Sum.inl (hs_i (hc_new (ck_n x)) 35 0 0)) = _; rw [nw_i1 (Or.inr rfl)]) (fun q35 M35 B36 => ?_)⟩
  have A30 : ∀ a b c, a < 30 → hs_u A34 35 q35 a b c = A a b c := fun a b c ha => (if_neg (by omega)).trans (A30 a b c ha)
  change cs_B g e0 (mP P 36) (hs_u A34 35 q35) (hc_new (ck_n x)) M35 x0 (mF (hs_u A34 35 q35) 36 0) at B36
  generalize hs_u A34 35 q35 = A35 at B36 A30
  refine ⟨by omega, by omega, cs_st (k := 10) (n' := 1100) hP B36 (by decide) (by decide) (Nat.le_of_ble_eq_true rfl) rfl (by decide) (nw_e (Or.inl rfl) (by decide) (by decide) (by decide) (by decide) (by decide)) (fun q36 M36 B37 => ?_)⟩
  have A30 : ∀ a b c, a < 30 → hs_u A35 36 q36 a b c = A a b c := fun a b c ha => (if_neg (by omega)).trans (A30 a b c ha)
  change cs_B g e0 (mP P 37) (hs_u A35 36 q36) (hc_new (ck_n x)) M36 x0 (mF (hs_u A35 36 q36) 37 0) at B37
  generalize hs_u A35 36 q36 = A36 at B37 A30
  refine ⟨by omega, by omega, cs_st (k := 11) (n' := 1100) hP B37 (by decide) (by decide) (Nat.le_of_ble_eq_true rfl) rfl (by decide) (nw_e (Or.inl rfl) (by decide) (by decide) (by decide) (by decide) (by decide)) (fun q37 M37 B38 => ?_)⟩
  have A30 : ∀ a b c, a < 30 → hs_u A36 37 q37 a b c = A a b c := fun a b c ha => (if_neg (by omega)).trans (A30 a b c ha)
  change cs_B g e0 (mP P 38) (hs_u A36 37 q37) (hc_new (ck_n x)) M37 x0 (mF (hs_u A36 37 q37) 38 0) at B38
  generalize hs_u A36 37 q37 = A37 at B38 A30
  refine ⟨by omega, by omega, cs_st (k := 12) (n' := 1100) hP B38 (by decide) (by decide) (Nat.le_of_ble_eq_true rfl) rfl (by decide) (nw_e (Or.inl rfl) (by decide) (by decide) (by decide) (by decide) (by decide)) (fun q38 M38 B39 => ?_)⟩
  have A30 : ∀ a b c, a < 30 → hs_u A37 38 q38 a b c = A a b c := fun a b c ha => (if_neg (by omega)).trans (A30 a b c ha)
  change cs_B g e0 (mP P 39) (hs_u A37 38 q38) (hc_new (ck_n x)) M38 x0 (mF (hs_u A37 38 q38) 39 0) at B39
  generalize hs_u A37 38 q38 = A38 at B39 A30
  refine ⟨by omega, by omega, cs_st (k := 13) (n' := 1100) hP B39 (by decide) (by decide) (Nat.le_of_ble_eq_true rfl) rfl (by decide) (nw_e (Or.inl rfl) (by decide) (by decide) (by decide) (by decide) (by decide)) (fun q39 M39 B40 => ?_)⟩
  have A30 : ∀ a b c, a < 30 → hs_u A38 39 q39 a b c = A a b c := fun a b c ha => (if_neg (by omega)).trans (A30 a b c ha)
  change cs_B g e0 (mP P 40) (hs_u A38 39 q39) (hc_new (ck_n x)) M39 x0 (mF (hs_u A38 39 q39) 40 0) at B40
  generalize hs_u A38 39 q39 = A39 at B40 A30
  refine ⟨by omega, by omega, cs_st (k := 14) (n' := 1100) hP B40 (by decide) (by decide) (Nat.le_of_ble_eq_true rfl) rfl (by decide) rfl (fun q40 M40 B41 => ?_)⟩
  have A30 : ∀ a b c, a < 30 → hs_u A39 40 q40 a b c = A a b c := fun a b c ha => (if_neg (by omega)).trans (A30 a b c ha)
  change cs_B g e0 (mP P 41) (hs_u A39 40 q40) (hc_new (ck_n x)) M40 x0 (mF (hs_u A39 40 q40) 41 0) at B41
  generalize hs_u A39 40 q40 = A40 at B41 A30
  refine ⟨by omega, by omega, cs_st (k := 15) (n' := 1100) hP B41 (by decide) (by decide) (Nat.le_of_ble_eq_true rfl) rfl (by decide) rfl (fun q41 M41 B42 => ?_)⟩
  have A30 : ∀ a b c, a < 30 → hs_u A40 41 q41 a b c = A a b c := fun a b c ha => (if_neg (by omega)).trans (A30 a b c ha)
  change cs_B g e0 (mP P 42) (hs_u A40 41 q41) (hc_new (ck_n x)) M41 x0 (mF (hs_u A40 41 q41) 42 0) at B42
  generalize hs_u A40 41 q41 = A41 at B42 A30
  refine ⟨by omega, by omega, cs_st (k := 16) (n' := 1100) hP B42 (by decide) (by decide) (Nat.le_of_ble_eq_true rfl) rfl (by decide) rfl (fun q42 M42 B43 => ?_)⟩
  have A30 : ∀ a b c, a < 30 → hs_u A41 42 q42 a b c = A a b c := fun a b c ha => (if_neg (by omega)).trans (A30 a b c ha)
  change cs_B g e0 (mP P 43) (hs_u A41 42 q42) (hc_new (ck_n x)) M42 x0 (mF (hs_u A41 42 q42) 43 0) at B43
  generalize hs_u A41 42 q42 = A42 at B43 A30
  refine ⟨by omega, by omega, cs_st (k := 18) (n' := 800) hP B43 (by decide) (by decide) (Nat.le_of_ble_eq_true rfl) rfl (by decide) (nw_e (Or.inl rfl) (by decide) (by decide) (by decide) (by decide) (by decide)) (fun q43 M43 B44 => ?_)⟩
  have A30 : ∀ a b c, a < 30 → hs_u A42 43 q43 a b c = A a b c := fun a b c ha => (if_neg (by omega)).trans (A30 a b c ha)
  change cs_B g e0 (mP P 44) (hs_u A42 43 q43) (hc_new (ck_n x)) M43 x0 (mF (hs_u A42 43 q43) 44 0) at B44
  generalize hs_u A42 43 q43 = A43 at B44 A30
  refine ⟨by omega, by omega, cs_st (k := 19) (n' := 800) hP B44 (by decide) (by decide) (Nat.le_of_ble_eq_true rfl) rfl (by decide) (nw_e (Or.inl rfl) (by decide) (by decide) (by decide) (by decide) (by decide)) (fun q44 M44 B45 => ?_)⟩
  have A30 : ∀ a b c, a < 30 → hs_u A43 44 q44 a b c = A a b c := fun a b c ha => (if_neg (by omega)).trans (A30 a b c ha)
  change cs_B g e0 (mP P 45) (hs_u A43 44 q44) (hc_new (ck_n x)) M44 x0 (mF (hs_u A43 44 q44) 45 0) at B45
  generalize hs_u A43 44 q44 = A44 at B45 A30
  refine ⟨by omega, by omega, cs_st (k := 20) (n' := 800) hP B45 (by decide) (by decide) (Nat.le_of_ble_eq_true rfl) rfl (by decide) (nw_e (Or.inl rfl) (by decide) (by decide) (by decide) (by decide) (by decide)) (fun q45 M45 B46 => ?_)⟩
  have A30 : ∀ a b c, a < 30 → hs_u A44 45 q45 a b c = A a b c := fun a b c ha => (if_neg (by omega)).trans (A30 a b c ha)
  change cs_B g e0 (mP P 46) (hs_u A44 45 q45) (hc_new (ck_n x)) M45 x0 (mF (hs_u A44 45 q45) 46 0) at B46
  generalize hs_u A44 45 q45 = A45 at B46 A30
  refine ⟨by omega, by omega, cs_st (k := 21) (n' := 800) hP B46 (by decide) (by decide) (Nat.le_of_ble_eq_true rfl) rfl (by decide) (nw_e (Or.inl rfl) (by decide) (by decide) (by decide) (by decide) (by decide)) (fun q46 M46 B47 => ?_)⟩
  have A30 : ∀ a b c, a < 30 → hs_u A45 46 q46 a b c = A a b c := fun a b c ha => (if_neg (by omega)).trans (A30 a b c ha)
  change cs_B g e0 (mP P 47) (hs_u A45 46 q46) (hc_new (ck_n x)) M46 x0 (mF (hs_u A45 46 q46) 47 0) at B47
  generalize hs_u A45 46 q46 = A46 at B47 A30
  refine ⟨by omega, by omega, cs_st (k := 22) (n' := 800) hP B47 (by decide) (by decide) (Nat.le_of_ble_eq_true rfl) rfl (by decide) (nw_e (Or.inl rfl) (by decide) (by decide) (by decide) (by decide) (by decide)) (fun q47 M47 B48 => ?_)⟩
  have A30 : ∀ a b c, a < 30 → hs_u A46 47 q47 a b c = A a b c := fun a b c ha => (if_neg (by omega)).trans (A30 a b c ha)
  change cs_B g e0 (mP P 48) (hs_u A46 47 q47) (hc_new (ck_n x)) M47 x0 (mF (hs_u A46 47 q47) 48 0) at B48
  generalize hs_u A46 47 q47 = A47 at B48 A30
  refine ⟨by omega, by omega, cs_st (k := 23) (n' := 800) hP B48 (by decide) (by decide) (Nat.le_of_ble_eq_true rfl) rfl (by decide) (nw_e (Or.inl rfl) (by decide) (by decide) (by decide) (by decide) (by decide)) (fun q48 M48 B49 => ?_)⟩
  have A30 : ∀ a b c, a < 30 → hs_u A47 48 q48 a b c = A a b c := fun a b c ha => (if_neg (by omega)).trans (A30 a b c ha)
  change cs_B g e0 (mP P 49) (hs_u A47 48 q48) (hc_new (ck_n x)) M48 x0 (mF (hs_u A47 48 q48) 49 0) at B49
  generalize hs_u A47 48 q48 = A48 at B49 A30
  refine ⟨by omega, by omega, cs_st (k := 24) (n' := 800) hP B49 (by decide) (by decide) (Nat.le_of_ble_eq_true rfl) rfl (by decide) (nw_e (Or.inl rfl) (by decide) (by decide) (by decide) (by decide) (by decide)) (fun q49 M49 B50 => ?_)⟩
  have A30 : ∀ a b c, a < 30 → hs_u A48 49 q49 a b c = A a b c := fun a b c ha => (if_neg (by omega)).trans (A30 a b c ha)
  change cs_B g e0 (mP P 50) (hs_u A48 49 q49) (hc_new (ck_n x)) M49 x0 (mF (hs_u A48 49 q49) 50 0) at B50
  generalize hs_u A48 49 q49 = A49 at B50 A30
  refine ⟨by omega, by omega, cs_st (k := 26) (n' := 96) hP B50 (by decide) (by decide) (Nat.le_of_ble_eq_true rfl) rfl (by decide) (nw_e (Or.inl rfl) (by decide) (by decide) (by decide) (by decide) (by decide)) (fun q50 M50 B51 => ?_)⟩
  have A30 : ∀ a b c, a < 30 → hs_u A49 50 q50 a b c = A a b c := fun a b c ha => (if_neg (by omega)).trans (A30 a b c ha)
  change cs_B g e0 (mP P 51) (hs_u A49 50 q50) (hc_new (ck_n x)) M50 x0 (mF (hs_u A49 50 q50) 51 0) at B51
  generalize hs_u A49 50 q50 = A50 at B51 A30
  have fin : ∀ (v : Int32) (M' : mo_M), v = nI (ck_n x) → M' x0 = some (.inr (4, (mF A50 51 0).set 1 (.int v))) → (∀ b, b ≠ x0 → M' b = M50 b) → K M' := by
    intro v M' hv hx1 hF
    subst hv
    obtain ⟨B1, B2, B3⟩ := B51
    have hA : ∀ a b c, a ≠ 30 → hs_u A50 30 x0 a b c = A50 a b c := fun a b c ha => if_neg ha
    refine hK (hs_u A50 30 x0) M' (fun a b c ha => (hA a b c (by omega)).trans (A30 a b c ha)) rfl ?_
    have p30 : ∀ a b c, mP P 51 a b c → a ≠ 30 := fun a b c p => by
      rcases p with p | p
      · have := hP a b c p; omega
      · omega
    refine hs_padd (Q := fun a b c => a = 30 ∧ b = 0 ∧ c = 0) B1 (fun a b c p => ?_) (fun a b c p => hA a b c (p30 a b c p)) (fun a b c p => hF _ (B3 a b c p)) (fun a b c p => ?_) (fun a b c p => ?_) (fun a b c a' b' c' p p' e => ?_) (fun a b c a' b' c' p p' => ?_)
    · rcases p with p | ⟨p1, p2, p3, p4⟩
      · exact Or.inl (Or.inl p)
      · by_cases y : a = 30
        · exact Or.inr ⟨y, p3, p4⟩
        · exact Or.inl (Or.inr ⟨by omega, by omega, p3, p4⟩)
    · rcases p with p | p
      · exact hs_eL (fun a b c ha => hA a b c (by omega)) (hP a b c p)
      · exact hs_eM (by omega) (by omega)
    · obtain ⟨rfl, rfl, rfl⟩ := p
      exact hx1
    · omega
    · obtain ⟨rfl, rfl, rfl⟩ := p'
      exact B3 a b c p
  have e1 : (1 : Int32).toInt = 1 := by decide
  have e6 : (6 : Int32).toInt = 6 := by decide
  refine ⟨fun z1 => ⟨fun z2 => cs_pt B51.2.1 (Nat.le_of_ble_eq_true rfl) (fun M' hx1 hF => ⟨by omega, by omega, fin x M' ?_ hx1 hF⟩), fun z2 => cs_pt B51.2.1 (Nat.le_of_ble_eq_true rfl) (fun M' hx1 hF => ⟨by omega, by omega, fin 6 M' ?_ hx1 hF⟩)⟩, fun z1 => cs_pt B51.2.1 (Nat.le_of_ble_eq_true rfl) (fun M' hx1 hF => ⟨by omega, by omega, fin 1 M' ?_ hx1 hF⟩)⟩
  · have y1 := Int32.le_iff_toInt_le.mp z1
    have y2 := Int32.le_iff_toInt_le.mp z2
    apply Int32.toInt_inj.mp
    rw [ck_i, if_neg (by omega), if_neg (by omega)]
  · have y1 := Int32.le_iff_toInt_le.mp z1
    have y2 := mt Int32.le_iff_toInt_le.mpr z2
    apply Int32.toInt_inj.mp
    rw [ck_i, if_neg (by omega), if_pos (by omega), e6]
  · have y1 := mt Int32.le_iff_toInt_le.mpr z1
    apply Int32.toInt_inj.mp
    rw [ck_i, if_pos (by omega), e1]
end MIN
