section CON
variable {g : Nat → ClassId} {e0 : Nat → Nat} {A A' : hs_A} {h h' : hs_S} {M M' : mo_M}
def hs_pin (g : Nat → ClassId) (e0 : Nat → Nat) (P : Nat → Nat → Nat → Prop) (A : hs_A) (h : hs_S) (M : mo_M) : Prop := (∀ f i j, P f i j → M (A f i j) = some (hs_e g e0 A h f i j)) ∧ (∀ f i j f' i' j', P f i j → P f' i' j' → A f i j = A f' i' j' → f = f' ∧ i = i' ∧ j = j')
theorem hs_padd {P Q R : Nat → Nat → Nat → Prop} (H : hs_pin g e0 P A h M) (hR : ∀ f i j, R f i j → P f i j ∨ Q f i j) (hAP : ∀ f i j, P f i j → A' f i j = A f i j) (hM : ∀ f i j, P f i j → M' (A f i j) = M (A f i j)) (hE : ∀ f i j, P f i j → hs_e g e0 A' h' f i j = hs_e g e0 A h f i j) (hQ : ∀ f i j, Q f i j → M' (A' f i j) = some (hs_e g e0 A' h' f i j)) (hQi : ∀ f i j f' i' j', Q f i j → Q f' i' j' → A' f i j = A' f' i' j' → f = f' ∧ i = i' ∧ j = j') (hPQ : ∀ f i j f' i' j', P f i j → Q f' i' j' → A f i j ≠ A' f' i' j') : hs_pin g e0 R A' h' M' := by
  refine ⟨fun f i j hr => ?_, fun f i j f' i' j' hr hr' e => ?_⟩
  · rcases hR f i j hr with p | q
    · rw [hAP f i j p, hM f i j p, H.1 f i j p, hE f i j p]
    · exact hQ f i j q
  · rcases hR f i j hr with p | q <;> rcases hR f' i' j' hr' with p' | q'
    · rw [hAP _ _ _ p, hAP _ _ _ p'] at e
      exact H.2 _ _ _ _ _ _ p p' e
    · rw [hAP _ _ _ p] at e
      exact absurd e (hPQ _ _ _ _ _ _ p q')
    · rw [hAP _ _ _ p'] at e
      exact absurd e.symm (hPQ _ _ _ _ _ _ p' q)
    · exact hQi _ _ _ _ _ _ q q' e
theorem fr_lt {a q : Nat} {e : va_E} (ha : M a = some e) (hq : mo_fr M q) : a < q := by
  rcases Nat.lt_or_ge a q with r | r
  · exact r
  · rw [hq a r] at ha
    cases ha
theorem cs_pt {x0 ci k : Nat} {fs : List Value} {v : Value} {N : mo_M → Prop} (hx : M x0 = some (.inr (ci, fs))) (hk : k < fs.length) (hN : ∀ M', M' x0 = some (.inr (ci, fs.set k v)) → (∀ b, b ≠ x0 → M' b = M b) → N M') : mp_pt M x0 ci k v N := mq_pt hx hk (hN _ (va_up_self _ _ _) (fun b hb => va_up_ne _ _ hb))
theorem cs_na {x0 ci k n' : Nat} {n : Int32} {cA : ClassId} {x : (Nat → Int32) ⊕ (Nat → Int64) ⊕ (Nat → UInt32) ⊕ (Nat → UInt64) ⊕ (Nat → Option Nat)} {fs : List Value} {N : mo_M → Prop} (hx : M x0 = some (.inr (ci, fs))) (hk : k < fs.length) (hn : n = nI n') (hn' : n' ≤ 1000000) (hN : ∀ q M', mo_fr M q → x0 < q → M' x0 = some (.inr (ci, fs.set k (.ref q))) → M' q = some (.inl (cA, n', x)) → (∀ b, b ≠ x0 → b ≠ q → M' b = M b) → N M') : mp_na cA M n x (fun q M2 => mp_pt M2 x0 ci k (.ref q) N) := by
  subst hn
  refine ⟨nI_pos (by omega), by rw [nI_clamp (by omega)]; exact hn', fun q hq => ?_⟩
  rw [nI_clamp (by omega)]
  have hlt := fr_lt hx hq
  have hne : x0 ≠ q := by omega
  refine cs_pt (fs := fs) (by rw [va_up_ne _ _ hne]; exact hx) hk (fun M' h1 h2 => hN q M' hq hlt h1 ?_ ?_)
  · rw [h2 q (by omega), va_up_self]
  · intro b b1 b2
    rw [h2 b b1, va_up_ne _ _ b2]
theorem cs_mn {x0 ci k n1 n2 : Nat} {m1 m2 : Int32} {cO cI : ClassId} {x : (Nat → Int32) ⊕ (Nat → Int64) ⊕ (Nat → UInt32) ⊕ (Nat → UInt64) ⊕ (Nat → Option Nat)} {fs : List Value} {N : mo_M → Prop} (hx : M x0 = some (.inr (ci, fs))) (hk : k < fs.length) (e1 : m1 = nI n1) (e2 : m2 = nI n2) (l1 : n1 ≤ 1000000) (l2 : n2 ≤ 1000000) (hN : ∀ q M', mo_fr M q → x0 < q → M' x0 = some (.inr (ci, fs.set k (.ref q))) → M' q = some (.inl (cO, n1, hs_rf (fun i => if i < n1 then some (q + 1 + i) else none))) → (∀ j, j < n1 → M' (q + 1 + j) = some (.inl (cI, n2, x))) → (∀ b, b ≠ x0 → ¬ (q ≤ b ∧ b ≤ q + n1) → M' b = M b) → N M') : mp_mn cO cI M m1 m2 x (fun q M2 => mp_pt M2 x0 ci k (.ref q) N) := by
  subst e1
  subst e2
  refine ⟨nI_pos (by omega), nI_pos (by omega), by rw [nI_clamp (by omega)]; exact l1, by rw [nI_clamp (by omega)]; exact l2, fun q hq => ?_⟩
  rw [nI_clamp (by omega), nI_clamp (by omega)]
  have hlt := fr_lt hx hq
  have hne : x0 ≠ q := by omega
  refine cs_pt (fs := fs) (by unfold mo_mn; rw [if_neg hne, if_neg (by omega)]; exact hx) hk (fun M' h1 h2 => hN q M' hq hlt h1 ?_ ?_ ?_)
  · rw [h2 q (by omega)]
    unfold mo_mn
    rw [if_pos rfl]
  · intro j hj
    rw [h2 _ (by omega)]
    unfold mo_mn
    rw [if_neg (by omega), if_pos (by omega)]
  · intro b b1 b2
    rw [h2 b b1]
    unfold mo_mn
    rw [if_neg (by omega), if_neg (by omega)]
/-- a kiosk is made: where its parts lie -/
def kc_sp (g : Nat → ClassId) (M : mo_M) (x0 : Nat) (a : Nat → Nat) (M' : mo_M) : Prop :=
  M' x0 = some (.inr (1, [.ref (a 1), .ref (a 2), .ref (a 3), .int 0, .int 0, .ref (a 4), .ref (a 5), .ref (a 6), .ref (a 7)])) ∧
  (∀ k, 1 ≤ k → k ≤ 3 → M' (a k) = some (.inl (g 1, 3, .inr (.inl (fun _ => 0))))) ∧
  (∀ k, 4 ≤ k → k ≤ 6 → M' (a k) = some (.inl (g 4, 16, hs_rf (fun i => if i < 16 then some (a k + 1 + i) else none)))) ∧
  (∀ k j, 4 ≤ k → k ≤ 6 → j < 16 → M' (a k + 1 + j) = some (.inl (g 1, 3, .inr (.inl (fun _ => 0))))) ∧
  M' (a 7) = some (.inl (g 0, 16, .inl (fun _ => 0))) ∧
  (x0 < a 1 ∧ a 1 < a 2 ∧ a 2 < a 3 ∧ a 3 < a 4 ∧ a 4 + 16 < a 5 ∧ a 5 + 16 < a 6 ∧ a 6 + 16 < a 7) ∧ mo_fr M (a 1) ∧ (∀ b, b < a 1 → b ≠ x0 → M' b = M b)
theorem l2_K_init {K : mo_M → Prop} {x0 mc ms : Nat} (hx : M x0 = some (.inr (1, [.null, .null, .null, .int 0, .int 0, .null, .null, .null, .null]))) (hm : 60 ≤ mc) (hs : 300 ≤ ms) (hK : ∀ a M', kc_sp g M x0 a M' → K M') : pp_K_init g e0 mc ms K M x0 := by
  have c3 : ((3 : Int32)).toNatClampNeg = 3 := rfl
  have c16 : ((16 : Int32)).toNatClampNeg = 16 := rfl
  unfold pp_K_init
  simp only [c3, c16]
  refine ⟨by omega, by omega, cs_na hx (Nat.le_of_ble_eq_true rfl) (show (3 : Int32) = nI 3 from rfl) (by decide) (fun a1 M1 f1 l1 X1 C1 F1 => ?_)⟩
  refine ⟨by omega, by omega, cs_na X1 (Nat.le_of_ble_eq_true rfl) (show (3 : Int32) = nI 3 from rfl) (by decide) (fun a2 M2 f2 l2 X2 C2 F2 => ?_)⟩
  refine ⟨by omega, by omega, cs_na X2 (Nat.le_of_ble_eq_true rfl) (show (3 : Int32) = nI 3 from rfl) (by decide) (fun a3 M3 f3 l3 X3 C3 F3 => ?_)⟩
  refine cs_pt X3 (Nat.le_of_ble_eq_true rfl) (fun M3' X3' F3' => cs_pt X3' (Nat.le_of_ble_eq_true rfl) (fun M3'' X3'' F3'' => ?_))
  refine ⟨by omega, by omega, cs_mn X3'' (Nat.le_of_ble_eq_true rfl) (show (16 : Int32) = nI 16 from rfl) (show (3 : Int32) = nI 3 from rfl) (by decide) (by decide) (fun a4 M4 f4 l4 X4 C4 D4 F4 => ?_)⟩
  refine ⟨by omega, by omega, cs_mn X4 (Nat.le_of_ble_eq_true rfl) (show (16 : Int32) = nI 16 from rfl) (show (3 : Int32) = nI 3 from rfl) (by decide) (by decide) (fun a5 M5 f5 l5 X5 C5 D5 F5 => ?_)⟩
  refine ⟨by omega, by omega, cs_mn X5 (Nat.le_of_ble_eq_true rfl) (show (16 : Int32) = nI 16 from rfl) (show (3 : Int32) = nI 3 from rfl) (by decide) (by decide) (fun a6 M6 f6 l6 X6 C6 D6 F6 => ?_)⟩
  refine ⟨by omega, by omega, cs_na X6 (Nat.le_of_ble_eq_true rfl) (show (16 : Int32) = nI 16 from rfl) (by decide) (fun a7 M7 f7 l7 X7 C7 F7 => ?_)⟩
  refine ⟨by omega, by omega, ?_⟩
  have r2 : a1 < a2 := fr_lt C1 f2
  have r3 : a2 < a3 := fr_lt C2 f3
  have r4 : a3 < a4 := fr_lt (M := M3'') (by rw [F3'' a3 (by omega), F3' a3 (by omega)]; exact C3) f4
  have r5 : a4 + 16 < a5 := by have := fr_lt (D4 15 (by decide)) f5; omega
  have r6 : a5 + 16 < a6 := by have := fr_lt (D5 15 (by decide)) f6; omega
  have r7 : a6 + 16 < a7 := by have := fr_lt (D6 15 (by decide)) f7; omega
  have G7 : ∀ b, b ≠ x0 → b < a7 → M7 b = M6 b := fun b h1 h2 => F7 b h1 (by omega)
  have G6 : ∀ b, b ≠ x0 → b < a6 → M7 b = M5 b := fun b h1 h2 => (G7 b h1 (by omega)).trans (F6 b h1 (by omega))
  have G5 : ∀ b, b ≠ x0 → b < a5 → M7 b = M4 b := fun b h1 h2 => (G6 b h1 (by omega)).trans (F5 b h1 (by omega))
  have G4 : ∀ b, b ≠ x0 → b < a4 → M7 b = M3 b := fun b h1 h2 => (G5 b h1 (by omega)).trans ((F4 b h1 (by omega)).trans ((F3'' b h1).trans (F3' b h1)))
  have G3 : ∀ b, b ≠ x0 → b < a3 → M7 b = M2 b := fun b h1 h2 => (G4 b h1 (by omega)).trans (F3 b h1 (by omega))
  have G2 : ∀ b, b ≠ x0 → b < a2 → M7 b = M1 b := fun b h1 h2 => (G3 b h1 (by omega)).trans (F2 b h1 (by omega))
  have G1 : ∀ b, b ≠ x0 → b < a1 → M7 b = M b := fun b h1 h2 => (G2 b h1 (by omega)).trans (F1 b h1 (by omega))
  refine hK (fun k => if k = 1 then a1 else if k = 2 then a2 else if k = 3 then a3 else if k = 4 then a4 else if k = 5 then a5 else if k = 6 then a6 else a7) M7 ⟨X7, ?_, ?_, ?_, C7, ⟨l1, r2, r3, r4, r5, r6, r7⟩, f1, fun b h1 h2 => G1 b h2 h1⟩
  · intro k k1 k2
    have : k = 1 ∨ k = 2 ∨ k = 3 := by omega
    rcases this with rfl | rfl | rfl
    · exact (G2 a1 (by omega) r2).trans C1
    · exact (G3 a2 (by omega) r3).trans C2
    · exact (G4 a3 (by omega) r4).trans C3
  · intro k k1 k2
    have : k = 4 ∨ k = 5 ∨ k = 6 := by omega
    rcases this with rfl | rfl | rfl
    · exact (G5 a4 (by omega) (by omega)).trans C4
    · exact (G6 a5 (by omega) (by omega)).trans C5
    · exact (G7 a6 (by omega) (by omega)).trans C6
  · intro k j k1 k2 hj
    have : k = 4 ∨ k = 5 ∨ k = 6 := by omega
    rcases this with rfl | rfl | rfl
    · exact (G5 (a4 + 1 + j) (by omega) (by omega)).trans (D4 j hj)
    · exact (G6 (a5 + 1 + j) (by omega) (by omega)).trans (D5 j hj)
    · exact (G7 (a6 + 1 + j) (by omega) (by omega)).trans (D6 j hj)
end CON
