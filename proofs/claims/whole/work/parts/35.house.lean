section HOU
variable {g : Nat → ClassId} {e0 : Nat → Nat} {A A' : hs_A} {h : hs_S} {M M' : mo_M}
def ck_n (x : Int32) : Nat := if x.toInt < 1 then 1 else if 6 < x.toInt then 6 else x.toInt.toNat
theorem ck_b (x : Int32) : 1 ≤ ck_n x ∧ ck_n x ≤ 6 := by
  unfold ck_n
  split
  · exact ⟨by omega, by omega⟩
  · split
    · exact ⟨by omega, by omega⟩
    · exact ⟨by omega, by omega⟩
theorem ck_i (x : Int32) : (nI (ck_n x)).toInt = if x.toInt < 1 then 1 else if 6 < x.toInt then 6 else x.toInt := by
  have hb := ck_b x
  rw [nI_toInt (by omega)]
  unfold ck_n
  split
  · rfl
  · split
    · rfl
    · omega
theorem ck_h (x : Int32) : (if (1 : Int32) < (if x < (6 : Int32) then x else (6 : Int32)) then (if x < (6 : Int32) then x else (6 : Int32)) else (1 : Int32)) = nI (ck_n x) := by
  have e1 : (1 : Int32).toInt = 1 := by decide
  have e6 : (6 : Int32).toInt = 6 := by decide
  apply Int32.toInt_inj.mp
  rw [ck_i]
  by_cases h6 : x < 6
  · have h6' := Int32.lt_iff_toInt_lt.mp h6
    rw [if_pos h6]
    by_cases h1 : (1 : Int32) < x
    · have h1' := Int32.lt_iff_toInt_lt.mp h1
      rw [if_pos h1, if_neg (by omega), if_neg (by omega)]
    · have h1' := mt Int32.lt_iff_toInt_lt.mpr h1
      rw [if_neg h1]
      split
      · exact e1
      · rw [if_neg (by omega)]
        omega
  · have h6' := mt Int32.lt_iff_toInt_lt.mpr h6
    rw [if_neg h6, if_pos (by decide), if_neg (by omega)]
    split
    · exact e6
    · omega
/-- a new house, and the reference's rows as they begin -/
def hc_new (K : Nat) : hs_S := (fun _ _ _ _ => 0, fun f _ _ n => if (f = 5 ∨ f = 7) ∧ n < 3 then 1 else if (f = 34 ∨ f = 35) ∧ n < 9 then 1 else if f = 30 ∧ n = 1 then nI K else 0, fun _ => [], fun f i => if f = 0 ∧ i = 0 then K else 0)
/-- the names of k kiosks -/
def kP (k f i j : Nat) : Prop := (8 ≤ f ∧ f ≤ 15 ∧ j = 0 ∨ 16 ≤ f ∧ f ≤ 18 ∧ j < 16) ∧ i < k
def kB (x0 : Nat) (a : Nat → Nat) (f j : Nat) : Nat := if f = 8 then x0 else if f ≤ 15 then a (f - 8) else a (f - 12) + 1 + j
theorem f_cs {f : Nat} (h1 : 8 ≤ f) (h2 : f ≤ 18) : f = 8 ∨ f = 9 ∨ f = 10 ∨ f = 11 ∨ f = 12 ∨ f = 13 ∨ f = 14 ∨ f = 15 ∨ f = 16 ∨ f = 17 ∨ f = 18 := by omega
theorem kE {f i j : Nat} (hA : ∀ f j, 8 ≤ f → f ≤ 18 → A' f i j = A f i j) (h1 : 8 ≤ f) (h2 : f ≤ 18) : hs_e g e0 A' h f i j = hs_e g e0 A h f i j := by
  rcases f_cs h1 h2 with rfl | rfl | rfl | rfl | rfl | rfl | rfl | rfl | rfl | rfl | rfl
  · simp only [hs_e, hs_c, hs_o, hA 9 0 (by decide) (by decide), hA 10 0 (by decide) (by decide), hA 11 0 (by decide) (by decide), hA 12 0 (by decide) (by decide), hA 13 0 (by decide) (by decide), hA 14 0 (by decide) (by decide), hA 15 0 (by decide) (by decide)]
    rfl
  · rfl
  · rfl
  · rfl
  · simp only [hs_e, hs_c, hs_o, fun n => hA 16 n (by decide) (by decide)]
    rfl
  · simp only [hs_e, hs_c, hs_o, fun n => hA 17 n (by decide) (by decide)]
    rfl
  · simp only [hs_e, hs_c, hs_o, fun n => hA 18 n (by decide) (by decide)]
    rfl
  · rfl
  · rfl
  · rfl
  · rfl
theorem kB_inj {x0 f j f' j' : Nat} {a : Nat → Nat} (r : x0 < a 1 ∧ a 1 < a 2 ∧ a 2 < a 3 ∧ a 3 < a 4 ∧ a 4 + 16 < a 5 ∧ a 5 + 16 < a 6 ∧ a 6 + 16 < a 7) (h1 : 8 ≤ f ∧ f ≤ 15 ∧ j = 0 ∨ 16 ≤ f ∧ f ≤ 18 ∧ j < 16) (h2 : 8 ≤ f' ∧ f' ≤ 15 ∧ j' = 0 ∨ 16 ≤ f' ∧ f' ≤ 18 ∧ j' < 16) (e : kB x0 a f j = kB x0 a f' j') : f = f' ∧ j = j' := by
  obtain ⟨r1, r2, r3, r4, r5, r6, r7⟩ := r
  unfold kB at e
  rcases f_cs (f := f) (by omega) (by omega) with rfl | rfl | rfl | rfl | rfl | rfl | rfl | rfl | rfl | rfl | rfl <;> rcases f_cs (f := f') (by omega) (by omega) with rfl | rfl | rfl | rfl | rfl | rfl | rfl | rfl | rfl | rfl | rfl <;> simp at e <;> omega
theorem kB_ge {x0 f j : Nat} {a : Nat → Nat} (r : x0 < a 1 ∧ a 1 < a 2 ∧ a 2 < a 3 ∧ a 3 < a 4 ∧ a 4 + 16 < a 5 ∧ a 5 + 16 < a 6 ∧ a 6 + 16 < a 7) (h1 : 8 ≤ f ∧ f ≤ 18) : x0 ≤ kB x0 a f j := by
  obtain ⟨r1, r2, r3, r4, r5, r6, r7⟩ := r
  unfold kB
  rcases f_cs (f := f) (by omega) (by omega) with rfl | rfl | rfl | rfl | rfl | rfl | rfl | rfl | rfl | rfl | rfl <;> simp <;> omega
/-- rates as the loops set them -/
def rt_f (i c d : Nat) : Nat → Int32 := fun n => if n < 3 ∧ (i < c ∨ (i = c ∧ n < d)) then 1 else 0
def rt_I (g : Nat → ClassId) (M0 : mo_M) (x0 q1 q5 q8 q12 : Nat) (M : mo_M) (c d : Nat) : Prop := M x0 = some (.inr (0, [.ref q12, .ref q1, .ref q5, .ref q8, .int 0])) ∧ M q5 = some (.inl (g 5, 3, hs_rf (fun i => if i < 3 then some (q5 + 1 + i) else none))) ∧ M q8 = some (.inl (g 5, 3, hs_rf (fun i => if i < 3 then some (q8 + 1 + i) else none))) ∧ (∀ i, i < 3 → M (q5 + 1 + i) = some (.inl (g 0, 3, .inl (rt_f i c d)))) ∧ (∀ i, i < 3 → M (q8 + 1 + i) = some (.inl (g 0, 3, .inl (rt_f i c d)))) ∧ (∀ b, q12 ≤ b ∨ b = q1 → M b = M0 b)
theorem rt_up {c d : Nat} (hd : d < 3) : upd (rt_f c c d) d 1 = rt_f c c (d + 1) := by
  funext n
  unfold upd rt_f
  by_cases q : n = d
  · rw [if_pos q, if_pos (by omega)]
  · rw [if_neg q]
    by_cases r : n < 3 ∧ (c < c ∨ (c = c ∧ n < d))
    · rw [if_pos r, if_pos (by omega)]
    · rw [if_neg r, if_neg (by omega)]
theorem rt_ne {i c d : Nat} (hi : i ≠ c) : rt_f i c d = rt_f i c (d + 1) := by
  funext n
  unfold rt_f
  by_cases r : n < 3 ∧ (i < c ∨ (i = c ∧ n < d))
  · rw [if_pos r, if_pos (by omega)]
  · rw [if_neg r, if_neg (by omega)]
theorem rt_nx (i c : Nat) : rt_f i c 3 = rt_f i (c + 1) 0 := by
  funext n
  unfold rt_f
  by_cases r : n < 3 ∧ (i < c ∨ (i = c ∧ n < 3))
  · rw [if_pos r, if_pos (by omega)]
  · rw [if_neg r, if_neg (by omega)]
theorem l2_rt96 {K : mo_M → Prop} {B : mo_M → Nat → Nat → Nat → Int32 → Prop} {M0 : mo_M} {x0 q1 q5 q8 q12 mc ms cu su c : Nat} (r : x0 < q1 ∧ q1 < q5 ∧ q5 + 3 < q8 ∧ q8 + 3 < q12) (hc : c < 3) : ∀ (m d : Nat) (M : mo_M), d + m = 3 → rt_I g M0 x0 q1 q5 q8 q12 M c d → (∀ M', rt_I g M0 x0 q1 q5 q8 q12 M' c 3 → B M' cu su x0 (nI c + 1)) → pp_H_init_b96 g e0 mc ms K B (m + 1) M cu su x0 (nI c) (nI d)
  | 0, d, M, hd, R, hK => by
    have e : d = 3 := by omega
    subst e
    unfold pp_H_init_b96
    exact le_br (a := 3) (b := 3) (by decide) (by decide) (fun q => hK M R) (fun q => absurd q (by omega))
  | m + 1, d, M, hd, R, hK => by
    obtain ⟨r1, r2, r3, r4⟩ := r
    unfold pp_H_init_b96
    refine le_br (a := 3) (b := d) (by decide) (by omega) (fun q => absurd q (by omega)) (fun q => ?_)
    obtain ⟨R1, R2, R3, R4, R5, R6⟩ := R
    refine mq_gr R1 rfl (mq_aq R2 rfl hc (by decide) rfl (mq_si (R4 c hc) rfl q (by decide) ?_))
    rw [rt_up q]
    have n1 : x0 ≠ q5 + 1 + c := by omega
    have n2 : q8 ≠ q5 + 1 + c := by omega
    refine mq_gr ((va_up_ne _ _ n1).trans R1) rfl (mq_aq ((va_up_ne _ _ n2).trans R3) rfl hc (by decide) rfl (mq_si ((va_up_ne _ _ (show q8 + 1 + c ≠ q5 + 1 + c by omega)).trans (R5 c hc)) rfl q (by decide) ?_))
    rw [rt_up q, nI_1]
    refine l2_rt96 ⟨r1, r2, r3, r4⟩ hc m (d + 1) _ (by omega) ⟨?_, ?_, ?_, ?_, ?_, ?_⟩ hK
    · rw [va_up_ne _ _ (by omega), va_up_ne _ _ (by omega)]; exact R1
    · rw [va_up_ne _ _ (by omega), va_up_ne _ _ (by omega)]; exact R2
    · rw [va_up_ne _ _ (by omega), va_up_ne _ _ (by omega)]; exact R3
    · intro i hi
      rw [va_up_ne _ _ (by omega)]
      by_cases y : i = c
      · subst y; rw [va_up_self]
      · rw [va_up_ne _ _ (by omega), R4 i hi, rt_ne y]
    · intro i hi
      by_cases y : i = c
      · subst y; rw [va_up_self]
      · rw [va_up_ne _ _ (by omega), va_up_ne _ _ (by omega), R5 i hi, rt_ne y]
    · intro b hb
      rw [va_up_ne _ _ (by omega), va_up_ne _ _ (by omega)]; exact R6 b hb
theorem l2_rt89 {K : mo_M → Prop} {M0 : mo_M} {x0 q1 q5 q8 q12 mc ms cu su : Nat} (r : x0 < q1 ∧ q1 < q5 ∧ q5 + 3 < q8 ∧ q8 + 3 < q12) (hm : cu ≤ mc) (hs : su ≤ ms) : ∀ (m c : Nat) (M : mo_M), c + m = 3 → rt_I g M0 x0 q1 q5 q8 q12 M c 0 → (∀ M', rt_I g M0 x0 q1 q5 q8 q12 M' 3 0 → K M') → pp_H_init_b89 g e0 mc ms K (m + 1) M cu su x0 (nI c)
  | 0, c, M, hc, R, hK => by
    have e : c = 3 := by omega
    subst e
    unfold pp_H_init_b89
    exact le_br (a := 3) (b := 3) (by decide) (by decide) (fun q => ⟨hm, hs, hK M R⟩) (fun q => absurd q (by omega))
  | m + 1, c, M, hc, R, hK => by
    unfold pp_H_init_b89
    refine le_br (a := 3) (b := c) (by decide) (by omega) (fun q => absurd q (by omega)) (fun q => ⟨4, ?_⟩)
    refine l2_rt96 r q 3 0 M rfl R (fun M' R' => ?_)
    rw [nI_1]
    refine l2_rt89 r hm hs m (c + 1) M' (by omega) ?_ hK
    obtain ⟨R1, R2, R3, R4, R5, R6⟩ := R'
    exact ⟨R1, R2, R3, fun i hi => by rw [← rt_nx]; exact R4 i hi, fun i hi => by rw [← rt_nx]; exact R5 i hi, R6⟩
end HOU
