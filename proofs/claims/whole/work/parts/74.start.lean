section STT
variable {g : Nat → ClassId} {e0 : Nat → Nat} {n : Nat}
theorem nw_ri {f : Nat} (h1 : 30 ≤ f) (h2 : f ≤ 50) : ri (rf (hc_new n)) f = hs_i (hc_new n) f 0 0 := if_pos ⟨h1, h2⟩
theorem nw_30 (k : Nat) : ri (rf (hc_new n)) 30 k = if k = 1 then nI n else 0 := by
  rw [nw_ri (by decide) (by decide)]
  show (if ((30 : Nat) = 5 ∨ (30 : Nat) = 7) ∧ k < 3 then (1 : Int32) else if ((30 : Nat) = 34 ∨ (30 : Nat) = 35) ∧ k < 9 then 1 else if (30 : Nat) = 30 ∧ k = 1 then nI n else 0) = _
  rw [if_neg (by omega), if_neg (by omega)]
  by_cases y : k = 1
  · rw [if_pos ⟨rfl, y⟩, if_pos y]
  · rw [if_neg (fun z => y z.2), if_neg y]
theorem nw_z {f : Nat} (h1 : 31 ≤ f) (h2 : f ≤ 50) (h34 : f ≠ 34) (h35 : f ≠ 35) (k : Nat) : ri (rf (hc_new n)) f k = 0 := by
  rw [nw_ri (by omega) h2]
  show (if (f = 5 ∨ f = 7) ∧ k < 3 then (1 : Int32) else if (f = 34 ∨ f = 35) ∧ k < 9 then 1 else if f = 30 ∧ k = 1 then nI n else 0) = _
  rw [if_neg (by omega), if_neg (by omega), if_neg (by omega)]
theorem nw_34 {f k : Nat} (hf : f = 34 ∨ f = 35) (hk : k < 9) : ri (rf (hc_new n)) f k = 1 := by
  rw [nw_ri (by omega) (by omega)]
  show (if (f = 5 ∨ f = 7) ∧ k < 3 then (1 : Int32) else if (f = 34 ∨ f = 35) ∧ k < 9 then 1 else _) = _
  rw [if_neg (by omega), if_pos ⟨hf, hk⟩]
theorem nw_5 {f i j k : Nat} (hf : f = 5 ∨ f = 7) (hk : k < 3) : hs_i (hc_new n) f i j k = 1 := if_pos ⟨hf, hk⟩
theorem nw_c (hn : n ≤ 6) (k : Nat) : rc (rf (hc_new n)) k = if k = 1 then n else 0 := by
  unfold rc
  rw [nw_30]
  by_cases y : k = 1
  · rw [if_pos y, if_pos y]; exact ix_vn (by omega)
  · rw [if_neg y, if_neg y]; decide
theorem nw_iv (h1 : 1 ≤ n) (h6 : n ≤ 6) : iv (hc_new n) (rf (hc_new n)) 1000 := by
  have c := nw_c h6
  have c1 : rc (rf (hc_new n)) 1 = n := c 1
  have c2 : rc (rf (hc_new n)) 2 = 0 := c 2
  have c3 : rc (rf (hc_new n)) 3 = 0 := c 3
  have c4 : rc (rf (hc_new n)) 4 = 0 := c 4
  have c5 : rc (rf (hc_new n)) 5 = 0 := c 5
  have c6 : rc (rf (hc_new n)) 6 = 0 := c 6
  have z50 : ∀ k, ri (rf (hc_new n)) 50 k = 0 := nw_z (by decide) (by decide) (by decide) (by decide)
  have o : rr_ok (rf (hc_new n)) := by
    refine ⟨fun k hk1 hk2 => ?_, by rw [c1]; exact ⟨h1, h6⟩, by rw [c2]; decide, by rw [c3]; omega, by rw [c4]; omega, by rw [c5]; omega, by rw [c6]; omega, fun l hl => absurd hl (by omega), fun t ht => absurd ht (by omega), fun t ht => absurd ht (by omega), fun i hi => ?_⟩
    · rw [c k, nw_30]
      by_cases y : k = 1
      · rw [if_pos y, if_pos y]
      · rw [if_neg y, if_neg y, nI_0]
    · rw [nw_34 (Or.inr rfl) hi]; decide
  have ok : hs_ok (hc_new n) := ⟨⟨h1, h6⟩, Nat.zero_le _, Nat.zero_le _, fun l hl => absurd hl (Nat.not_lt_zero l), fun l hl => by
    rcases hl with hl | hl
    · exact absurd hl (Nat.not_lt_zero l)
    · subst hl
      show (0 : Nat) ≤ 0 ∧ (0 : Nat) < 100000
      omega⟩
  have rkf : ∀ k m, rk (rf (hc_new n)) k m = false := fun k m => by
    unfold rk
    rw [z50]
    decide
  refine ⟨⟨o, ok, rfl, c1, c3, c6⟩, fun l hl => absurd hl (by omega), ⟨fun a b ha hb => ?_, fun a b ha hb => ?_⟩, ⟨fun i hi => absurd hi (by omega), fun m k _ _ => ?_, fun t ht => absurd ht (by omega), fun t ht => absurd ht (by omega)⟩, fun k hk => ⟨fun d hd => ?_, ?_⟩, ⟨fun k hk => ?_, fun m k _ _ _ => z50 _⟩, fun m k _ _ hr => ?_, fun l hl => absurd hl (by omega), fun t ht => absurd ht (by omega), fun l m hl => absurd hl (by omega), fun l m d hl => absurd hl (by omega)⟩
  · rw [nw_5 (Or.inl rfl) hb, nw_5 (Or.inr rfl) hb]; decide
  · rw [nw_5 (Or.inl rfl) hb, nw_5 (Or.inr rfl) hb, nw_34 (Or.inl rfl) (by omega), nw_34 (Or.inr rfl) (by omega)]; exact ⟨rfl, rfl⟩
  · rw [z50]; exact ⟨0, Nat.zero_le _, nI_0.symm⟩
  · unfold mr_sm
    rw [c4]
    exact ⟨rfl, rfl, rfl⟩
  · unfold mr_es
    rw [c4]
    rfl
  · rw [bs_z (m := 0) (by decide) (fun i _ _ => rkf k i)]
    rfl
  · rw [rkf] at hr; cases hr
theorem nw_U (h6 : n ≤ 6) : m_U (rf (hc_new n)) = 192 := by
  unfold m_U
  have : sm_n (fun m => sm_n (m_uc (rf (hc_new n)) m) 12) 16 = sm_n (fun _ => sm_n (fun _ => 1) 12) 16 := sm_nc (fun m _ => sm_nc (fun l _ => if_neg (fun z => by have := z.1; rw [nw_c h6] at this; exact absurd this (Nat.not_lt_zero l))))
  rw [this]
  rfl
theorem nw_V : m_V (rf (hc_new n)) = 96 := by
  unfold m_V
  have z50 : ∀ k, ri (rf (hc_new n)) 50 k = 0 := nw_z (by decide) (by decide) (by decide) (by decide)
  have : sm_n (fun m => sm_n (fun k => if ri (rf (hc_new n)) 50 (6 * m + k) ≤ 0 then 1 else 0) 6) 16 = sm_n (fun _ => sm_n (fun _ => 1) 6) 16 := sm_nc (fun m _ => sm_nc (fun k _ => by rw [z50, if_pos (Int32.le_refl 0)]))
  rw [this]
  rfl
theorem nw_er : er (hc_new n) (rf (hc_new n)) := fun f h1 h2 => ⟨(if_pos (show 30 ≤ f ∧ f ≤ 50 from ⟨h1, h2⟩)).symm, (if_pos (show 30 ≤ f ∧ f ≤ 50 from ⟨h1, h2⟩)).symm⟩
theorem nw_ci : ci (hc_new n) := ⟨rfl, fun l hl => absurd hl (Nat.not_lt_zero l)⟩
set_option maxHeartbeats 2000000 in
/-- the law's predicate holds at its start -/
theorem lw_st {mc ms L b : Nat} {xs : Nat → Int32} {K : mo_M → Prop} (hmc : 20000 ≤ mc) (hms : 2200000 ≤ ms) (hL : L ≤ 2561) (hK : ∀ M, K M) : pp_W_law g e0 mc ms L xs b K (fun _ => none) := by
  unfold pp_W_law
  generalize (if L = 0 then (0 : Int32) else xs 0) = x
  obtain ⟨hn1, hn6⟩ := ck_b x
  obtain ⟨c4, hc4⟩ : ∃ t : Nat, t = 400 := ⟨_, rfl⟩
  obtain ⟨t5, ht5⟩ : ∃ t : Nat, t = 2000 := ⟨_, rfl⟩
  obtain ⟨c10, hc10⟩ : ∃ t : Nat, t = 30 := ⟨_, rfl⟩
  obtain ⟨t11, ht11⟩ : ∃ t : Nat, t = 14000 := ⟨_, rfl⟩
  obtain ⟨c0, hc0⟩ : ∃ t : Nat, t = 2737 := ⟨_, rfl⟩
  obtain ⟨s0, hs0⟩ : ∃ t : Nat, t = 1513633 := ⟨_, rfl⟩
  have one : ((1 : Int32)).toNatClampNeg = 1 := rfl
  refine ⟨by omega, by omega, fun q1 hq1 => ⟨by omega, by omega, c4, t5, by omega, by omega, l2_H_init (va_up_self _ _ _) (by omega) (by omega) (fun A M6 hA H6 => ⟨by omega, by omega, fun q7 hq7 => ⟨by omega, by omega, c10, t11, by omega, by omega, ?_⟩⟩)⟩⟩
  have hne : ∀ a b c, hP (ck_n x) a b c → A a b c ≠ q7 := fun a b c hp z => by
    have w := H6.1 a b c hp
    rw [z, hq7 q7 (Nat.le_refl _)] at w
    cases w
  have H8 : hs_pin g e0 (hP (ck_n x)) A (hc_new (ck_n x)) (va_up M6 q7 (some (.inr (4, [.int 0, .int 0, .int 0, .int 0, .null, .null, .null, .null, .null, .int 0, .null, .null, .null, .null, .null, .null, .null, .int 0, .null, .null, .null, .null, .null, .null, .null, .int 0, .null])))) := ⟨fun f i j hp => by rw [va_up_ne _ _ (hne f i j hp)]; exact H6.1 f i j hp, H6.2⟩
  refine l2_M_init H8 (fun a b c hp => by unfold hP kP at hp; omega) hne (va_up_self _ _ _) (by omega) (by omega) (fun A' M12 hA' h30 H12 => ⟨by omega, by rw [one]; omega, by decide, by decide, fun q13 hq13 => ⟨513, ?_⟩⟩)
  have HS := hs_start H12 hq13
  refine lw_loop (c0 := c0) (s0 := s0) (by omega) (by omega) hL hK 513 0 (hs_u A' 60 q13) (hc_new (ck_n x)) (rf (hc_new (ck_n x))) _ _ _ rfl (by omega) ⟨HS, nw_er, nw_iv hn1 hn6, nw_ci, ?_, ⟨?_, ?_⟩, ?_, ?_, ?_⟩
  · have d4 : rc (rf (hc_new (ck_n x))) 4 = 0 := nw_c hn6 4
    have d5 : rc (rf (hc_new (ck_n x))) 5 = 0 := nw_c hn6 5
    have d2 : rc (rf (hc_new (ck_n x))) 2 = 0 := nw_c hn6 2
    unfold bd
    rw [d4, d5, d2, nw_U hn6]
    omega
  · rw [nw_V]; omega
  · rw [nw_V, one]; omega
  · show A' 0 0 0 = q1
    rw [hA' 0 0 0 (by decide)]; exact hA
  · exact h30
  · rfl
end STT
