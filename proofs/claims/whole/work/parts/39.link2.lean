section LN2
variable {g : Nat → ClassId} {e0 : Nat → Nat} {A A' : hs_A} {h h' : hs_S} {M M' : mo_M}
theorem l2_L_init {K : mo_M → Prop} {x0 a1 a2 mc ms : Nat} {x3 : Int32} (hx : M x0 = some (.inr (2, [.null, .null, .int 0, .null, .null, .int 0]))) (hx3 : x3 = 0 ∨ x3 = 1) (hm : 19 ≤ mc) (hs : 80 ≤ ms) (hK : ∀ q1 q5 M', x0 < q1 → q1 < q5 → M' x0 = some (.inr (2, [.ref a1, .ref a2, .int x3, .ref q1, .ref q5, .int 0])) → M' q1 = some (.inr (5, [.int 0, .ref (e0 0), .int 0])) → M' q5 = some (.inl (g 4, 16, hs_rf (fun i => if i < 16 then some (q5 + 1 + i) else none))) → (∀ j, j < 16 → M' (q5 + 1 + j) = some (.inl (g 1, 3, .inr (.inl (fun _ => 0))))) → (∀ b, b < q1 → b ≠ x0 → M' b = M b) → K M') : pp_L_init g e0 mc ms K M x0 a1 a2 x3 := by
  have c3 : ((3 : Int32)).toNatClampNeg = 3 := rfl
  have c16 : ((16 : Int32)).toNatClampNeg = 16 := rfl
  unfold pp_L_init
  simp only [c3, c16]
  refine ⟨by omega, by omega, fun q1 f1 => ⟨by omega, by omega, ?_⟩⟩
  have l1 := fr_lt hx f1
  unfold pp_A_init pp_AL_init pp_AC_init
  refine cs_pt (va_up_self _ _ _) (Nat.le_of_ble_eq_true rfl) (fun Ma Xa Fa => cs_pt Xa (Nat.le_of_ble_eq_true rfl) (fun Mb Xb Fb => ?_))
  have hx1 : Mb x0 = some (.inr (2, [.null, .null, .int 0, .null, .null, .int 0])) := by rw [Fb x0 (by omega), Fa x0 (by omega), va_up_ne _ _ (by omega)]; exact hx
  refine cs_pt hx1 (Nat.le_of_ble_eq_true rfl) (fun M4 X4 F4 => ⟨by omega, by omega, ?_⟩)
  have C1 : M4 q1 = some (.inr (5, [.int 0, .ref (e0 0), .int 0])) := by rw [F4 q1 (by omega)]; exact Xb
  refine cs_mn X4 (Nat.le_of_ble_eq_true rfl) (show (16 : Int32) = nI 16 from rfl) (show (3 : Int32) = nI 3 from rfl) (by decide) (by decide) (fun q5 M5 f5 l5 X5 C5 D5 F5 => ?_)
  have r15 : q1 < q5 := fr_lt C1 f5
  refine cs_pt X5 (Nat.le_of_ble_eq_true rfl) (fun M6 X6 F6 => cs_pt X6 (Nat.le_of_ble_eq_true rfl) (fun M7 X7 F7 => cs_pt X7 (Nat.le_of_ble_eq_true rfl) (fun M8 X8 F8 => ⟨?_, cs_pt X8 (Nat.le_of_ble_eq_true rfl) (fun M9 X9 F9 => ⟨by omega, by omega, ?_⟩)⟩)))
  · rcases hx3 with rfl | rfl <;> exact ⟨rfl, rfl⟩
  · have G : ∀ b, b ≠ x0 → M9 b = M5 b := fun b hb => by rw [F9 b hb, F8 b hb, F7 b hb, F6 b hb]
    refine hK q1 q5 M9 l1 r15 X9 ?_ ?_ ?_ ?_
    · rw [G q1 (by omega), F5 q1 (by omega) (by omega)]; exact C1
    · rw [G q5 (by omega)]; exact C5
    · intro j hj
      rw [G _ (by omega)]; exact D5 j hj
    · intro b b1 b2
      rw [G b b2, F5 b b2 (by omega), F4 b b2, Fb b (by omega), Fa b (by omega), va_up_ne _ _ (by omega)]
theorem l2_lpush {K : Int32 → mo_M → Prop} {mc ms : Nat} (H : hs_in g e0 A h M) (o : hs_ok h) (h7 : hs_n h 7 0 = hs_n h 1 0 + 1) (hn : hs_n h 1 0 < 12) (hm : 1 ≤ mc) (hs : 20 ≤ ms) (hK : ∀ A' M', hs_sm A A' → hs_in g e0 A' (hc_lp h) M' → K 1 M') : pp_A_add0 g e0 mc ms K M (A 20 12 0) (A 19 (hs_n h 1 0) 0) := by
  have hcap := o.2.2.2.2 12 (Or.inr rfl)
  rw [hs_z12] at hcap
  have ha := hs_20 H (Or.inr rfl)
  rw [hs_z12] at ha
  refine l2_add (cap := hs_n h 5 12) (f := fun p => if p < hs_n h 1 0 then some (A 19 p 0) else none) ha ?_ hcap.1 hcap.2 ?_ ?_ ?_ ?_ (fun M' d' S => hK (hs_dA A d') M' (fun f i j z _ _ => if_neg (fun y => z y.1)) (hs_lp H o h7 S))
  · by_cases hc0 : hs_n h 5 12 = 0
    · refine Or.inl ⟨hc0, by rw [if_pos hc0], funext fun p => ?_⟩
      rw [if_neg (by omega)]
    · have := hs_21 H (i := 12) (Or.inr rfl) (by omega)
      refine Or.inr ⟨by omega, ?_⟩
      rw [if_neg hc0]
      exact this
  · intro p hp
    rw [if_neg (by omega)]
  · intro p y hy
    by_cases hp : p < hs_n h 1 0
    · rw [if_pos hp] at hy
      cases hy
      exact Or.inl ⟨_, hm_19 H (by omega)⟩
    · rw [if_neg hp] at hy
      cases hy
  · exact Or.inl ⟨_, hm_19 H (by omega)⟩
  · intro hfull
    refine ⟨hm, ?_⟩
    unfold ls_nc
    split <;> (try split) <;> omega
/-- link over the state -/
def hc_link (h : hs_S) (x1 x2 x3 : Int32) : Int32 × hs_S := match ix_n x1 (hs_n h 0 0), ix_n x2 (hs_n h 0 0) with
  | some a, some b => if ¬ x1 = x2 ∧ hs_n h 1 0 < 12 ∧ hs_n h 2 0 = 0 then (nI (hs_n h 1 0), hc_lp (hc_lk h (hs_n h 1 0) a b x3)) else (-1, h)
  | _, _ => (-1, h)
/-- the books agree but for links, queues, the hand and what is kept -/
def hs_s9 (A A' : hs_A) : Prop := ∀ f i j, f < 19 ∨ 26 < f → A' f i j = A f i j
theorem l2_link {K : Int32 → mo_M → Prop} {mc ms : Nat} {x1 x2 x3 : Int32} (H : hs_in g e0 A h M) (o : hs_ok h) (h7 : hs_n h 7 0 = hs_n h 1 0) (hx3 : x3 = 0 ∨ x3 = 1) (hm : 22 ≤ mc) (hs : 120 ≤ ms) (hK : ∀ A' M', hs_s9 A A' → hs_in g e0 A' (hc_link h x1 x2 x3).2 M' → K (hc_link h x1 x2 x3).1 M') : pp_H_link g e0 mc ms K M (A 0 0 0) x1 x2 x3 := by
  have rf : hs_s9 A A := fun _ _ _ _ => rfl
  unfold pp_H_link
  unfold hc_link at hK
  refine ⟨by omega, by omega, ⟨_, hs_0 H⟩, l2_hasKiosk H o (zb_br (fun q => ⟨by omega, by omega, ?_⟩) (fun q => ⟨by omega, by omega, ⟨_, hs_0 H⟩, l2_hasKiosk H o (zb_br (fun r => ⟨by omega, by omega, ?_⟩) (fun r => ?_))⟩))⟩
  · rw [Option.isSome_eq_false_iff, Option.isNone_iff_eq_none] at q
    rw [q] at hK
    exact hK A M rf H
  · rw [Option.isSome_eq_false_iff, Option.isNone_iff_eq_none] at r
    rw [r] at hK
    generalize ix_n x1 (hs_n h 0 0) = z at hK
    cases z <;> exact hK A M rf H
  · obtain ⟨a, ha⟩ := Option.isSome_iff_exists.mp q
    obtain ⟨b, hb⟩ := Option.isSome_iff_exists.mp r
    rw [ha, hb] at hK
    dsimp only at hK
    obtain ⟨ea, la⟩ := (ix_some (hs_okK o)).mp ha
    obtain ⟨eb, lb⟩ := (ix_some (hs_okK o)).mp hb
    have o2 := o.2.1
    have oN := hs_okN o
    refine ⟨fun z => ⟨by omega, by omega, ?_⟩, fun z => ?_⟩
    · rw [if_neg (fun y => y.1 z)] at hK
      exact hK A M rf H
    · refine mq_gr (hs_0 H) rfl ⟨by omega, by omega, ⟨_, hs_20 H (Or.inr rfl)⟩, l2_size H (Or.inr rfl) ?_⟩
      rw [hs_z12]
      refine le_br (a := 12) (b := hs_n h 1 0) (by decide) (by omega) (fun w => ⟨by omega, by omega, ?_⟩) (fun w => ?_)
      · rw [if_neg (fun y => by have := y.2.1; omega)] at hK
        exact hK A M rf H
      · refine mq_gi (hs_0 H) rfl (le_br (a := hs_n h 2 0) (b := 0) oN (by decide) (fun u => ?_) (fun u => ⟨by omega, by omega, ?_⟩))
        · have u0 : hs_n h 2 0 = 0 := by omega
          rw [if_pos ⟨z, w, u0⟩] at hK
          refine mq_gr (hs_0 H) rfl ⟨by omega, by omega, fun q10 hq => ?_⟩
          have n0 := hs_nq (f := 0) (i := 0) (j := 0) H rfl hq
          have n1 := hs_nq (f := 1) (i := 0) (j := 0) H rfl hq
          obtain ⟨c9, hc9⟩ : ∃ c : Nat, c = 19 := ⟨_, rfl⟩
          obtain ⟨t8, ht8⟩ : ∃ t : Nat, t = 80 := ⟨_, rfl⟩
          refine mq_gr ((va_up_ne _ _ n0).trans (hs_0 H)) rfl (mq_aq ((va_up_ne _ _ n1).trans (hs_1 H)) ea la (hs_okK o) rfl (mq_gr ((va_up_ne _ _ n0).trans (hs_0 H)) rfl (mq_aq ((va_up_ne _ _ n1).trans (hs_1 H)) eb lb (hs_okK o) rfl ⟨c9, t8, by omega, by omega, ?_⟩)))
          have hc9' : 19 ≤ c9 := Nat.le_of_eq hc9.symm
          have ht8' : 80 ≤ t8 := Nat.le_of_eq ht8.symm
          refine l2_L_init (va_up_self _ _ _) hx3 hc9' ht8' (fun q1 q5 M2 r1 r2 X1 C1 C5 D5 F => ?_)
          have H2 := hs_lk (L := hs_n h 1 0) (k1 := a) (k2 := b) (x := x3) H h7 w hq r1 r2 X1 C1 C5 D5 (fun b' hb' => by rw [F b' (by omega) (by omega), va_up_ne _ _ (by omega)])
          have e12 : ∀ c, hs_lA A (hs_n h 1 0) q10 q1 q5 20 12 c = A 20 12 c := fun c => by
            unfold hs_lA
            rw [if_neg (by omega), if_neg (by omega), if_neg (by omega), if_neg (by omega)]
          have e0' : hs_lA A (hs_n h 1 0) q10 q1 q5 0 0 0 = A 0 0 0 := by
            unfold hs_lA
            rw [if_neg (by omega), if_neg (by omega), if_neg (by omega), if_neg (by omega)]
          have e19 : hs_lA A (hs_n h 1 0) q10 q1 q5 19 (hs_n h 1 0) 0 = q10 := by unfold hs_lA; rw [if_pos ⟨rfl, rfl⟩]
          have s9 : hs_s9 A (hs_lA A (hs_n h 1 0) q10 q1 q5) := fun f i j hf => by
            unfold hs_lA
            rw [if_neg (by omega), if_neg (by omega), if_neg (by omega), if_neg (by omega)]
          have m1 : hs_n (hc_lk h (hs_n h 1 0) a b x3) 1 0 = hs_n h 1 0 := lk_no _ _ _ _ _ (by decide) (by decide) (by decide) (by decide)
          have m7 : hs_n (hc_lk h (hs_n h 1 0) a b x3) 7 0 = hs_n h 1 0 + 1 := by rw [lk_n, if_neg (by omega), if_neg (by omega), if_neg (by omega), if_pos ⟨rfl, rfl⟩]
          have o2' : hs_ok (hc_lk h (hs_n h 1 0) a b x3) := by
            obtain ⟨p1, p2, p3, p4, p5⟩ := o
            have m0 : hs_n (hc_lk h (hs_n h 1 0) a b x3) 0 0 = hs_n h 0 0 := lk_no _ _ _ _ _ (by decide) (by decide) (by decide) (by decide)
            have m2 : hs_n (hc_lk h (hs_n h 1 0) a b x3) 2 0 = hs_n h 2 0 := lk_no _ _ _ _ _ (by decide) (by decide) (by decide) (by decide)
            refine ⟨by rw [m0]; exact p1, by rw [m1]; exact p2, by rw [m2]; exact p3, fun l hl => ?_, fun l hl => ?_⟩
            · rw [m1] at hl
              rw [m0, lk_n, lk_n, if_neg (by omega), if_neg (by omega), if_neg (by omega), if_neg (by omega), if_neg (by omega), if_neg (by omega), if_neg (by omega), if_neg (by omega)]
              exact p4 l hl
            · rw [m1] at hl
              have e5 : hs_n (hc_lk h (hs_n h 1 0) a b x3) 5 l = hs_n h 5 l := by rw [lk_n, if_neg (by omega), if_neg (by omega), if_neg (by omega), if_neg (by omega)]
              have ez : hs_z (hc_lk h (hs_n h 1 0) a b x3) l = hs_z h l := by
                by_cases l12 : l = 12
                · subst l12
                  rw [hs_z12, hs_z12, m1]
                · rw [hs_zl _ l12, hs_zl _ l12, lk_q, if_neg (by omega)]
              rw [e5, ez]
              exact p5 l hl
          rw [← e19, ← e12 0, ← e0']
          have e19' : hs_lA A (hs_n h 1 0) q10 q1 q5 19 (hs_n (hc_lk h (hs_n h 1 0) a b x3) 1 0) 0 = hs_lA A (hs_n h 1 0) q10 q1 q5 19 (hs_n h 1 0) 0 := by rw [m1]
          rw [← e19']
          have m7' : hs_n (hc_lk h (hs_n h 1 0) a b x3) 7 0 = hs_n (hc_lk h (hs_n h 1 0) a b x3) 1 0 + 1 := by rw [m1]; exact m7
          have hn12 : hs_n (hc_lk h (hs_n h 1 0) a b x3) 1 0 < 12 := by rw [m1]; exact w
          have fin := fun A' M' (sm : hs_sm (hs_lA A (hs_n h 1 0) q10 q1 q5) A') => hK A' M' (fun f i j hf => (sm f i j (by omega) (by omega) (by omega)).trans (s9 f i j hf))
          generalize hs_lA A (hs_n h 1 0) q10 q1 q5 = A2 at *
          have m1' : nI (hs_n (hc_lk h (hs_n h 1 0) a b x3) 1 0 + 1) - 1 = nI (hs_n h 1 0) := by rw [m1]; exact nI_pred _
          generalize hc_lk h (hs_n h 1 0) a b x3 = h2 at *
          obtain ⟨t2, ht2⟩ : ∃ t : Nat, t = 20 := ⟨_, rfl⟩
          refine ⟨1, t2, by omega, by omega, ⟨_, hs_20 H2 (Or.inr rfl)⟩, l2_lpush H2 o2' m7' hn12 (Nat.le_refl 1) (Nat.le_of_eq ht2.symm) (fun A' M' sm H' => ?_)⟩
          rw [← sm 0 0 0 (by decide) (by decide) (by decide)]
          refine mq_gr (hs_0 H') rfl ⟨by omega, by omega, ⟨_, hs_20 H' (Or.inr rfl)⟩, l2_size H' (Or.inr rfl) ⟨by omega, by omega, ?_⟩⟩
          have ez : hs_z (hc_lp h2) 12 = hs_n h2 1 0 + 1 := rfl
          rw [ez, m1']
          exact fin A' M' sm H'
        · rw [if_neg (fun y => by have := y.2.2; omega)] at hK
          exact hK A M rf H
end LN2
