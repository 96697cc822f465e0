section CL6
variable {g : Nat → ClassId} {e0 : Nat → Nat} {A : hs_A} {h : hs_S} {M : mo_M}
/-- a rate is set -/
def hc_rt (h : hs_S) (c d : Nat) (a b : Int32) : hs_S := hs_si (hs_si h 5 c 0 (upd (hs_i h 5 c 0) d a)) 7 c 0 (upd (hs_i h 7 c 0) d b)
def hc_btw (x : Int32) : Bool := decide (¬ x < 1 ∧ ¬ 1000000 < x)
def hc_rate (h : hs_S) (x1 x2 x3 x4 : Int32) : Int32 × hs_S := match ix_n x1 3, ix_n x2 3 with
  | some c, some d => if ¬ x1 = x2 ∧ hc_btw x3 = true ∧ hc_btw x4 = true then (1, hc_rt h c d x3 x4) else (0, h)
  | _, _ => (0, h)
theorem l2_rate {K : Int32 → mo_M → Prop} {x1 x2 x3 x4 : Int32} (H : hs_in g e0 A h M) (hK : ∀ M', hs_in g e0 A (hc_rate h x1 x2 x3 x4).2 M' → K (hc_rate h x1 x2 x3 x4).1 M') : pp_H_rate g e0 K M (A 0 0 0) x1 x2 x3 x4 := by
  unfold pp_H_rate
  unfold hc_rate at hK
  refine l2_hasCurrency (zb_br (fun q => ⟨rfl, ?_⟩) (fun q => l2_hasCurrency (zb_br (fun r => ⟨rfl, ?_⟩) (fun r => ?_))))
  · rw [Option.isSome_eq_false_iff, Option.isNone_iff_eq_none] at q
    rw [q] at hK
    exact hK M H
  · rw [Option.isSome_eq_false_iff, Option.isNone_iff_eq_none] at r
    rw [r] at hK
    generalize ix_n x1 3 = z at hK
    cases z <;> exact hK M H
  · obtain ⟨c, hc⟩ := Option.isSome_iff_exists.mp q
    obtain ⟨d, hd⟩ := Option.isSome_iff_exists.mp r
    rw [hc, hd] at hK
    dsimp only at hK
    obtain ⟨e1, hc3⟩ := (ix_some (by decide)).mp hc
    obtain ⟨e2, hd3⟩ := (ix_some (by decide)).mp hd
    refine ⟨fun t => ⟨rfl, ?_⟩, fun t => l2_isBetween (zb_br (fun u => ⟨rfl, ?_⟩) (fun u => l2_isBetween (zb_br (fun w => ⟨rfl, ?_⟩) (fun w => ?_))))⟩
    · rw [if_neg (fun z => z.1 t)] at hK; exact hK M H
    · rw [if_neg (fun z => by have := z.2.1; unfold hc_btw at this; rw [this] at u; cases u)] at hK; exact hK M H
    · rw [if_neg (fun z => by have := z.2.2; unfold hc_btw at this; rw [this] at w; cases w)] at hK; exact hK M H
    · rw [if_pos ⟨t, u, w⟩] at hK
      refine mq_gr (hs_0 H) rfl (mq_aq (hs_4 H) e1 hc3 (by decide) rfl (mq_si (hs_5 H hc3) e2 hd3 (by decide) ?_))
      have H1 := hs_wi H (f := 5) (i := c) (j := 0) (by simp [hs_dom, hc3]) rfl (upd (hs_i h 5 c 0) d x3)
      refine mq_gr (hs_0 H1) rfl (mq_aq (hs_6 H1) e1 hc3 (by decide) rfl (mq_si (hs_7 H1 hc3) e2 hd3 (by decide) ⟨rfl, hK _ ?_⟩))
      exact hs_wi H1 (f := 7) (i := c) (j := 0) (by simp [hs_dom, hc3]) rfl (upd (hs_i h 7 c 0) d x4)
/-- the rates are as promise 3 has them -/
def hs_rok (h : hs_S) : Prop := ∀ c d, c < 3 → d < 3 → (1 ≤ (hs_i h 5 c 0 d).toInt ∧ (hs_i h 5 c 0 d).toInt ≤ 1000000) ∧ (1 ≤ (hs_i h 7 c 0 d).toInt ∧ (hs_i h 7 c 0 d).toInt ≤ 1000000)
def hc_got (h : hs_S) (c d : Nat) (x : Int32) : Int64 := (x.toInt64 * (hs_i h 5 c 0 d).toInt64) / (hs_i h 7 c 0 d).toInt64
def hc_exchange (h : hs_S) (x1 x2 x3 x4 : Int32) : Int32 × hs_S := match ix_n x1 (hs_n h 0 0), ix_n x2 3, ix_n x3 3 with
  | some k, some c, some d => if hc_can h k c x4 = true ∧ ¬ x2 = x3 then (1, hc_swap h k c x4.toInt64 d (hc_got h c d x4)) else (0, h)
  | _, _, _ => (0, h)
theorem xor_nn {x y : Int64} (hx : 0 ≤ x.toInt) (hy : 0 ≤ y.toInt) : 0 ≤ x ^^^ y := by
  rw [Int64.le_iff_toInt_le, Int64.toInt_zero]
  have hx' : x.toBitVec.msb = false := by
    rw [BitVec.msb_eq_toInt]
    exact decide_eq_false (by show ¬ x.toInt < 0; omega)
  have hy' : y.toBitVec.msb = false := by
    rw [BitVec.msb_eq_toInt]
    exact decide_eq_false (by show ¬ y.toInt < 0; omega)
  have hz : (x ^^^ y).toBitVec.msb = false := by
    rw [Int64.toBitVec_xor, BitVec.msb_xor, hx', hy']
    rfl
  rw [BitVec.msb_eq_toInt] at hz
  have := of_decide_eq_false hz
  show 0 ≤ (x ^^^ y).toBitVec.toInt
  omega
theorem l2_exchange {K : Int32 → mo_M → Prop} {x1 x2 x3 x4 : Int32} (H : hs_in g e0 A h M) (o : hs_ok h) (ro : hs_rok h) (hK : ∀ M', hs_in g e0 A (hc_exchange h x1 x2 x3 x4).2 M' → K (hc_exchange h x1 x2 x3 x4).1 M') : pp_H_exchange g e0 K M (A 0 0 0) x1 x2 x3 x4 := by
  unfold pp_H_exchange
  unfold hc_exchange at hK
  refine ⟨⟨_, hs_0 H⟩, l2_canPay H o (fun q => ⟨fun _ => ⟨rfl, ?_⟩, fun t => absurd rfl t⟩) (fun k c hk hc kk t => ⟨fun z => absurd z (by decide), fun _ => l2_hasCurrency (zb_br (fun r => ⟨rfl, ?_⟩) (fun r => ⟨fun u => ⟨rfl, ?_⟩, fun u => ?_⟩))⟩)⟩
  · cases hk : ix_n x1 (hs_n h 0 0) with
    | none => rw [hk] at hK; exact hK M H
    | some k =>
      cases hc : ix_n x2 3 with
      | none => rw [hk, hc] at hK; exact hK M H
      | some c =>
        cases hd : ix_n x3 3 with
        | none => rw [hk, hc, hd] at hK; exact hK M H
        | some d => rw [hk, hc, hd] at hK; dsimp only at hK; rw [if_neg (fun z => by rw [q k c hk hc] at z; cases z.1)] at hK; exact hK M H
  · rw [Option.isSome_eq_false_iff, Option.isNone_iff_eq_none] at r
    rw [hk, hc, r] at hK
    exact hK M H
  · obtain ⟨d, hd⟩ := Option.isSome_iff_exists.mp r
    rw [hk, hc, hd] at hK
    dsimp only at hK
    rw [if_neg (fun z => z.2 u)] at hK
    exact hK M H
  · obtain ⟨d, hd⟩ := Option.isSome_iff_exists.mp r
    rw [hk, hc, hd] at hK
    dsimp only at hK
    rw [if_pos ⟨t, u⟩] at hK
    obtain ⟨e2, hc3⟩ := (ix_some (by decide)).mp hc
    obtain ⟨e3, hd3⟩ := (ix_some (by decide)).mp hd
    obtain ⟨⟨a1, a2⟩, b1, b2⟩ := ro c d hc3 hd3
    have t1 := of_decide_eq_true t
    have x4a : 1 ≤ x4.toInt := by have := t1.1.1; rw [Int32.lt_iff_toInt_lt] at this; have e : (1 : Int32).toInt = 1 := by decide
                                  omega
    have x4b : x4.toInt ≤ 1000000000 := by have := t1.1.2; rw [Int32.lt_iff_toInt_lt] at this; have e : (1000000000 : Int32).toInt = 1000000000 := by decide
                                           omega
    refine mq_gr (hs_0 H) rfl (mq_aq (hs_4 H) e2 hc3 (by decide) rfl (mq_ai (hs_5 H hc3) e3 hd3 (by decide) (mq_gr (hs_0 H) rfl (mq_aq (hs_6 H) e2 hc3 (by decide) rfl (mq_ai (hs_7 H hc3) e3 hd3 (by decide) (l2_floorOf ?_ ?_ (l2_kio H o hk (fun _ => ⟨⟨_, hs_8 H kk⟩, l2_swapCoins H kk hc hd (fun M' H' => ⟨rfl, hK M' H'⟩)⟩))))))))
    · intro z
      have := congrArg Int64.toInt z
      rw [Int32.toInt_toInt64, Int64.toInt_zero] at this
      omega
    · have hm : (x4.toInt64 * (hs_i h 5 c 0 d).toInt64).toInt = x4.toInt * (hs_i h 5 c 0 d).toInt := by
        rw [Int64.toInt_mul, Int32.toInt_toInt64, Int32.toInt_toInt64]
        have h1 : 0 ≤ x4.toInt * (hs_i h 5 c 0 d).toInt := Int.mul_nonneg (by omega) (by omega)
        have h2 : x4.toInt * (hs_i h 5 c 0 d).toInt ≤ 1000000000 * 1000000 := Int.mul_le_mul x4b a2 (by omega) (by omega)
        rw [Int.bmod_eq_of_le (by omega) (by omega)]
      refine xor_nn ?_ ?_
      · rw [hm]; exact Int.mul_nonneg (by omega) (by omega)
      · rw [Int32.toInt_toInt64]; omega
end CL6
