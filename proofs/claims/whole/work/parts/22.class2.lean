section CL2
variable {g : Nat → ClassId} {e0 : Nat → Nat} {A : hs_A} {h : hs_S} {M : mo_M}
def hc_swap (h : hs_S) (k c : Nat) (x : Int64) (d : Nat) (y : Int64) : hs_S := hc_ev (hc_put (hc_sub (hc_put (hc_sub h 9 k c x) 10 k c x) 10 k d y) 9 k d y) k
theorem l2_swapCoins {K : mo_M → Prop} {x1 x4 : Int32} {x2 x5 : Int64} {k c d : Nat} (H : hs_in g e0 A h M) (hk : k < hs_n h 0 0) (hc : ix_n x1 3 = some c) (hd : ix_n x4 3 = some d) (hK : ∀ M', hs_in g e0 A (hc_swap h k c x2 d x5) M' → K M') : pp_K_swapCoins g e0 K M (A 8 k 0) x1 x2 x4 x5 := by
  obtain ⟨e, hc⟩ := (ix_some (by decide)).mp hc
  obtain ⟨e4, hd⟩ := (ix_some (by decide)).mp hd
  unfold pp_K_swapCoins
  refine mq_gr (hs_8 H hk) rfl (mq_al (hs_9 H hk) e hc (by decide) (mq_sl (hs_9 H hk) e hc (by decide) ?_))
  have H1 := hc_sub_in H (c := c) (Or.inl rfl) hk x2
  have hk1 : k < hs_n (hc_sub h 9 k c x2) 0 0 := hk
  refine mq_gr (hs_8 H1 hk1) rfl (mq_al (hs_10 H1 hk1) e hc (by decide) (mq_sl (hs_10 H1 hk1) e hc (by decide) ?_))
  have H2 := hc_put_in H1 (c := c) (Or.inr (Or.inl rfl)) hk1 x2
  have hk2 : k < hs_n (hc_put (hc_sub h 9 k c x2) 10 k c x2) 0 0 := hk
  refine mq_gr (hs_8 H2 hk2) rfl (mq_al (hs_10 H2 hk2) e4 hd (by decide) (mq_sl (hs_10 H2 hk2) e4 hd (by decide) ?_))
  have H3 := hc_sub_in H2 (c := d) (Or.inr (Or.inl rfl)) hk2 x5
  have hk3 : k < hs_n (hc_sub (hc_put (hc_sub h 9 k c x2) 10 k c x2) 10 k d x5) 0 0 := hk
  refine mq_gr (hs_8 H3 hk3) rfl (mq_al (hs_9 H3 hk3) e4 hd (by decide) (mq_sl (hs_9 H3 hk3) e4 hd (by decide) ?_))
  have H4 := hc_put_in H3 (c := d) (Or.inl rfl) hk3 x5
  have hk4 : k < hs_n (hc_put (hc_sub (hc_put (hc_sub h 9 k c x2) 10 k c x2) 10 k d x5) 9 k d x5) 0 0 := hk
  exact mq_gi (hs_8 H4 hk4) rfl (mq_pt (hs_8 H4 hk4) (Nat.le_of_ble_eq_true rfl) (hK _ (hs_w8_0 H4 hk4 _)))
def hc_give (h : hs_S) (k c : Nat) (x : Int32) : hs_S := hc_ev (hc_sub h 9 k c x.toInt64) k
theorem l2_giveCoins {K : mo_M → Prop} {x1 x2 : Int32} {k c : Nat} (H : hs_in g e0 A h M) (hk : k < hs_n h 0 0) (hc : ix_n x1 3 = some c) (hK : ∀ M', hs_in g e0 A (hc_give h k c x2) M' → K M') : pp_K_giveCoins g e0 K M (A 8 k 0) x1 x2 := by
  obtain ⟨e, hc⟩ := (ix_some (by decide)).mp hc
  unfold pp_K_giveCoins
  refine mq_gr (hs_8 H hk) rfl (mq_al (hs_9 H hk) e hc (by decide) (mq_sl (hs_9 H hk) e hc (by decide) ?_))
  have H1 := hc_sub_in H (c := c) (Or.inl rfl) hk x2.toInt64
  have hk1 : k < hs_n (hc_sub h 9 k c x2.toInt64) 0 0 := hk
  exact mq_gi (hs_8 H1 hk1) rfl (mq_pt (hs_8 H1 hk1) (Nat.le_of_ble_eq_true rfl) (hK _ (hs_w8_0 H1 hk1 _)))
def hc_recv (h : hs_S) (k c : Nat) (x : Int32) : hs_S := hc_ev (hc_put h 9 k c x.toInt64) k
theorem l2_receiveCoins {K : mo_M → Prop} {x1 x2 : Int32} {k c : Nat} (H : hs_in g e0 A h M) (hk : k < hs_n h 0 0) (hc : ix_n x1 3 = some c) (hK : ∀ M', hs_in g e0 A (hc_recv h k c x2) M' → K M') : pp_K_receiveCoins g e0 K M (A 8 k 0) x1 x2 := by
  obtain ⟨e, hc⟩ := (ix_some (by decide)).mp hc
  unfold pp_K_receiveCoins
  refine mq_gr (hs_8 H hk) rfl (mq_al (hs_9 H hk) e hc (by decide) (mq_sl (hs_9 H hk) e hc (by decide) ?_))
  have H1 := hc_put_in H (c := c) (Or.inl rfl) hk x2.toInt64
  have hk1 : k < hs_n (hc_put h 9 k c x2.toInt64) 0 0 := hk
  exact mq_gi (hs_8 H1 hk1) rfl (mq_pt (hs_8 H1 hk1) (Nat.le_of_ble_eq_true rfl) (hK _ (hs_w8_0 H1 hk1 _)))
theorem l2_floorDiv {K : Int64 → mo_M → Prop} {x y : Int64} (hy : ¬ y = 0) (hs : 0 ≤ x ^^^ y) (hK : K (x / y) M) : pp_J_floorDiv g e0 K M x y := by
  unfold pp_J_floorDiv
  exact ⟨hy, fun _ => hK, fun q => absurd ((lg_cmp_ge _ _).mpr hs) q⟩
theorem l2_floorOf {K : Int64 → mo_M → Prop} {x y : Int64} (hy : ¬ y = 0) (hs : 0 ≤ x ^^^ y) (hK : K (x / y) M) : pp_H_floorOf g e0 K M x y := by
  unfold pp_H_floorOf
  exact ⟨fun q => absurd ((lg_cmp_eq _ _).mp q) hy, fun _ => l2_floorDiv hy hs hK⟩
/-- mint over the state -/
def hc_mint (h : hs_S) (x1 x2 x3 : Int32) : Int32 × hs_S := match ix_n x1 (hs_n h 0 0), ix_n x2 3 with
  | some k, some c => if ¬ x3 < 1 ∧ ¬ 1000000000 < x3 then (1, hc_add h k c x3) else (0, h)
  | _, _ => (0, h)
theorem l2_mint {K : Int32 → mo_M → Prop} {x1 x2 x3 : Int32} (H : hs_in g e0 A h M) (o : hs_ok h) (hK : ∀ M', hs_in g e0 A (hc_mint h x1 x2 x3).2 M' → K (hc_mint h x1 x2 x3).1 M') : pp_H_mint g e0 K M (A 0 0 0) x1 x2 x3 := by
  unfold pp_H_mint
  unfold hc_mint at hK
  refine ⟨⟨_, hs_0 H⟩, l2_hasKiosk H o (zb_br (fun q => ⟨rfl, ?_⟩) (fun q => l2_hasCurrency (zb_br (fun r => ⟨rfl, ?_⟩) (fun r => ?_))))⟩
  · rw [Option.isSome_eq_false_iff, Option.isNone_iff_eq_none] at q
    rw [q] at hK
    exact hK M H
  · rw [Option.isSome_eq_false_iff, Option.isNone_iff_eq_none] at r
    rw [r] at hK
    generalize ix_n x1 (hs_n h 0 0) = z at hK
    cases z <;> exact hK M H
  · obtain ⟨k, hk⟩ := Option.isSome_iff_exists.mp q
    obtain ⟨c, hc⟩ := Option.isSome_iff_exists.mp r
    rw [hk, hc] at hK
    dsimp only at hK
    refine l2_isBetween (zb_br (fun t => ⟨rfl, ?_⟩) (fun t => l2_kio H o hk (fun kk => ⟨⟨_, hs_8 H kk⟩, l2_addCoins H kk hc (fun M' H' => ⟨rfl, ?_⟩)⟩)))
    · rw [if_neg (of_decide_eq_false t)] at hK
      exact hK M H
    · rw [if_pos (of_decide_eq_true t)] at hK
      exact hK M' H'
def hc_melt (h : hs_S) (x1 x2 x3 : Int32) : Int32 × hs_S := match ix_n x1 (hs_n h 0 0), ix_n x2 3 with
  | some k, some c => if hc_can h k c x3 = true then (1, hc_add h k c (-x3)) else (0, h)
  | _, _ => (0, h)
theorem l2_melt {K : Int32 → mo_M → Prop} {x1 x2 x3 : Int32} (H : hs_in g e0 A h M) (o : hs_ok h) (hK : ∀ M', hs_in g e0 A (hc_melt h x1 x2 x3).2 M' → K (hc_melt h x1 x2 x3).1 M') : pp_H_melt g e0 K M (A 0 0 0) x1 x2 x3 := by
  unfold pp_H_melt
  unfold hc_melt at hK
  refine ⟨⟨_, hs_0 H⟩, l2_canPay H o (fun q => ⟨fun _ => ⟨rfl, ?_⟩, fun t => absurd rfl t⟩) (fun k c hk hc kk t => ⟨fun z => absurd z (by decide), fun _ => l2_kio H o hk (fun _ => ⟨⟨_, hs_8 H kk⟩, l2_addCoins H kk hc (fun M' H' => ⟨rfl, ?_⟩)⟩)⟩)⟩
  · cases hk : ix_n x1 (hs_n h 0 0) with
    | none => rw [hk] at hK; exact hK M H
    | some k =>
      cases hc : ix_n x2 3 with
      | none => rw [hk, hc] at hK; exact hK M H
      | some c => rw [hk, hc] at hK; dsimp only at hK; rw [q k c hk hc, if_neg (by decide)] at hK; exact hK M H
  · rw [hk, hc] at hK
    dsimp only at hK
    rw [if_pos t] at hK
    exact hK M' H'
end CL2
