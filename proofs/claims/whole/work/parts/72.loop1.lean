section LP1
variable {g : Nat → ClassId} {e0 : Nat → Nat} {A A' : hs_A} {h h1 : hs_S} {r r2 : rS} {M M' : mo_M} {c0 s0 x1 x2 x3 j cu su cu' su' : Nat}
/-- what holds before the j-th call -/
def lw_I (c0 s0 : Nat) (g : Nat → ClassId) (e0 : Nat → Nat) (x1 x2 x3 j : Nat) (A : hs_A) (h : hs_S) (r : rS) (M : mo_M) (cu su : Nat) : Prop :=
  hs_in g e0 A h M ∧ er h r ∧ iv h r 1000 ∧ ci h ∧ bd r j ∧ (cu + 24 * m_V r ≤ c0 + 22 * j ∧ su + 15600 * m_V r ≤ s0 + 1300 * j) ∧ A 0 0 0 = x1 ∧ A 30 0 0 = x2 ∧ A 60 0 0 = x3
theorem lw_nx (H2 : hs_in g e0 A' (hs_put h1 r2) M') (V2 : iv h1 r2 1000) (I1 : ci h1) (b2 : bd r2 (j + 1)) (k1 : cu' + 24 * m_V r2 ≤ c0 + 22 * (j + 1)) (k2 : su' + 15600 * m_V r2 ≤ s0 + 1300 * (j + 1)) (a0 : A' 0 0 0 = x1) (a30 : A' 30 0 0 = x2) (a60 : A' 60 0 0 = x3) : lw_I c0 s0 g e0 x1 x2 x3 (j + 1) A' (hs_put h1 r2) r2 M' cu' su' :=
  ⟨H2, er_is h1 r2, lo_iv (lo_put h1 r2) V2, lo_ci (lo_put h1 r2) I1, b2, ⟨k1, k2⟩, a0, a30, a60⟩
def hc_out (h : hs_S) (k : Int32) (v : Int64) : hs_S := if k = 0 then hs_sl h 60 0 0 (vp_updL (hs_l h 60 0 0) 0 v) else h
theorem lo_out (h : hs_S) (k : Int32) (v : Int64) : lo h (hc_out h k v) := by
  unfold hc_out
  split
  · exact lo_60 h _
  · exact ⟨fun _ _ _ _ => rfl, fun _ _ _ _ => rfl, fun _ _ => rfl, fun _ => rfl⟩
theorem hx_out (h : hs_S) (k : Int32) (v : Int64) : hx h (hc_out h k v) := by
  unfold hc_out
  split
  · exact hx_sl (hx_rf h) (Or.inr (by decide))
  · exact hx_rf h
theorem out_v (h : hs_S) {k : Int32} (v : Int64) (hk : k = 0) : hs_l (hc_out h k v) 60 0 0 0 = v := by
  unfold hc_out
  rw [if_pos hk]
  rfl
theorem l2_out {N : mo_M → Prop} {k : Int32} {v : Int64} (H : hs_in g e0 A h M) (hk : k = 0) (hN : ∀ M', hs_in g e0 A (hc_out h k v) M' → N M') : mp_sl (g 1) M (A 60 0 0) ((0 : Int32)) v N := by
  refine mq_sl (hs_60 H) (show (0 : Int32) = nI 0 from nI_0.symm) (by decide) (by decide) (hN _ ?_)
  unfold hc_out
  rw [if_pos hk]
  exact hs_wl H rfl rfl _
theorem l2_Wthing {K : Int32 → mo_M → Prop} {y1 y2 y3 : Int32} (H : hs_in g e0 A h M) (o : hs_ok h) (hK : ∀ M', hs_in g e0 A (hc_out h (hc_tht h y1 y2 y3) (hc_thv h y1 y2 y3).toInt64) M' → K (hc_tht h y1 y2 y3) M') : pp_W_thing g e0 K M (A 0 0 0) y1 y2 y3 (A 60 0 0) := by
  refine ⟨⟨_, hs_0 H⟩, ?_⟩
  by_cases z : hc_tht h y1 y2 y3 = 0
  · refine Or.inl ⟨⟨_, hs_0 H⟩, l2_thingR H o z (l2_out (k := hc_tht h y1 y2 y3) H z (fun M' H' => ?_))⟩
    have := hK M' H'
    rw [z] at this
    exact this
  · refine Or.inr (l2_thingT H o z (fun k hk hk2 => ⟨hk2, ?_⟩))
    rw [hk]
    exact hK M (by unfold hc_out; rw [if_neg z]; exact H)
theorem l2_Wpiece {K : Int32 → mo_M → Prop} {y1 y2 y3 y4 : Int32} (H : hs_in g e0 A h M) (o : hs_ok h) (hK : ∀ M', hs_in g e0 A (hc_out h (hc_pct h y1 y2 y3 y4) (hc_pcv h y1 y2 y3 y4)) M' → K (hc_pct h y1 y2 y3 y4) M') : pp_W_piece g e0 K M (A 0 0 0) y1 y2 y3 y4 (A 60 0 0) := by
  refine ⟨⟨_, hs_0 H⟩, ?_⟩
  by_cases z : hc_pct h y1 y2 y3 y4 = 0
  · refine Or.inl ⟨⟨_, hs_0 H⟩, l2_pieceR H o z (l2_out (k := hc_pct h y1 y2 y3 y4) H z (fun M' H' => ?_))⟩
    have := hK M' H'
    rw [z] at this
    exact this
  · refine Or.inr (l2_pieceT H o z (fun k hk hk2 => ⟨hk2, ?_⟩))
    rw [hk]
    exact hK M (by unfold hc_out; rw [if_neg z]; exact H)
theorem l2_Wtotal {K : Int32 → mo_M → Prop} {y1 y2 : Int32} (H : hs_in g e0 A h M) (o : hs_ok h) (hK : ∀ M', hs_in g e0 A (hc_out h (hc_ttt h y1 y2) (hc_ttv h y1 y2)) M' → K (hc_ttt h y1 y2) M') : pp_W_total g e0 K M (A 0 0 0) y1 y2 (A 60 0 0) := by
  refine ⟨⟨_, hs_0 H⟩, ?_⟩
  by_cases z : hc_ttt h y1 y2 = 0
  · refine Or.inl ⟨⟨_, hs_0 H⟩, l2_totalR H o z (l2_out (k := hc_ttt h y1 y2) H z (fun M' H' => ?_))⟩
    have := hK M' H'
    rw [z] at this
    exact this
  · refine Or.inr (l2_totalT H o z ⟨rfl, ?_⟩)
    have e : hc_ttt h y1 y2 = nI 1 := by
      unfold hc_ttt at z ⊢
      by_cases w : hc_tis h y1 y2 = true
      · rw [if_pos w] at z; exact absurd rfl z
      · rw [if_neg w]; rfl
    rw [← e]
    exact hK M (by unfold hc_out; rw [if_neg z]; exact H)
theorem cmp_0 {a b : Int64} (e : a = b) : lg_cmp a b = 0 := (lg_cmp_eq a b).mpr e
/-- the loop's bound -/
theorem lp_lt {L i : Nat} (hL : L ≤ 2561) (hi : i < 10000) : nI L - 5 < nI i ↔ L < i + 5 := by
  rw [Int32.lt_iff_toInt_lt, Int32.toInt_sub, nI_toInt (by omega), nI_toInt (by omega), show (5 : Int32).toInt = 5 by decide, Int.bmod_eq_of_le (by omega) (by omega)]
  omega
end LP1
