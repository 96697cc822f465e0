section LP2
variable {g : Nat → ClassId} {e0 : Nat → Nat} {mc ms L b c0 s0 x1 x2 x3 : Nat} {xs : Nat → Int32} {K : mo_M → Prop}
set_option maxHeartbeats 4000000 in
theorem lw_loop (hc0 : c0 + 22 * 512 ≤ mc) (hs0 : s0 + 1300 * 512 ≤ ms) (hL : L ≤ 2561) (hK : ∀ M, K M) : ∀ (n j : Nat) (A : hs_A) (h : hs_S) (r : rS) (M : mo_M) (cu su : Nat), n + j = 513 → j ≤ 512 → lw_I c0 s0 g e0 x1 x2 x3 j A h r M cu su → pp_W_law_b33 g e0 mc ms L xs b K n M cu su x1 x2 x3 (nI (1 + 5 * j))
  | 0, j, A, h, r, M, cu, su, hn, hj, _ => absurd hn (by omega)
  | n + 1, j, A, h, r, M, cu, su, hn, hj, I => by
    have I0 := I
    obtain ⟨H, E, V, I4, hbd, ⟨k1, k2⟩, a0, a30, a60⟩ := I
    have hcu : cu ≤ mc := by omega
    have hsu : su ≤ ms := by omega
    unfold pp_W_law_b33
    refine ⟨fun _ => ⟨hcu, hsu, hK M⟩, fun q => ?_⟩
    rw [lp_lt hL (by omega)] at q
    have hi : 1 + 5 * j + 5 ≤ L := by omega
    have hj1 : j ≤ 511 := by omega
    have i0 : vp_in (nI (1 + 5 * j)) L := nI_in (by omega) (by omega)
    have ik : ∀ k : Nat, k < 5 → vp_in (nI (1 + 5 * j) + nI k) L := fun k hk => by
      rw [nI_add]
      exact nI_in (by omega) (by omega)
    have i1 : vp_in (nI (1 + 5 * j) + (1 : Int32)) L := ik 1 (by decide)
    have i2 : vp_in (nI (1 + 5 * j) + (2 : Int32)) L := ik 2 (by decide)
    have i3 : vp_in (nI (1 + 5 * j) + (3 : Int32)) L := ik 3 (by decide)
    have i4 : vp_in (nI (1 + 5 * j) + (4 : Int32)) L := ik 4 (by decide)
    clear ik q
    have hB : ∀ (A' : hs_A) (h' : hs_S) (r' : rS) (M' : mo_M) (cu' su' : Nat), lw_I c0 s0 g e0 x1 x2 x3 (j + 1) A' h' r' M' cu' su' → pp_W_law_b1177 g e0 mc ms L xs b K (fun M cu su x1 x2 x3 x4 => pp_W_law_b33 g e0 mc ms L xs b K n M cu su x1 x2 x3 x4) M' cu' su' x1 x2 x3 (nI (1 + 5 * j)) := by
      intro A' h' r' M' cu' su' I'
      have ih := lw_loop hc0 hs0 hL hK n (j + 1) A' h' r' M' cu' su' (by omega) (by omega) I'
      unfold pp_W_law_b1177
      rw [show nI (1 + 5 * j) + 5 = nI (1 + 5 * (j + 1)) from by rw [show (5 : Int32) = nI 5 from rfl, nI_add]; rfl]
      exact ih
    generalize (fun M cu su x1 x2 x3 x4 => pp_W_law_b33 g e0 mc ms L xs b K n M cu su x1 x2 x3 x4) = Bf at hB ⊢
    generalize hv0 : xs (nI (1 + 5 * j)).toNatClampNeg = v0
    generalize hv1 : xs (nI (1 + 5 * j) + (1 : Int32)).toNatClampNeg = v1
    generalize hv2 : xs (nI (1 + 5 * j) + (2 : Int32)).toNatClampNeg = v2
    generalize hv3 : xs (nI (1 + 5 * j) + (3 : Int32)).toNatClampNeg = v3
    generalize hv4 : xs (nI (1 + 5 * j) + (4 : Int32)).toNatClampNeg = v4
    have o := V.1.2.1
    have ro := V.1.1
    have hb1 := hbd
    unfold bd at hb1
    have hqb : hs_qb h 780 := fun l hl => by have := iv_qb V l hl; omega
    have Hp : hs_in g e0 A (hs_put h r) M := by rw [er_put E]; exact H
    -- a call that only asks
    have ask : ∀ (v : Int32) (M' : mo_M), hs_in g e0 A (hs_put h (m_t r v)) M' → lw_I c0 s0 g e0 x1 x2 x3 (j + 1) A (hs_put h (m_t r v)) (m_t r v) M' cu su := fun v M' H' => lw_nx H' (iv_mt v V) I4 (bd_s (bd_mt v hbd)) (by rw [mV_mt]; omega) (by rw [mV_mt]; omega) a0 a30 a60
    have V0 := iv_mt 0 V
    have b0 := bd_mt 0 hbd
    refine ⟨i0, fun _ => ?_, fun _ => ?_, fun _ => ?_, fun _ => ?_, fun _ => ?_, fun _ => ?_, fun _ => ?_, fun _ => ?_, fun _ => ?_, fun _ => ?_, fun _ => ?_, fun _ => ?_, fun _ => ?_, fun _ => ?_, fun _ => ?_, fun _ => ?_, fun _ => ?_, fun _ => ?_, fun _ => ?_, fun _ => ?_, fun _ => ?_, fun _ => ?_⟩
    · exact hB A h r M cu su ⟨H, E, V, I4, bd_s hbd, ⟨by omega, by omega⟩, a0, a30, a60⟩
    · -- link
      have hlk : ∀ y : Int32, (y = 0 ∨ y = 1) → (v3 = 0 → y = 0) → (¬ v3 = 0 → y = 1) → pp_W_law_b175 g e0 mc ms L xs b K Bf M cu su x1 x2 x3 (nI (1 + 5 * j)) y v2 v1 x1 := by
        intro y hy y0 y1
        have S := sim_link (x1 := v1) (x2 := v2) (x3 := y) V hbd hj1 hy
        obtain ⟨t, ht⟩ : ∃ t : Nat, t = 120 := ⟨_, rfl⟩
        unfold pp_W_law_b175
        rw [hv1, hv2, hv3]
        refine ⟨22, t, by omega, by omega, ?_⟩
        rw [← a0]
        refine ⟨⟨_, hs_0 H⟩, l2_link H o V.1.2.2.1 hy (Nat.le_refl _) (Nat.le_of_eq ht.symm) (fun A' M1 s9 H1 => ?_)⟩
        have e0' : A' 0 0 0 = x1 := (s9 0 0 0 (by omega)).trans a0
        have e30 : A' 30 0 0 = x2 := (s9 30 0 0 (by omega)).trans a30
        have e60 : A' 60 0 0 = x3 := (s9 60 0 0 (by omega)).trans a60
        have Hp1 : hs_in g e0 A' (hs_put (hc_link h v1 v2 y).2 r) M1 := by rw [er_put (er_hx E (hx_link v1 v2 y))]; exact H1
        have fin : pp_W_law_b205 g e0 mc ms L xs b K Bf M1 (cu + 22) (su + t) (A 0 0 0) x2 x3 (nI (1 + 5 * j)) y v2 v1 x2 (hc_link h v1 v2 y).1 := by
          unfold pp_W_law_b205
          refine ⟨by omega, by omega, ?_⟩
          rw [← e30]
          refine ⟨⟨_, rs_30 Hp1⟩, l2m_link Hp1 ro (fun M2 H2 => ⟨fun _ => ?_, fun z => absurd S.1.1 z⟩)⟩
          rw [a0, e30]
          exact hB A' _ _ M2 _ _ (lw_nx H2 S.1.2.1 (ci_link I4) S.1.2.2 (by rw [S.2]; omega) (by rw [S.2]; omega) e0' e30 e60)
        refine ⟨i1, i2, i3, fun z => ?_, fun z => ?_⟩
        · rw [y0 z] at fin ⊢; exact fin
        · rw [y1 z] at fin ⊢; exact fin
      exact ⟨i1, i2, i3, fun z => hlk 0 (Or.inl rfl) (fun _ => rfl) (fun w => absurd z w), fun z => hlk 1 (Or.inr rfl) (fun w => absurd w z) (fun _ => rfl)⟩
    · -- rate
      have S := sim_rate (x1 := v1) (x2 := v2) (x3 := v3) (x4 := v4) V hbd hj1
      refine ⟨i1, i2, i3, i4, hcu, hsu, ?_⟩
      rw [← a0]
      refine ⟨⟨_, hs_0 H⟩, l2_rate H (fun M1 H1 => ⟨i1, i2, i3, i4, hcu, hsu, ?_⟩)⟩
      have Hp1 : hs_in g e0 A (hs_put (hc_rate h v1 v2 v3 v4).2 r) M1 := by rw [er_put (er_hx E (hx_rate v1 v2 v3 v4))]; exact H1
      rw [← a30]
      refine ⟨⟨_, rs_30 Hp1⟩, l2m_rate Hp1 (fun M2 H2 => ⟨fun _ => ?_, fun z => absurd S.1.1 z⟩)⟩
      rw [a0, a30]
      exact hB A _ _ M2 _ _ (lw_nx H2 S.1.2.1 (ci_rate I4) S.1.2.2 (by rw [S.2]; omega) (by rw [S.2]; omega) a0 a30 a60)
    · -- mint
      have S := sim_mint (x1 := v1) (x2 := v2) (x3 := v3) V hbd hj1
      refine ⟨i1, i2, i3, hcu, hsu, ?_⟩
      rw [← a0]
      refine ⟨⟨_, hs_0 H⟩, l2_mint H o (fun M1 H1 => ⟨i1, i2, i3, hcu, hsu, ?_⟩)⟩
      have Hp1 : hs_in g e0 A (hs_put (hc_mint h v1 v2 v3).2 r) M1 := by rw [er_put (er_hx E (hx_mint v1 v2 v3))]; exact H1
      rw [← a30]
      refine ⟨⟨_, rs_30 Hp1⟩, l2m_mint Hp1 ro (by omega) (fun M2 H2 => ⟨fun _ => ?_, fun z => absurd S.1.1 z⟩)⟩
      rw [a0, a30]
      exact hB A _ _ M2 _ _ (lw_nx H2 S.1.2.1 (ci_mint I4) S.1.2.2 (by rw [S.2]; omega) (by rw [S.2]; omega) a0 a30 a60)
    · -- melt
      have S := sim_melt (x1 := v1) (x2 := v2) (x3 := v3) V hbd hj1
      refine ⟨i1, i2, i3, hcu, hsu, ?_⟩
      rw [← a0]
      refine ⟨⟨_, hs_0 H⟩, l2_melt H o (fun M1 H1 => ⟨i1, i2, i3, hcu, hsu, ?_⟩)⟩
      have Hp1 : hs_in g e0 A (hs_put (hc_melt h v1 v2 v3).2 r) M1 := by rw [er_put (er_hx E (hx_melt v1 v2 v3))]; exact H1
      rw [← a30]
      refine ⟨⟨_, rs_30 Hp1⟩, l2m_melt Hp1 ro (by omega) (fun M2 H2 => ⟨fun _ => ?_, fun z => absurd S.1.1 z⟩)⟩
      rw [a0, a30]
      exact hB A _ _ M2 _ _ (lw_nx H2 S.1.2.1 (ci_melt I4) S.1.2.2 (by rw [S.2]; omega) (by rw [S.2]; omega) a0 a30 a60)
    · -- exchange
      have S := sim_exchange (x1 := v1) (x2 := v2) (x3 := v3) (x4 := v4) V hbd hj1
      refine ⟨i1, i2, i3, i4, hcu, hsu, ?_⟩
      rw [← a0]
      refine ⟨⟨_, hs_0 H⟩, l2_exchange H o V.2.2.1.1 (fun M1 H1 => ⟨i1, i2, i3, i4, hcu, hsu, ?_⟩)⟩
      have Hp1 : hs_in g e0 A (hs_put (hc_exchange h v1 v2 v3 v4).2 r) M1 := by rw [er_put (er_hx E (hx_exchange v1 v2 v3 v4))]; exact H1
      rw [← a30]
      refine ⟨⟨_, rs_30 Hp1⟩, l2m_exchange Hp1 ro (by omega) (by omega) (fun M2 H2 => ⟨fun _ => ?_, fun z => absurd S.1.1 z⟩)⟩
      rw [a0, a30]
      exact hB A _ _ M2 _ _ (lw_nx H2 S.1.2.1 (ci_exchange I4) S.1.2.2 (by rw [S.2]; omega) (by rw [S.2]; omega) a0 a30 a60)
    · -- bag
      have S := sim_bag (x1 := v1) (x2 := v2) (x3 := v3) V0 I4 b0 hj1
      obtain ⟨t, ht⟩ : ∃ t : Nat, t = 1300 := ⟨_, rfl⟩
      refine ⟨i1, i2, i3, 2, t, by omega, by omega, ?_⟩
      rw [← a0]
      refine ⟨⟨_, hs_0 H⟩, l2_bag H o hqb (Nat.le_refl _) (Nat.le_of_eq ht.symm) (fun A' M1 s6 H1 => ⟨i1, i2, i3, by omega, by omega, ?_⟩)⟩
      have e0' : A' 0 0 0 = x1 := (s6 0 0 0 (by decide) (by decide) (by decide) (by decide)).trans a0
      have e30 : A' 30 0 0 = x2 := (s6 30 0 0 (by decide) (by decide) (by decide) (by decide)).trans a30
      have e60 : A' 60 0 0 = x3 := (s6 60 0 0 (by decide) (by decide) (by decide) (by decide)).trans a60
      have Hp1 : hs_in g e0 A' (hs_put (hc_bag h v1 v2 v3).2 r) M1 := by rw [er_put (er_hx E (hx_bag v1 v2 v3))]; exact H1
      rw [← e30]
      refine ⟨⟨_, rs_30 Hp1⟩, l2m_bag Hp1 ro (by omega) (by omega) (by omega) (fun M2 H2 => ⟨fun _ => ?_, fun z => absurd S.1.1 z⟩)⟩
      rw [a0, e30]
      have eV := S.2.trans (mV_mt 0)
      exact hB A' _ _ M2 _ _ (lw_nx H2 S.1.2.1 (ci_bag I4) S.1.2.2 (by rw [eV]; omega) (by rw [eV]; omega) e0' e30 e60)
    · -- deliver
      have S := sim_deliver (x1 := v1) (x2 := v2) V0 b0 hj1
      have eV := S.2.trans (mV_mt 0)
      obtain ⟨cc, hcc⟩ : ∃ cc : Nat, cc = 24 * hc_dvc h v1 v2 := ⟨_, rfl⟩
      obtain ⟨t, ht⟩ : ∃ t : Nat, t = 15600 * hc_dvc h v1 v2 := ⟨_, rfl⟩
      refine ⟨i1, i2, cc, t, by omega, by omega, ?_⟩
      rw [← a0]
      refine ⟨⟨_, hs_0 H⟩, l2_deliver H o I4.1 (iv_tk V) hqb (Nat.le_of_eq hcc.symm) (Nat.le_of_eq ht.symm) (fun A' M1 s6 H1 => ⟨i1, i2, by omega, by omega, ?_⟩)⟩
      have e0' : A' 0 0 0 = x1 := (s6 0 0 0 (by decide) (by decide) (by decide) (by decide)).trans a0
      have e30 : A' 30 0 0 = x2 := (s6 30 0 0 (by decide) (by decide) (by decide) (by decide)).trans a30
      have e60 : A' 60 0 0 = x3 := (s6 60 0 0 (by decide) (by decide) (by decide) (by decide)).trans a60
      have Hp1 : hs_in g e0 A' (hs_put (hc_deliver h v1 v2).2 r) M1 := by rw [er_put (er_hx E (hx_deliver v1 v2))]; exact H1
      rw [← e30]
      refine ⟨⟨_, rs_30 Hp1⟩, l2m_deliver Hp1 ro (by omega) (by omega) (by omega) (fun M2 H2 => ⟨fun _ => ?_, fun z => absurd S.1.1 z⟩)⟩
      rw [a0, e30]
      exact hB A' _ _ M2 _ _ (lw_nx H2 S.1.2.1 (ci_deliver I4) S.1.2.2 (by omega) (by omega) e0' e30 e60)
    · -- snap
      have S := sim_snap (x := v1) V hbd hj1
      have eV := S.2
      obtain ⟨cc, hcc⟩ : ∃ cc : Nat, cc = 24 * hc_snc h v1 := ⟨_, rfl⟩
      obtain ⟨t, ht⟩ : ∃ t : Nat, t = 15600 * hc_snc h v1 := ⟨_, rfl⟩
      refine ⟨i1, cc, t, by omega, by omega, ?_⟩
      rw [← a0]
      refine ⟨⟨_, hs_0 H⟩, l2_snap H o hqb (Nat.le_of_eq hcc.symm) (Nat.le_of_eq ht.symm) (fun A' M1 s6 H1 => ⟨i1, by omega, by omega, ?_⟩)⟩
      have e0' : A' 0 0 0 = x1 := (s6 0 0 0 (by decide) (by decide) (by decide) (by decide)).trans a0
      have e30 : A' 30 0 0 = x2 := (s6 30 0 0 (by decide) (by decide) (by decide) (by decide)).trans a30
      have e60 : A' 60 0 0 = x3 := (s6 60 0 0 (by decide) (by decide) (by decide) (by decide)).trans a60
      have Hp1 : hs_in g e0 A' (hs_put (hc_snap h v1).2 r) M1 := by rw [er_put (er_hx E (hx_snap v1))]; exact H1
      rw [← e30]
      refine ⟨⟨_, rs_30 Hp1⟩, l2m_snap Hp1 ro (by omega) (by omega) (fun M2 H2 => ⟨fun _ => ?_, fun z => absurd S.1.1 z⟩)⟩
      rw [a0, e30]
      exact hB A' _ _ M2 _ _ (lw_nx H2 S.1.2.1 (ci_snap I4) S.1.2.2 (by omega) (by omega) e0' e30 e60)
    · -- stock
      refine ⟨i1, i2, hcu, hsu, ?_⟩
      rw [← a0]
      refine ⟨⟨_, hs_0 H⟩, l2_stock H o ⟨i1, i2, hcu, hsu, ?_⟩⟩
      rw [← a30]
      refine ⟨⟨_, rs_30 Hp⟩, l2m_stock Hp ro (fun M2 H2 => ⟨fun _ => ?_, fun z => absurd (cmp_0 (q_stock V0)) z⟩)⟩
      rw [a0, a30]
      exact hB A _ _ M2 _ _ (ask 0 M2 H2)
    · -- till
      refine ⟨i1, i2, hcu, hsu, ?_⟩
      rw [← a0]
      refine ⟨⟨_, hs_0 H⟩, l2_till H o ⟨i1, i2, hcu, hsu, ?_⟩⟩
      rw [← a30]
      refine ⟨⟨_, rs_30 Hp⟩, l2m_till Hp ro (fun M2 H2 => ⟨fun _ => ?_, fun z => absurd (cmp_0 (q_till V0)) z⟩)⟩
      rw [a0, a30]
      exact hB A _ _ M2 _ _ (ask 0 M2 H2)
    · -- onLink
      refine ⟨i1, hcu, hsu, ?_⟩
      rw [← a0]
      refine ⟨⟨_, hs_0 H⟩, l2_onLink H o ⟨i1, hcu, hsu, ?_⟩⟩
      rw [← a30]
      refine ⟨⟨_, rs_30 Hp⟩, l2m_onLink Hp ro (fun M2 H2 => ⟨fun _ => ?_, fun z => absurd (q_onLink V0) z⟩)⟩
      rw [a0, a30]
      exact hB A _ _ M2 _ _ (ask 0 M2 H2)
    · -- thing
      obtain ⟨Q1, Q2⟩ := q_thing (x1 := v1) (x2 := v2) (x3 := v3) V
      refine ⟨i1, i2, i3, by omega, by omega, ?_⟩
      rw [← a0, ← a60]
      refine l2_Wthing H o (fun M1 H1 => ⟨i1, i2, i3, by omega, by omega, ?_⟩)
      have E1 := er_hx E (hx_out h (hc_tht h v1 v2 v3) (hc_thv h v1 v2 v3).toInt64)
      have V1 := lo_iv (lo_out h (hc_tht h v1 v2 v3) (hc_thv h v1 v2 v3).toInt64) V
      have c1 := lo_ci (lo_out h (hc_tht h v1 v2 v3) (hc_thv h v1 v2 v3).toInt64) I4
      have ov := fun z => out_v h (k := hc_tht h v1 v2 v3) (hc_thv h v1 v2 v3).toInt64 z
      generalize hc_out h (hc_tht h v1 v2 v3) (hc_thv h v1 v2 v3).toInt64 = h1 at H1 E1 V1 c1 ov
      have Hp1 : hs_in g e0 A (hs_put h1 r) M1 := by rw [er_put E1]; exact H1
      rw [← a30]
      refine ⟨⟨_, rs_30 Hp1⟩, l2m_thing Hp1 ro (fun M2 H2 => ⟨by omega, by omega, ⟨_, rs_30 H2⟩, l2m_thrown H2 ⟨fun _ => ?_, fun z => absurd Q1.symm z⟩⟩)⟩
      have nx : pp_W_law_b722 g e0 mc ms L xs b K Bf M2 (cu + 1) (su + 6) x1 x2 x3 (nI (1 + 5 * j)) := hB A _ _ M2 _ _ (lw_nx H2 (iv_mt _ V1) c1 (bd_s (bd_mt _ hbd)) (by rw [mV_mt]; omega) (by rw [mV_mt]; omega) a0 a30 a60)
      refine ⟨fun z => mq_al (hs_60 H2) (show (0 : Int32) = nI 0 from nI_0.symm) (by decide) (by decide) ⟨fun _ => ?_, fun w => absurd (cmp_0 ((ov z).trans (by rw [Q2 z]))) w⟩, fun z => ?_⟩
      · rw [a0, a30, a60]; exact nx
      · rw [a0, a30, a60]; exact nx
    · -- recorded
      refine ⟨i1, i2, hcu, hsu, ?_⟩
      rw [← a0]
      refine ⟨⟨_, hs_0 H⟩, l2_recorded H o ⟨i1, i2, hcu, hsu, ?_⟩⟩
      rw [← a30]
      refine ⟨⟨_, rs_30 Hp⟩, l2m_recorded Hp ro (fun M2 H2 => ⟨fun _ => ?_, fun z => absurd (q_recorded V0) z⟩)⟩
      rw [a0, a30]
      exact hB A _ _ M2 _ _ (ask 0 M2 H2)
    · -- finished
      refine ⟨i1, hcu, hsu, ?_⟩
      rw [← a0]
      refine ⟨⟨_, hs_0 H⟩, l2_finished H o ⟨i1, hcu, hsu, ?_⟩⟩
      rw [← a30]
      refine ⟨⟨_, rs_30 Hp⟩, l2m_finished Hp ro (fun M2 H2 => ⟨fun _ => ?_, fun z => absurd (by rw [q_fin V0]) z⟩)⟩
      rw [a0, a30]
      exact hB A _ _ M2 _ _ (ask 0 M2 H2)
    · -- piece
      obtain ⟨Q1, Q2⟩ := q_piece (x1 := v1) (x2 := v2) (x3 := v3) (x4 := v4) V
      refine ⟨i1, i2, i3, i4, by omega, by omega, ?_⟩
      rw [← a0, ← a60]
      refine l2_Wpiece H o (fun M1 H1 => ⟨i1, i2, i3, i4, by omega, by omega, ?_⟩)
      have E1 := er_hx E (hx_out h (hc_pct h v1 v2 v3 v4) (hc_pcv h v1 v2 v3 v4))
      have V1 := lo_iv (lo_out h (hc_pct h v1 v2 v3 v4) (hc_pcv h v1 v2 v3 v4)) V
      have c1 := lo_ci (lo_out h (hc_pct h v1 v2 v3 v4) (hc_pcv h v1 v2 v3 v4)) I4
      have ov := fun z => out_v h (k := hc_pct h v1 v2 v3 v4) (hc_pcv h v1 v2 v3 v4) z
      generalize hc_out h (hc_pct h v1 v2 v3 v4) (hc_pcv h v1 v2 v3 v4) = h1 at H1 E1 V1 c1 ov
      have Hp1 : hs_in g e0 A (hs_put h1 r) M1 := by rw [er_put E1]; exact H1
      rw [← a30]
      refine ⟨⟨_, rs_30 Hp1⟩, l2m_piece Hp1 ro (fun M2 H2 => ⟨by omega, by omega, ⟨_, rs_30 H2⟩, l2m_thrown H2 ⟨fun _ => ?_, fun z => absurd Q1.symm z⟩⟩)⟩
      have nx : pp_W_law_b875 g e0 mc ms L xs b K Bf M2 (cu + 1) (su + 6) x1 x2 x3 (nI (1 + 5 * j)) := hB A _ _ M2 _ _ (lw_nx H2 (iv_mt _ V1) c1 (bd_s (bd_mt _ hbd)) (by rw [mV_mt]; omega) (by rw [mV_mt]; omega) a0 a30 a60)
      refine ⟨fun z => mq_al (hs_60 H2) (show (0 : Int32) = nI 0 from nI_0.symm) (by decide) (by decide) ⟨fun _ => ?_, fun w => absurd (cmp_0 ((ov z).trans (Q2 z))) w⟩, fun z => ?_⟩
      · rw [a0, a30, a60]; exact nx
      · rw [a0, a30, a60]; exact nx
    · -- road
      refine ⟨i1, i2, i3, hcu, hsu, ?_⟩
      rw [← a0]
      refine ⟨⟨_, hs_0 H⟩, l2_road H o ⟨i1, i2, i3, hcu, hsu, ?_⟩⟩
      rw [← a30]
      refine ⟨⟨_, rs_30 Hp⟩, l2m_road Hp ro (fun M2 H2 => ⟨fun _ => ?_, fun z => absurd (cmp_0 (q_road V0)) z⟩)⟩
      rw [a0, a30]
      exact hB A _ _ M2 _ _ (ask 0 M2 H2)
    · -- total
      obtain ⟨Q1, Q2⟩ := q_total (x1 := v1) (x2 := v2) V0
      refine ⟨i1, i2, by omega, by omega, ?_⟩
      rw [← a0, ← a60]
      refine l2_Wtotal H o (fun M1 H1 => ⟨i1, i2, by omega, by omega, ?_⟩)
      have E1 := er_hx E (hx_out h (hc_ttt h v1 v2) (hc_ttv h v1 v2))
      have V1 := lo_iv (lo_out h (hc_ttt h v1 v2) (hc_ttv h v1 v2)) V
      have c1 := lo_ci (lo_out h (hc_ttt h v1 v2) (hc_ttv h v1 v2)) I4
      have ov := fun z => out_v h (k := hc_ttt h v1 v2) (hc_ttv h v1 v2) z
      generalize hc_out h (hc_ttt h v1 v2) (hc_ttv h v1 v2) = h1 at H1 E1 V1 c1 ov
      have Hp1 : hs_in g e0 A (hs_put h1 r) M1 := by rw [er_put E1]; exact H1
      rw [← a30]
      refine ⟨⟨_, rs_30 Hp1⟩, l2m_total Hp1 ro (fun M2 H2 => ⟨by omega, by omega, ⟨_, rs_30 H2⟩, l2m_thrown H2 ⟨fun _ => ?_, fun z => absurd Q1.symm z⟩⟩)⟩
      have nx : pp_W_law_b992 g e0 mc ms L xs b K Bf M2 (cu + 1) (su + 6) x1 x2 x3 (nI (1 + 5 * j)) := hB A _ _ M2 _ _ (lw_nx H2 (iv_mt _ V1) c1 (bd_s (bd_mt _ hbd)) (by rw [mV_mt]; omega) (by rw [mV_mt]; omega) a0 a30 a60)
      refine ⟨fun z => mq_al (hs_60 H2) (show (0 : Int32) = nI 0 from nI_0.symm) (by decide) (by decide) ⟨fun _ => ?_, fun w => absurd (cmp_0 ((ov z).trans (Q2 z))) w⟩, fun z => ?_⟩
      · rw [a0, a30, a60]; exact nx
      · rw [a0, a30, a60]; exact nx
    · -- minted
      refine ⟨i1, i2, hcu, hsu, ?_⟩
      rw [← a0]
      refine ⟨⟨_, hs_0 H⟩, l2_minted H o ⟨i1, i2, hcu, hsu, ?_⟩⟩
      rw [← a30]
      refine ⟨⟨_, rs_30 Hp⟩, l2m_minted Hp ro (fun M2 H2 => ⟨fun _ => ?_, fun z => absurd (cmp_0 (q_minted V0)) z⟩)⟩
      rw [a0, a30]
      exact hB A _ _ M2 _ _ (ask 0 M2 H2)
    · -- trueTotal
      refine ⟨i1, hcu, hsu, ?_⟩
      rw [← a0]
      refine ⟨⟨_, hs_0 H⟩, l2_trueTotal H o ⟨i1, hcu, hsu, ?_⟩⟩
      rw [← a30]
      refine ⟨⟨_, rs_30 Hp⟩, l2m_trueTotal Hp ro (fun M2 H2 => ⟨fun _ => ?_, fun z => absurd (cmp_0 (q_trueTotal V0)) z⟩)⟩
      rw [a0, a30]
      exact hB A _ _ M2 _ _ (ask 0 M2 H2)
    · -- below
      refine ⟨i1, i2, i3, i4, hcu, hsu, ?_⟩
      rw [← a0]
      refine ⟨⟨_, hs_0 H⟩, l2_below H o ⟨i1, i2, i3, i4, hcu, hsu, ?_⟩⟩
      rw [← a30]
      refine ⟨⟨_, rs_30 Hp⟩, l2m_below Hp ro (fun M2 H2 => ⟨fun _ => ?_, fun z => absurd (q_below V0) z⟩)⟩
      rw [a0, a30]
      exact hB A _ _ M2 _ _ (ask 0 M2 H2)
    · -- events
      refine ⟨i1, i2, hcu, hsu, ?_⟩
      rw [← a0]
      refine ⟨⟨_, hs_0 H⟩, l2_events H o ⟨i1, i2, hcu, hsu, ?_⟩⟩
      rw [← a30]
      refine ⟨⟨_, rs_30 Hp⟩, l2m_events Hp ro (fun M2 H2 => ⟨fun _ => ?_, fun z => absurd (q_events V0) z⟩)⟩
      rw [a0, a30]
      exact hB A _ _ M2 _ _ (ask 0 M2 H2)
end LP2
