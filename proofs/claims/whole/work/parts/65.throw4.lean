section TH4
variable {g : Nat → ClassId} {e0 : Nat → Nat} {A : hs_A} {h : hs_S} {M : mo_M}
theorem th_some {x1 x2 : Int32} {l j : Nat} (o : hs_ok h) (q : hc_th h x1 x2 = some (l, j)) : ix_n x1 (hs_n h 1 0) = some l ∧ ix_n x2 (hs_q h l).length = some j := by
  unfold hc_th at q
  cases hl : ix_n x1 (hs_n h 1 0) with
  | none => rw [hl] at q; cases q
  | some l' =>
    rw [hl] at q
    dsimp only at q
    cases hj : ix_n x2 (hs_q h l').length with
    | none => rw [hj] at q; cases q
    | some j' =>
      rw [hj] at q
      cases q
      exact ⟨rfl, hj⟩
theorem q_len (o : hs_ok h) {l : Nat} (hl : l < hs_n h 1 0) : (hs_q h l).length < 2 ^ 31 := by
  have := o.2.2.2.2 l (Or.inl hl)
  rw [hs_zl _ (hs_okl o hl)] at this
  omega
/-- to the thing, on both roads -/
theorem l2_toThing {N : Nat → mo_M → Prop} {x1 x2 : Int32} {l j : Nat} (H : hs_in g e0 A h M) (o : hs_ok h) (q : hc_th h x1 x2 = some (l, j)) (hN : l < hs_n h 1 0 → j < (hs_q h l).length → N (A 24 l j) M) : mp_gr M (A 0 0 0) 0 1 (fun v3 => (mp_is M v3 5 ∧ pp_A_get g e0 (fun r5 M4 => (mp_is M4 r5 2 ∧ mp_gr M4 r5 2 3 (fun v6 => (mp_is M4 v6 5 ∧ pp_A_get g e0 (fun r8 M7 => (mp_is M7 r8 3 ∧ N r8 M7)) M4 v6 x2)))) M v3 x1)) := by
  obtain ⟨hl, hj⟩ := th_some o q
  obtain ⟨el, ll⟩ := (ix_some (hs_okL o)).mp hl
  obtain ⟨ej, lj⟩ := (ix_some (q_len o ll)).mp hj
  exact l2_lnk H o hl (fun _ => l2_thg H o ll ej lj (hN ll lj))
theorem x3_out {x : Int32} {n : Nat} (hn : n < 100) (q : x < 0 ∨ ¬ x ≤ nI n) : x.toInt < 0 ∨ (n : Int) < x.toInt := by
  rcases q with q | q
  · have := Int32.lt_iff_toInt_lt.mp q
    exact Or.inl this
  · have := Int32.lt_iff_toInt_lt.mp (Int32.not_le.mp q)
    rw [nI_toInt (by omega)] at this
    exact Or.inr this
theorem l2_thingR {K : Int32 → mo_M → Prop} {x1 x2 x3 : Int32} (H : hs_in g e0 A h M) (o : hs_ok h) (h0 : hc_tht h x1 x2 x3 = 0) (hK : K (hc_thv h x1 x2 x3) M) : pp_H_thing g e0 K M (A 0 0 0) x1 x2 x3 := by
  unfold pp_H_thing
  unfold hc_tht at h0
  unfold hc_thv at hK
  refine ⟨⟨_, hs_0 H⟩, l2_hasThing H o (zb_br (fun q => ?_) (fun q => ?_))⟩
  · rw [q, if_neg (by decide)] at h0
    exact absurd h0 (by decide)
  · obtain ⟨⟨l, j⟩, hq⟩ := Option.isSome_iff_exists.mp q
    rw [hq] at hK
    rw [hq, if_pos (show (some (l, j)).isSome = true from rfl)] at h0
    have hr : ¬ (x3 < 0 ∨ ¬ x3 ≤ 3) := fun z => by rw [if_pos z] at h0; exact absurd h0 (by decide)
    refine l2_toThing H o hq (fun ll lj => ?_)
    have h24 := hs_24 H ll lj
    dsimp only at hK
    refine ⟨fun z => ?_, fun z => ?_, fun z => ?_, fun z => ?_, fun z => ?_⟩
    · refine absurd ?_ hr
      rcases z with z | z
      · exact Or.inl (Int32.lt_iff_toInt_lt.mpr z)
      · exact Or.inr (fun w => by have := Int32.le_iff_toInt_le.mp w; have e3 : (3 : Int32).toInt = 3 := by decide
                                  omega)
    · rw [if_pos z] at hK
      exact mq_gi h24 rfl hK
    · rw [if_neg (by rw [z]; decide), if_pos z] at hK
      exact mq_gi h24 rfl hK
    · rw [if_neg (by rw [z]; decide), if_neg (by rw [z]; decide), if_pos z] at hK
      exact mq_gi h24 rfl hK
    · rw [if_neg (by rw [z]; decide), if_neg (by rw [z]; decide), if_neg (by rw [z]; decide)] at hK
      exact mq_gi h24 rfl hK
theorem l2_thingT {K : Nat → mo_M → Prop} {x1 x2 x3 : Int32} (H : hs_in g e0 A h M) (o : hs_ok h) (h0 : ¬ hc_tht h x1 x2 x3 = 0) (hK : ∀ k, nI k = hc_tht h x1 x2 x3 → (k = 1 ∨ k = 2) → K k M) : pq_H_thing g e0 K M (A 0 0 0) x1 x2 x3 := by
  unfold pq_H_thing
  unfold hc_tht at h0 hK
  refine ⟨⟨_, hs_0 H⟩, l2_hasThing H o (zb_br (fun q => ?_) (fun q => ?_))⟩
  · rw [q, if_neg (by decide)] at hK
    exact hK 1 rfl (Or.inl rfl)
  · obtain ⟨⟨l, j⟩, hq⟩ := Option.isSome_iff_exists.mp q
    rw [hq, if_pos (show (some (l, j)).isSome = true from rfl)] at h0 hK
    have hr : x3 < 0 ∨ ¬ x3 ≤ 3 := by
      by_cases z : x3 < 0 ∨ ¬ x3 ≤ 3
      · exact z
      · rw [if_neg z] at h0; exact absurd rfl h0
    rw [if_pos hr] at hK
    have ho := x3_out (n := 3) (by decide) hr
    refine l2_toThing H o hq (fun ll lj => ⟨fun _ => hK 2 rfl (Or.inr rfl), fun z => ?_, fun z => ?_, fun z => ?_, fun z => ?_⟩) <;>
    · rw [z] at ho
      exact absurd ho (by decide)
theorem l2_pieceR {K : Int64 → mo_M → Prop} {x1 x2 x3 x4 : Int32} (H : hs_in g e0 A h M) (o : hs_ok h) (h0 : hc_pct h x1 x2 x3 x4 = 0) (hK : K (hc_pcv h x1 x2 x3 x4) M) : pp_H_piece g e0 K M (A 0 0 0) x1 x2 x3 x4 := by
  unfold pp_H_piece
  have hp : hc_pis h x1 x2 x3 = true := by
    cases hq : hc_pis h x1 x2 x3 with
    | true => rfl
    | false => unfold hc_pct at h0; rw [hq, if_neg (by decide)] at h0; exact absurd h0 (by decide)
  have hr : ¬ (x4 < 0 ∨ ¬ x4 ≤ 1) := fun z => by unfold hc_pct at h0; rw [hp, if_pos rfl, if_pos z] at h0; exact absurd h0 (by decide)
  have hx4 : x4 = 0 ∨ x4 = 1 := by
    obtain ⟨j, hj, e⟩ := nI_of (x := x4) (fun z => hr (Or.inl z))
    have h1 : x4 ≤ 1 := by
      by_cases z : x4 ≤ 1
      · exact z
      · exact absurd (Or.inr z) hr
    rw [e, show (1 : Int32) = nI 1 from rfl, nI_leI hj (by decide)] at h1
    have : j = 0 ∨ j = 1 := by omega
    rcases this with rfl | rfl
    · exact Or.inl e
    · exact Or.inr e
  unfold hc_pis at hp
  unfold hc_pcv at hK
  refine ⟨⟨_, hs_0 H⟩, l2_hasNumber H o (zb_br (fun q => ?_) (fun q => ⟨⟨_, hs_0 H⟩, l2_hasKiosk H o (zb_br (fun r => ?_) (fun r => l2_hasCurrency (zb_br (fun t => ?_) (fun t => ?_))))⟩))⟩
  · rw [Option.isSome_eq_false_iff, Option.isNone_iff_eq_none] at q
    rw [q] at hp
    cases hp
  · rw [Option.isSome_eq_false_iff, Option.isNone_iff_eq_none] at r
    rw [r] at hp
    generalize ix_n x1 (hs_n h 2 0) = z at hp
    cases z <;> cases hp
  · rw [Option.isSome_eq_false_iff, Option.isNone_iff_eq_none] at t
    rw [t] at hp
    generalize ix_n x1 (hs_n h 2 0) = z at hp
    generalize ix_n x2 (hs_n h 0 0) = y at hp
    cases z <;> cases y <;> cases hp
  · obtain ⟨n, hn⟩ := Option.isSome_iff_exists.mp q
    obtain ⟨k, hk⟩ := Option.isSome_iff_exists.mp r
    obtain ⟨d, hd⟩ := Option.isSome_iff_exists.mp t
    rw [hn, hk, hd] at hp
    dsimp only at hp
    obtain ⟨en, ln⟩ := (ix_some (hs_okN o)).mp hn
    obtain ⟨ek, lk⟩ := (ix_some (hs_okK o)).mp hk
    obtain ⟨ed, ld⟩ := (ix_some (by decide)).mp hd
    have hn16 : n < 16 := by have := o.2.2.1; omega
    have hk6 : k < 6 := by have := o.1.2; omega
    have evn : ix_v x1 = n := by rw [en]; exact ix_vn (by omega)
    have evk : ix_v x2 = k := by rw [ek]; exact ix_vn (by omega)
    have evd : ix_v x3 = d := by rw [ed]; exact ix_vn (by omega)
    rw [evn, evk, evd] at hK
    refine l2_kio H o hk (fun kk => ⟨⟨_, hs_8 H kk⟩, l2_hasMark H kk (zb_br (fun t => ?_) (fun t => ⟨fun z => ?_, fun z => ?_, fun z w => ?_⟩))⟩)
    · rw [t] at hp; cases hp
    · rw [if_pos z] at hK
      exact l2_kio H o hk (fun _ => mq_gr (hs_8 H kk) rfl (mq_aq (hs_12 H kk) en hn16 (by decide) rfl (mq_al (hs_16 H kk hn16) ed ld (by decide) hK)))
    · rw [if_neg (by rw [z]; decide)] at hK
      exact l2_kio H o hk (fun _ => mq_gr (hs_8 H kk) rfl (mq_aq (hs_13 H kk) en hn16 (by decide) rfl (mq_al (hs_17 H kk hn16) ed ld (by decide) hK)))
    · exact hx4.elim (fun y => absurd y z) (fun y => absurd y w)
theorem l2_pieceT {K : Nat → mo_M → Prop} {x1 x2 x3 x4 : Int32} (H : hs_in g e0 A h M) (o : hs_ok h) (h0 : ¬ hc_pct h x1 x2 x3 x4 = 0) (hK : ∀ k, nI k = hc_pct h x1 x2 x3 x4 → (k = 1 ∨ k = 2) → K k M) : pq_H_piece g e0 K M (A 0 0 0) x1 x2 x3 x4 := by
  unfold pq_H_piece
  have k1 : hc_pis h x1 x2 x3 = false → K 1 M := fun z => hK 1 (by unfold hc_pct; rw [z, if_neg (by decide)]; rfl) (Or.inl rfl)
  unfold hc_pis at k1
  refine ⟨⟨_, hs_0 H⟩, l2_hasNumber H o (zb_br (fun q => ?_) (fun q => ⟨⟨_, hs_0 H⟩, l2_hasKiosk H o (zb_br (fun r => ?_) (fun r => l2_hasCurrency (zb_br (fun t => ?_) (fun t => ?_))))⟩))⟩
  · rw [Option.isSome_eq_false_iff, Option.isNone_iff_eq_none] at q
    rw [q] at k1
    exact k1 rfl
  · rw [Option.isSome_eq_false_iff, Option.isNone_iff_eq_none] at r
    rw [r] at k1
    generalize ix_n x1 (hs_n h 2 0) = z at k1
    cases z <;> exact k1 rfl
  · rw [Option.isSome_eq_false_iff, Option.isNone_iff_eq_none] at t
    rw [t] at k1
    generalize ix_n x1 (hs_n h 2 0) = z at k1
    generalize ix_n x2 (hs_n h 0 0) = y at k1
    cases z <;> cases y <;> exact k1 rfl
  · obtain ⟨n, hn⟩ := Option.isSome_iff_exists.mp q
    obtain ⟨k, hk⟩ := Option.isSome_iff_exists.mp r
    obtain ⟨d, hd⟩ := Option.isSome_iff_exists.mp t
    rw [hn, hk, hd] at k1
    dsimp only at k1
    refine l2_kio H o hk (fun kk => ⟨⟨_, hs_8 H kk⟩, l2_hasMark H kk (zb_br (fun t => k1 t) (fun t => ?_))⟩)
    have hp : hc_pis h x1 x2 x3 = true := by
      unfold hc_pis
      rw [hn, hk, hd]
      exact t
    have hr : x4 < 0 ∨ ¬ x4 ≤ 1 := by
      by_cases z : x4 < 0 ∨ ¬ x4 ≤ 1
      · exact z
      · exact absurd (by unfold hc_pct; rw [hp, if_pos rfl, if_neg z]) h0
    have k2 : K 2 M := hK 2 (by unfold hc_pct; rw [hp, if_pos rfl, if_pos hr]; rfl) (Or.inr rfl)
    refine ⟨fun z => ?_, fun z => ?_, fun _ _ => k2⟩ <;>
    · rw [z] at hr
      exact absurd hr (by decide)
theorem l2_tot_l {K : Int64 → mo_M → Prop} {x1 x2 : Int32} {n d : Nat} {v : Int64} (H : hs_in g e0 A h M) (o : hs_ok h) (en : x1 = nI n) (hn : n < 16) (ed : x2 = nI d) (hd : d < 3) (hK : K (v + sm_l (hc_tvG h n d) (hs_n h 1 0)) M) : ∀ m l, l + m = hs_n h 1 0 → pp_H_total_b81 g e0 K (m + 1) M (A 0 0 0) x1 x2 (v + sm_l (hc_tvG h n d) l) (nI l)
  | 0, l, hl => by
    unfold pp_H_total_b81
    refine l2_lloop H o rfl (by omega) (fun q => ?_) (fun q => absurd q (by omega))
    rw [q]
    exact hK
  | m + 1, l, hl => by
    unfold pp_H_total_b81
    have ih := l2_tot_l H o en hn ed hd hK m (l + 1) (by omega)
    rw [← nI_1, show sm_l (hc_tvG h n d) (l + 1) = sm_l (hc_tvG h n d) l + hs_l h 23 l n d from rfl, ← Int64.add_assoc] at ih
    exact l2_lloop H o rfl (by omega) (fun q => absurd q (by omega)) (fun q => l2_lnk H o (ix_nI q (hs_okL o)) (fun ll => mq_gr (hs_19 H ll) rfl (mq_aq (hs_22 H ll) en hn (by decide) rfl (mq_al (hs_23 H ll hn) ed hd (by decide) ih))))
theorem l2_tot_k {K : Int64 → mo_M → Prop} {x1 x2 : Int32} {n d : Nat} (H : hs_in g e0 A h M) (o : hs_ok h) (en : x1 = nI n) (hn : n < 16) (ed : x2 = nI d) (hd : d < 3) (hK : K (sm_l (hc_tvF h n d) (hs_n h 0 0) + sm_l (hc_tvG h n d) (hs_n h 1 0)) M) : ∀ m k, k + m = hs_n h 0 0 → pp_H_total_b30 g e0 K (m + 1) M (A 0 0 0) x1 x2 (sm_l (hc_tvF h n d) k) (nI k)
  | 0, k, hk => by
    unfold pp_H_total_b30
    refine l2_kloop H o rfl (by omega) (fun q => ?_) (fun q => absurd q (by omega))
    rw [q]
    have := l2_tot_l H o en hn ed hd hK (hs_n h 1 0) 0 (by omega)
    rw [show sm_l (hc_tvG h n d) 0 = 0 from rfl, Int64.add_zero] at this
    exact ⟨_, this⟩
  | m + 1, k, hk => by
    unfold pp_H_total_b30
    have ih := l2_tot_k H o en hn ed hd hK m (k + 1) (by omega)
    rw [← nI_1, show sm_l (hc_tvF h n d) (k + 1) = sm_l (hc_tvF h n d) k + (hs_l h 16 k n d + hs_l h 17 k n d) from rfl] at ih
    exact l2_kloop H o rfl (by omega) (fun q => absurd q (by omega)) (fun q => l2_kio H o (ix_nI q (hs_okK o)) (fun _ => mq_gr (hs_8 H q) rfl (mq_aq (hs_12 H q) en hn (by decide) rfl (mq_al (hs_16 H q hn) ed hd (by decide) (l2_kio H o (ix_nI q (hs_okK o)) (fun _ => mq_gr (hs_8 H q) rfl (mq_aq (hs_13 H q) en hn (by decide) rfl (mq_al (hs_17 H q hn) ed hd (by decide) ih))))))))
theorem l2_totalR {K : Int64 → mo_M → Prop} {x1 x2 : Int32} (H : hs_in g e0 A h M) (o : hs_ok h) (h0 : hc_ttt h x1 x2 = 0) (hK : K (hc_ttv h x1 x2) M) : pp_H_total g e0 K M (A 0 0 0) x1 x2 := by
  unfold pp_H_total
  have hp : hc_tis h x1 x2 = true := by
    cases hq : hc_tis h x1 x2 with
    | true => rfl
    | false => unfold hc_ttt at h0; rw [hq, if_neg (by decide)] at h0; exact absurd h0 (by decide)
  unfold hc_tis at hp
  rw [Bool.and_eq_true] at hp
  refine l2_hasCurrency (zb_br (fun q => ?_) (fun q => ⟨⟨_, hs_0 H⟩, l2_finished H o (zb_br (fun r => ?_) (fun r => ?_))⟩))
  · rw [hp.1] at q; cases q
  · rw [hp.2] at r; cases r
  · obtain ⟨d, hd⟩ := Option.isSome_iff_exists.mp q
    unfold hc_finished at r
    rw [Bool.and_eq_true] at r
    obtain ⟨n, hn⟩ := Option.isSome_iff_exists.mp r.1
    obtain ⟨en, ln⟩ := (ix_some (hs_okN o)).mp hn
    obtain ⟨ed, ld⟩ := (ix_some (by decide)).mp hd
    have hn16 : n < 16 := by have := o.2.2.1; omega
    unfold hc_ttv at hK
    have evn : ix_v x1 = n := by rw [en]; exact ix_vn (by omega)
    have evd : ix_v x2 = d := by rw [ed]; exact ix_vn (by omega)
    rw [evn, evd] at hK
    exact ⟨_, l2_tot_k H o en hn16 ed ld hK (hs_n h 0 0) 0 (by omega)⟩
theorem l2_totalT {K : Nat → mo_M → Prop} {x1 x2 : Int32} (H : hs_in g e0 A h M) (o : hs_ok h) (h0 : ¬ hc_ttt h x1 x2 = 0) (hK : K 1 M) : pq_H_total g e0 K M (A 0 0 0) x1 x2 := by
  unfold pq_H_total
  refine l2_hasCurrency (zb_br (fun q => hK) (fun q => ⟨⟨_, hs_0 H⟩, l2_finished H o (zb_br (fun r => hK) (fun r => ?_))⟩))
  refine absurd ?_ h0
  unfold hc_ttt hc_tis
  rw [q, r]
  rfl
end TH4
