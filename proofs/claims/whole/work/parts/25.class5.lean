section CL5
variable {g : Nat → ClassId} {e0 : Nat → Nat} {A : hs_A} {h : hs_S} {M : mo_M}
def hc_mdF (h : hs_S) (x1 : Int32) (n c k : Nat) : Int64 := if hc_bit (hs_i h 8 k 0 1) x1 = true then hs_l h 18 k n c else 0
theorem l2_md_loop {K : Int64 → mo_M → Prop} {x1 x2 : Int32} {n c : Nat} (H : hs_in g e0 A h M) (o : hs_ok h) (e1 : x1 = nI n) (hn : n < 16) (e2 : x2 = nI c) (hc : c < 3) (hK : K (sm_l (hc_mdF h x1 n c) (hs_n h 0 0)) M) : ∀ m k, k + m = hs_n h 0 0 → pp_H_minted_b22 g e0 K (m + 1) M (A 0 0 0) x1 x2 (sm_l (hc_mdF h x1 n c) k) (nI k)
  | 0, k, hk => by
    unfold pp_H_minted_b22
    refine l2_kloop H o rfl (by omega) (fun q => ?_) (fun q => absurd q (by omega))
    rw [q]
    exact hK
  | m + 1, k, hk => by
    unfold pp_H_minted_b22
    have ih := l2_md_loop H o e1 hn e2 hc hK m (k + 1) (by omega)
    rw [← nI_1, show sm_l (hc_mdF h x1 n c) (k + 1) = sm_l (hc_mdF h x1 n c) k + hc_mdF h x1 n c k from rfl] at ih
    refine l2_kloop H o rfl (by omega) (fun q => absurd q (by omega)) (fun q => l2_kio H o (ix_nI q (hs_okK o)) (fun _ => ⟨⟨_, hs_8 H q⟩, l2_hasMark H q (zb_br (fun t => ?_) (fun t => l2_kio H o (ix_nI q (hs_okK o)) (fun _ => mq_gr (hs_8 H q) rfl (mq_aq (hs_14 H q) e1 hn (by decide) rfl (mq_al (hs_18 H q hn) e2 hc (by decide) ?_)))))⟩))
    · rw [hc_mdF, if_neg (by rw [t]; decide), Int64.add_zero] at ih
      exact ih
    · rw [hc_mdF, if_pos t] at ih
      exact ih
def hc_minted (h : hs_S) (x1 x2 : Int32) : Int64 := match ix_n x1 (hs_n h 2 0), ix_n x2 3 with
  | some n, some c => sm_l (hc_mdF h x1 n c) (hs_n h 0 0)
  | _, _ => 0
theorem l2_minted {K : Int64 → mo_M → Prop} {x1 x2 : Int32} (H : hs_in g e0 A h M) (o : hs_ok h) (hK : K (hc_minted h x1 x2) M) : pp_H_minted g e0 K M (A 0 0 0) x1 x2 := by
  unfold pp_H_minted
  unfold hc_minted at hK
  refine ⟨⟨_, hs_0 H⟩, l2_hasNumber H o (zb_br (fun q => ?_) (fun q => l2_hasCurrency (zb_br (fun t => ?_) (fun t => ?_))))⟩
  · rw [Option.isSome_eq_false_iff, Option.isNone_iff_eq_none] at q
    rw [q] at hK
    exact hK
  · rw [Option.isSome_eq_false_iff, Option.isNone_iff_eq_none] at t
    rw [t] at hK
    generalize ix_n x1 (hs_n h 2 0) = z at hK
    cases z <;> exact hK
  · obtain ⟨n, hn⟩ := Option.isSome_iff_exists.mp q
    obtain ⟨c, hc⟩ := Option.isSome_iff_exists.mp t
    rw [hn, hc] at hK
    obtain ⟨e1, hn1⟩ := (ix_some (hs_okN o)).mp hn
    obtain ⟨e3, hc3⟩ := (ix_some (by decide)).mp hc
    have hn16 : n < 16 := by have := o.2.2.1; omega
    exact ⟨_, l2_md_loop H o e1 hn16 e3 hc3 hK (hs_n h 0 0) 0 (by omega)⟩
def hc_sb (x : Int32) (v : Int64) (t : hs_T) : Int64 := if t.1 = 1 ∧ t.2.1 = x then v + t.2.2.1.toInt64 else v
theorem l2_sb_loop {K : Int64 → mo_M → Prop} {x : Int32} {l : Nat} (H : hs_in g e0 A h M) (o : hs_ok h) (hl : l < hs_n h 1 0) : ∀ m j v, j + m = (hs_q h l).length → K (((hs_q h l).drop j).foldl (hc_sb x) v) M → pp_L_sumOfBags_b5 g e0 K (m + 1) M (A 19 l 0) x v (nI j)
  | 0, j, v, hj, hK => by
    have h31 := hs_okq o hl
    unfold pp_L_sumOfBags_b5
    refine l2_tsz H o hl (le_br h31 (by omega) (fun q => ?_) (fun q => absurd q (by omega)))
    rw [List.drop_eq_nil_of_le (by omega)] at hK
    exact hK
  | m + 1, j, v, hj, hK => by
    have h31 := hs_okq o hl
    have hlt : j < (hs_q h l).length := by omega
    unfold pp_L_sumOfBags_b5
    rw [dr_c (d := (0, 0, 0, 0)) hlt, List.foldl_cons] at hK
    refine l2_tsz H o hl (le_br h31 (by omega) (fun q => absurd q (by omega)) (fun q => l2_thg H o hl rfl hlt (mq_gi (hs_24 H hl hlt) rfl ⟨fun t => mq_gi (hs_24 H hl hlt) rfl ⟨fun r => mq_gi (hs_24 H hl hlt) rfl ?_, fun r => ?_⟩, fun t => ?_⟩)))
    · unfold pp_L_sumOfBags_b58
      rw [nI_1]
      refine l2_sb_loop H o hl m (j + 1) _ (by omega) ?_
      rw [hc_sb, if_pos ⟨t, r⟩] at hK
      exact hK
    · unfold pp_L_sumOfBags_b58
      rw [nI_1]
      refine l2_sb_loop H o hl m (j + 1) _ (by omega) ?_
      rw [hc_sb, if_neg (fun z => r z.2)] at hK
      exact hK
    · unfold pp_L_sumOfBags_b58
      rw [nI_1]
      refine l2_sb_loop H o hl m (j + 1) _ (by omega) ?_
      rw [hc_sb, if_neg (fun z => t z.1)] at hK
      exact hK
theorem l2_sumOfBags {K : Int64 → mo_M → Prop} {x : Int32} {l : Nat} (H : hs_in g e0 A h M) (o : hs_ok h) (hl : l < hs_n h 1 0) (hK : K ((hs_q h l).foldl (hc_sb x) 0) M) : pp_L_sumOfBags g e0 K M (A 19 l 0) x := by
  unfold pp_L_sumOfBags
  exact ⟨_, l2_sb_loop H o hl (hs_q h l).length 0 0 (by omega) hK⟩
def hc_cb (q : List hs_T) : Nat := (q.filter (fun t => decide (t.1 = 1))).length
theorem l2_cb_loop {K : Int32 → mo_M → Prop} {l : Nat} (H : hs_in g e0 A h M) (o : hs_ok h) (hl : l < hs_n h 1 0) : ∀ m j a, j + m = (hs_q h l).length → K (nI (a + hc_cb ((hs_q h l).drop j))) M → pp_L_countBags_b4 g e0 K (m + 1) M (A 19 l 0) (nI a) (nI j)
  | 0, j, a, hj, hK => by
    have h31 := hs_okq o hl
    unfold pp_L_countBags_b4
    refine l2_tsz H o hl (le_br h31 (by omega) (fun q => ?_) (fun q => absurd q (by omega)))
    rw [List.drop_eq_nil_of_le (by omega)] at hK
    exact hK
  | m + 1, j, a, hj, hK => by
    have h31 := hs_okq o hl
    have hlt : j < (hs_q h l).length := by omega
    unfold pp_L_countBags_b4
    rw [dr_c (d := (0, 0, 0, 0)) hlt, hc_cb, List.filter_cons] at hK
    refine l2_tsz H o hl (le_br h31 (by omega) (fun q => absurd q (by omega)) (fun q => l2_thg H o hl rfl hlt (mq_gi (hs_24 H hl hlt) rfl ⟨fun t => ?_, fun t => ?_⟩)))
    · unfold pp_L_countBags_b36
      rw [nI_1, nI_1]
      refine l2_cb_loop H o hl m (j + 1) (a + 1) (by omega) ?_
      rw [if_pos (decide_eq_true t), List.length_cons] at hK
      rw [show a + 1 + hc_cb ((hs_q h l).drop (j + 1)) = a + (((hs_q h l).drop (j + 1)).filter (fun t => decide (t.1 = 1))).length + 1 by unfold hc_cb; omega]
      exact hK
    · unfold pp_L_countBags_b36
      rw [nI_1]
      refine l2_cb_loop H o hl m (j + 1) a (by omega) ?_
      rw [if_neg (by simpa using t)] at hK
      exact hK
theorem l2_countBags {K : Int32 → mo_M → Prop} {l : Nat} (H : hs_in g e0 A h M) (o : hs_ok h) (hl : l < hs_n h 1 0) (hK : K (nI (hc_cb (hs_q h l))) M) : pp_L_countBags g e0 K M (A 19 l 0) := by
  unfold pp_L_countBags
  exact ⟨_, l2_cb_loop H o hl (hs_q h l).length 0 0 (by omega) (by rw [Nat.zero_add]; exact hK)⟩
def hc_ttF (h : hs_S) (c k : Nat) : Int64 := hs_l h 9 k 0 c + hs_l h 10 k 0 c
def hc_ttG (h : hs_S) (x : Int32) (l : Nat) : Int64 := (hs_q h l).foldl (hc_sb x) 0
theorem l2_tt_loop2 {K : Int64 → mo_M → Prop} {x : Int32} {v : Int64} (H : hs_in g e0 A h M) (o : hs_ok h) (hK : K (v + sm_l (hc_ttG h x) (hs_n h 1 0)) M) : ∀ m l, l + m = hs_n h 1 0 → pp_H_trueTotal_b61 g e0 K (m + 1) M (A 0 0 0) x (v + sm_l (hc_ttG h x) l) (nI l)
  | 0, l, hl => by
    unfold pp_H_trueTotal_b61
    refine l2_lloop H o rfl (by omega) (fun q => ?_) (fun q => absurd q (by omega))
    rw [q]
    exact hK
  | m + 1, l, hl => by
    unfold pp_H_trueTotal_b61
    have ih := l2_tt_loop2 H o hK m (l + 1) (by omega)
    rw [← nI_1, show sm_l (hc_ttG h x) (l + 1) = sm_l (hc_ttG h x) l + hc_ttG h x l from rfl, ← Int64.add_assoc] at ih
    exact l2_lloop H o rfl (by omega) (fun q => absurd q (by omega)) (fun q => l2_lnk H o (ix_nI q (hs_okL o)) (fun _ => ⟨⟨_, hs_19 H q⟩, l2_sumOfBags H o q ih⟩))
theorem l2_tt_loop1 {K : Int64 → mo_M → Prop} {x : Int32} {c : Nat} (H : hs_in g e0 A h M) (o : hs_ok h) (e : x = nI c) (hc : c < 3) (hK : K (sm_l (hc_ttF h c) (hs_n h 0 0) + sm_l (hc_ttG h x) (hs_n h 1 0)) M) : ∀ m k, k + m = hs_n h 0 0 → pp_H_trueTotal_b14 g e0 K (m + 1) M (A 0 0 0) x (sm_l (hc_ttF h c) k) (nI k)
  | 0, k, hk => by
    unfold pp_H_trueTotal_b14
    refine l2_kloop H o rfl (by omega) (fun q => ?_) (fun q => absurd q (by omega))
    rw [q]
    have := l2_tt_loop2 H o hK (hs_n h 1 0) 0 (by omega)
    rw [show sm_l (hc_ttG h x) 0 = 0 from rfl, Int64.add_zero] at this
    exact ⟨_, this⟩
  | m + 1, k, hk => by
    unfold pp_H_trueTotal_b14
    have ih := l2_tt_loop1 H o e hc hK m (k + 1) (by omega)
    rw [← nI_1, show sm_l (hc_ttF h c) (k + 1) = sm_l (hc_ttF h c) k + (hs_l h 9 k 0 c + hs_l h 10 k 0 c) from rfl] at ih
    exact l2_kloop H o rfl (by omega) (fun q => absurd q (by omega)) (fun q => l2_kio H o (ix_nI q (hs_okK o)) (fun _ => mq_gr (hs_8 H q) rfl (mq_al (hs_9 H q) e hc (by decide) (l2_kio H o (ix_nI q (hs_okK o)) (fun _ => mq_gr (hs_8 H q) rfl (mq_al (hs_10 H q) e hc (by decide) ih))))))
def hc_trueTotal (h : hs_S) (x : Int32) : Int64 := match ix_n x 3 with
  | some c => sm_l (hc_ttF h c) (hs_n h 0 0) + sm_l (hc_ttG h x) (hs_n h 1 0)
  | none => 0
theorem l2_trueTotal {K : Int64 → mo_M → Prop} {x : Int32} (H : hs_in g e0 A h M) (o : hs_ok h) (hK : K (hc_trueTotal h x) M) : pp_H_trueTotal g e0 K M (A 0 0 0) x := by
  unfold pp_H_trueTotal
  unfold hc_trueTotal at hK
  refine l2_hasCurrency (zb_br (fun q => ?_) (fun q => ?_))
  · rw [Option.isSome_eq_false_iff, Option.isNone_iff_eq_none] at q
    rw [q] at hK
    exact hK
  · obtain ⟨c, hc⟩ := Option.isSome_iff_exists.mp q
    rw [hc] at hK
    obtain ⟨e, hc3⟩ := (ix_some (by decide)).mp hc
    exact ⟨_, l2_tt_loop1 H o e hc3 hK (hs_n h 0 0) 0 (by omega)⟩
/-- the first from k on that is below -/
def hc_bl (h : hs_S) (x1 : Int32) (n c : Nat) (y : Int64) : Nat → Nat → Int32
  | _, 0 => -1
  | k, m + 1 => if hc_bit (hs_i h 8 k 0 1) x1 = true ∧ hs_l h 16 k n c < y then nI k else hc_bl h x1 n c y (k + 1) m
theorem l2_bl_loop {K : Int32 → mo_M → Prop} {x1 x2 : Int32} {y : Int64} {n c : Nat} (H : hs_in g e0 A h M) (o : hs_ok h) (e1 : x1 = nI n) (hn : n < 16) (e2 : x2 = nI c) (hc : c < 3) : ∀ m k, k + m = hs_n h 0 0 → K (hc_bl h x1 n c y k m) M → pp_H_below_b20 g e0 K (m + 1) M (A 0 0 0) x1 x2 y (nI k)
  | 0, k, hk, hK => by
    unfold pp_H_below_b20
    exact l2_kloop H o rfl (by omega) (fun q => hK) (fun q => absurd q (by omega))
  | m + 1, k, hk, hK => by
    unfold pp_H_below_b20
    unfold hc_bl at hK
    have ih := l2_bl_loop (K := K) (y := y) H o e1 hn e2 hc m (k + 1) (by omega)
    rw [← nI_1] at ih
    refine l2_kloop H o rfl (by omega) (fun q => absurd q (by omega)) (fun q => l2_kio H o (ix_nI q (hs_okK o)) (fun _ => ⟨⟨_, hs_8 H q⟩, l2_hasMark H q (zb_br (fun t => ?_) (fun t => l2_kio H o (ix_nI q (hs_okK o)) (fun _ => mq_gr (hs_8 H q) rfl (mq_aq (hs_12 H q) e1 hn (by decide) rfl (mq_al (hs_16 H q hn) e2 hc (by decide) ⟨fun r => ?_, fun r => ?_⟩)))))⟩))
    · unfold pp_H_below_b66
      rw [if_neg (fun z => by rw [z.1] at t; cases t)] at hK
      exact ih hK
    · unfold pp_H_below_b66
      rw [lg_cmp_ge] at r
      rw [if_neg (fun z => absurd r (Int64.not_le.mpr z.2))] at hK
      exact ih hK
    · rw [lg_cmp_ge] at r
      rw [if_pos ⟨t, Int64.not_le.mp r⟩] at hK
      exact hK
def hc_below (h : hs_S) (x1 x2 : Int32) (y : Int64) : Int32 := match ix_n x1 (hs_n h 2 0), ix_n x2 3 with
  | some n, some c => hc_bl h x1 n c y 0 (hs_n h 0 0)
  | _, _ => -1
theorem l2_below {K : Int32 → mo_M → Prop} {x1 x2 : Int32} {y : Int64} (H : hs_in g e0 A h M) (o : hs_ok h) (hK : K (hc_below h x1 x2 y) M) : pp_H_below g e0 K M (A 0 0 0) x1 x2 y := by
  unfold pp_H_below
  unfold hc_below at hK
  refine ⟨⟨_, hs_0 H⟩, l2_hasNumber H o (zb_br (fun q => ?_) (fun q => l2_hasCurrency (zb_br (fun t => ?_) (fun t => ?_))))⟩
  · rw [Option.isSome_eq_false_iff, Option.isNone_iff_eq_none] at q
    rw [q] at hK
    exact hK
  · rw [Option.isSome_eq_false_iff, Option.isNone_iff_eq_none] at t
    rw [t] at hK
    generalize ix_n x1 (hs_n h 2 0) = z at hK
    cases z <;> exact hK
  · obtain ⟨n, hn⟩ := Option.isSome_iff_exists.mp q
    obtain ⟨c, hc⟩ := Option.isSome_iff_exists.mp t
    rw [hn, hc] at hK
    obtain ⟨e1, hn1⟩ := (ix_some (hs_okN o)).mp hn
    obtain ⟨e3, hc3⟩ := (ix_some (by decide)).mp hc
    have hn16 : n < 16 := by have := o.2.2.1; omega
    exact ⟨_, l2_bl_loop H o e1 hn16 e3 hc3 (hs_n h 0 0) 0 (by omega) hK⟩
end CL5
