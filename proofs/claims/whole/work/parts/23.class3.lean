section CL3
variable {g : Nat → ClassId} {e0 : Nat → Nat} {A : hs_A} {h : hs_S} {M : mo_M}
theorem hs_z12 (h : hs_S) : hs_z h 12 = hs_n h 1 0 := rfl
theorem hs_zl (h : hs_S) {l : Nat} (hl : l ≠ 12) : hs_z h l = (hs_q h l).length := by simp [hs_z, hl]
theorem hs_okl {l : Nat} (o : hs_ok h) (hl : l < hs_n h 1 0) : l ≠ 12 := fun q => by have := o.2.1; omega
theorem l2_size {K : Int32 → mo_M → Prop} {i : Nat} (H : hs_in g e0 A h M) (hi : i < hs_n h 1 0 ∨ i = 12) (hK : K (nI (hs_z h i)) M) : pp_A_size g e0 K M (A 20 i 0) := by
  unfold pp_A_size
  exact mq_gi (hs_20 H hi) rfl hK
theorem l2_get {K : Nat → mo_M → Prop} {i p : Nat} {x : Int32} (H : hs_in g e0 A h M) (o : hs_ok h) (hi : i < hs_n h 1 0 ∨ i = 12) (hp : p < hs_z h i) (hx : x = nI p) (hK : K (if i = 12 then A 19 p 0 else A 24 i p) M) : pp_A_get g e0 K M (A 20 i 0) x := by
  obtain ⟨hz, hcap⟩ := o.2.2.2.2 i hi
  subst hx
  have h31 : hs_n h 5 i < 2 ^ 31 := Nat.lt_trans hcap (by decide)
  have hp31 : p < 2 ^ 31 := by omega
  unfold pp_A_get pp_O_checkIndex pp_P_checkIndex pp_A_elementData
  refine mq_gi (hs_20 H hi) rfl ⟨fun q => absurd q (nI_pos hp31), fun _ => ⟨fun _ => ⟨⟨_, hs_20 H hi⟩, ?_⟩, fun q => absurd (nI_lt hp (by omega)) q⟩⟩
  have hc : 0 < hs_n h 5 i := by omega
  refine mq_gr (hs_20 H hi) (by rw [if_neg (by omega)]; rfl) (mq_ar (hs_21 H hi hc) rfl (show p < hs_n h 5 i by omega) h31 (by rw [if_pos hp]) hK)
theorem l2_hasLink {K : Int32 → mo_M → Prop} {x : Int32} (H : hs_in g e0 A h M) (o : hs_ok h) (hK : K (zb_i (ix_n x (hs_n h 1 0)).isSome) M) : pp_H_hasLink g e0 K M (A 0 0 0) x := by
  unfold pp_H_hasLink
  refine mq_gr (hs_0 H) rfl ⟨⟨_, hs_20 H (Or.inr rfl)⟩, l2_size H (Or.inr rfl) (l2_isBetween ⟨zb_nar _, ?_⟩)⟩
  rw [hs_z12, bt_ix (hs_okL o)]
  exact hK
/-- the link at a place that is one -/
theorem l2_lnk {N : Nat → mo_M → Prop} {x : Int32} {l : Nat} (H : hs_in g e0 A h M) (o : hs_ok h) (hx : ix_n x (hs_n h 1 0) = some l) (hN : l < hs_n h 1 0 → N (A 19 l 0) M) : mp_gr M (A 0 0 0) 0 1 (fun v => (mp_is M v 5 ∧ pp_A_get g e0 (fun r M4 => (mp_is M4 r 2 ∧ N r M4)) M v x)) := by
  obtain ⟨e, hl⟩ := (ix_some (hs_okL o)).mp hx
  exact mq_gr (hs_0 H) rfl ⟨⟨_, hs_20 H (Or.inr rfl)⟩, l2_get (p := l) H o (Or.inr rfl) hl e ⟨⟨_, hs_19 H hl⟩, hN hl⟩⟩
theorem l2_thg {N : Nat → mo_M → Prop} {x : Int32} {l j : Nat} (H : hs_in g e0 A h M) (o : hs_ok h) (hl : l < hs_n h 1 0) (hx : x = nI j) (hj : j < (hs_q h l).length) (hN : N (A 24 l j) M) : mp_gr M (A 19 l 0) 2 3 (fun v => (mp_is M v 5 ∧ pp_A_get g e0 (fun r M4 => (mp_is M4 r 3 ∧ N r M4)) M v x)) := by
  have h12 := hs_okl o hl
  refine mq_gr (hs_19 H hl) rfl ⟨⟨_, hs_20 H (Or.inl hl)⟩, l2_get (p := j) H o (Or.inl hl) (by rw [hs_zl h h12]; exact hj) hx ?_⟩
  rw [if_neg h12]
  exact ⟨⟨_, hs_24 H hl hj⟩, hN⟩
theorem l2_tsz {N : Int32 → mo_M → Prop} {l : Nat} (H : hs_in g e0 A h M) (o : hs_ok h) (hl : l < hs_n h 1 0) (hN : N (nI (hs_q h l).length) M) : mp_gr M (A 19 l 0) 2 3 (fun v => (mp_is M v 5 ∧ pp_A_size g e0 (fun r M4 => N r M4) M v)) := by
  refine mq_gr (hs_19 H hl) rfl ⟨⟨_, hs_20 H (Or.inl hl)⟩, l2_size H (Or.inl hl) ?_⟩
  rw [hs_zl h (hs_okl o hl)]
  exact hN
theorem hs_okq {l : Nat} (o : hs_ok h) (hl : l < hs_n h 1 0) : (hs_q h l).length < 2 ^ 31 := by
  have := o.2.2.2.2 l (Or.inl hl)
  rw [hs_zl h (hs_okl o hl)] at this
  omega
/-- which thing, if there is one -/
def hc_th (h : hs_S) (x1 x2 : Int32) : Option (Nat × Nat) := match ix_n x1 (hs_n h 1 0) with
  | some l => (ix_n x2 (hs_q h l).length).map (fun j => (l, j))
  | none => none
theorem l2_hasThing {K : Int32 → mo_M → Prop} {x1 x2 : Int32} (H : hs_in g e0 A h M) (o : hs_ok h) (hK : K (zb_i (hc_th h x1 x2).isSome) M) : pp_H_hasThing g e0 K M (A 0 0 0) x1 x2 := by
  unfold pp_H_hasThing
  unfold hc_th at hK
  refine ⟨⟨_, hs_0 H⟩, l2_hasLink H o (zb_br (fun q => ⟨rfl, ?_⟩) (fun q => ?_))⟩
  · rw [Option.isSome_eq_false_iff, Option.isNone_iff_eq_none] at q
    rw [q] at hK
    exact hK
  · obtain ⟨l, hl⟩ := Option.isSome_iff_exists.mp q
    rw [hl] at hK
    refine l2_lnk H o hl (fun ll => l2_tsz H o ll (l2_isBetween ?_))
    rw [bt_ix (hs_okq o ll)]
    refine zb_br (fun r => ⟨rfl, ?_⟩) (fun r => ⟨rfl, ?_⟩)
    · dsimp only at hK
      rw [Option.isSome_map, r] at hK
      exact hK
    · dsimp only at hK
      rw [Option.isSome_map, r] at hK
      exact hK
def hc_onLink (h : hs_S) (x1 : Int32) : Int32 := match ix_n x1 (hs_n h 1 0) with
  | some l => nI (hs_q h l).length
  | none => -1
theorem l2_onLink {K : Int32 → mo_M → Prop} {x1 : Int32} (H : hs_in g e0 A h M) (o : hs_ok h) (hK : K (hc_onLink h x1) M) : pp_H_onLink g e0 K M (A 0 0 0) x1 := by
  unfold pp_H_onLink
  unfold hc_onLink at hK
  refine ⟨⟨_, hs_0 H⟩, l2_hasLink H o (zb_br (fun q => ?_) (fun q => ?_))⟩
  · rw [Option.isSome_eq_false_iff, Option.isNone_iff_eq_none] at q
    rw [q] at hK
    exact hK
  · obtain ⟨l, hl⟩ := Option.isSome_iff_exists.mp q
    rw [hl] at hK
    exact l2_lnk H o hl (fun ll => l2_tsz H o ll hK)
def hc_two (h : hs_S) (f : Nat) (x1 x2 : Int32) : Int64 := match ix_n x1 (hs_n h 0 0), ix_n x2 3 with
  | some k, some c => hs_l h f k 0 c
  | _, _ => 0
theorem l2_stock {K : Int64 → mo_M → Prop} {x1 x2 : Int32} (H : hs_in g e0 A h M) (o : hs_ok h) (hK : K (hc_two h 9 x1 x2) M) : pp_H_stock g e0 K M (A 0 0 0) x1 x2 := by
  unfold pp_H_stock
  unfold hc_two at hK
  refine ⟨⟨_, hs_0 H⟩, l2_hasKiosk H o (zb_br (fun q => ?_) (fun q => l2_hasCurrency (zb_br (fun r => ?_) (fun r => ?_))))⟩
  · rw [Option.isSome_eq_false_iff, Option.isNone_iff_eq_none] at q
    rw [q] at hK
    exact hK
  · rw [Option.isSome_eq_false_iff, Option.isNone_iff_eq_none] at r
    rw [r] at hK
    generalize ix_n x1 (hs_n h 0 0) = z at hK
    cases z <;> exact hK
  · obtain ⟨k, hk⟩ := Option.isSome_iff_exists.mp q
    obtain ⟨c, hc⟩ := Option.isSome_iff_exists.mp r
    rw [hk, hc] at hK
    obtain ⟨e, hc⟩ := (ix_some (by decide)).mp hc
    exact l2_kio H o hk (fun kk => mq_gr (hs_8 H kk) rfl (mq_al (hs_9 H kk) e hc (by decide) hK))
theorem l2_till {K : Int64 → mo_M → Prop} {x1 x2 : Int32} (H : hs_in g e0 A h M) (o : hs_ok h) (hK : K (hc_two h 10 x1 x2) M) : pp_H_till g e0 K M (A 0 0 0) x1 x2 := by
  unfold pp_H_till
  unfold hc_two at hK
  refine ⟨⟨_, hs_0 H⟩, l2_hasKiosk H o (zb_br (fun q => ?_) (fun q => l2_hasCurrency (zb_br (fun r => ?_) (fun r => ?_))))⟩
  · rw [Option.isSome_eq_false_iff, Option.isNone_iff_eq_none] at q
    rw [q] at hK
    exact hK
  · rw [Option.isSome_eq_false_iff, Option.isNone_iff_eq_none] at r
    rw [r] at hK
    generalize ix_n x1 (hs_n h 0 0) = z at hK
    cases z <;> exact hK
  · obtain ⟨k, hk⟩ := Option.isSome_iff_exists.mp q
    obtain ⟨c, hc⟩ := Option.isSome_iff_exists.mp r
    rw [hk, hc] at hK
    obtain ⟨e, hc⟩ := (ix_some (by decide)).mp hc
    exact l2_kio H o hk (fun kk => mq_gr (hs_8 H kk) rfl (mq_al (hs_10 H kk) e hc (by decide) hK))
def hc_recorded (h : hs_S) (x1 x2 : Int32) : Bool := match ix_n x1 (hs_n h 2 0), ix_n x2 (hs_n h 0 0) with
  | some _, some k => hc_bit (hs_i h 8 k 0 1) x1
  | _, _ => false
theorem l2_recorded {K : Int32 → mo_M → Prop} {x1 x2 : Int32} (H : hs_in g e0 A h M) (o : hs_ok h) (hK : K (zb_i (hc_recorded h x1 x2)) M) : pp_H_recorded g e0 K M (A 0 0 0) x1 x2 := by
  unfold pp_H_recorded
  unfold hc_recorded at hK
  refine ⟨⟨_, hs_0 H⟩, l2_hasNumber H o (zb_br (fun q => ⟨rfl, ?_⟩) (fun q => ⟨⟨_, hs_0 H⟩, l2_hasKiosk H o (zb_br (fun r => ⟨rfl, ?_⟩) (fun r => ?_))⟩))⟩
  · rw [Option.isSome_eq_false_iff, Option.isNone_iff_eq_none] at q
    rw [q] at hK
    exact hK
  · rw [Option.isSome_eq_false_iff, Option.isNone_iff_eq_none] at r
    rw [r] at hK
    generalize ix_n x1 (hs_n h 2 0) = z at hK
    cases z <;> exact hK
  · obtain ⟨n, hn⟩ := Option.isSome_iff_exists.mp q
    obtain ⟨k, hk⟩ := Option.isSome_iff_exists.mp r
    rw [hn, hk] at hK
    refine l2_kio H o hk (fun kk => ⟨⟨_, hs_8 H kk⟩, l2_hasMark H kk (zb_br (fun t => ⟨rfl, ?_⟩) (fun t => ⟨rfl, ?_⟩))⟩)
    · dsimp only at hK; rw [t] at hK; exact hK
    · dsimp only at hK; rw [t] at hK; exact hK
def hc_events (h : hs_S) (x1 x2 : Int32) : Int32 := match ix_n x2 (hs_n h 0 0) with
  | some k => if 0 ≤ x1 then (match ix_n x1 (hs_n h 2 0) with
    | some n => if hc_bit (hs_i h 8 k 0 1) x1 = true then hs_i h 15 k 0 n else -1
    | none => -1) else hs_i h 8 k 0 0
  | none => -1
theorem l2_events {K : Int32 → mo_M → Prop} {x1 x2 : Int32} (H : hs_in g e0 A h M) (o : hs_ok h) (hK : K (hc_events h x1 x2) M) : pp_H_events g e0 K M (A 0 0 0) x1 x2 := by
  unfold pp_H_events
  unfold hc_events at hK
  refine ⟨⟨_, hs_0 H⟩, l2_hasKiosk H o (zb_br (fun q => ?_) (fun q => ⟨fun q0 => ⟨⟨_, hs_0 H⟩, l2_hasNumber H o (zb_br (fun r => ?_) (fun r => ?_))⟩, fun q0 => ?_⟩))⟩
  · rw [Option.isSome_eq_false_iff, Option.isNone_iff_eq_none] at q
    rw [q] at hK
    exact hK
  · obtain ⟨k, hk⟩ := Option.isSome_iff_exists.mp q
    rw [Option.isSome_eq_false_iff, Option.isNone_iff_eq_none] at r
    rw [hk, r] at hK
    dsimp only at hK
    rw [if_pos q0] at hK
    exact hK
  · obtain ⟨k, hk⟩ := Option.isSome_iff_exists.mp q
    obtain ⟨n, hn⟩ := Option.isSome_iff_exists.mp r
    rw [hk, hn] at hK
    dsimp only at hK
    rw [if_pos q0] at hK
    obtain ⟨e, hn16⟩ := (ix_some (hs_okN o)).mp hn
    refine l2_kio H o hk (fun kk => ⟨⟨_, hs_8 H kk⟩, l2_hasMark H kk (zb_br (fun t => ?_) (fun t => l2_kio H o hk (fun _ => mq_gr (hs_8 H kk) rfl (mq_ai (hs_15 H kk) e (by have := o.2.2.1; omega) (by decide) ?_))))⟩)
    · rw [t, if_neg (by decide)] at hK; exact hK
    · rw [t, if_pos rfl] at hK; exact hK
  · obtain ⟨k, hk⟩ := Option.isSome_iff_exists.mp q
    rw [hk] at hK
    dsimp only at hK
    rw [if_neg q0] at hK
    exact l2_kio H o hk (fun kk => mq_gi (hs_8 H kk) rfl hK)
end CL3
