section LST
variable {g : Nat → ClassId} {e0 : Nat → Nat} {M : mo_M}
/-- how long a list's array becomes -/
def ls_nc (n : Nat) : Nat := if n = 0 then 10 else n + (if 1 < n / 2 then n / 2 else 1)
/-- what an element is -/
def ls_el (M : mo_M) (v : Nat) : Prop := mp_is M v 2 ∨ mp_is M v 3
theorem ls_el_up {a v : Nat} {fs : List Value} {e : va_E} (ha : M a = some (.inr (5, fs))) (h : ls_el M v) : ls_el (va_up M a (some e)) v := by
  have hne : ∀ ci fs', ci ≠ 5 → M v = some (.inr (ci, fs')) → v ≠ a := fun ci fs' hc hv q => by
    rw [q, ha] at hv
    cases hv
    exact hc rfl
  rcases h with ⟨f1, h⟩ | ⟨f1, h⟩
  · exact Or.inl ⟨f1, by rw [va_up_ne _ _ (hne 2 f1 (by decide) h)]; exact h⟩
  · exact Or.inr ⟨f1, by rw [va_up_ne _ _ (hne 3 f1 (by decide) h)]; exact h⟩
theorem ls_el_upA {d v : Nat} {x : ClassId × vp_A} {e : va_E} (ha : M d = some (.inl x)) (h : ls_el M v) : ls_el (va_up M d (some e)) v := by
  have hne : ∀ o, M v = some (.inr o) → v ≠ d := fun o hv q => by
    rw [q, ha] at hv
    cases hv
  rcases h with ⟨f1, h⟩ | ⟨f1, h⟩
  · exact Or.inl ⟨f1, by rw [va_up_ne _ _ (hne _ h)]; exact h⟩
  · exact Or.inr ⟨f1, by rw [va_up_ne _ _ (hne _ h)]; exact h⟩
theorem ls_el_new {q v : Nat} {e : va_E} (hq : mo_fr M q) (h : ls_el M v) : ls_el (va_up M q (some e)) v := by
  have hne : ∀ o, M v = some o → v ≠ q := fun o hv r => by
    rw [r, hq q (Nat.le_refl _)] at hv
    cases hv
  rcases h with ⟨f1, h⟩ | ⟨f1, h⟩
  · exact Or.inl ⟨f1, by rw [va_up_ne _ _ (hne _ h)]; exact h⟩
  · exact Or.inr ⟨f1, by rw [va_up_ne _ _ (hne _ h)]; exact h⟩
/-- the last step: the element is laid, the size grows -/
theorem l2_add1_b11 {K : mo_M → Prop} {a v n cap d mc ms cu su : Nat} {md : Int32} {f : Nat → Option Nat} (ha : M a = some (.inr (5, [.int md, .ref d, .int (nI n)]))) (hd : M d = some (.inl (g 6, cap, hs_rf f))) (hn : n < cap) (hcap : cap < 2 ^ 31) (hv : ls_el M v) (hcu : cu ≤ mc) (hsu : su ≤ ms) (hK : K (va_up (va_up M d (some (.inl (g 6, cap, hs_rf (va_up f n (some v)))))) a (some (.inr (5, [.int md, .ref d, .int (nI (n + 1))]))))) : pp_A_add1_b11 g e0 mc ms K M cu su a v d (nI n) := by
  have hda : a ≠ d := fun q => by rw [q, hd] at ha; cases ha
  unfold pp_A_add1_b11
  refine ⟨cap, f, hd, vp_in_nI hn hcap, hv, ?_⟩
  rw [nI_clamp (by omega)]
  refine mq_pt (fs := [.int md, .ref d, .int (nI n)]) (by rw [va_up_ne _ _ hda]; exact ha) (Nat.le_of_ble_eq_true rfl) ⟨hcu, hsu, ?_⟩
  rw [nI_1]
  exact hK
/-- what add leaves: the list's cell, its array d', all else as it was (but at a new d') -/
def ls_sp (g : Nat → ClassId) (M M' : mo_M) (a d v n cap : Nat) (md : Int32) (f : Nat → Option Nat) (d' : Nat) : Prop :=
  M' a = some (.inr (5, [.int (md + 1), .ref d', .int (nI (n + 1))])) ∧ M' d' = some (.inl (g 6, if n = cap then ls_nc n else cap, hs_rf (va_up f n (some v)))) ∧ (∀ b, b ≠ a → b ≠ d' → M' b = M b) ∧ ((n < cap ∧ d' = d) ∨ (n = cap ∧ mo_fr M d'))
theorem l2_add {K : Int32 → mo_M → Prop} {a v n cap d mc ms : Nat} {md : Int32} {f : Nat → Option Nat} (ha : M a = some (.inr (5, [.int md, .ref d, .int (nI n)]))) (hd : (cap = 0 ∧ d = e0 0 ∧ f = fun _ => none) ∨ (0 < cap ∧ M d = some (.inl (g 6, cap, hs_rf f)))) (hn : n ≤ cap) (hcap : cap < 100000) (hf : ∀ p, n ≤ p → f p = none) (hel : ∀ p y, f p = some y → ls_el M y) (hv : ls_el M v) (hm : n = cap → 1 ≤ mc ∧ ls_nc n ≤ ms) (hK : ∀ M' d', ls_sp g M M' a d v n cap md f d' → K 1 M') : pp_A_add0 g e0 mc ms K M a v := by
  unfold pp_A_add0
  refine mq_gi ha rfl (mq_pt ha (Nat.le_of_ble_eq_true rfl) ?_)
  generalize hM2 : va_up M a (some (.inr (5, [Value.int md, .ref d, .int (nI n)].set 0 (.int (md + (1 : Int32)))))) = M2
  have ha2 : M2 a = some (.inr (5, [.int (md + 1), .ref d, .int (nI n)])) := by rw [← hM2, va_up_self]; rfl
  have ho2 : ∀ b, b ≠ a → M2 b = M b := fun b hb => by rw [← hM2, va_up_ne _ _ hb]
  have hv2 : ls_el M2 v := by rw [← hM2]; exact ls_el_up ha hv
  have hel2 : ∀ p y, f p = some y → ls_el M2 y := fun p y hp => by rw [← hM2]; exact ls_el_up ha (hel p y hp)
  refine mq_gr ha2 rfl (mq_gi ha2 rfl ⟨mc, ms, by omega, by omega, ⟨_, ha2⟩, ?_⟩)
  unfold pp_A_add1
  rcases Nat.lt_or_ge n cap with hlt | hge
  · -- there is a place
    rcases hd with ⟨q, -, -⟩ | ⟨-, hd⟩
    · omega
    have hda : d ≠ a := fun q => by rw [q, ha] at hd; cases hd
    have hd2 : M2 d = some (.inl (g 6, cap, hs_rf f)) := by rw [ho2 d hda]; exact hd
    refine Or.inl ⟨_, hd2, fun q => ?_, fun _ => ?_⟩
    · have := (nI_eq (a := n) (b := cap) (by omega) (by omega)).mp q
      omega
    · refine l2_add1_b11 ha2 hd2 hlt (by omega) hv2 (by omega) (by omega) ⟨by omega, by omega, rfl, hK _ d ⟨?_, ?_, ?_, Or.inl ⟨hlt, rfl⟩⟩⟩
      · rw [va_up_self]
      · rw [va_up_ne _ _ hda, va_up_self, if_neg (by omega)]
      · intro b hb hb2
        rw [va_up_ne _ _ hb, va_up_ne _ _ hb2]
        exact ho2 b hb
  · have hnc : n = cap := by omega
    obtain ⟨hm1, hm2⟩ := hm hnc
    subst hnc
    rcases hd with ⟨hc0, hd, hfe⟩ | ⟨hcp, hd⟩
    · -- the first array
      subst hc0
      refine Or.inr ⟨hd, fun _ => ?_, fun q => absurd rfl q⟩
      refine ⟨mc, ms, by omega, by omega, ⟨_, ha2⟩, ?_⟩
      unfold pp_A_grow0
      refine mq_gi ha2 rfl ⟨mc, ms, by omega, by omega, ⟨_, ha2⟩, ?_⟩
      unfold pp_A_grow1
      have e10 : (if ((10 : Int32)) < nI 0 + (1 : Int32) then nI 0 + (1 : Int32) else ((10 : Int32))) = 10 := by decide
      rw [e10]
      refine mq_gr ha2 rfl (Or.inr ⟨hd, fun q => absurd q (by decide), fun _ => mq_gr ha2 rfl ⟨fun _ => ⟨by omega, by omega, by omega, hm2, ⟨by decide, by decide, fun q hq => ?_⟩⟩, fun r => absurd hd r⟩⟩)
      have hqa : a ≠ q := fun r => by rw [← r] at hq; rw [hq a (Nat.le_refl _)] at ha2; cases ha2
      refine mq_pt (fs := [.int (md + 1), .ref d, .int (nI 0)]) (by rw [va_up_ne _ _ hqa]; exact ha2) (Nat.le_of_ble_eq_true rfl) ⟨by omega, hm2, by omega, by omega, ?_⟩
      refine l2_add1_b11 (cap := 10) (f := fun _ => none) (md := md + 1) (d := q) ?_ ?_ (by decide) (by decide) ?_ (by omega) (by omega) ⟨by omega, by omega, rfl, hK _ q ⟨?_, ?_, ?_, Or.inr ⟨rfl, ?_⟩⟩⟩
      · rw [va_up_self]; rfl
      · rw [va_up_ne _ _ (Ne.symm hqa), va_up_self]; rfl
      · exact ls_el_up (by rw [va_up_ne _ _ hqa]; exact ha2) (ls_el_new hq hv2)
      · rw [va_up_self]
      · rw [va_up_ne _ _ (Ne.symm hqa), va_up_self, if_pos rfl, hfe]; rfl
      · intro b hb hb2
        rw [va_up_ne _ _ hb, va_up_ne _ _ hb2, va_up_ne _ _ hb, va_up_ne _ _ hb2]
        exact ho2 b hb
      · intro b hb
        have hba : b ≠ a := fun r => by rw [r] at hb; rw [hq a hb] at ha2; cases ha2
        rw [← ho2 b hba]
        exact hq b hb
    · -- a larger array
      have hda : d ≠ a := fun q => by rw [q, ha] at hd; cases hd
      have hd2 : M2 d = some (.inl (g 6, n, hs_rf f)) := by rw [ho2 d hda]; exact hd
      refine Or.inl ⟨_, hd2, fun _ => ?_, fun q => absurd rfl q⟩
      refine ⟨mc, ms, by omega, by omega, ⟨_, ha2⟩, ?_⟩
      unfold pp_A_grow0
      refine mq_gi ha2 rfl ⟨mc, ms, by omega, by omega, ⟨_, ha2⟩, ?_⟩
      unfold pp_A_grow1
      refine mq_gr ha2 rfl (Or.inl ⟨_, hd2, fun _ => ?_, fun q => absurd (nI_lt (a := 0) (b := n) hcp (by omega)) q⟩)
      unfold pp_A_grow1_b20 pp_S_newLength
      have hs : nI n >>> ((1 : Int32) &&& 31) = nI (n / 2) := by rw [show ((1 : Int32) &&& 31) = 1 by decide]; exact pk_shrN (by omega) 1 1 (by decide)
      have h1 : nI n + (1 : Int32) - nI n = nI 1 := by rw [nI_1, pk_sub (by omega)]; congr 1; omega
      have h2 : (if nI 1 < nI (n / 2) then nI (n / 2) else nI 1) = nI (if 1 < n / 2 then n / 2 else 1) := by
        by_cases q : 1 < n / 2
        · rw [if_pos (nI_lt q (by omega)), if_pos q]
        · rw [if_neg (nI_nlt (by omega) (by decide)), if_neg q]
      have h3 : nI n + (if (nI n + (1 : Int32) - nI n) < nI n >>> ((1 : Int32) &&& 31) then nI n >>> ((1 : Int32) &&& 31) else nI n + (1 : Int32) - nI n) = nI (ls_nc n) := by
        rw [h1, hs, h2, nI_add]
        congr 1
        unfold ls_nc
        rw [if_neg (show ¬ n = 0 by omega)]
      have hnc1 : n < ls_nc n := by unfold ls_nc; rw [if_neg (by omega)]; split <;> omega
      have hnc2 : ls_nc n < 200000 := by unfold ls_nc; rw [if_neg (by omega)]; split <;> omega
      refine ⟨by omega, by omega, fun q => ?_, fun _ => ⟨fun q => ?_, fun _ => ?_⟩⟩
      · exact absurd q (by dsimp only; rw [h3]; exact nI_nle (by omega) (by omega))
      · exact absurd q (by dsimp only; rw [h3]; exact nI_nlt (b := ls_nc n) (a := 2147483639) (by omega) (by decide))
      · dsimp only
        rw [h3]
        refine mq_gr ha2 rfl ⟨mc, ms, by omega, by omega, ?_⟩
        unfold pp_R_copyOf0
        refine ⟨⟨_, hd2⟩, mc, ms, by omega, by omega, ?_⟩
        unfold pp_R_copyOf1
        refine ⟨fun _ => ⟨by omega, by rw [nI_clamp (by omega)]; omega, ⟨nI_pos (by omega), by rw [nI_clamp (by omega)]; omega, fun q hq => ?_⟩⟩, fun r => absurd rfl r⟩
        rw [nI_clamp (show ls_nc n < 2 ^ 31 by omega)]
        have hqa : a ≠ q := fun r => by rw [← r] at hq; rw [hq a (Nat.le_refl _)] at ha2; cases ha2
        have hqd : d ≠ q := fun r => by rw [← r] at hq; rw [hq d (Nat.le_refl _)] at hd2; cases hd2
        unfold pp_R_copyOf1_b24
        have hmin : (if nI (ls_nc n) < nI n then nI (ls_nc n) else nI n) = nI n := if_neg (nI_nlt (by omega) (by omega))
        refine Or.inl ⟨_, by rw [va_up_ne _ _ hqd]; exact hd2, by omega, by omega, ?_⟩
        rw [hmin]
        refine ⟨n, ls_nc n, f, fun _ => none, by rw [va_up_ne _ _ hqd]; exact hd2, va_up_self _ _ _, ⟨by decide, by decide, nI_pos (by omega)⟩, ?_, ?_, ?_, ?_⟩
        · rw [nI_clamp (by omega)]; show 0 + n ≤ n; omega
        · rw [nI_clamp (by omega)]; show 0 + n ≤ _; omega
        · intro i hi y hy
          exact ls_el_new hq (hel2 _ y hy)
        · rw [nI_clamp (by omega)]
          have hcpy : va_cpy f (fun _ => none) (0 : Int32).toNatClampNeg (0 : Int32).toNatClampNeg n = f := by
            funext p
            show (if 0 ≤ p ∧ p < 0 + n then f (0 + (p - 0)) else none) = f p
            by_cases hp : p < n
            · rw [if_pos (by omega)]; congr 1; omega
            · rw [if_neg (by omega), hf p (by omega)]
          rw [hcpy]
          refine ⟨by omega, by omega, by omega, by omega, ?_⟩
          refine mq_pt (fs := [.int (md + 1), .ref d, .int (nI n)]) (by rw [va_up_ne _ _ hqa, va_up_ne _ _ hqa]; exact ha2) (Nat.le_of_ble_eq_true rfl) ⟨by omega, by omega, by omega, by omega, ?_⟩
          refine l2_add1_b11 (cap := ls_nc n) (f := f) (md := md + 1) (d := q) ?_ ?_ hnc1 (by omega) ?_ (by omega) (by omega) ⟨by omega, by omega, rfl, hK _ q ⟨?_, ?_, ?_, Or.inr ⟨rfl, ?_⟩⟩⟩
          · rw [va_up_self]; rfl
          · rw [va_up_ne _ _ (Ne.symm hqa), va_up_self]
          · exact ls_el_up (by rw [va_up_ne _ _ hqa, va_up_ne _ _ hqa]; exact ha2) (ls_el_upA (va_up_self _ _ _) (ls_el_new hq hv2))
          · rw [va_up_self]
          · rw [va_up_ne _ _ (Ne.symm hqa), va_up_self, if_pos rfl]
          · intro b hb hb2
            rw [va_up_ne _ _ hb, va_up_ne _ _ hb2, va_up_ne _ _ hb, va_up_ne _ _ hb2, va_up_ne _ _ hb2]
            exact ho2 b hb
          · intro b hb
            have hba : b ≠ a := fun r => by rw [r] at hb; rw [hq a hb] at ha2; cases ha2
            rw [← ho2 b hba]
            exact hq b hb
/-- what remove leaves -/
def ls_rm (f : Nat → Option Nat) (i : Nat) : Nat → Option Nat := fun p => if p < i then f p else f (p + 1)
theorem l2_remove {K : Nat → mo_M → Prop} {a n cap d i y : Nat} {x md : Int32} {f : Nat → Option Nat} (ha : M a = some (.inr (5, [.int md, .ref d, .int (nI n)]))) (hd : M d = some (.inl (g 6, cap, hs_rf f))) (hn : n ≤ cap) (hcap : cap < 100000) (hf : ∀ p, n ≤ p → f p = none) (hel : ∀ p y, f p = some y → ls_el M y) (hx : x = nI i) (hi : i < n) (hy : f i = some y) (hK : ∀ M', M' a = some (.inr (5, [.int (md + 1), .ref d, .int (nI (n - 1))])) → M' d = some (.inl (g 6, cap, hs_rf (ls_rm f i))) → (∀ b, b ≠ a → b ≠ d → M' b = M b) → K y M') : pp_A_remove g e0 K M a x := by
  subst hx
  have hda : d ≠ a := fun q => by rw [q, ha] at hd; cases hd
  unfold pp_A_remove pp_O_checkIndex pp_P_checkIndex
  refine mq_gi ha rfl ⟨fun q => absurd q (nI_pos (by omega)), fun _ => ⟨fun _ => mq_gr ha rfl (mq_ar hd rfl (show i < cap by omega) (by omega) hy ⟨⟨_, ha⟩, ?_⟩), fun q => absurd (nI_lt hi (by omega)) q⟩⟩
  unfold pp_A_fastRemove
  refine mq_gi ha rfl (mq_pt ha (Nat.le_of_ble_eq_true rfl) ?_)
  generalize hM2 : va_up M a (some (.inr (5, [Value.int md, .ref d, .int (nI n)].set 0 (.int (md + (1 : Int32)))))) = M2
  have ha2 : M2 a = some (.inr (5, [.int (md + 1), .ref d, .int (nI n)])) := by rw [← hM2, va_up_self]; rfl
  have ho2 : ∀ b, b ≠ a → M2 b = M b := fun b hb => by rw [← hM2, va_up_ne _ _ hb]
  have hd2 : M2 d = some (.inl (g 6, cap, hs_rf f)) := by rw [ho2 d hda]; exact hd
  have hel2 : ∀ p y, f p = some y → ls_el M2 y := fun p y hp => by rw [← hM2]; exact ls_el_up ha (hel p y hp)
  have e1 : nI n - (1 : Int32) = nI (n - 1) := by
    obtain ⟨m, rfl⟩ : ∃ m, n = m + 1 := ⟨n - 1, by omega⟩
    exact nI_pred m
  refine mq_gi ha2 rfl ?_
  rw [e1]
  -- the last step, from any map with the array h
  have last : ∀ (M3 : mo_M) (h : Nat → Option Nat), M3 a = some (.inr (5, [.int (md + 1), .ref d, .int (nI n)])) → M3 d = some (.inl (g 6, cap, hs_rf h)) → (∀ b, b ≠ a → b ≠ d → M3 b = M b) → va_up h (n - 1) none = ls_rm f i → pp_A_fastRemove_b34 g e0 (fun M6 => K y M6) M3 a d (nI (n - 1)) := by
    intro M3 h h1 h2 h3 h4
    unfold pp_A_fastRemove_b34
    refine mq_pt h1 (Nat.le_of_ble_eq_true rfl) ⟨cap, h, by rw [va_up_ne _ _ hda]; exact h2, vp_in_nI (by omega) (by omega), ?_⟩
    rw [nI_clamp (by omega), h4]
    refine hK _ ?_ ?_ ?_
    · rw [va_up_ne _ _ (Ne.symm hda), va_up_self]; rfl
    · rw [va_up_self]
    · intro b hb hb2
      rw [va_up_ne _ _ hb2, va_up_ne _ _ hb]
      exact h3 b hb hb2
  refine le_br (by omega) (by omega) (fun q => ?_) (fun q => ?_)
  · refine last M2 f ha2 hd2 (fun b hb _ => ho2 b hb) (funext fun p => ?_)
    unfold va_up ls_rm
    by_cases hp : p = n - 1
    · rw [if_pos hp, if_neg (by omega), hf _ (by omega)]
    · rw [if_neg hp]
      by_cases hp2 : p < i
      · rw [if_pos hp2]
      · rw [if_neg hp2, hf p (by omega), hf (p + 1) (by omega)]
  · have e2 : nI (n - 1) - nI i = nI (n - 1 - i) := pk_sub (by omega)
    rw [nI_1, e2]
    refine ⟨cap, cap, f, f, hd2, hd2, ⟨nI_pos (by omega), nI_pos (by omega), nI_pos (by omega)⟩, ?_, ?_, ?_, ?_⟩
    · rw [nI_clamp (by omega), nI_clamp (by omega)]; omega
    · rw [nI_clamp (by omega), nI_clamp (by omega)]; omega
    · intro j hj y' hy'
      exact hel2 _ y' hy'
    · rw [nI_clamp (by omega), nI_clamp (by omega), nI_clamp (by omega)]
      refine last _ _ (by rw [va_up_ne _ _ (Ne.symm hda)]; exact ha2) (va_up_self _ _ _) (fun b hb hb2 => by rw [va_up_ne _ _ hb2]; exact ho2 b hb) (funext fun p => ?_)
      unfold va_up va_cpy ls_rm
      by_cases hp : p = n - 1
      · rw [if_pos hp, if_neg (by omega), hf _ (by omega)]
      · rw [if_neg hp]
        by_cases hp2 : p < i
        · rw [if_pos hp2, if_neg (by omega)]
        · rw [if_neg hp2]
          by_cases hp3 : p < n - 1
          · rw [if_pos (by omega)]; congr 1; omega
          · rw [if_neg (by omega), hf p (by omega), hf (p + 1) (by omega)]
end LST
