section SM1
variable {c c' : hs_S} {r r' : rS} {e : Nat}
/-- a line, with its event -/
def m_nt (r : rS) (x1 x2 : Int32) (s t m : Int64) (ev : Int32) : rS := m_u (m_note r x1 x2 s t m) 39 (rc r 4) ev
theorem nt_1 (r : rS) (x1 x2 : Int32) (s t m : Int64) : m_nt r x1 x2 s t m 1 = m_note r x1 x2 s t m := by
  unfold m_nt m_u rsi
  refine Prod.ext rfl (funext fun f => ?_)
  by_cases y : f = 39
  · subst y
    show upd (upd (r.2 39) (rc r 4) 1) (rc r 4) 1 = upd (r.2 39) (rc r 4) 1
    funext n
    unfold upd
    split <;> rfl
  · show (if f = 39 then _ else (m_note r x1 x2 s t m).2 f) = _
    rw [if_neg y]
section NT
variable {x1 x2 : Int32} {s t m : Int64} {ev : Int32}
theorem nt_c (o : rr_ok r) (hN : rc r 4 < 1100) (hT : rc r 2 + 1 < 2 ^ 30) : rr_ok (m_nt r x1 x2 s t m ev) ∧ rc (m_nt r x1 x2 s t m ev) 4 = rc r 4 + 1 ∧ rc (m_nt r x1 x2 s t m ev) 2 = rc r 2 + 1 := note_ok o hN hT x1 x2 s t m
theorem nt_co {k : Nat} (h2 : k ≠ 2) (h4 : k ≠ 4) : rc (m_nt r x1 x2 s t m ev) k = rc r k := by
  have : ri (m_nt r x1 x2 s t m ev) 30 = upd (upd (ri r 30) 2 (ri r 30 2 + 1)) 4 (ri r 30 4 + 1) := rfl
  unfold rc
  rw [this]
  unfold upd
  rw [if_neg h4, if_neg h2]
theorem nt_i {f : Nat} (hf : f ≠ 30 ∧ f ≠ 36 ∧ f ≠ 37 ∧ f ≠ 38 ∧ f ≠ 39) : ri (m_nt r x1 x2 s t m ev) f = ri r f := by
  obtain ⟨h0, h1, h2, h3, h4⟩ := hf
  unfold m_nt m_note
  rw [ri_u, if_neg h4, ri_u, if_neg h0, ri_w, ri_w, ri_w, ri_u, if_neg h4, ri_u, if_neg h3, ri_u, if_neg h2, ri_u, if_neg h1, ri_u, if_neg h0]
theorem nt_sth (o : rr_ok r) : sth r (m_nt r x1 x2 s t m ev) := ⟨fun f hf => nt_i (by omega), nt_co (by decide) (by decide), nt_co (by decide) (by decide)⟩
theorem nt_36 : ri (m_nt r x1 x2 s t m ev) 36 = upd (ri r 36) (rc r 4) x1 := rfl
theorem nt_37 : ri (m_nt r x1 x2 s t m ev) 37 = upd (ri r 37) (rc r 4) x2 := rfl
theorem nt_38 : ri (m_nt r x1 x2 s t m ev) 38 = upd (ri r 38) (rc r 4) (ri r 30 2 + 1) := rfl
theorem nt_39 {i : Nat} : ri (m_nt r x1 x2 s t m ev) 39 i = if i = rc r 4 then ev else ri r 39 i := by
  show upd (upd (ri r 39) (rc r 4) 1) (rc r 4) ev i = _
  unfold upd
  by_cases y : i = rc r 4
  · rw [if_pos y, if_pos y]
  · rw [if_neg y, if_neg y, if_neg y]
def nt_v (s t m : Int64) (f : Nat) : Int64 := if f = 40 then s else if f = 41 then t else m
theorem nt_l {f i : Nat} (hf : f = 40 ∨ f = 41 ∨ f = 42) : rl (m_nt r x1 x2 s t m ev) f i = if i = rc r 4 then nt_v s t m f else rl r f i := by
  rcases hf with rfl | rfl | rfl <;> rfl
theorem nt_sm (o : rr_ok r) (hN : rc r 4 < 1100) (hT : rc r 2 + 1 < 2 ^ 30) {f : Nat} (hf : f = 40 ∨ f = 41 ∨ f = 42) (y1 y2 : Int32) : mr_sm (m_nt r x1 x2 s t m ev) f y1 y2 = mr_sm r f y1 y2 + (if x1 = y1 ∧ x2 = y2 then nt_v s t m f else 0) := by
  unfold mr_sm
  rw [(nt_c o hN hT).2.1]
  show sm_l _ (rc r 4) + rm_al (m_nt r x1 x2 s t m ev) f y1 y2 (rc r 4) = _
  have e1 : sm_l (rm_al (m_nt r x1 x2 s t m ev) f y1 y2) (rc r 4) = sm_l (rm_al r f y1 y2) (rc r 4) := sm_lc (fun i hi => by
    unfold rm_al
    rw [nt_l hf, nt_36, nt_37]
    unfold upd
    have hne : ¬ i = rc r 4 := by omega
    simp only [if_neg hne])
  have e2 : rm_al (m_nt r x1 x2 s t m ev) f y1 y2 (rc r 4) = (if x1 = y1 ∧ x2 = y2 then nt_v s t m f else 0) := by
    unfold rm_al
    rw [nt_l hf, nt_36, nt_37]
    unfold upd
    rw [if_pos rfl, if_pos rfl, if_pos rfl]
  rw [e1, e2]
theorem nt_es (o : rr_ok r) (hN : rc r 4 < 1100) (hT : rc r 2 + 1 < 2 ^ 30) (y : Int32) : mr_es (m_nt r x1 x2 s t m ev) y = mr_es r y + (if x1 = y then ev else 0) := by
  unfold mr_es
  rw [(nt_c o hN hT).2.1]
  show sm_i _ (rc r 4) + rm_ea (m_nt r x1 x2 s t m ev) y (rc r 4) = _
  have e1 : sm_i (rm_ea (m_nt r x1 x2 s t m ev) y) (rc r 4) = sm_i (rm_ea r y) (rc r 4) := sm_ic (fun i hi => by
    unfold rm_ea
    rw [nt_39, nt_36]
    unfold upd
    have hne : ¬ i = rc r 4 := by omega
    simp only [if_neg hne])
  have e2 : rm_ea (m_nt r x1 x2 s t m ev) y (rc r 4) = (if x1 = y then ev else 0) := by
    unfold rm_ea
    rw [nt_39, nt_36]
    unfold upd
    rw [if_pos rfl, if_pos rfl]
  rw [e1, e2]
theorem nt_at (o : rr_ok r) (hN : rc r 4 < 1100) (hT : rc r 2 + 1 < 2 ^ 30) {f : Nat} (hf : f = 40 ∨ f = 41 ∨ f = 42) (y1 y2 : Int32) {x : Int32} (hx : isT r x) : mr_at (m_nt r x1 x2 s t m ev) f y1 y2 x = mr_at r f y1 y2 x := by
  unfold mr_at
  rw [(nt_c o hN hT).2.1]
  show sm_l _ (rc r 4) + rm_st (m_nt r x1 x2 s t m ev) f y1 y2 x (rc r 4) = _
  have e1 : sm_l (rm_st (m_nt r x1 x2 s t m ev) f y1 y2 x) (rc r 4) = sm_l (rm_st r f y1 y2 x) (rc r 4) := sm_lc (fun i hi => by
    unfold rm_st
    rw [nt_l hf, nt_36, nt_37, nt_38]
    unfold upd
    have hne : ¬ i = rc r 4 := by omega
    simp only [if_neg hne])
  have e2 : rm_st (m_nt r x1 x2 s t m ev) f y1 y2 x (rc r 4) = 0 := by
    unfold rm_st
    rw [nt_38]
    unfold upd
    rw [if_pos rfl]
    obtain ⟨a, ha, rfl⟩ := hx
    rw [if_neg (fun z => z.2.2 (by rw [rr_n o (by decide) (by decide), nI_1]; exact nI_lt (by omega) (by omega)))]
  rw [e1, e2, Int64.add_zero]
theorem nt_ev (o : rr_ok r) (hN : rc r 4 < 1100) (hT : rc r 2 + 1 < 2 ^ 30) (y : Int32) {x : Int32} (hx : isT r x) : mr_evs (m_nt r x1 x2 s t m ev) y x = mr_evs r y x := by
  unfold mr_evs
  rw [(nt_c o hN hT).2.1]
  show sm_i _ (rc r 4) + mr_evF (m_nt r x1 x2 s t m ev) y x (rc r 4) = _
  have e1 : sm_i (mr_evF (m_nt r x1 x2 s t m ev) y x) (rc r 4) = sm_i (mr_evF r y x) (rc r 4) := sm_ic (fun i hi => by
    unfold mr_evF
    rw [nt_39, nt_36, nt_38]
    unfold upd
    have hne : ¬ i = rc r 4 := by omega
    simp only [if_neg hne])
  have e2 : mr_evF (m_nt r x1 x2 s t m ev) y x (rc r 4) = 0 := by
    unfold mr_evF
    rw [nt_38]
    unfold upd
    rw [if_pos rfl]
    obtain ⟨a, ha, rfl⟩ := hx
    rw [if_neg (fun z => z.2 (by rw [rr_n o (by decide) (by decide), nI_1]; exact nI_lt (by omega) (by omega)))]
  rw [e1, e2, Int32.add_zero]
theorem isT_up {x : Int32} (h2 : rc r 2 ≤ rc r' 2) (q : isT r x) : isT r' x := by
  obtain ⟨a, ha, e⟩ := q
  exact ⟨a, by omega, e⟩
/-- the class's state changed in stocks, tills, made and events alone -/
def csm (c c' : hs_S) : Prop := (∀ a b, hs_n c' a b = hs_n c a b) ∧ (∀ l, hs_q c' l = hs_q c l) ∧ (∀ f i j, f ≠ 9 → f ≠ 10 → f ≠ 11 → hs_l c' f i j = hs_l c f i j) ∧ (∀ f i j, f ≠ 8 → hs_i c' f i j = hs_i c f i j) ∧ (∀ k, hs_i c' 8 k 0 1 = hs_i c 8 k 0 1)
theorem ok_c (hn : ∀ a b, hs_n c' a b = hs_n c a b) (hq : ∀ l, hs_q c' l = hs_q c l) (o : hs_ok c) : hs_ok c' := by
  have hz : ∀ l, hs_z c' l = hs_z c l := fun l => by unfold hs_z; rw [hn, hq]
  unfold hs_ok at o ⊢
  simp only [hn, hz]
  exact o
theorem sim_nt (V : iv c r e) (hN : rc r 4 < 1100) (hT : rc r 2 + 1 < 2 ^ 30) (C : csm c c') (hS : ∀ k, k < rc r 1 → (∀ d, d < 3 → hs_l c' 9 k 0 d = hs_l c 9 k 0 d + (if x1 = nI k ∧ x2 = nI d then s else 0) ∧ hs_l c' 10 k 0 d = hs_l c 10 k 0 d + (if x1 = nI k ∧ x2 = nI d then t else 0) ∧ hs_l c' 11 k 0 d = hs_l c 11 k 0 d + (if x1 = nI k ∧ x2 = nI d then m else 0)) ∧ hs_i c' 8 k 0 0 = hs_i c 8 k 0 0 + (if x1 = nI k then ev else 0)) : iv c' (m_nt r x1 x2 s t m ev) e := by
  obtain ⟨⟨n1, n2, n3, n4, n5, n6⟩, v2, v3, v4, v5, v6, v7, v8, v9, v10, v11⟩ := V
  obtain ⟨C1, C2, C3, C4, C5⟩ := C
  obtain ⟨o1, c4, c2⟩ := nt_c (x1 := x1) (x2 := x2) (s := s) (t := t) (m := m) (ev := ev) n1 hN hT
  have co : ∀ k, k ≠ 2 → k ≠ 4 → rc (m_nt r x1 x2 s t m ev) k = rc r k := fun k h2 h4 => nt_co h2 h4
  have S := nt_sth (x1 := x1) (x2 := x2) (s := s) (t := t) (m := m) (ev := ev) n1
  have i50 : ri (m_nt r x1 x2 s t m ev) 50 = ri r 50 := nt_i (by omega)
  have up : ∀ {x}, isT r x → isT (m_nt r x1 x2 s t m ev) x := fun q => isT_up (by omega) q
  refine ⟨⟨o1, ok_c C1 C2 n2, by rw [C1, C1]; exact n3, by rw [co 1 (by decide) (by decide), C1]; exact n4, by rw [co 3 (by decide) (by decide), C1]; exact n5, by rw [co 6 (by decide) (by decide), C1]; exact n6⟩, fun l hl => ?_, ⟨?_, fun a b ha hb => ?_⟩, ⟨fun i hi => ?_, fun n k hn hk => ?_, fun t' ht => ?_, fun t' ht => ?_⟩, fun k hk => ⟨fun d hd => ?_, ?_⟩, ⟨fun k hk => ?_, fun n k h1 h2 h3 => ?_⟩, fun n k hn hk hr => ⟨fun d hd => ?_, ?_⟩, ?_, sth_k S v9, ?_, ?_⟩
  · rw [co 3 (by decide) (by decide)] at hl
    rw [nt_i (by omega), nt_i (by omega), nt_i (by omega), C1, C1, C4 19 l 0 (by decide)]
    exact v2 l hl
  · intro a b ha hb
    rw [C4 5 a 0 (by decide), C4 7 a 0 (by decide)]
    exact v3.1 a b ha hb
  · rw [C4 5 a 0 (by decide), C4 7 a 0 (by decide), nt_i (by omega), nt_i (by omega)]
    exact v3.2 a b ha hb
  · rw [nt_38]
    unfold upd
    by_cases y : i = rc r 4
    · rw [if_pos y]
      exact ⟨rc r 2 + 1, by omega, by rw [rr_n n1 (by decide) (by decide), nI_1]⟩
    · rw [if_neg y]
      exact up (v4.1 i (by omega))
  · rw [i50]; exact up (v4.2.1 n k hn hk)
  · rw [nt_i (by omega)]; exact up (v4.2.2.1 t' (by rw [co 5 (by decide) (by decide)] at ht; exact ht))
  · rw [nt_i (by omega)]; exact up (v4.2.2.2 t' (by rw [co 5 (by decide) (by decide)] at ht; exact ht))
  · rw [co 1 (by decide) (by decide)] at hk
    obtain ⟨h1, h2, h3⟩ := (hS k hk).1 d hd
    obtain ⟨g1, g2, g3⟩ := (v5 k hk).1 d hd
    rw [h1, h2, h3, g1, g2, g3, nt_sm n1 hN hT (Or.inl rfl), nt_sm n1 hN hT (Or.inr (Or.inl rfl)), nt_sm n1 hN hT (Or.inr (Or.inr rfl))]
    exact ⟨rfl, rfl, rfl⟩
  · rw [co 1 (by decide) (by decide)] at hk
    rw [(hS k hk).2, (v5 k hk).2, nt_es n1 hN hT]
  · rw [co 1 (by decide) (by decide)] at hk
    rw [C5, v6.1 k hk]
    refine bs_c (fun i _ => ?_)
    unfold rk
    rw [i50]
  · rw [i50]
    rw [co 6 (by decide) (by decide)] at h1
    exact v6.2 n k h1 h2 h3
  · rw [co 1 (by decide) (by decide)] at hk
    unfold rk at hr
    rw [i50] at hr ⊢
    have hx := v4.2.1 n k hn (by have := rr_1 n1; omega)
    rw [C3 16 k n (by decide) (by decide) (by decide), C3 17 k n (by decide) (by decide) (by decide), C3 18 k n (by decide) (by decide) (by decide), nt_at n1 hN hT (Or.inl rfl) _ _ hx, nt_at n1 hN hT (Or.inr (Or.inl rfl)) _ _ hx, nt_at n1 hN hT (Or.inr (Or.inr rfl)) _ _ hx]
    exact (v7 n k hn hk hr).1 d hd
  · rw [co 1 (by decide) (by decide)] at hk
    unfold rk at hr
    rw [i50] at hr ⊢
    have hx := v4.2.1 n k hn (by have := rr_1 n1; omega)
    rw [C4 15 k 0 (by decide), nt_ev n1 hN hT _ hx]
    exact (v7 n k hn hk hr).2
  · have q : iv_q c' r e := fun l hl => by rw [C2]; exact v8 l hl
    exact sth_q S q
  · have q : iv_b c' r := fun l n hl hn h33 => by rw [C4 19 l 0 (by decide)]; exact v10 l n hl hn h33
    exact sth_b S q
  · have q : iv_d c' r := fun l n d hl hn hd => by rw [C3 23 l n (by decide) (by decide) (by decide)]; exact v11 l n d hl hn hd
    exact sth_d S q
end NT
end SM1
