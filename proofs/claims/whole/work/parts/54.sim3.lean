section SM3
variable {c c' : hs_S} {r r' : rS} {e : Nat}
theorem pg_n {k n : Nat} {x : Int32} (a b : Nat) : hs_n (hc_page c k n x) a b = hs_n c a b := rfl
theorem pg_q {k n : Nat} {x : Int32} (b : Nat) : hs_q (hc_page c k n x) b = hs_q c b := rfl
theorem pg_i {k n : Nat} {x : Int32} (f i j : Nat) : hs_i (hc_page c k n x) f i j = if f = 8 ∧ i = k ∧ j = 0 then upd (hs_i c 8 k 0) 1 (hs_i c 8 k 0 1 ||| ((1 : Int32) <<< (x &&& 31))) else if f = 15 ∧ i = k ∧ j = 0 then upd (hs_i c 15 k 0) n (hs_i c 8 k 0 0) else hs_i c f i j := rfl
theorem pg_l {k n : Nat} {x : Int32} (f i j : Nat) : hs_l (hc_page c k n x) f i j = if f = 18 ∧ i = k ∧ j = n then va_cpy (hs_l c 11 k 0) (hs_l c 18 k n) 0 0 3 else if f = 17 ∧ i = k ∧ j = n then va_cpy (hs_l c 10 k 0) (hs_l c 17 k n) 0 0 3 else if f = 16 ∧ i = k ∧ j = n then va_cpy (hs_l c 9 k 0) (hs_l c 16 k n) 0 0 3 else hs_l c f i j := rfl
theorem cpy3 {p q : Nat → Int64} {d : Nat} (hd : d < 3) : va_cpy p q 0 0 3 d = p d := by
  have : d = 0 ∨ d = 1 ∨ d = 2 := by omega
  rcases this with rfl | rfl | rfl <;> rfl
theorem r1_i {n k f : Nat} (hf : f ≠ 30 ∧ f ≠ 50) : ri (m_r1 r n k) f = ri r f := by
  unfold m_r1
  rw [ri_u, if_neg hf.2, ri_u, if_neg hf.1]
theorem r1_50 {n k i : Nat} : ri (m_r1 r n k) 50 i = if i = 6 * n + k then ri r 30 2 + 1 else ri r 50 i := rfl
theorem sim_page {n k : Nat} (V : iv c r e) (hn : n < 16) (hk : k < rc r 1) (hr : ri r 50 (6 * n + k) ≤ 0) (hS : n < rc r 6) (hT : rc r 2 + 1 < 2 ^ 30) : iv (hc_page c k n (nI n)) (m_r1 r n k) e := by
  obtain ⟨⟨n1, n2, n3, n4, n5, n6⟩, v2, v3, v4, v5, v6, v7, v8, v9, v10, v11⟩ := V
  have h3 := rr_3 n1
  have h1 := rr_1 n1
  obtain ⟨o1, c2, co⟩ := r1_c n1 hT n k
  have up : ∀ {x}, isT r x → isT (m_r1 r n k) x := fun q => isT_up (by omega) q
  have eT : ri r 30 2 + 1 = nI (rc r 2 + 1) := by rw [rr_n n1 (by decide) (by decide), nI_1]
  have pos : ¬ ri r 30 2 + 1 ≤ 0 := by rw [eT]; exact nI_nle (by omega) (by omega)
  have fr6 : ∀ l, l < rc r 3 → hs_n c 3 l < 6 ∧ hs_n c 4 l < 6 ∧ ix_v (ri r 31 l) = hs_n c 3 l ∧ ix_v (ri r 32 l) = hs_n c 4 l := fun l hl => by
    have := n2.2.2.2.1 l (by rw [← n5]; exact hl)
    have hK := n2.1.2
    refine ⟨by omega, by omega, by rw [(v2 l hl).1]; exact ix_vn (by omega), by rw [(v2 l hl).2.1]; exact ix_vn (by omega)⟩
  have emk : ∀ t m, t < rc r 5 → mr_mk (m_r1 r n k) t m = mr_mk r t m := fun t m ht => by
    obtain ⟨l, hl, el, ea, ha⟩ := m_fr_ok n1 ht
    have efr : m_fr (m_r1 r n k) t = m_fr r t := by unfold m_fr; rw [r1_i (by decide), r1_i (by decide)]
    unfold mr_mk
    rw [efr, r1_50, r1_i (f := 48) (by decide)]
    by_cases y : 6 * m + m_fr r t = 6 * n + k
    · rw [if_pos y]
      rw [y]
      obtain ⟨b, hb, eb⟩ := v4.2.2.1 t ht
      rw [decide_eq_false (fun z => z.2 (by rw [eb, eT]; exact nI_le (by omega) (by omega))), decide_eq_false (fun z => z.1 hr)]
    · rw [if_neg y]
  have eth : ∀ t, t < rc r 5 → thg (m_r1 r n k) t = thg r t := fun t ht => by
    unfold thg
    rw [r1_i (f := 43) (by decide), r1_i (f := 45) (by decide), r1_i (f := 46) (by decide), r1_i (f := 47) (by decide), bs_c (fun i _ => emk t i ht)]
  have ema : ∀ a b m t, mr_ma (m_r1 r n k) a b m t = mr_ma r a b m t := fun a b m t => ma_c m t (fun t' _ _ => ⟨by rw [r1_i (by decide)], by rw [r1_i (by decide)], by rw [r1_i (by decide)], by rw [r1_i (by decide)]⟩)
  have eat : ∀ f x1 x2 x3, mr_at (m_r1 r n k) f x1 x2 x3 = mr_at r f x1 x2 x3 := fun f x1 x2 x3 => by
    unfold mr_at
    rw [co 4 (by decide)]
    refine sm_lc (fun i _ => ?_)
    unfold rm_st
    rw [r1_i (f := 36) (by decide), r1_i (f := 37) (by decide), r1_i (f := 38) (by decide)]
    rfl
  have eev : ∀ x2 x3, mr_evs (m_r1 r n k) x2 x3 = mr_evs r x2 x3 := fun x2 x3 => by
    unfold mr_evs
    rw [co 4 (by decide)]
    refine sm_ic (fun i _ => ?_)
    unfold mr_evF
    rw [r1_i (f := 36) (by decide), r1_i (f := 39) (by decide), r1_i (f := 38) (by decide)]
  refine ⟨⟨o1, n2, n3, by rw [co 1 (by decide)]; exact n4, by rw [co 3 (by decide)]; exact n5, by rw [co 6 (by decide)]; exact n6⟩, fun l' hl' => ?_, ⟨?_, fun a b ha hb => ?_⟩, ⟨fun i hi => ?_, fun n' k' hn' hk' => ?_, fun t' ht => ?_, fun t' ht => ?_⟩, fun k' hk' => ⟨fun d hd => ?_, ?_⟩, ⟨fun k' hk' => ?_, fun n' k' h1' h2' h3' => ?_⟩, fun n' k' hn' hk' hr' => ⟨fun d hd => ?_, ?_⟩, fun l' hl' => ?_, fun t' ht => ?_, fun l' n' hl' hn' h33 => ?_, fun l' n' d hl' hn' hd => ?_⟩
  · rw [co 3 (by decide)] at hl'
    rw [r1_i (by decide), r1_i (by decide), r1_i (by decide), pg_i, if_neg (by omega), if_neg (by omega)]
    exact v2 l' hl'
  · intro a b ha hb
    rw [pg_i, if_neg (by omega), if_neg (by omega), pg_i, if_neg (by omega), if_neg (by omega)]
    exact v3.1 a b ha hb
  · rw [pg_i, if_neg (by omega), if_neg (by omega), pg_i, if_neg (by omega), if_neg (by omega), r1_i (by decide), r1_i (by decide)]
    exact v3.2 a b ha hb
  · rw [r1_i (by decide)]
    rw [co 4 (by decide)] at hi
    exact up (v4.1 i hi)
  · rw [r1_50]
    by_cases y : 6 * n' + k' = 6 * n + k
    · rw [if_pos y]
      exact ⟨rc r 2 + 1, by omega, eT⟩
    · rw [if_neg y]
      exact up (v4.2.1 n' k' hn' hk')
  · rw [r1_i (by decide)]
    exact up (v4.2.2.1 t' (by rw [co 5 (by decide)] at ht; exact ht))
  · rw [r1_i (by decide)]
    exact up (v4.2.2.2 t' (by rw [co 5 (by decide)] at ht; exact ht))
  · rw [co 1 (by decide)] at hk'
    have g := (v5 k' hk').1 d hd
    rw [pg_l, pg_l, pg_l, if_neg (by omega), if_neg (by omega), if_neg (by omega), if_neg (by omega), if_neg (by omega), if_neg (by omega), if_neg (by omega), if_neg (by omega), if_neg (by omega)]
    exact g
  · rw [co 1 (by decide)] at hk'
    have g := (v5 k' hk').2
    rw [pg_i]
    by_cases y : k' = k
    · subst y
      rw [if_pos ⟨rfl, rfl, rfl⟩]
      exact g
    · rw [if_neg (by omega), if_neg (by omega)]
      exact g
  · rw [co 1 (by decide)] at hk'
    rw [pg_i]
    by_cases y : k' = k
    · subst y
      rw [if_pos ⟨rfl, rfl, rfl⟩]
      show hs_i c 8 k' 0 1 ||| _ = _
      rw [v6.1 k' hk', bs_or hn]
      refine bs_c (fun i hi => ?_)
      unfold rk
      rw [r1_50]
      by_cases z : i = n
      · subst z
        rw [if_pos rfl, decide_eq_true (show i = i from rfl), Bool.or_true]
        exact (decide_eq_true pos).symm
      · rw [if_neg (by omega), decide_eq_false z, Bool.or_false]
    · rw [if_neg (by omega), if_neg (by omega), v6.1 k' hk']
      refine bs_c (fun i hi => ?_)
      unfold rk
      rw [r1_50, if_neg (by omega)]
  · rw [co 6 (by decide)] at h1'
    rw [r1_50, if_neg (by omega)]
    exact v6.2 n' k' h1' h2' h3'
  · rw [co 1 (by decide)] at hk'
    unfold rk at hr'
    rw [r1_50] at hr' ⊢
    rw [eat, eat, eat]
    by_cases y : 6 * n' + k' = 6 * n + k
    · have yn : n' = n := by omega
      have yk : k' = k := by omega
      subst yn
      subst yk
      rw [if_pos rfl, pg_l, if_neg (by omega), if_neg (by omega), if_pos ⟨rfl, rfl, rfl⟩, pg_l, if_neg (by omega), if_pos ⟨rfl, rfl, rfl⟩, pg_l, if_pos ⟨rfl, rfl, rfl⟩, cpy3 hd, cpy3 hd, cpy3 hd, eT, at_al n1 v4.1 (by omega) (by omega), at_al n1 v4.1 (by omega) (by omega), at_al n1 v4.1 (by omega) (by omega)]
      exact (v5 k' hk').1 d hd
    · rw [if_neg y] at hr' ⊢
      have g := (v7 n' k' hn' hk' hr').1 d hd
      rw [pg_l, pg_l, pg_l, if_neg (by omega), if_neg (by omega), if_neg (by omega), if_neg (by omega), if_neg (by omega), if_neg (by omega), if_neg (by omega), if_neg (by omega), if_neg (by omega)]
      exact g
  · rw [co 1 (by decide)] at hk'
    unfold rk at hr'
    rw [r1_50] at hr' ⊢
    rw [eev]
    by_cases y : 6 * n' + k' = 6 * n + k
    · have yn : n' = n := by omega
      have yk : k' = k := by omega
      subst yn
      subst yk
      rw [if_pos rfl, eT, ev_ea n1 v4.1 (by omega) (by omega), pg_i, if_neg (by omega), if_pos ⟨rfl, rfl, rfl⟩, ← (v5 k' hk').2]
      exact if_pos rfl
    · rw [if_neg y] at hr' ⊢
      have g := (v7 n' k' hn' hk' hr').2
      rw [pg_i, if_neg (by omega)]
      by_cases z : k' = k
      · subst z
        rw [if_pos ⟨rfl, rfl, rfl⟩]
        show (if n' = n then _ else hs_i c 15 k' 0 n') = _
        rw [if_neg (by omega)]
        exact g
      · rw [if_neg (by omega)]
        exact g
  · rw [co 3 (by decide)] at hl'
    rw [co 5 (by decide), qf_c (r := r) (r' := m_r1 r n k) _ _ (fun t' _ ht => ⟨?_, eth t' (by omega)⟩)]
    · exact v8 l' hl'
    · unfold mr_there
      rw [r1_i (by decide), r1_i (by decide)]
  · rw [co 5 (by decide)] at ht
    rw [co 3 (by decide), co 5 (by decide), r1_i (f := 43) (by decide), r1_i (f := 45) (by decide), r1_i (f := 47) (by decide), r1_i (f := 44) (by decide), r1_i (f := 33) (by decide), r1_i (f := 31) (by decide)]
    obtain ⟨w1, w2, w3⟩ := v9 t' ht
    refine ⟨w1, w2, fun z => ?_⟩
    obtain ⟨n', l', hn', hl', e47, e44, h33, h50, huq⟩ := w3 z
    refine ⟨n', l', hn', hl', e47, e44, h33, ?_, huq⟩
    rw [r1_50]
    by_cases y : 6 * n' + ix_v (ri r 31 l') = 6 * n + k
    · rw [if_pos y]; exact pos
    · rw [if_neg y]; exact h50
  · rw [co 3 (by decide)] at hl'
    rw [r1_i (by decide)] at h33
    rw [pg_i, if_neg (by omega), if_neg (by omega), co 5 (by decide), ema]
    exact v10 l' n' hl' hn' h33
  · rw [co 3 (by decide)] at hl'
    have g := v11 l' n' d hl' hn' hd
    obtain ⟨f1, f2, f3, f4⟩ := fr6 l' hl'
    rw [pg_l, if_neg (by omega), if_neg (by omega), if_neg (by omega), g]
    unfold mr_roadOf mr_until
    rw [r1_i (f := 32) (by decide), r1_i (f := 33) (by decide), co 5 (by decide), ema, f4, r1_50]
    have esum : ∀ x4 x5, sm_l (mr_rdF (m_r1 r n k) n' l' (nI d) x4 x5) (rc r 5) = sm_l (mr_rdF r n' l' (nI d) x4 x5) (rc r 5) := fun x4 x5 => sm_lc (fun t' ht => rdP_c (by rw [r1_i (by decide)]) (by rw [r1_i (by decide)]) (by rw [r1_i (by decide)]) (by rw [r1_i (by decide)]) (by rw [r1_i (by decide)]) (emk t' n' ht) (by rw [r1_i (by decide)]))
    rw [esum]
    by_cases y : 6 * n' + hs_n c 4 l' = 6 * n + k
    · rw [if_pos y, if_neg pos, y, if_pos hr]
      refine (sm_l0 (fun t' ht => if_neg (fun z => ?_))).symm
      have z4 := z.2.2.2.1
      obtain ⟨b, hb, eb⟩ := v4.2.2.2 t' ht
      rw [eb, eT] at z4
      exact nI_ge (by omega) (by omega) z4
    · rw [if_neg y]
theorem sim_rl {n k : Nat} (hn : n < 16) : ∀ (m l : Nat) (c : hs_S) (r : rS), iv c r e → (e < rc r 5 ∨ 800 ≤ e) → k < rc r 1 → l + m = rc r 3 → rc r 5 + m_od r k m l ≤ 800 → rc r 2 + m < 2 ^ 30 → rk r k n = true → (∀ t' l', t' < rc r 5 → ri r 43 t' = 3 → ri r 47 t' = nI n → l ≤ l' → l' < rc r 3 → hs_n c 3 l' = k → ¬ ri r 44 t' = nI l') → iv (hc_rl k (nI n) m l c) (mr_rl n k m l r) e
  | 0, l, c, r, V, he, hk, hl, hQ, hT, hr, hno => V
  | m + 1, l, c, r, V, he, hk, hl, hQ, hT, hr, hno => by
    have n1 := V.1.1
    have n2 := V.1.2.1
    have h3 := rr_3 n1
    have h1 := rr_1 n1
    have v2 := V.2.1 l (by omega)
    have hf : hs_n c 3 l < rc r 1 := by rw [V.1.2.2.2.1]; exact (n2.2.2.2.1 l (by rw [← V.1.2.2.2.2.1]; omega)).1
    have eq1 : ri r 31 l = nI k ↔ hs_n c 3 l = k := by rw [v2.1]; exact nI_eq (by omega) (by omega)
    unfold m_od at hQ
    unfold hc_rl mr_rl
    by_cases z : hs_n c 3 l = k
    · have z' := eq1.mpr z
      rw [if_pos z, if_pos z']
      rw [if_pos z'] at hQ
      have hN : rc r 5 < 800 := by omega
      have V1 : iv (hc_ann c l (nI n)) (m_s1 r n l) e := by
        refine sim_sd V (by omega) hN (by omega) (by omega) ?_ ?_ ?_ ?_
        · by_cases y : ri r 33 l = 0
          · rw [if_pos y]; exact Or.inr (Or.inl rfl)
          · rw [if_neg y]; exact Or.inr (Or.inr rfl)
        · intro y
          by_cases w : ri r 33 l = 0
          · rw [if_pos w] at y; exact absurd y (by decide)
          · rw [if_neg w] at y; exact absurd y (by decide)
        · intro y
          by_cases w : ri r 33 l = 0
          · rw [if_pos w] at y; exact absurd y (by decide)
          · refine ⟨n, hn, rfl, w, ?_, fun t' ht e43 e47 => hno t' l ht e43 e47 (Nat.le_refl _) (by omega) z⟩
            rw [z', ix_vn (by omega)]
            exact of_decide_eq_true hr
        · unfold hc_at
          rw [v2.2.2]
          by_cases w : ri r 33 l = 0
          · rw [if_pos w, if_pos w, if_neg (by decide), if_neg (by decide)]
          · rw [if_neg w, if_neg w, if_pos rfl, if_pos rfl]
      obtain ⟨-, c5, c2, co⟩ := send_c n1 hN (show rc r 2 + 1 < 2 ^ 30 by omega) (if ri r 33 l = 0 then 2 else 3) (nI l) (-1) 0 (nI n)
      have k3 : rc (m_s1 r n l) 3 = rc r 3 := co 3 (by decide) (by decide)
      have k1 : rc (m_s1 r n l) 1 = rc r 1 := co 1 (by decide) (by decide)
      have k5 : rc (m_s1 r n l) 5 = rc r 5 + 1 := c5
      have k2 : rc (m_s1 r n l) 2 = rc r 2 + 1 := c2
      have ed := m_od_c (r := r) (r' := m_s1 r n l) (k := k) rfl m (l + 1)
      refine sim_rl hn m (l + 1) (hc_ann c l (nI n)) (m_s1 r n l) V1 (by omega) (by omega) (by omega) (by rw [k5, ed]; omega) (by omega) ?_ ?_
      · unfold rk
        rw [s1_i r n l 50 (by omega)]
        exact hr
      · intro t' l' ht e43 e47 hl1 hl2 hf' e44
        have hf2 : hs_n c 3 l' = k := by
          have : hs_n (hc_ann c l (nI n)) 3 l' = hs_n c 3 l' := hn_snd c l _ 3 l' (by decide) (by decide)
          rw [← this]; exact hf'
        by_cases w : t' = rc r 5
        · subst w
          unfold m_s1 at e44
          rw [sd_44, nI_eq (by omega) (by omega)] at e44
          omega
        · rw [s1_o r n l _ _ (by omega) w] at e43 e47 e44
          exact hno t' l' (by omega) e43 e47 (by omega) (by omega) hf2 e44
    · have z' := mt eq1.mp z
      rw [if_neg z, if_neg z']
      rw [if_neg z'] at hQ
      exact sim_rl hn m (l + 1) c r V he hk (by omega) (by omega) (by omega) hr (fun t' l' a1 a2 a3 a4 a5 a6 => hno t' l' a1 a2 a3 (by omega) a5 a6)
theorem iv_bit {n k : Nat} (V : iv c r e) (hn : n < 16) (hk : k < rc r 1) : hc_bit (hs_i c 8 k 0 1) (nI n) = rk r k n := by
  rw [V.2.2.2.2.2.1.1 k hk]
  exact bs_bit hn
theorem sim_rec {n k : Nat} (V : iv c r e) (he : e < rc r 5 ∨ 800 ≤ e) (hn : n < 16) (hk : k < rc r 1) (hS : n < rc r 6) (hU : rc r 5 + m_U r ≤ 800) (hT : rc r 2 + 13 < 2 ^ 30) : iv (hc_rec c k n (nI n)) (mr_record r n k) e := by
  have n1 := V.1.1
  have h3 := rr_3 n1
  unfold hc_rec mr_record
  rw [iv_bit V hn hk]
  by_cases z : ri r 50 (6 * n + k) ≤ 0
  · rw [if_pos z, if_neg (by unfold rk; rw [decide_eq_false (fun y => y z)]; decide)]
    have V1 := sim_page V hn hk z hS (by omega)
    obtain ⟨o1, c2, co⟩ := r1_c n1 (show rc r 2 + 1 < 2 ^ 30 by omega) n k
    have ed := m_od_c (r := r) (r' := m_r1 r n k) (k := k) rfl (rc r 3) 0
    have eU := mU_r1 n1 (by omega) hn hk z
    rw [← V.1.2.2.2.2.1]
    refine sim_rl hn (rc r 3) 0 (hc_page c k n (nI n)) (m_r1 r n k) V1 (by rw [co 5 (by decide)]; exact he) (by rw [co 1 (by decide)]; exact hk) (by rw [co 3 (by decide)]; omega) (by rw [co 5 (by decide), ed]; omega) (by omega) ?_ ?_
    · unfold rk
      rw [r1_50, if_pos rfl]
      refine decide_eq_true ?_
      rw [rr_n n1 (by decide) (by decide), nI_1]
      exact nI_nle (by omega) (by omega)
    · intro t' l' ht e43 e47 _ hl' hf e44
      rw [r1_i (by decide)] at e43 e47 e44
      rw [co 5 (by decide)] at ht
      rw [co 3 (by decide)] at hl'
      obtain ⟨n', l2, hn', hl2, f47, f44, f33, f50, -⟩ := (V.2.2.2.2.2.2.2.2.1 t' ht).2.2 e43
      have en : n' = n := (nI_eq (by omega) (by omega)).mp (by rw [← f47, e47])
      have el : l2 = l' := (nI_eq (by omega) (by omega)).mp (by rw [← f44, e44])
      subst en
      subst el
      apply f50
      rw [(V.2.1 l2 hl2).1]
      have hf' : hs_n c 3 l2 = k := hf
      rw [hf', ix_vn (by have := rr_1 n1; omega)]
      exact z
  · rw [if_neg z, if_pos (show rk r k n = true from decide_eq_true z)]
    exact V
/-- what may still be recorded -/
def m_V (r : rS) : Nat := sm_n (fun n => sm_n (fun k => if ri r 50 (6 * n + k) ≤ 0 then 1 else 0) 6) 16
theorem mV_c {r r' : rS} (e50 : ri r' 50 = ri r 50) : m_V r' = m_V r := by
  unfold m_V
  rw [e50]
theorem rec_V (o : rr_ok r) {n k : Nat} (hn : n < 16) (hk : k < rc r 1) (hU : rc r 5 + m_U r ≤ 800) (hT : rc r 2 + 13 < 2 ^ 30) : m_V (mr_record r n k) + (if rk r k n = true then 0 else 1) = m_V r := by
  have h1 := rr_1 o
  have h3 := rr_3 o
  unfold mr_record rk
  by_cases z : ri r 50 (6 * n + k) ≤ 0
  · rw [if_pos z, if_neg (by rw [decide_eq_false (fun y => y z)]; decide)]
    obtain ⟨o1, c2, co⟩ := r1_c o (show rc r 2 + 1 < 2 ^ 30 by omega) n k
    have ed := m_od_c (r := r) (r' := m_r1 r n k) (k := k) rfl (rc r 3) 0
    have eU := mU_r1 o (by omega) hn hk z
    obtain ⟨q1, q2, q3, q4, q5, q6, q7⟩ := rl_c (k := k) hn (rc r 3) 0 (m_r1 r n k) o1 (by rw [co 3 (by decide)]; omega) (by rw [co 5 (by decide), ed]; omega) (by rw [c2]; omega)
    rw [mV_c (r := m_r1 r n k) (q5 50 (by omega))]
    unfold m_V
    have pos : ¬ ri r 30 2 + 1 ≤ 0 := by
      rw [rr_n o (by decide) (by decide), nI_1]
      exact nI_nle (by omega) (by omega)
    refine sm_n1 (k := n) (by omega) (fun n' hn' hne => sm_nc (fun k' hk' => ?_)) (sm_n1 (k := k) (by omega) (fun k' hk' hne => ?_) ?_)
    · rw [r1_50, if_neg (show ¬ 6 * n' + k' = 6 * n + k by omega)]
    · rw [r1_50, if_neg (show ¬ 6 * n + k' = 6 * n + k by omega)]
    · rw [r1_50, if_pos (show 6 * n + k = 6 * n + k from rfl), if_neg pos, if_pos z]
  · rw [if_neg z, if_pos (decide_eq_true z)]
    rfl
end SM3
