section SM2
variable {c c' : hs_S} {r r' : rS} {e : Nat} {x1 x2 x3 x4 x5 : Int32}
theorem sd_i {f : Nat} (hf : f < 43 ∧ f ≠ 30 ∨ 49 < f) : ri (m_send r x1 x2 x3 x4 x5) f = ri r f := by
  unfold m_send
  rw [ri_u, if_neg (by omega), ri_u, if_neg (by omega), ri_u, if_neg (by omega), ri_u, if_neg (by omega), ri_u, if_neg (by omega), ri_u, if_neg (by omega), ri_u, if_neg (by omega), ri_u, if_neg (by omega), ri_u, if_neg (by omega)]
theorem sd_o {f t : Nat} (hf : 43 ≤ f ∧ f ≤ 49) (ht : t ≠ rc r 5) : ri (m_send r x1 x2 x3 x4 x5) f t = ri r f t := by
  have : f = 43 ∨ f = 44 ∨ f = 45 ∨ f = 46 ∨ f = 47 ∨ f = 48 ∨ f = 49 := by omega
  rcases this with rfl | rfl | rfl | rfl | rfl | rfl | rfl <;> exact if_neg ht
theorem sd_43 : ri (m_send r x1 x2 x3 x4 x5) 43 (rc r 5) = x1 := if_pos rfl
theorem sd_44 : ri (m_send r x1 x2 x3 x4 x5) 44 (rc r 5) = x2 := if_pos rfl
theorem sd_45 : ri (m_send r x1 x2 x3 x4 x5) 45 (rc r 5) = x3 := if_pos rfl
theorem sd_46 : ri (m_send r x1 x2 x3 x4 x5) 46 (rc r 5) = x4 := if_pos rfl
theorem sd_47 : ri (m_send r x1 x2 x3 x4 x5) 47 (rc r 5) = x5 := if_pos rfl
theorem sd_48 : ri (m_send r x1 x2 x3 x4 x5) 48 (rc r 5) = ri r 30 2 + 1 := if_pos rfl
theorem sd_49 : ri (m_send r x1 x2 x3 x4 x5) 49 (rc r 5) = 0 := if_pos rfl
theorem sd_mk {t n : Nat} (ht : t ≠ rc r 5) : mr_mk (m_send r x1 x2 x3 x4 x5) t n = mr_mk r t n := by
  unfold mr_mk m_fr
  rw [sd_i (f := 50) (by omega), sd_i (f := 31) (by omega), sd_o (f := 44) (by omega) ht, sd_o (f := 48) (by omega) ht]
theorem sd_thg {t : Nat} (ht : t ≠ rc r 5) : thg (m_send r x1 x2 x3 x4 x5) t = thg r t := by
  unfold thg
  rw [sd_o (f := 43) (by omega) ht, sd_o (f := 45) (by omega) ht, sd_o (f := 46) (by omega) ht, sd_o (f := 47) (by omega) ht, bs_c (fun i _ => sd_mk ht)]
theorem sd_there {x : Int32} {t : Nat} (ht : t ≠ rc r 5) : mr_there (m_send r x1 x2 x3 x4 x5) x t = mr_there r x t := by
  unfold mr_there
  rw [sd_o (f := 44) (by omega) ht, sd_o (f := 49) (by omega) ht]
theorem sim_sd {l : Nat} {u : hs_T} (V : iv c r e) (he : e ≠ rc r 5) (hQ : rc r 5 < 800) (hT : rc r 2 + 1 < 2 ^ 30) (hl : l < rc r 3) (k1 : x1 = 1 ∨ x1 = 2 ∨ x1 = 3) (k2 : x1 = 1 → ∃ d, d < 3 ∧ x3 = nI d) (k3 : x1 = 3 → ∃ n, n < 16 ∧ x5 = nI n ∧ ¬ ri r 33 l = 0 ∧ ¬ ri r 50 (6 * n + ix_v (ri r 31 l)) ≤ 0 ∧ (∀ t', t' < rc r 5 → ri r 43 t' = 3 → ri r 47 t' = nI n → ¬ ri r 44 t' = nI l)) (hu : u = (x1, x3, if x1 = 3 then x5 else x4, if x1 = 3 then 0 else hs_i c 8 (hs_n c 3 l) 0 1)) : iv (hc_snd c l u) (m_send r x1 (nI l) x3 x4 x5) e := by
  have qb := iv_qb V
  obtain ⟨⟨n1, n2, n3, n4, n5, n6⟩, v2, v3, v4, v5, v6, v7, v8, v9, v10, v11⟩ := V
  have h3 := rr_3 n1
  have h1 := rr_1 n1
  have h2 := rr_2 n1
  have hlc : l < hs_n c 1 0 := by rw [← n5]; exact hl
  have o1 : rr_ok (m_send r x1 (nI l) x3 x4 x5) := send_ok n1 hQ hT ⟨l, hl, rfl⟩ (fun z => by obtain ⟨n, hn, en, -⟩ := k3 z; exact ⟨n, hn, en⟩)
  obtain ⟨-, c5, c2, co⟩ := send_c n1 hQ hT x1 (nI l) x3 x4 x5
  have up : ∀ {x}, isT r x → isT (m_send r x1 (nI l) x3 x4 x5) x := fun q => isT_up (by omega) q
  have ef : m_fr (m_send r x1 (nI l) x3 x4 x5) (rc r 5) = hs_n c 3 l := by
    unfold m_fr
    rw [sd_44, ix_vn (by omega), sd_i (f := 31) (by omega), (v2 l hl).1]
    have := (n2.2.2.2.1 l hlc).1
    exact ix_vn (by omega)
  have hfr : hs_n c 3 l < rc r 1 := by rw [n4]; exact (n2.2.2.2.1 l hlc).1
  have emk : ∀ n, n < 16 → mr_mk (m_send r x1 (nI l) x3 x4 x5) (rc r 5) n = rk r (hs_n c 3 l) n := fun n hn => by
    unfold mr_mk rk
    rw [ef, sd_i (f := 50) (by omega), sd_48]
    obtain ⟨a, ha, ea⟩ := v4.2.1 n (hs_n c 3 l) hn (by omega)
    have : ¬ ri r 30 2 + 1 ≤ ri r 50 (6 * n + hs_n c 3 l) := by
      rw [rr_n n1 (by decide) (by decide), nI_1, ea]
      exact nI_ge (by omega) (by omega)
    by_cases y : ri r 50 (6 * n + hs_n c 3 l) ≤ 0
    · rw [decide_eq_false (fun z => z.1 y), decide_eq_false (fun z => z y)]
    · rw [decide_eq_true ⟨y, this⟩]
      exact (decide_eq_true y).symm
  have eth : thg (m_send r x1 (nI l) x3 x4 x5) (rc r 5) = u := by
    rw [hu]
    unfold thg
    rw [sd_43, sd_45, sd_46, sd_47, bs_c emk, v6.1 _ hfr]
  have ema : ∀ a b, mr_ma (m_send r x1 (nI l) x3 x4 x5) a b (rc r 5 + 1) 0 = mr_ma r a b (rc r 5) 0 := fun a b => by
    rw [ma_sn (rc r 5) 0 (by rw [Nat.zero_add]; exact sd_49)]
    exact ma_c _ _ (fun t' _ ht => ⟨sd_o (by omega) (by omega), sd_o (by omega) (by omega), sd_o (by omega) (by omega), sd_o (by omega) (by omega)⟩)
  refine ⟨⟨o1, hs_ok_snd n2 hlc (by have := qb l hlc; omega), by rw [hn_snd c l u 7 0 (by decide) (by decide), hn_snd c l u 1 0 (by decide) (by decide)]; exact n3, by rw [co 1 (by decide) (by decide), hn_snd c l u 0 0 (by decide) (by decide)]; exact n4, by rw [co 3 (by decide) (by decide), hn_snd c l u 1 0 (by decide) (by decide)]; exact n5, by rw [co 6 (by decide) (by decide), hn_snd c l u 2 0 (by decide) (by decide)]; exact n6⟩, fun l' hl' => ?_, ⟨?_, fun a b ha hb => ?_⟩, ⟨fun i hi => ?_, fun n k hn hk => ?_, fun t' ht => ?_, fun t' ht => ?_⟩, fun k hk => ⟨fun d hd => ?_, ?_⟩, ⟨fun k hk => ?_, fun n k h1 h2 h3 => ?_⟩, fun n k hn hk hr => ⟨fun d hd => ?_, ?_⟩, fun l' hl' => ?_, fun t' ht => ?_, fun l' n hl' hn h33 => ?_, fun l' n d hl' hn hd => ?_⟩
  · rw [co 3 (by decide) (by decide)] at hl'
    rw [sd_i (by omega), sd_i (by omega), sd_i (by omega), hn_snd c l u 3 l' (by decide) (by decide), hn_snd c l u 4 l' (by decide) (by decide), hi_snd c l u 19 l' 0 (by decide) (by decide)]
    exact v2 l' hl'
  · intro a b ha hb
    rw [hi_snd c l u 5 a 0 (by decide) (by decide), hi_snd c l u 7 a 0 (by decide) (by decide)]
    exact v3.1 a b ha hb
  · rw [hi_snd c l u 5 a 0 (by decide) (by decide), hi_snd c l u 7 a 0 (by decide) (by decide), sd_i (by omega), sd_i (by omega)]
    exact v3.2 a b ha hb
  · rw [sd_i (by omega)]
    rw [co 4 (by decide) (by decide)] at hi
    exact up (v4.1 i hi)
  · rw [sd_i (by omega)]; exact up (v4.2.1 n k hn hk)
  · by_cases y : t' = rc r 5
    · subst y
      rw [sd_48]
      exact ⟨rc r 2 + 1, by omega, by rw [rr_n n1 (by decide) (by decide), nI_1]⟩
    · rw [sd_o (by omega) y]
      exact up (v4.2.2.1 t' (by omega))
  · by_cases y : t' = rc r 5
    · subst y
      rw [sd_49]
      exact ⟨0, by omega, nI_0.symm⟩
    · rw [sd_o (by omega) y]
      exact up (v4.2.2.2 t' (by omega))
  · rw [co 1 (by decide) (by decide)] at hk
    exact (v5 k hk).1 d hd
  · rw [co 1 (by decide) (by decide)] at hk
    rw [hi_snd c l u 8 k 0 (by decide) (by decide)]
    exact (v5 k hk).2
  · rw [co 1 (by decide) (by decide)] at hk
    rw [hi_snd c l u 8 k 0 (by decide) (by decide), v6.1 k hk]
    refine bs_c (fun i _ => ?_)
    unfold rk
    rw [sd_i (by omega)]
  · rw [sd_i (by omega)]
    rw [co 6 (by decide) (by decide)] at h1
    exact v6.2 n k h1 h2 h3
  · rw [co 1 (by decide) (by decide)] at hk
    unfold rk at hr
    rw [sd_i (f := 50) (by omega)] at hr ⊢
    exact (v7 n k hn hk hr).1 d hd
  · rw [co 1 (by decide) (by decide)] at hk
    unfold rk at hr
    rw [sd_i (f := 50) (by omega)] at hr ⊢
    rw [hi_snd c l u 15 k 0 (by decide) (by decide)]
    exact (v7 n k hn hk hr).2
  · rw [co 3 (by decide) (by decide)] at hl'
    rw [c5, qf_sn, Nat.zero_add, hq_snd, qf_c (r := r) (r' := m_send r x1 (nI l) x3 x4 x5) _ _ (fun t' _ ht => ⟨sd_there (by omega), sd_thg (by omega)⟩), ← v8 l' hl', eth]
    have eth2 : mr_there (m_send r x1 (nI l) x3 x4 x5) (nI l') (rc r 5) = decide (l' = l) := by
      unfold mr_there
      rw [sd_44, sd_49]
      by_cases y : l' = l
      · subst y
        rw [decide_eq_true rfl]
        exact decide_eq_true ⟨rfl, rfl⟩
      · rw [decide_eq_false y]
        exact decide_eq_false (fun z => y ((nI_eq (by omega) (by omega)).mp z.1).symm)
    rw [eth2]
    by_cases y : l' = l
    · subst y
      rw [if_pos rfl, if_pos ⟨decide_eq_true rfl, fun z => he z.symm⟩]
    · rw [if_neg y, if_neg (fun z => y (of_decide_eq_true z.1)), List.append_nil]
  · rw [co 3 (by decide) (by decide), sd_i (f := 33) (by omega), sd_i (f := 50) (by omega), sd_i (f := 31) (by omega)]
    by_cases y : t' = rc r 5
    · subst y
      rw [sd_43, sd_45, sd_47, sd_44]
      refine ⟨k1, k2, fun z => ?_⟩
      obtain ⟨n, hn, en, h33, h50, huq⟩ := k3 z
      refine ⟨n, l, hn, hl, en, rfl, h33, h50, fun t'' ht'' e43 e47 e44 => ?_⟩
      by_cases w : t'' = rc r 5
      · exact w
      · rw [sd_o (by omega) w] at e43 e47 e44
        exact absurd e44 (huq t'' (by omega) e43 e47)
    · rw [sd_o (f := 43) (by omega) y, sd_o (f := 45) (by omega) y, sd_o (f := 47) (by omega) y, sd_o (f := 44) (by omega) y]
      obtain ⟨w1, w2, w3⟩ := v9 t' (by omega)
      refine ⟨w1, w2, fun z => ?_⟩
      obtain ⟨n, l2, hn, hl2, e47, e44, h33, h50, huq⟩ := w3 z
      refine ⟨n, l2, hn, hl2, e47, e44, h33, h50, fun t'' ht'' f43 f47 f44 => ?_⟩
      by_cases w : t'' = rc r 5
      · subst w
        rw [sd_43] at f43
        rw [sd_47] at f47
        rw [sd_44] at f44
        obtain ⟨n', hn', en', -, -, huq'⟩ := k3 f43
        have en : n = n' := (nI_eq (by omega) (by omega)).mp (by rw [← f47, en'])
        subst en
        have el : l = l2 := (nI_eq (by omega) (by omega)).mp f44
        subst el
        exact absurd e44 (huq' t' (by omega) z e47)
      · rw [sd_o (by omega) w] at f43 f47 f44
        exact huq t'' (by omega) f43 f47 f44
  · rw [co 3 (by decide) (by decide)] at hl'
    rw [sd_i (by omega)] at h33
    rw [hi_snd c l u 19 l' 0 (by decide) (by decide), c5, ema]
    exact v10 l' n hl' hn h33
  · rw [co 3 (by decide) (by decide)] at hl'
    show hs_l c 23 l' n d = _
    rw [v11 l' n d hl' hn hd]
    unfold mr_roadOf mr_until
    rw [sd_i (f := 50) (by omega), sd_i (f := 32) (by omega), sd_i (f := 33) (by omega), c5, ema]
    by_cases y : ri r 50 (6 * n + ix_v (ri r 32 l')) ≤ 0
    · rw [if_pos y, if_pos y]
    · rw [if_neg y, if_neg y]
      generalize (if ri r 33 l' = 0 then 0 else mr_ma r (nI n) (nI l') (rc r 5) 0) = un
      show _ = sm_l _ (rc r 5) + mr_rdF (m_send r x1 (nI l) x3 x4 x5) n l' (nI d) (ri r 50 (6 * n + ix_v (ri r 32 l'))) un (rc r 5)
      have z0 : mr_rdF (m_send r x1 (nI l) x3 x4 x5) n l' (nI d) (ri r 50 (6 * n + ix_v (ri r 32 l'))) un (rc r 5) = 0 := by
        unfold mr_rdF
        refine if_neg (fun z => y ?_)
        have := z.2.2.2.1
        rw [sd_49] at this
        exact this
      rw [z0, Int64.add_zero]
      exact (sm_lc (fun t' ht => rdP_c (sd_o (by omega) (by omega)) (sd_o (by omega) (by omega)) (sd_o (by omega) (by omega)) (sd_o (by omega) (by omega)) (by rw [sd_i (by omega)]) (sd_mk (by omega)) (sd_o (by omega) (by omega)))).symm
end SM2
