section SM4
variable {c c' : hs_S} {r r' : rS} {e : Nat}
theorem qf_e {x : Int32} {e e' : Nat} : ∀ m t, (e < t ∨ t + m ≤ e) → (e' < t ∨ t + m ≤ e') → qf r x e m t = qf r x e' m t
  | 0, _, _, _ => rfl
  | m + 1, t, h1, h2 => by
    unfold qf
    rw [qf_e (e := e) (e' := e') m (t + 1) (by omega) (by omega)]
    by_cases y : mr_there r x t = true
    · rw [if_pos ⟨y, by omega⟩, if_pos ⟨y, by omega⟩]
    · rw [if_neg (fun z => y z.1), if_neg (fun z => y z.1)]
theorem ta_q {x : Int32} {e : Nat} : ∀ m t j, t + m ≤ e → j < 2 ^ 31 → (mr_ta r x m t (nI j) = -1 ∧ (qf r x e m t).length ≤ j) ∨ ∃ t', t ≤ t' ∧ t' < t + m ∧ mr_ta r x m t (nI j) = nI t' ∧ mr_there r x t' = true ∧ (qf r x e m t)[j]? = some (thg r t') ∧ qf r x t' m t = (qf r x e m t).eraseIdx j
  | 0, t, j, _, _ => Or.inl ⟨rfl, Nat.zero_le _⟩
  | m + 1, t, j, he, hj => by
    have hv : ¬ nI j < 0 := nI_pos hj
    unfold mr_ta
    rw [if_neg hv]
    by_cases y : mr_there r x t = true
    · rw [if_pos y]
      have eq : qf r x e (m + 1) t = thg r t :: qf r x e m (t + 1) := by
        show (if mr_there r x t = true ∧ t ≠ e then _ else _) = _
        rw [if_pos ⟨y, by omega⟩]
      by_cases z : j = 0
      · subst z
        rw [nI_0, if_pos rfl]
        refine Or.inr ⟨t, by omega, by omega, rfl, y, by rw [eq]; rfl, ?_⟩
        rw [eq]
        show (if mr_there r x t = true ∧ t ≠ t then _ else qf r x t m (t + 1)) = qf r x e m (t + 1)
        rw [if_neg (fun w => w.2 rfl)]
        exact qf_e m (t + 1) (by omega) (by omega)
      · obtain ⟨j', rfl⟩ : ∃ j', j = j' + 1 := ⟨j - 1, by omega⟩
        rw [if_neg (nI_ne0 (by omega) hj), show nI (j' + 1) + (-1) = nI j' by rw [← Int32.sub_eq_add_neg]; exact nI_pred j']
        rcases ta_q (x := x) (e := e) m (t + 1) j' (by omega) (by omega) with ⟨w1, w2⟩ | ⟨t', w1, w2, w3, w4, w5, w6⟩
        · exact Or.inl ⟨w1, by rw [eq, List.length_cons]; omega⟩
        · refine Or.inr ⟨t', by omega, by omega, w3, w4, by rw [eq, List.getElem?_cons_succ]; exact w5, ?_⟩
          rw [eq, List.eraseIdx_cons_succ, ← w6]
          show (if mr_there r x t = true ∧ t ≠ t' then thg r t :: qf r x t' m (t + 1) else _) = _
          rw [if_pos ⟨y, by omega⟩]
    · rw [if_neg y]
      have eq : qf r x e (m + 1) t = qf r x e m (t + 1) := by
        show (if mr_there r x t = true ∧ t ≠ e then _ else _) = _
        rw [if_neg (fun z => y z.1)]
      rcases ta_q (x := x) (e := e) m (t + 1) j (by omega) hj with ⟨w1, w2⟩ | ⟨t', w1, w2, w3, w4, w5, w6⟩
      · exact Or.inl ⟨w1, by rw [eq]; exact w2⟩
      · refine Or.inr ⟨t', by omega, by omega, w3, w4, by rw [eq]; exact w5, ?_⟩
        rw [eq, ← w6]
        show (if mr_there r x t = true ∧ t ≠ t' then _ else qf r x t' m (t + 1)) = _
        rw [if_neg (fun z => y z.1)]
/-- the class's state changed in queues and hands alone -/
def csame (c c' : hs_S) : Prop := (∀ a b, a ≠ 5 → a ≠ 6 → a ≠ 8 → hs_n c' a b = hs_n c a b) ∧ (∀ f i j, hs_l c' f i j = hs_l c f i j) ∧ (∀ f i j, f ≠ 20 → f ≠ 25 → f ≠ 26 → hs_i c' f i j = hs_i c f i j)
theorem iv_cc {e' : Nat} (V : iv c r e) (C : csame c c') (ok : hs_ok c') (q : iv_q c' r e') : iv c' r e' := by
  obtain ⟨⟨n1, n2, n3, n4, n5, n6⟩, v2, v3, v4, v5, v6, v7, v8, v9, v10, v11⟩ := V
  obtain ⟨C1, C2, C3⟩ := C
  refine ⟨⟨n1, ok, by rw [C1 7 0 (by decide) (by decide) (by decide), C1 1 0 (by decide) (by decide) (by decide)]; exact n3, by rw [C1 0 0 (by decide) (by decide) (by decide)]; exact n4, by rw [C1 1 0 (by decide) (by decide) (by decide)]; exact n5, by rw [C1 2 0 (by decide) (by decide) (by decide)]; exact n6⟩, ?_, ⟨?_, ?_⟩, v4, ?_, ⟨?_, v6.2⟩, ?_, q, v9, ?_, ?_⟩
  · intro l hl
    rw [C1 3 l (by decide) (by decide) (by decide), C1 4 l (by decide) (by decide) (by decide), C3 19 l 0 (by decide) (by decide) (by decide)]
    exact v2 l hl
  · intro a b ha hb
    rw [C3 5 a 0 (by decide) (by decide) (by decide), C3 7 a 0 (by decide) (by decide) (by decide)]
    exact v3.1 a b ha hb
  · intro a b ha hb
    rw [C3 5 a 0 (by decide) (by decide) (by decide), C3 7 a 0 (by decide) (by decide) (by decide)]
    exact v3.2 a b ha hb
  · intro k hk
    rw [C2, C2, C2, C3 8 k 0 (by decide) (by decide) (by decide)]
    exact v5 k hk
  · intro k hk
    rw [C3 8 k 0 (by decide) (by decide) (by decide)]
    exact v6.1 k hk
  · intro n k hn hk hr
    rw [C2, C2, C2, C3 15 k 0 (by decide) (by decide) (by decide)]
    exact v7 n k hn hk hr
  · intro l n hl hn h33
    rw [C3 19 l 0 (by decide) (by decide) (by decide)]
    exact v10 l n hl hn h33
  · intro l n d hl hn hd
    rw [C2]
    exact v11 l n d hl hn hd
theorem cs_take (c : hs_S) (l j : Nat) : csame c (hc_take c l j) := ⟨fun a b _ h6 _ => ht_n c l j a b h6, fun _ _ _ => rfl, fun f i k h20 h25 _ => by rw [ht_i, if_neg (fun z => h25 z.1), if_neg (fun z => h20 z.1)]⟩
theorem cs_drop (c : hs_S) : csame c (hc_drop c) := ⟨fun a b _ h6 _ => by simp [hc_drop, hs_n_sn, h6], fun _ _ _ => rfl, fun _ _ _ _ _ _ => rfl⟩
theorem cs_keep (c : hs_S) : csame c (hc_keep c) := ⟨fun a b _ h6 h8 => hk_n c a b h6 h8, fun _ _ _ => rfl, fun f i j _ _ h26 => by
  show (if f = 26 ∧ i = 0 ∧ j = 0 then _ else hs_i c f i j) = _
  rw [if_neg (fun z => h26 z.1)]⟩
theorem cs_unk (c : hs_S) : csame c (hc_unk c) := ⟨fun a b _ _ h8 => by simp [hc_unk, hs_n_sn, h8], fun _ _ _ => rfl, fun _ _ _ _ _ _ => rfl⟩
theorem cs_tr {c1 c2 c3 : hs_S} (h1 : csame c1 c2) (h2 : csame c2 c3) : csame c1 c3 := ⟨fun a b x y z => (h2.1 a b x y z).trans (h1.1 a b x y z), fun f i j => (h2.2.1 f i j).trans (h1.2.1 f i j), fun f i j x y z => (h2.2.2 f i j x y z).trans (h1.2.2 f i j x y z)⟩
/-- the j-th thing of link l is taken out: it is thing t -/
theorem sim_take {l j t : Nat} (V : iv c r 1000) (hl : l < rc r 3) (hq : qf r (nI l) t (rc r 5) 0 = (qf r (nI l) 1000 (rc r 5) 0).eraseIdx j) (e44 : ri r 44 t = nI l) : iv_q (hc_take c l j) r t := by
  have n1 := V.1.1
  have h3 := rr_3 n1
  have h5 := rr_5 n1
  have v8 := V.2.2.2.2.2.2.2.1
  intro l' hl'
  rw [ht_q]
  by_cases y : l' = l
  · subst y
    rw [if_pos rfl, hq, v8 l' hl']
  · rw [if_neg y, v8 l' hl']
    have : ∀ m t0, qf r (nI l') 1000 m t0 = qf r (nI l') t m t0 ∨ ¬ (t0 + m ≤ 1000) := by
      intro m
      induction m with
      | zero => intro t0; exact Or.inl rfl
      | succ m ih =>
        intro t0
        by_cases w : t0 + (m + 1) ≤ 1000
        · refine Or.inl ?_
          rcases ih (t0 + 1) with i | i
          · show (if _ then _ else _) = (if _ then _ else _)
            rw [i]
            by_cases z : mr_there r (nI l') t0 = true
            · have zt : t0 ≠ t := fun q => by
                subst q
                have := (of_decide_eq_true z).1
                rw [e44] at this
                exact y ((nI_eq (by omega) (by omega)).mp this).symm
              rw [if_pos ⟨z, by omega⟩, if_pos ⟨z, zt⟩]
            · rw [if_neg (fun q => z q.1), if_neg (fun q => z q.1)]
          · exact absurd i (by omega)
        · exact Or.inr w
    rcases this (rc r 5) 0 with i | i
    · exact i
    · exact absurd i (by omega)
/-- marks of an old thing stand -/
theorem rec_mk {n k t m : Nat} (o : rr_ok r) (v4 : iv_t r) (hn : n < 16) (hk : k < rc r 1) (hU : rc r 5 + m_U r ≤ 800) (hT : rc r 2 + 13 < 2 ^ 30) (ht : t < rc r 5) : mr_mk (mr_record r n k) t m = mr_mk r t m := by
  have h3 := rr_3 o
  unfold mr_record
  by_cases z : ri r 50 (6 * n + k) ≤ 0
  · rw [if_pos z]
    obtain ⟨o1, c2, co⟩ := r1_c o (show rc r 2 + 1 < 2 ^ 30 by omega) n k
    have ed := m_od_c (r := r) (r' := m_r1 r n k) (k := k) rfl (rc r 3) 0
    have eU := mU_r1 o (by omega) hn hk z
    obtain ⟨q1, q2, q3, q4, q5, q6, q7⟩ := rl_c (k := k) hn (rc r 3) 0 (m_r1 r n k) o1 (by rw [co 3 (by decide)]; omega) (by rw [co 5 (by decide), ed]; omega) (by rw [c2]; omega)
    have eT : ri r 30 2 + 1 = nI (rc r 2 + 1) := by rw [rr_n o (by decide) (by decide), nI_1]
    have ht1 : t < rc (m_r1 r n k) 5 := by rw [co 5 (by decide)]; exact ht
    obtain ⟨l, hl, el, ea, ha⟩ := m_fr_ok o ht
    unfold mr_mk
    have efr : m_fr (mr_rl n k (rc r 3) 0 (m_r1 r n k)) t = m_fr r t := by
      unfold m_fr
      rw [q5 31 (by omega), q7 44 t (by omega) ht1, r1_i (by decide), r1_i (by decide)]
    rw [efr, q5 50 (by omega), q7 48 t (by omega) ht1, r1_50, r1_i (f := 48) (by decide)]
    by_cases y : 6 * m + m_fr r t = 6 * n + k
    · rw [if_pos y]
      rw [y]
      obtain ⟨b, hb, eb⟩ := v4.2.2.1 t ht
      rw [decide_eq_false (fun z => z.2 (by rw [eb, eT]; exact nI_le (by omega) (by omega))), decide_eq_false (fun z' => z'.1 z)]
    · rw [if_neg y]
  · rw [if_neg z]
/-- the bag's marks are recorded, on both sides -/
theorem sim_tb {l t k : Nat} : ∀ (m n : Nat) (c : hs_S) (r : rS), iv c r t → n + m = 16 → t < rc r 5 → ¬ ri r 43 t = 3 → hs_i c 26 0 0 3 = bs (mr_mk r t) 16 → hs_n c 4 l = k → k < rc r 1 → rc r 5 + m_U r ≤ 800 → rc r 2 + 13 * m < 2 ^ 30 → iv (hc_tbl l m n c) (mr_dl t k (rc r 6 - n) n r) t ∧ hc_tbc l m n c + m_V (mr_dl t k (rc r 6 - n) n r) = m_V r ∧ hs_i (hc_tbl l m n c) 26 0 0 = hs_i c 26 0 0 ∧ (∀ a b, a ≠ 5 → a ≠ 6 → hs_n (hc_tbl l m n c) a b = hs_n c a b) ∧ (rc (mr_dl t k (rc r 6 - n) n r) 5 + m_U (mr_dl t k (rc r 6 - n) n r) = rc r 5 + m_U r) ∧ (rc r 5 ≤ rc (mr_dl t k (rc r 6 - n) n r) 5) ∧ (rc (mr_dl t k (rc r 6 - n) n r) 2 ≤ rc r 2 + 13 * m) ∧ (∀ k', k' ≠ 2 → k' ≠ 5 → rc (mr_dl t k (rc r 6 - n) n r) k' = rc r k') ∧ (∀ f t', 43 ≤ f ∧ f ≤ 49 → t' < rc r 5 → ri (mr_dl t k (rc r 6 - n) n r) f t' = ri r f t') ∧ (∀ f, f < 43 ∧ f ≠ 30 → ri (mr_dl t k (rc r 6 - n) n r) f = ri r f) ∧ (∀ n', mr_mk (mr_dl t k (rc r 6 - n) n r) t n' = mr_mk r t n')
  | 0, n, c, r, V, hn, ht, h43, h26, h4, hk, hU, hT => by
    have h6 := rr_6 V.1.1
    rw [show rc r 6 - n = 0 by omega]
    exact ⟨V, Nat.zero_add _, rfl, fun _ _ _ _ => rfl, rfl, Nat.le_refl _, by show rc r 2 ≤ _; omega, fun _ _ _ => rfl, fun _ _ _ _ => rfl, fun _ _ => rfl, fun _ => rfl⟩
  | m + 1, n, c, r, V, hn, ht, h43, h26, h4, hk, hU, hT => by
    have n1 := V.1.1
    have h6 := rr_6 n1
    have hn16 : n < 16 := by omega
    have ebit : hc_bit (hs_i c 26 0 0 3) (nI n) = mr_mk r t n := by rw [h26]; exact bs_bit hn16
    by_cases hS : n < rc r 6
    · rw [show rc r 6 - n = (rc r 6 - (n + 1)) + 1 by omega]
      have e1 : mr_dl t k (rc r 6 - (n + 1) + 1) n r = mr_dl t k (rc r 6 - (n + 1)) (n + 1) (if ¬ ri r 43 t = 3 ∧ mr_mk r t n = true then mr_record r n k else r) := rfl
      have e2 : hc_tbl l (m + 1) n c = hc_tbl l m (n + 1) (hc_tb1 c l n) := rfl
      have e3 : hc_tbc l (m + 1) n c = hc_tb0 c l n + hc_tbc l m (n + 1) (hc_tb1 c l n) := rfl
      rw [e1, e2, e3]
      by_cases y : mr_mk r t n = true
      · rw [if_pos ⟨h43, y⟩]
        have t1 : hc_tb1 c l n = hc_rec c k n (nI n) := by unfold hc_tb1; rw [ebit, if_pos y, h4]
        have t0 : hc_tb0 c l n = if rk r k n = true then 0 else 1 := by
          unfold hc_tb0
          rw [ebit, h4, iv_bit V hn16 hk]
          by_cases w : rk r k n = true
          · rw [if_neg (fun z => by rw [w] at z; cases z.2), if_pos w]
          · rw [if_pos ⟨y, by simpa using w⟩, if_neg w]
        have V1 := sim_rec V (Or.inl ht) hn16 hk hS hU (by omega)
        obtain ⟨o1, c5, c2, co, ci, cl, ct, g5, g2⟩ := rec_c n1 hn16 hk hU (show rc r 2 + 13 < 2 ^ 30 by omega)
        have eV := rec_V n1 hn16 hk hU (show rc r 2 + 13 < 2 ^ 30 by omega)
        have emk : ∀ n', mr_mk (mr_record r n k) t n' = mr_mk r t n' := fun n' => rec_mk n1 V.2.2.2.1 hn16 hk hU (by omega) ht
        rw [t1, t0]
        have i26 : hs_i (hc_rec c k n (nI n)) 26 0 0 = hs_i c 26 0 0 := hi_rec (by decide) (by decide) (by decide) (by decide)
        obtain ⟨q1, q2, q3, q4, q5, q6, q7, q8, q9, q10, q11⟩ := sim_tb (l := l) (t := t) (k := k) m (n + 1) (hc_rec c k n (nI n)) (mr_record r n k) V1 (by omega) (by omega) (by rw [ct 43 t (by omega) ht]; exact h43) (by rw [i26, h26]; exact (bs_c (fun i _ => emk i)).symm) (by rw [hn_rec (by decide) (by decide)]; exact h4) (by rw [co 1 (by decide) (by decide)]; exact hk) (by omega) (by omega)
        rw [co 6 (by decide) (by decide)] at q1 q2 q5 q6 q7 q8 q9 q10 q11
        exact ⟨q1, by omega, q3.trans i26, fun a b h5 h6 => (q4 a b h5 h6).trans (hn_rec h5 h6), by omega, by omega, by omega, fun k' h2 h5 => (q8 k' h2 h5).trans (co k' h2 h5), fun f t' hf ht' => (q9 f t' hf (by omega)).trans (ct f t' hf ht'), fun f hf => (q10 f hf).trans (ci f (by omega)), fun n' => (q11 n').trans (emk n')⟩
      · rw [if_neg (fun z => y z.2)]
        have t1 : hc_tb1 c l n = c := by unfold hc_tb1; rw [ebit, if_neg y]
        have t0 : hc_tb0 c l n = 0 := by unfold hc_tb0; rw [ebit, if_neg (fun z => y z.1)]
        rw [t1, t0]
        obtain ⟨q1, q2, q3, q4, q5, q6, q7, q8, q9, q10, q11⟩ := sim_tb (l := l) (t := t) (k := k) m (n + 1) c r V (by omega) ht h43 h26 h4 hk hU (by omega)
        exact ⟨q1, by omega, q3, q4, q5, q6, by omega, q8, q9, q10, q11⟩
    · rw [show rc r 6 - n = 0 by omega]
      have no : mr_mk r t n = false := by
        obtain ⟨l', hl', el, ea, ha⟩ := m_fr_ok n1 ht
        have := V.2.2.2.2.2.1.2 n (m_fr r t) (by omega) hn16 (by have := rr_1 n1; omega)
        unfold mr_mk
        rw [this]
        exact decide_eq_false (fun z => z.1 (by decide))
      have t1 : hc_tb1 c l n = c := by unfold hc_tb1; rw [ebit, no]; rfl
      have t0 : hc_tb0 c l n = 0 := by unfold hc_tb0; rw [ebit, no, if_neg (fun z => by cases z.1)]
      have e2 : hc_tbl l (m + 1) n c = hc_tbl l m (n + 1) (hc_tb1 c l n) := rfl
      have e3 : hc_tbc l (m + 1) n c = hc_tb0 c l n + hc_tbc l m (n + 1) (hc_tb1 c l n) := rfl
      rw [e2, e3, t1, t0]
      have ih := sim_tb (l := l) (t := t) (k := k) m (n + 1) c r V (by omega) ht h43 h26 h4 hk hU (by omega)
      rw [show rc r 6 - (n + 1) = 0 by omega, show mr_dl t k 0 (n + 1) r = r from rfl] at ih
      rw [show mr_dl t k 0 n r = r from rfl]
      obtain ⟨q1, q2, q3, q4, q5, q6, q7, q8, q9, q10, q11⟩ := ih
      exact ⟨q1, by omega, q3, q4, q5, q6, by omega, q8, q9, q10, q11⟩
end SM4
