section SM9
variable {c c' : hs_S} {r r' : rS} {e : Nat}
/-- nothing in the hand, and at most 16 bags a link -/
def ci (c : hs_S) : Prop := hs_n c 6 0 = 0 ∧ ∀ l, l < hs_n c 1 0 → hc_cb (hs_q c l) ≤ 16
theorem ci_c (h6 : hs_n c' 6 0 = hs_n c 6 0) (h1 : hs_n c' 1 0 = hs_n c 1 0) (hq : ∀ l, hs_q c' l = hs_q c l) (I : ci c) : ci c' := by
  refine ⟨by rw [h6]; exact I.1, fun l hl => ?_⟩
  rw [h1] at hl
  rw [hq]
  exact I.2 l hl
theorem cb_app (a b : List hs_T) : hc_cb (a ++ b) = hc_cb a + hc_cb b := by
  unfold hc_cb
  rw [List.filter_append, List.length_append]
theorem cb_one (t : hs_T) : hc_cb [t] = if t.1 = 1 then 1 else 0 := by
  unfold hc_cb
  by_cases y : t.1 = 1
  · rw [if_pos y, List.filter_cons_of_pos (by exact decide_eq_true y)]
    rfl
  · rw [if_neg y, List.filter_cons_of_neg (by intro z; exact y (of_decide_eq_true z))]
    rfl
theorem ci_snd {l : Nat} {u : hs_T} (I : ci c) (hu : u.1 = 1 → hc_cb (hs_q c l) < 16) : ci (hc_snd c l u) := by
  refine ⟨rfl, fun l' hl' => ?_⟩
  rw [hn_snd c l u 1 0 (by decide) (by decide)] at hl'
  rw [hq_snd]
  by_cases y : l' = l
  · subst y
    rw [if_pos rfl, cb_app, cb_one]
    have := I.2 l' hl'
    by_cases z : u.1 = 1
    · rw [if_pos z]
      have := hu z
      omega
    · rw [if_neg z]
      omega
  · rw [if_neg y]
    exact I.2 l' hl'
theorem ci_ann {l : Nat} {x : Int32} (I : ci c) : ci (hc_ann c l x) := by
  refine ci_snd I (fun z => ?_)
  unfold hc_at at z
  split at z
  · exact absurd (show (2 : Int32) = 1 from z) (by decide)
  · exact absurd (show (3 : Int32) = 1 from z) (by decide)
theorem ci_rl {k : Nat} {x : Int32} : ∀ m l (c : hs_S), ci c → ci (hc_rl k x m l c)
  | 0, _, _, I => I
  | m + 1, l, c, I => by
    unfold hc_rl
    refine ci_rl m (l + 1) _ ?_
    split
    · exact ci_ann I
    · exact I
theorem ci_rec {k n : Nat} {x : Int32} (I : ci c) : ci (hc_rec c k n x) := by
  unfold hc_rec
  split
  · exact I
  · exact ci_rl _ _ _ (ci_c rfl rfl (fun _ => rfl) I)
theorem ci_tbl {l : Nat} : ∀ m n (c : hs_S), ci c → ci (hc_tbl l m n c)
  | 0, _, _, I => I
  | m + 1, n, c, I => by
    unfold hc_tbl
    refine ci_tbl m (n + 1) _ ?_
    unfold hc_tb1
    split
    · exact ci_rec I
    · exact I
theorem cb_er (q : List hs_T) (j : Nat) : hc_cb (q.eraseIdx j) ≤ hc_cb q := ((List.eraseIdx_sublist q j).filter _).length_le
theorem ci_take {l j : Nat} (I : ci c) : ∀ l', l' < hs_n c 1 0 → hc_cb (hs_q (hc_take c l j) l') ≤ 16 := fun l' hl' => by
  rw [ht_q]
  by_cases y : l' = l
  · subst y
    rw [if_pos rfl]
    have := cb_er (hs_q c l') j
    have := I.2 l' hl'
    omega
  · rw [if_neg y]
    exact I.2 l' hl'
theorem ci_dl {l j : Nat} (I : ci c) : ci (hc_dl c l j) := by
  unfold hc_dl
  split
  · have I1 : ci (hc_drop (hc_take c l j)) := ⟨rfl, fun l' hl' => ci_take I l' hl'⟩
    exact ci_c (c := hc_rec (hc_drop (hc_take c l j)) _ _ _) rfl rfl (fun _ => rfl) (ci_rec I1)
  · have I1 : ci (hc_keep (hc_take c l j)) := ⟨rfl, fun l' hl' => ci_take I l' hl'⟩
    have I2 := ci_tbl (l := l) 16 0 _ I1
    refine ci_c (c := hc_tbe (hc_tbl l 16 0 (hc_keep (hc_take c l j))) l (ix_v (hc_tj c l j).2.1)) rfl rfl (fun _ => rfl) ?_
    unfold hc_tbe
    split
    · have e2 := arl_2 l (ix_v (hc_tj c l j).2.1) 16 0 (hc_recv (hc_tbl l 16 0 (hc_keep (hc_take c l j))) (hs_n (hc_tbl l 16 0 (hc_keep (hc_take c l j))) 4 l) (ix_v (hc_tj c l j).2.1) (hs_i (hc_tbl l 16 0 (hc_keep (hc_take c l j))) 26 0 0 2))
      refine ci_c ?_ ?_ (fun l => ?_) I2
      · exact congrArg (fun s => s.2.2 6 0) e2
      · exact congrArg (fun s => s.2.2 1 0) e2
      · exact congrArg (fun s => s.2.1 l) e2
    · exact I2
theorem ci_mint {x1 x2 x3 : Int32} (I : ci c) : ci (hc_mint c x1 x2 x3).2 := by
  unfold hc_mint
  split
  · split
    · exact ci_c rfl rfl (fun _ => rfl) I
    · exact I
  · exact I
theorem ci_melt {x1 x2 x3 : Int32} (I : ci c) : ci (hc_melt c x1 x2 x3).2 := by
  unfold hc_melt
  split
  · split
    · exact ci_c rfl rfl (fun _ => rfl) I
    · exact I
  · exact I
theorem ci_exchange {x1 x2 x3 x4 : Int32} (I : ci c) : ci (hc_exchange c x1 x2 x3 x4).2 := by
  unfold hc_exchange
  split
  · split
    · exact ci_c rfl rfl (fun _ => rfl) I
    · exact I
  · exact I
theorem ci_rate {x1 x2 x3 x4 : Int32} (I : ci c) : ci (hc_rate c x1 x2 x3 x4).2 := by
  unfold hc_rate
  split
  · split
    · exact ci_c rfl rfl (fun _ => rfl) I
    · exact I
  · exact I
theorem ci_link {x1 x2 x3 : Int32} (I : ci c) : ci (hc_link c x1 x2 x3).2 := by
  unfold hc_link
  split
  · split
    · refine ⟨?_, fun l hl => ?_⟩
      · show hs_n (hc_lp (hc_lk c _ _ _ _)) 6 0 = 0
        rw [lp_no _ (by decide) (by decide), lk_no _ _ _ _ _ (by decide) (by decide) (by decide) (by decide)]
        exact I.1
      · show hc_cb (hs_q (hc_lp (hc_lk c _ _ _ _)) l) ≤ 16
        rw [lp_q, lk_q]
        by_cases y : l = hs_n c 1 0
        · rw [if_pos y]; decide
        · rw [if_neg y]
          refine I.2 l ?_
          have hl' : l < hs_n (hc_lp (hc_lk c (hs_n c 1 0) _ _ x3)) 1 0 := hl
          rw [lp_n, if_neg (by omega), if_pos ⟨rfl, rfl⟩, lk_no _ _ _ _ _ (by decide) (by decide) (by decide) (by decide)] at hl'
          omega
    · exact I
  · exact I
theorem ci_snap {x : Int32} (I : ci c) : ci (hc_snap c x).2 := by
  unfold hc_snap
  split
  · split
    · exact ci_rec (ci_c rfl rfl (fun _ => rfl) I)
    · exact I
  · exact I
theorem ci_bag {x1 x2 x3 : Int32} (I : ci c) : ci (hc_bag c x1 x2 x3).2 := by
  unfold hc_bag
  split
  · split
    · rename_i y
      exact ci_snd (ci_c rfl rfl (fun _ => rfl) I) (fun _ => y.2)
    · exact I
  · exact I
theorem ci_deliver {x1 x2 : Int32} (I : ci c) : ci (hc_deliver c x1 x2).2 := by
  unfold hc_deliver
  split
  · split
    · exact I
    · exact ci_dl I
  · exact I
/-- bags are counted alike -/
theorem bc_q {x : Int32} {e : Nat} : ∀ m, m ≤ e → sm_i (mr_bc r x) m = nI (hc_cb (qf r x e m 0))
  | 0, _ => by
    show (0 : Int32) = nI 0
    rw [nI_0]
  | m + 1, he => by
    show sm_i (mr_bc r x) m + mr_bc r x m = _
    rw [bc_q (e := e) m (by omega), qf_sn, Nat.zero_add, cb_app]
    unfold mr_bc
    by_cases y : mr_there r x m = true
    · rw [if_pos (show mr_there r x m = true ∧ m ≠ e from ⟨y, by omega⟩), cb_one]
      by_cases z : ri r 43 m = 1
      · rw [if_pos ⟨y, z⟩, if_pos (show (thg r m).1 = 1 from z), nI_1]
      · rw [if_neg (fun w => z w.2), if_neg (show ¬ (thg r m).1 = 1 from z), Int32.add_zero, Nat.add_zero]
    · rw [if_neg (fun w => y w.1), if_neg (fun w => y w.1), Int32.add_zero]
      rfl
theorem sim_bag {j : Nat} {x1 x2 x3 : Int32} (V : iv c r 1000) (I : ci c) (b : bd r j) (hj : j ≤ 511) : stp c r j (hc_bag c x1 x2 x3) (mr_bag r x1 x2 x3) ∧ m_V (mr_bag r x1 x2 x3).2 = m_V r := by
  have hb := b
  unfold bd at hb
  have n1 := V.1.1
  have h1 := rr_1 n1
  have h3 := rr_3 n1
  have h5 := rr_5 n1
  unfold hc_bag mr_bag stp
  rw [← V.1.2.2.2.2.1]
  cases hl : ix_n x1 (rc r 3) with
  | none =>
    rw [if_neg (fun z => by cases z.1)]
    exact ⟨⟨rfl, V, bd_s b⟩, rfl⟩
  | some l =>
    obtain ⟨el, ll⟩ := (ix_some (by omega)).mp hl
    have v2 := V.2.1 l ll
    have hf : hs_n c 3 l < rc r 1 := by rw [V.1.2.2.2.1]; exact (V.1.2.1.2.2.2.1 l (by rw [← V.1.2.2.2.2.1]; exact ll)).1
    have hf' : hs_n c 3 l < hs_n c 0 0 := by rw [← V.1.2.2.2.1]; exact hf
    rw [el, ix_vn (by omega), v2.1]
    have ixf : ix_n (nI (hs_n c 3 l)) (hs_n c 0 0) = some (hs_n c 3 l) := (ix_some (hs_okK V.1.2.1)).mpr ⟨rfl, hf'⟩
    have hh := has_iv V (x1 := nI (hs_n c 3 l)) (x2 := x2) (x3 := x3)
    cases hd : ix_n x2 3 with
    | none =>
      rw [if_neg (fun z => by obtain ⟨k, d, -, h1, -⟩ := hh.mp z.2.1; rw [hd] at h1; cases h1)]
      exact ⟨⟨rfl, V, bd_s b⟩, rfl⟩
    | some d =>
      obtain ⟨ed, ld⟩ := (ix_some (by decide)).mp hd
      dsimp only
      have cnt : sm_i (mr_bc r (nI l)) (rc r 5) = nI (hc_cb (hs_q c l)) := by
        rw [V.2.2.2.2.2.2.2.1 l ll]
        exact bc_q _ (by omega)
      have c16 := I.2 l (by rw [← V.1.2.2.2.2.1]; exact ll)
      have h16 : sm_i (mr_bc r (nI l)) (rc r 5) = 16 ↔ hc_cb (hs_q c l) = 16 := by
        rw [cnt, show (16 : Int32) = nI 16 from rfl]
        exact nI_eq (by omega) (by decide)
      by_cases y : hc_can c (hs_n c 3 l) d x3 = true ∧ hc_cb (hs_q c l) < 16
      · rw [if_pos y, if_pos ⟨rfl, hh.mpr ⟨_, d, ixf, hd, y.1⟩, fun z => by have := h16.mp z; omega⟩]
        have hx : ¬ x3 < 1 := (of_decide_eq_true y.1).1.1
        have V1 := sim_stk (s := (-x3).toInt64) V (by omega) (by omega) hf ld
        obtain ⟨o1, c4, c2⟩ := note_ok n1 (show rc r 4 < 1100 by omega) (show rc r 2 + 1 < 2 ^ 30 by omega) (nI (hs_n c 3 l)) (nI d) (-x3).toInt64 0 0
        have eU := note_U (r := r) (nI (hs_n c 3 l)) (nI d) (-x3).toInt64 0 0
        have eb : mr_bg r (nI l) x2 x3 = m_send (m_note r (nI (hs_n c 3 l)) (nI d) (-x3).toInt64 0 0) 1 (nI l) x2 x3 (-1) := by
          unfold mr_bg
          rw [ix_vn (by omega), v2.1, ← ed]
        rw [← give_put _ _ _ _ hx] at V1
        have c5 : rc (m_note r (nI (hs_n c 3 l)) (nI d) (-x3).toInt64 0 0) 5 = rc r 5 := rfl
        have i50 : ri (m_note r (nI (hs_n c 3 l)) (nI d) (-x3).toInt64 0 0) 50 = ri r 50 := rfl
        generalize m_note r (nI (hs_n c 3 l)) (nI d) (-x3).toInt64 0 0 = r1 at V1 o1 c4 c2 eU eb c5 i50
        have l3 : l < rc r1 3 := by rw [V1.1.2.2.2.2.1]; show l < hs_n c 1 0; rw [← V.1.2.2.2.2.1]; exact ll
        have V2 := sim_sd (x1 := 1) (x3 := x2) (x4 := x3) (x5 := -1) (l := l) (u := (1, x2, x3, hs_i c 8 (hs_n c 3 l) 0 1)) V1 (by omega) (by omega) (by omega) l3 (Or.inl rfl) (fun _ => ⟨d, ld, ed⟩) (fun z => absurd z (by decide)) (by
          rw [if_neg (by decide), if_neg (by decide)]
          have : hs_i (hc_give c (hs_n c 3 l) d x3) 8 (hs_n (hc_give c (hs_n c 3 l) d x3) 3 l) 0 1 = hs_i c 8 (hs_n c 3 l) 0 1 := hc_give_mk c (hs_n c 3 l) d x3
          rw [this])
        obtain ⟨-, s5, s2, so⟩ := send_c o1 (show rc r1 5 < 800 by omega) (show rc r1 2 + 1 < 2 ^ 30 by omega) 1 (nI l) x2 x3 (-1)
        have sU : m_U (m_send r1 1 (nI l) x2 x3 (-1)) = m_U r1 := mU_c (so 3 (by decide) (by decide)) (sd_i (by omega)) (sd_i (by omega))
        have s4 := so 4 (by decide) (by decide)
        rw [eb]
        refine ⟨⟨rfl, V2, ⟨?_, ?_, ?_⟩⟩, ?_⟩
        · show rc (m_send r1 1 (nI l) x2 x3 (-1)) 4 ≤ _; omega
        · show rc (m_send r1 1 (nI l) x2 x3 (-1)) 5 + m_U (m_send r1 1 (nI l) x2 x3 (-1)) ≤ _; omega
        · show rc (m_send r1 1 (nI l) x2 x3 (-1)) 2 ≤ _; omega
        · show m_V (m_send r1 1 (nI l) x2 x3 (-1)) = m_V r
          exact mV_c ((sd_i (by omega)).trans i50)
      · rw [if_neg y, if_neg (fun z => by
          obtain ⟨k', d', h1, h2, h3⟩ := hh.mp z.2.1
          rw [ixf] at h1
          rw [hd] at h2
          cases h1
          cases h2
          exact y ⟨h3, by have := mt h16.mpr z.2.2; omega⟩)]
        exact ⟨⟨rfl, V, bd_s b⟩, rfl⟩
/-- which thing -/
theorem sel_iv {x1 x2 : Int32} (V : iv c r 1000) : (hc_th c x1 x2 = none ∧ mr_sel r x1 x2 = -1) ∨ ∃ l j t, hc_th c x1 x2 = some (l, j) ∧ x1 = nI l ∧ l < rc r 3 ∧ x2 = nI j ∧ j < 2 ^ 31 ∧ t < rc r 5 ∧ mr_sel r x1 x2 = nI t ∧ mr_there r (nI l) t = true ∧ (hs_q c l)[j]? = some (thg r t) ∧ qf r (nI l) t (rc r 5) 0 = (qf r (nI l) 1000 (rc r 5) 0).eraseIdx j := by
  have h3 := rr_3 V.1.1
  have h5 := rr_5 V.1.1
  unfold hc_th mr_sel
  rw [← V.1.2.2.2.2.1]
  cases hl : ix_n x1 (rc r 3) with
  | none => exact Or.inl ⟨rfl, if_neg (fun z => by cases z.1)⟩
  | some l =>
    obtain ⟨el, ll⟩ := (ix_some (by omega)).mp hl
    have v8 := V.2.2.2.2.2.2.2.1 l ll
    have hqb := iv_qb V l (by rw [← V.1.2.2.2.2.1]; exact ll)
    dsimp only
    by_cases y : x2 < 0
    · refine Or.inl ⟨?_, if_neg (fun z => z.2 y)⟩
      rw [ix_none.mpr (fun z => by
        have := Int32.lt_iff_toInt_lt.mp y
        have e0 : (0 : Int32).toInt = 0 := by decide
        omega)]
      rfl
    · rw [if_pos ⟨rfl, y⟩]
      obtain ⟨jj, j31, e2⟩ := nI_of y
      rw [e2, el]
      rcases ta_q (r := r) (x := nI l) (e := 1000) (rc r 5) 0 jj (by omega) j31 with ⟨w1, w2⟩ | ⟨t, w1, w2, w3, w4, w5, w6⟩
      · refine Or.inl ⟨?_, w1⟩
        rw [← v8] at w2
        cases hx : ix_n (nI jj) (hs_q c l).length with
        | none => rfl
        | some j' =>
          obtain ⟨q1, q2⟩ := (ix_some (by omega)).mp hx
          have := (nI_eq j31 (by omega)).mp q1
          omega
      · rw [← v8] at w5
        have hlen : jj < (hs_q c l).length := by
          obtain ⟨h, -⟩ := List.getElem?_eq_some_iff.mp w5
          exact h
        refine Or.inr ⟨l, jj, t, ?_, rfl, ll, rfl, j31, by omega, w3, w4, w5, w6⟩
        rw [(ix_some (by omega)).mpr ⟨rfl, hlen⟩]
        rfl
theorem dl_3 {t k : Nat} : ∀ m n (r : rS), ri r 43 t = 3 → mr_dl t k m n r = r
  | 0, _, _, _ => rfl
  | m + 1, n, r, h => by
    unfold mr_dl
    rw [if_neg (fun z => z.1 h)]
    exact dl_3 m (n + 1) r h
theorem iv_unk (V : iv c r e) : iv (hc_unk c) r e := iv_cc V (cs_unk c) V.1.2.1 V.2.2.2.2.2.2.2.1
theorem sim_dl {l j t b : Nat} (V : iv c r 1000) (hb : bd r b) (hb1 : b ≤ 511) (ll : l < rc r 3) (ht : t < rc r 5) (hth : mr_there r (nI l) t = true) (hj : (hs_q c l)[j]? = some (thg r t)) (hq : qf r (nI l) t (rc r 5) 0 = (qf r (nI l) 1000 (rc r 5) 0).eraseIdx j) : iv (hc_dl c l j) (mr_dv r l t) 1000 ∧ bd (mr_dv r l t) (b + 1) ∧ hc_dlc c l j + m_V (mr_dv r l t) = m_V r := by
  have n1 := V.1.1
  have h1 := rr_1 n1
  have h3 := rr_3 n1
  have h5 := rr_5 n1
  have h6 := rr_6 n1
  have hbb := hb
  unfold bd at hbb
  have llc : l < hs_n c 1 0 := by rw [← V.1.2.2.2.2.1]; exact ll
  have v2 := V.2.1 l ll
  have hk : hs_n c 4 l < rc r 1 := by rw [V.1.2.2.2.1]; exact (V.1.2.1.2.2.2.1 l llc).2
  have ek : ix_v (ri r 32 l) = hs_n c 4 l := by rw [v2.2.1]; exact ix_vn (by omega)
  obtain ⟨h44, h49⟩ := of_decide_eq_true hth
  have etj : hc_tj c l j = thg r t := by
    unfold hc_tj
    rw [List.getD_eq_getElem?_getD, hj]
    rfl
  have hqt := sim_take V ll hq h44
  obtain ⟨w1, w2, w3⟩ := V.2.2.2.2.2.2.2.2.1 t ht
  unfold hc_dl hc_dlc
  rw [etj]
  by_cases y : ri r 43 t = 3
  · obtain ⟨n, l', hn, hl', e47, e44', f33, f50, -⟩ := w3 y
    have el : l' = l := (nI_eq (by omega) (by omega)).mp (by rw [← e44', h44])
    subst el
    have e3 : (thg r t).2.2.1 = nI n := by
      show (if ri r 43 t = 3 then ri r 47 t else ri r 46 t) = nI n
      rw [if_pos y, e47]
    rw [if_pos (show (thg r t).1 = 3 from y), if_pos (show (thg r t).1 = 3 from y), e3, ix_vn (by omega)]
    have hS : n < rc r 6 := by
      by_cases z : n < rc r 6
      · exact z
      · have ef : ix_v (ri r 31 l') < 6 := by
          obtain ⟨a', ha', ea'⟩ := (n1.2.2.2.2.2.2.2.1 l' ll).1
          rw [ea', ix_vn (by omega)]; omega
        exact absurd (by rw [V.2.2.2.2.2.1.2 n _ (by omega) hn ef]; decide) f50
    have V1 : iv (hc_drop (hc_take c l' j)) r t := iv_cc V (cs_tr (cs_take c l' j) (cs_drop _)) (hs_ok_drop (hs_ok_take V.1.2.1 llc)) hqt
    have e4 : hs_n (hc_drop (hc_take c l' j)) 4 l' = hs_n c 4 l' := by
      have := (cs_tr (cs_take c l' j) (cs_drop _)).1 4 l' (by decide) (by decide) (by decide)
      exact this
    have V2 := sim_rec (n := n) (k := hs_n c 4 l') V1 (Or.inl ht) hn hk hS (by omega) (by omega)
    obtain ⟨o1, d5, d2, dO, di, dl', dt, g5, g2⟩ := rec_c (n := n) (k := hs_n c 4 l') n1 hn hk (by omega) (by omega)
    have eV := rec_V (n := n) (k := hs_n c 4 l') n1 hn hk (by omega) (by omega)
    have edv : mr_dv r l' t = m_tk (mr_record r n (hs_n c 4 l')) t := by
      unfold mr_dv
      rw [if_pos y, ek, e47, ix_vn (by omega), dl_3 _ _ _ (by rw [dt 43 t (by omega) ht]; exact y)]
      unfold mr_df
      rw [if_neg (by rw [dt 43 t (by omega) ht, y]; decide)]
    rw [edv]
    have V3 := fin_m (l := l') (n := n) V2 (by omega) (by omega) (by rw [dt 49 t (by omega) ht]; exact h49) (by rw [dt 43 t (by omega) ht]; exact y) (by rw [dt 44 t (by omega) ht]; exact h44) (by rw [dt 47 t (by omega) ht]; exact e47) (by rw [dO 3 (by decide) (by decide)]; exact ll) hn
    obtain ⟨o2, t2, tO⟩ := tk_c (t := t) o1 (show rc (mr_record r n (hs_n c 4 l')) 2 + 1 < 2 ^ 30 by omega)
    refine ⟨?_, ⟨?_, ?_, ?_⟩, ?_⟩
    · unfold hc_tm
      rw [e4]
      exact V3
    · rw [tO 4 (by decide), dO 4 (by decide) (by decide)]; omega
    · rw [tO 5 (by decide), mU_c (r := mr_record r n (hs_n c 4 l')) (tO 3 (by decide)) rfl rfl]; omega
    · omega
    · rw [mV_c (r := mr_record r n (hs_n c 4 l')) (r' := m_tk (mr_record r n (hs_n c 4 l')) t) rfl, iv_bit V hn hk]
      omega
  · rw [if_neg (show ¬ (thg r t).1 = 3 from y), if_neg (show ¬ (thg r t).1 = 3 from y)]
    have V1 : iv (hc_keep (hc_take c l j)) r t := iv_cc V (cs_tr (cs_take c l j) (cs_keep _)) (hs_ok_keep (hs_ok_take V.1.2.1 llc)) hqt
    have e4 : hs_n (hc_keep (hc_take c l j)) 4 l = hs_n c 4 l := (cs_tr (cs_take c l j) (cs_keep _)).1 4 l (by decide) (by decide) (by decide)
    have e26 : hs_i (hc_keep (hc_take c l j)) 26 0 0 = hs_row (thg r t) := by
      rw [← etj]
      rfl
    have e263 : hs_i (hc_keep (hc_take c l j)) 26 0 0 3 = bs (mr_mk r t) 16 := by
      rw [e26]
      show (if ri r 43 t = 3 then 0 else bs (mr_mk r t) 16) = _
      rw [if_neg y]
    have e262 : hs_i (hc_keep (hc_take c l j)) 26 0 0 2 = ri r 46 t := by
      rw [e26]
      show (if ri r 43 t = 3 then ri r 47 t else ri r 46 t) = _
      rw [if_neg y]
    have e260 : hs_i (hc_keep (hc_take c l j)) 26 0 0 0 = ri r 43 t := by
      rw [e26]
      rfl
    obtain ⟨q1, q2, q3, q4, q5, q6, q7, q8, q9, q10, q11⟩ := sim_tb (l := l) (t := t) (k := hs_n c 4 l) 16 0 _ r V1 rfl ht y e263 e4 hk (by omega) (by omega)
    rw [Nat.sub_zero] at q1 q2 q5 q6 q7 q8 q9 q10 q11
    have edv : mr_dv r l t = mr_df (mr_dl t (hs_n c 4 l) (rc r 6) 0 r) l t := by
      unfold mr_dv
      rw [if_neg y, ek]
    rw [edv]
    clear edv
    have q44 := q4 4 l (by decide) (by decide)
    rw [e4] at q44
    generalize hc_tbc l 16 0 (hc_keep (hc_take c l j)) = cost at q2
    generalize hc_tbl l 16 0 (hc_keep (hc_take c l j)) = c2 at q1 q3 q44
    generalize mr_dl t (hs_n c 4 l) (rc r 6) 0 r = r2 at q1 q2 q5 q6 q7 q8 q9 q10 q11
    rw [← q3] at e263 e262 e260
    have t43 := q9 43 t (by omega) ht
    have t44 := q9 44 t (by omega) ht
    have t45 := q9 45 t (by omega) ht
    have t46 := q9 46 t (by omega) ht
    have t49 := q9 49 t (by omega) ht
    have t32 := q10 32 (by omega)
    have c4 := q8 4 (by decide) (by decide)
    have c1 := q8 1 (by decide) (by decide)
    have c3 := q8 3 (by decide) (by decide)
    have n2 := q1.1.1
    unfold mr_df hc_tbe
    rw [e260, t43]
    by_cases z : ri r 43 t = 1
    · obtain ⟨d, ld, ed⟩ := w2 z
      have ed2 : (thg r t).2.1 = nI d := ed
      rw [if_pos z, if_pos z, t32, v2.2.1, t45, ed, ed2, ix_vn (by omega), q44, e262, t46]
      have V3 := sim_stk (k := hs_n c 4 l) (d := d) (s := (ri r 46 t).toInt64) q1 (by omega) (by omega) (by omega) ld
      obtain ⟨o3, g4, g2⟩ := note_ok n2 (show rc r2 4 < 1100 by omega) (show rc r2 2 + 1 < 2 ^ 30 by omega) (nI (hs_n c 4 l)) (nI d) (ri r 46 t).toInt64 0 0
      have V4 := fin_b (l := l) (d := d) V3 (by omega) (show t < rc r2 5 by omega) (show ri r2 49 t = 0 by rw [t49]; exact h49) (show ri r2 43 t = 1 by rw [t43]; exact z) (show ri r2 44 t = nI l by rw [t44]; exact h44) (show ri r2 45 t = nI d by rw [t45]; exact ed) ld (show l < rc r2 3 by omega) (show hs_i c2 26 0 0 2 = ri r2 46 t by rw [t46]; exact e262) (show hs_i c2 26 0 0 3 = bs (mr_mk r2 t) 16 by rw [e263]; exact bs_c (fun i _ => (q11 i).symm))
      obtain ⟨o5, k2, kO⟩ := tk_c (t := t) o3 (show rc (m_note r2 (nI (hs_n c 4 l)) (nI d) (ri r 46 t).toInt64 0 0) 2 + 1 < 2 ^ 30 by omega)
      have eU := note_U (r := r2) (nI (hs_n c 4 l)) (nI d) (ri r 46 t).toInt64 0 0
      have f5 : rc (m_note r2 (nI (hs_n c 4 l)) (nI d) (ri r 46 t).toInt64 0 0) 5 = rc r2 5 := rfl
      refine ⟨iv_unk V4, ⟨?_, ?_, ?_⟩, ?_⟩
      · rw [kO 4 (by decide)]; omega
      · rw [kO 5 (by decide), mU_c (r := m_note r2 (nI (hs_n c 4 l)) (nI d) (ri r 46 t).toInt64 0 0) (kO 3 (by decide)) rfl rfl]; omega
      · omega
      · rw [mV_c (r := r2) (r' := m_tk (m_note r2 (nI (hs_n c 4 l)) (nI d) (ri r 46 t).toInt64 0 0) t) rfl]
        exact q2
    · have z2 : ri r 43 t = 2 := by
        rcases w1 with w | w | w
        · exact absurd w z
        · exact w
        · exact absurd w y
      rw [if_neg z, if_neg z]
      have V4 := fin_e (l := l) q1 (by omega) (show t < rc r2 5 by omega) (by rw [t49]; exact h49) (by rw [t43]; exact z2)
      obtain ⟨o5, k2, kO⟩ := tk_c (t := t) n2 (show rc r2 2 + 1 < 2 ^ 30 by omega)
      refine ⟨iv_unk V4, ⟨?_, ?_, ?_⟩, ?_⟩
      · rw [kO 4 (by decide)]; omega
      · rw [kO 5 (by decide), mU_c (r := r2) (kO 3 (by decide)) rfl rfl]; omega
      · omega
      · rw [mV_c (r := r2) (r' := m_tk r2 t) rfl]
        exact q2
theorem sim_deliver {j : Nat} {x1 x2 : Int32} (V : iv c r 1000) (b : bd r j) (hj : j ≤ 511) : stp c r j (hc_deliver c x1 x2) (mr_deliver r x1 x2) ∧ hc_dvc c x1 x2 + m_V (mr_deliver r x1 x2).2 = m_V r := by
  have h3 := rr_3 V.1.1
  have h5 := rr_5 V.1.1
  unfold hc_deliver hc_dvc mr_deliver stp
  rcases sel_iv (x1 := x1) (x2 := x2) V with ⟨w1, w2⟩ | ⟨l, jj, t, w1, e1, ll, e2, j31, ht, w3, w4, w5, w6⟩
  · rw [w1, w2, if_pos (by decide)]
    exact ⟨⟨rfl, V, bd_s b⟩, Nat.zero_add _⟩
  · rw [w1, w3, if_neg (nI_pos (by omega)), e1, ix_vn (by omega), ix_vn (by omega)]
    dsimp only
    have v2 := V.2.1 l ll
    have e0 : (x2 = 0) ↔ x2 ≤ 0 := by
      rw [e2, show (0 : Int32) = nI 0 from nI_0.symm, nI_eq j31 (by decide), nI_leI j31 (by decide)]
      omega
    rw [v2.2.2]
    by_cases y : ¬ ri r 33 l = 0 ∧ ¬ x2 = 0
    · rw [if_pos y, if_pos y, if_pos ⟨y.1, fun z => y.2 (e0.mpr z)⟩]
      exact ⟨⟨rfl, V, bd_s b⟩, Nat.zero_add _⟩
    · rw [if_neg y, if_neg y, if_neg (fun z => y ⟨z.1, fun w => z.2 (e0.mp w)⟩)]
      obtain ⟨V1, b1, cV⟩ := sim_dl V b hj ll ht w4 w5 w6
      exact ⟨⟨rfl, V1, b1⟩, cV⟩
end SM9
