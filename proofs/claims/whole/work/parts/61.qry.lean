section QRY
variable {c : hs_S} {r : rS} {e : Nat} {x1 x2 x3 x4 : Int32}
theorem iv_K (V : iv c r e) : rc r 1 = hs_n c 0 0 := V.1.2.2.2.1
theorem iv_L (V : iv c r e) : rc r 3 = hs_n c 1 0 := V.1.2.2.2.2.1
theorem iv_S (V : iv c r e) : rc r 6 = hs_n c 2 0 := V.1.2.2.2.2.2
theorem now_9 (V : iv c r e) {k d : Nat} (hk : k < rc r 1) (hd : d < 3) : mr_at r 40 (nI k) (nI d) (ri r 30 2) = hs_l c 9 k 0 d ∧ mr_at r 41 (nI k) (nI d) (ri r 30 2) = hs_l c 10 k 0 d := by
  have n1 := V.1.1
  have h2 := rr_2 n1
  rw [rr_n n1 (by decide) (by decide), at_al n1 V.2.2.2.1.1 (Nat.le_refl _) (by omega), at_al n1 V.2.2.2.1.1 (Nat.le_refl _) (by omega)]
  exact ⟨((V.2.2.2.2.1 k hk).1 d hd).1.symm, ((V.2.2.2.2.1 k hk).1 d hd).2.1.symm⟩
theorem q_stock (V : iv c r e) : hc_two c 9 x1 x2 = mr_stock r x1 x2 := by
  have h1 := rr_1 V.1.1
  unfold hc_two mr_stock
  rw [← iv_K V]
  cases hk : ix_n x1 (rc r 1) with
  | none => rw [if_neg (fun z => by cases z.1)]
  | some k =>
    cases hd : ix_n x2 3 with
    | none => rw [if_neg (fun z => by cases z.2)]
    | some d =>
      obtain ⟨ek, lk⟩ := (ix_some (by omega)).mp hk
      obtain ⟨ed, ld⟩ := (ix_some (by decide)).mp hd
      rw [if_pos ⟨rfl, rfl⟩, ek, ed, (now_9 V lk ld).1]
theorem q_till (V : iv c r e) : hc_two c 10 x1 x2 = mr_till r x1 x2 := by
  have h1 := rr_1 V.1.1
  unfold hc_two mr_till
  rw [← iv_K V]
  cases hk : ix_n x1 (rc r 1) with
  | none => rw [if_neg (fun z => by cases z.1)]
  | some k =>
    cases hd : ix_n x2 3 with
    | none => rw [if_neg (fun z => by cases z.2)]
    | some d =>
      obtain ⟨ek, lk⟩ := (ix_some (by omega)).mp hk
      obtain ⟨ed, ld⟩ := (ix_some (by decide)).mp hd
      rw [if_pos ⟨rfl, rfl⟩, ek, ed, (now_9 V lk ld).2]
theorem ol_q {x : Int32} {e : Nat} : ∀ m, m ≤ e → sm_i (mr_ol r x) m = nI (qf r x e m 0).length
  | 0, _ => by
    show (0 : Int32) = nI 0
    rw [nI_0]
  | m + 1, he => by
    show sm_i (mr_ol r x) m + mr_ol r x m = _
    rw [ol_q (e := e) m (by omega), qf_sn, Nat.zero_add, List.length_append]
    unfold mr_ol
    by_cases y : mr_there r x m = true
    · rw [if_pos (show mr_there r x m = true ∧ m ≠ e from ⟨y, by omega⟩), y]
      exact nI_1 _
    · rw [if_neg (fun w => y w.1), show mr_there r x m = false by simpa using y]
      exact Int32.add_zero _
theorem q_onLink (V : iv c r 1000) : hc_onLink c x1 = mr_onLink r x1 := by
  have h3 := rr_3 V.1.1
  have h5 := rr_5 V.1.1
  unfold hc_onLink mr_onLink
  rw [← iv_L V]
  cases hl : ix_n x1 (rc r 3) with
  | none => rw [if_neg (fun z => by cases z)]
  | some l =>
    obtain ⟨el, ll⟩ := (ix_some (by omega)).mp hl
    rw [if_pos (show (some l).isSome = true from rfl), el, ol_q (e := 1000) _ (by omega)]
    dsimp only
    rw [V.2.2.2.2.2.2.2.1 l ll]
theorem q_recorded (V : iv c r e) : zb_i (hc_recorded c x1 x2) = mr_recorded r x1 x2 := by
  have h1 := rr_1 V.1.1
  have h6 := rr_6 V.1.1
  unfold hc_recorded mr_recorded
  rw [← iv_K V, ← iv_S V]
  cases hn : ix_n x1 (rc r 6) with
  | none => rw [if_neg (fun z => by cases z.1)]; rfl
  | some n =>
    cases hk : ix_n x2 (rc r 1) with
    | none => rw [if_neg (fun z => by cases z.2.1)]; rfl
    | some k =>
      obtain ⟨en, ln⟩ := (ix_some (by omega)).mp hn
      obtain ⟨ek, lk⟩ := (ix_some (by omega)).mp hk
      dsimp only
      rw [en, ek, ix_vn (by omega), ix_vn (by omega), iv_bit V (by omega) lk]
      unfold rk
      by_cases y : ri r 50 (6 * n + k) ≤ 0
      · rw [if_neg (fun z => z.2.2 y), decide_eq_false (fun z => z y)]; rfl
      · rw [if_pos ⟨rfl, rfl, y⟩, decide_eq_true y]; rfl
theorem dn_q {x : Int32} {e n : Nat} (hn : n < 16) : ∀ m t, t + m ≤ e → mr_dn r x n m t = !(hc_bf (nI n) (qf r x e m t))
  | 0, _, _ => rfl
  | m + 1, t, he => by
    unfold mr_dn qf
    rw [dn_q (e := e) hn m (t + 1) (by omega)]
    by_cases y : mr_there r x t = true
    · rw [if_pos (show mr_there r x t = true ∧ t ≠ e from ⟨y, by omega⟩)]
      have eq : hc_bf (nI n) (thg r t :: qf r x e m (t + 1)) = ((decide (ri r 43 t = 1) && !(hc_bit (thg r t).2.2.2 (nI n))) || hc_bf (nI n) (qf r x e m (t + 1))) := rfl
      rw [eq]
      by_cases z : ri r 43 t = 1
      · have e4 : (thg r t).2.2.2 = bs (mr_mk r t) 16 := by
          show (if ri r 43 t = 3 then 0 else bs (mr_mk r t) 16) = _
          rw [if_neg (by rw [z]; decide)]
        rw [e4, bs_bit hn, decide_eq_true z]
        cases w : mr_mk r t n with
        | false => rw [if_pos ⟨y, z, rfl⟩]; rfl
        | true => rw [if_neg (fun q => by cases q.2.2)]; rfl
      · rw [if_neg (fun q => z q.2.1), decide_eq_false z]
        rfl
    · rw [if_neg (fun q => y q.1), if_neg (fun q => y q.1)]
theorem q_done {l n : Nat} (V : iv c r 1000) (hl : l < rc r 3) (hn : n < 16) : hc_done c l (nI n) = mr_done r n l := by
  have h1 := rr_1 V.1.1
  have h5 := rr_5 V.1.1
  have v2 := V.2.1 l hl
  have hf : hs_n c 3 l < rc r 1 := by rw [iv_K V]; exact (V.1.2.1.2.2.2.1 l (by rw [← iv_L V]; exact hl)).1
  have ht : hs_n c 4 l < rc r 1 := by rw [iv_K V]; exact (V.1.2.1.2.2.2.1 l (by rw [← iv_L V]; exact hl)).2
  unfold hc_done mr_done
  rw [v2.2.2]
  by_cases y : ri r 33 l = 0
  · rw [if_pos y, if_pos y, v2.1, v2.2.1, ix_vn (by omega), ix_vn (by omega), iv_bit V hn hf, iv_bit V hn ht, dn_q (e := 1000) hn _ _ (by omega), V.2.2.2.2.2.2.2.1 l hl]
    rfl
  · rw [if_neg y, if_neg y]
    exact V.2.2.2.2.2.2.2.2.2.1 l n hl hn y
theorem fk_iff {n : Nat} : ∀ m k, mr_fk r n m k = true ↔ ∀ k', k ≤ k' → k' < k + m → ¬ ri r 50 (6 * n + k') ≤ 0
  | 0, k => ⟨fun _ k' h1 h2 => absurd h2 (by omega), fun _ => rfl⟩
  | m + 1, k => by
    unfold mr_fk
    by_cases y : ri r 50 (6 * n + k) ≤ 0
    · rw [if_pos y]
      exact ⟨fun q => (by cases q), fun q => absurd y (q k (by omega) (by omega))⟩
    · rw [if_neg y, fk_iff m (k + 1)]
      constructor
      · intro q k' h1 h2
        by_cases z : k' = k
        · rw [z]; exact y
        · exact q k' (by omega) (by omega)
      · exact fun q k' h1 h2 => q k' (by omega) (by omega)
theorem fl_iff {n : Nat} : ∀ m l, mr_fl r n m l = true ↔ ∀ l', l ≤ l' → l' < l + m → mr_done r n l' = true
  | 0, k => ⟨fun _ k' h1 h2 => absurd h2 (by omega), fun _ => rfl⟩
  | m + 1, l => by
    unfold mr_fl
    by_cases y : mr_done r n l = true
    · rw [if_pos y, fl_iff m (l + 1)]
      constructor
      · intro q k' h1 h2
        by_cases z : k' = l
        · rw [z]; exact y
        · exact q k' (by omega) (by omega)
      · exact fun q k' h1 h2 => q k' (by omega) (by omega)
    · rw [if_neg y]
      exact ⟨fun q => (by cases q), fun q => absurd (q l (by omega) (by omega)) y⟩
theorem q_fin (V : iv c r 1000) : hc_finished c x1 = mr_fin r x1 := by
  have h1 := rr_1 V.1.1
  have h6 := rr_6 V.1.1
  unfold hc_finished mr_fin
  rw [← iv_S V]
  cases hn : ix_n x1 (rc r 6) with
  | none => rfl
  | some n =>
    obtain ⟨en, ln⟩ := (ix_some (by omega)).mp hn
    rw [en, ix_vn (by omega)]
    have ea : hc_ak c (nI n) = mr_fk r n (rc r 1) 0 := by
      rw [Bool.eq_iff_iff, fk_iff]
      unfold hc_ak
      rw [decide_eq_true_iff, ← iv_K V]
      constructor
      · intro q k' _ h2
        have := q k' (by omega)
        rw [iv_bit V (by omega) (by omega)] at this
        exact of_decide_eq_true this
      · intro q k hk
        rw [iv_bit V (by omega) hk]
        exact decide_eq_true (q k (by omega) (by omega))
    have eb : hc_al c (nI n) = mr_fl r n (rc r 3) 0 := by
      rw [Bool.eq_iff_iff, fl_iff]
      unfold hc_al
      rw [decide_eq_true_iff, ← iv_L V]
      constructor
      · intro q k' _ h2
        rw [← q_done V (by omega) (by omega)]
        exact q k' (by omega)
      · intro q k hk
        rw [q_done V hk (by omega)]
        exact q k (by omega) (by omega)
    rw [ea, eb]
theorem q_road (V : iv c r e) : hc_road c x1 x2 x3 = mr_road r x1 x2 x3 := by
  have h3 := rr_3 V.1.1
  have h6 := rr_6 V.1.1
  unfold hc_road mr_road
  rw [← iv_S V, ← iv_L V]
  cases hn : ix_n x1 (rc r 6) with
  | none => rw [if_neg (fun z => by cases z.1)]
  | some n =>
    cases hl : ix_n x2 (rc r 3) with
    | none => rw [if_neg (fun z => by cases z.2.1)]
    | some l =>
      cases hd : ix_n x3 3 with
      | none => rw [if_neg (fun z => by cases z.2.2)]
      | some d =>
        obtain ⟨en, ln⟩ := (ix_some (by omega)).mp hn
        obtain ⟨el, ll⟩ := (ix_some (by omega)).mp hl
        obtain ⟨ed, ld⟩ := (ix_some (by decide)).mp hd
        dsimp only
        rw [if_pos ⟨rfl, rfl, rfl⟩, en, el, ed, ix_vn (by omega), ix_vn (by omega)]
        exact V.2.2.2.2.2.2.2.2.2.2 l n d ll (by omega) ld
theorem q_minted (V : iv c r e) : hc_minted c x1 x2 = mr_minted r x1 x2 := by
  have h6 := rr_6 V.1.1
  unfold hc_minted mr_minted
  rw [← iv_S V, ← iv_K V]
  cases hn : ix_n x1 (rc r 6) with
  | none => rw [if_neg (fun z => by cases z.1)]
  | some n =>
    cases hd : ix_n x2 3 with
    | none => rw [if_neg (fun z => by cases z.2)]
    | some d =>
      obtain ⟨en, ln⟩ := (ix_some (by omega)).mp hn
      obtain ⟨ed, ld⟩ := (ix_some (by decide)).mp hd
      dsimp only
      rw [if_pos ⟨rfl, rfl⟩, en, ed, ix_vn (by omega)]
      refine sm_lc (fun k hk => ?_)
      unfold hc_mdF mr_mF
      rw [iv_bit V (by omega) hk]
      by_cases y : ri r 50 (6 * n + k) ≤ 0
      · rw [if_pos y, if_neg (fun z => (of_decide_eq_true z) y)]
      · have hr : rk r k n = true := decide_eq_true y
        rw [if_neg y, if_pos hr]
        exact ((V.2.2.2.2.2.2.1 n k (by omega) hk hr).1 d ld).2.2
theorem bl_q {n d : Nat} {y : Int64} (V : iv c r e) (hn : n < 16) (hd : d < 3) : ∀ m k, k + m ≤ rc r 1 → hc_bl c (nI n) n d y k m = mr_bl r n (nI d) y m k
  | 0, _, _ => rfl
  | m + 1, k, hk => by
    unfold hc_bl mr_bl
    rw [bl_q V hn hd m (k + 1) (by omega), iv_bit V hn (by omega)]
    by_cases z : ri r 50 (6 * n + k) ≤ 0
    · rw [if_neg (fun w => (of_decide_eq_true w.1) z), if_neg (fun w => w.1 z)]
    · have hr : rk r k n = true := decide_eq_true z
      rw [((V.2.2.2.2.2.2.1 n k hn (by omega) hr).1 d hd).1]
      by_cases w : mr_at r 40 (nI k) (nI d) (ri r 50 (6 * n + k)) < y
      · rw [if_pos ⟨hr, w⟩, if_pos ⟨z, w⟩]
      · rw [if_neg (fun q => w q.2), if_neg (fun q => w q.2)]
theorem q_below {y : Int64} (V : iv c r e) : hc_below c x1 x2 y = mr_below r x1 x2 y := by
  have h6 := rr_6 V.1.1
  unfold hc_below mr_below
  rw [← iv_S V, ← iv_K V]
  cases hn : ix_n x1 (rc r 6) with
  | none => rw [if_neg (fun z => by cases z.1)]
  | some n =>
    cases hd : ix_n x2 3 with
    | none => rw [if_neg (fun z => by cases z.2)]
    | some d =>
      obtain ⟨en, ln⟩ := (ix_some (by omega)).mp hn
      obtain ⟨ed, ld⟩ := (ix_some (by decide)).mp hd
      dsimp only
      rw [if_pos ⟨rfl, rfl⟩, en, ed, ix_vn (by omega)]
      exact bl_q V (by omega) ld _ _ (by omega)
theorem q_events (V : iv c r e) : hc_events c x1 x2 = mr_events r x1 x2 := by
  have n1 := V.1.1
  have h1 := rr_1 n1
  have h2 := rr_2 n1
  have h6 := rr_6 n1
  unfold hc_events mr_events
  rw [← iv_S V, ← iv_K V]
  cases hk : ix_n x2 (rc r 1) with
  | none => rw [if_neg (fun z => by cases z)]
  | some k =>
    obtain ⟨ek, lk⟩ := (ix_some (by omega)).mp hk
    rw [if_pos (show (some k).isSome = true from rfl), ek]
    dsimp only
    by_cases y : x1 < 0
    · rw [if_pos y, if_neg (Int32.not_le.mpr y), rr_n n1 (by decide) (by decide), ev_ea n1 V.2.2.2.1.1 (Nat.le_refl _) (by omega)]
      exact (V.2.2.2.2.1 k lk).2
    · rw [if_neg y, if_pos (Int32.not_lt.mp y)]
      cases hn : ix_n x1 (rc r 6) with
      | none => rw [if_neg (fun z => by cases z.1)]
      | some n =>
        obtain ⟨en, ln⟩ := (ix_some (by omega)).mp hn
        dsimp only
        rw [en, ix_vn (by omega), ix_vn (by omega), iv_bit V (by omega) lk]
        obtain ⟨a, ha, ea⟩ := V.2.2.2.1.2.1 n k (by omega) (by omega)
        by_cases z : ri r 50 (6 * n + k) ≤ 0
        · have a0 : a = 0 := by
            by_cases w : a = 0
            · exact w
            · rw [ea] at z
              exact absurd z (nI_nle (by omega) (by omega))
          rw [if_neg (fun w => (of_decide_eq_true w) z), if_neg (fun w => w.2 (by rw [ea, a0]; exact nI_0))]
        · have hr : rk r k n = true := decide_eq_true z
          rw [if_pos hr, if_pos (show (some n).isSome = true ∧ _ from ⟨rfl, fun w => z (by rw [w]; exact Int32.le_refl _)⟩)]
          exact (V.2.2.2.2.2.2.1 n k (by omega) lk hr).2
/-! all that there is -/
def rm_tl (r : rS) (x y : Int32) (t : Nat) : Int64 := if mr_there r y t = true ∧ ri r 43 t = 1 ∧ ri r 45 t = x then (ri r 46 t).toInt64 else 0
theorem sb_q {x y : Int32} {e : Nat} : ∀ m, m ≤ e → (qf r y e m 0).foldl (hc_sb x) 0 = sm_l (rm_tl r x y) m
  | 0, _ => rfl
  | m + 1, he => by
    show _ = sm_l (rm_tl r x y) m + rm_tl r x y m
    rw [qf_sn, Nat.zero_add, List.foldl_append, sb_q (e := e) m (by omega)]
    unfold rm_tl
    by_cases z : mr_there r y m = true
    · rw [if_pos (show mr_there r y m = true ∧ m ≠ e from ⟨z, by omega⟩)]
      show (if (thg r m).1 = 1 ∧ (thg r m).2.1 = x then _ + (thg r m).2.2.1.toInt64 else _) = _
      by_cases w : ri r 43 m = 1 ∧ ri r 45 m = x
      · rw [if_pos (show (thg r m).1 = 1 ∧ (thg r m).2.1 = x from w), if_pos ⟨z, w⟩]
        have : (thg r m).2.2.1 = ri r 46 m := by
          show (if ri r 43 m = 3 then ri r 47 m else ri r 46 m) = _
          rw [if_neg (by rw [w.1]; decide)]
        rw [this]
      · rw [if_neg (show ¬ ((thg r m).1 = 1 ∧ (thg r m).2.1 = x) from w), if_neg (fun q => w q.2), Int64.add_zero]
    · rw [if_neg (fun q => z q.1), if_neg (fun q => z q.1), Int64.add_zero]
      rfl
theorem sm_sw {F : Nat → Nat → Int64} {L : Nat} : ∀ m, sm_l (fun l => sm_l (F l) m) L = sm_l (fun t => sm_l (fun l => F l t) L) m
  | 0 => sm_l0 (fun _ _ => rfl)
  | m + 1 => by
    show sm_l (fun l => sm_l (F l) m + F l m) L = sm_l (fun t => sm_l (fun l => F l t) L) m + sm_l (fun l => F l m) L
    rw [sm_ladd, sm_sw m]
theorem q_trueTotal (V : iv c r 1000) : hc_trueTotal c x1 = mr_trueTotal r x1 := by
  have n1 := V.1.1
  have h3 := rr_3 n1
  have h5 := rr_5 n1
  unfold hc_trueTotal mr_trueTotal
  cases hd : ix_n x1 3 with
  | none =>
    rw [if_neg (fun z => by cases z), Int64.zero_add]
    refine (sm_l0 (fun t ht => if_neg (fun z => ?_))).symm
    obtain ⟨d, ld, ed⟩ := (V.2.2.2.2.2.2.2.2.1 t ht).2.1 z.2.1
    rw [z.2.2] at ed
    rw [(ix_some (by decide)).mpr ⟨ed, ld⟩] at hd
    cases hd
  | some d =>
    obtain ⟨ed, ld⟩ := (ix_some (by decide)).mp hd
    rw [if_pos (show (some d).isSome = true from rfl)]
    dsimp only
    have e1 : sm_l (hc_ttF c d) (hs_n c 0 0) = sm_l (mr_ttF r x1) (rc r 1) := by
      rw [← iv_K V]
      refine sm_lc (fun k hk => ?_)
      unfold hc_ttF mr_ttF
      rw [ed, (now_9 V hk ld).1, (now_9 V hk ld).2]
    have e2 : sm_l (hc_ttG c x1) (hs_n c 1 0) = sm_l (mr_ttG r x1) (rc r 5) := by
      rw [← iv_L V]
      have : sm_l (hc_ttG c x1) (rc r 3) = sm_l (fun l => sm_l (rm_tl r x1 (nI l)) (rc r 5)) (rc r 3) := sm_lc (fun l hl => by
        unfold hc_ttG
        rw [V.2.2.2.2.2.2.2.1 l hl]
        exact sb_q _ (by omega))
      rw [this, sm_sw]
      refine sm_lc (fun t ht => ?_)
      obtain ⟨l, hl, el⟩ := n1.2.2.2.2.2.2.2.2.1 t ht
      have := sm_l1 (F := fun l => rm_tl r x1 (nI l) t) (G := fun _ => 0) (v := mr_ttG r x1 t) hl (fun i hi hne => ?_) ?_
      · rw [this, sm_l0 (fun _ _ => rfl), Int64.zero_add]
      · unfold rm_tl
        refine if_neg (fun z => hne ?_)
        have := (of_decide_eq_true z.1).1
        rw [el] at this
        exact ((nI_eq (by omega) (by omega)).mp this).symm
      · unfold rm_tl mr_ttG
        rw [Int64.zero_add]
        by_cases w : ri r 49 t = 0 ∧ ri r 43 t = 1 ∧ ri r 45 t = x1
        · rw [if_pos w, if_pos ⟨decide_eq_true ⟨el, w.1⟩, w.2⟩]
        · rw [if_neg w, if_neg (fun z => w ⟨(of_decide_eq_true z.1).2, z.2⟩)]
    rw [e1, e2]
/-! the three that throw -/
def hc_tht (c : hs_S) (x1 x2 x3 : Int32) : Int32 := if (hc_th c x1 x2).isSome = true then (if x3 < 0 ∨ ¬ x3 ≤ 3 then 2 else 0) else 1
def hc_thv (c : hs_S) (x1 x2 x3 : Int32) : Int32 := match hc_th c x1 x2 with
  | some (l, j) => if x3 = 0 then (hc_tj c l j).1 else if x3 = 1 then (hc_tj c l j).2.1 else if x3 = 2 then (hc_tj c l j).2.2.1 else (hc_tj c l j).2.2.2
  | none => 0
theorem q_thing (V : iv c r 1000) : hc_tht c x1 x2 x3 = mr_tht r x1 x2 x3 ∧ (hc_tht c x1 x2 x3 = 0 → hc_thv c x1 x2 x3 = mr_thing r x1 x2 x3) := by
  have n1 := V.1.1
  have h5 := rr_5 n1
  have h6 := rr_6 n1
  have E : hc_tht c x1 x2 x3 = mr_tht r x1 x2 x3 := by
    unfold hc_tht mr_tht
    rcases sel_iv (x1 := x1) (x2 := x2) V with ⟨w1, w2⟩ | ⟨l, jj, t, w1, e1, ll, e2, j31, ht, w3, w4, w5, w6⟩
    · rw [w1, w2, if_neg (show ¬ (none : Option (Nat × Nat)).isSome = true by decide), if_pos (show (-1 : Int32) < 0 by decide)]
    · rw [w1, w3, if_neg (nI_pos (by omega)), if_pos (show (some (l, jj)).isSome = true from rfl)]
  refine ⟨E, fun z => ?_⟩
  have z' := z
  rw [E] at z'
  unfold mr_thing
  rw [if_pos z']
  unfold hc_tht at z
  unfold hc_thv
  rcases sel_iv (x1 := x1) (x2 := x2) V with ⟨w1, w2⟩ | ⟨l, jj, t, w1, e1, ll, e2, j31, ht, w3, w4, w5, w6⟩
  · rw [w1, if_neg (by decide)] at z
    exact absurd z (by decide)
  · rw [w1, w3, ix_vn (by omega)]
    have etj : hc_tj c l jj = thg r t := by
      unfold hc_tj
      rw [List.getD_eq_getElem?_getD, w5]
      rfl
    dsimp only
    rw [etj]
    unfold mr_thv
    have em : (thg r t).2.2.2 = (if ri r 43 t = 3 then 0 else sm_i (mr_mb r t) (rc r 6)) := by
      show (if ri r 43 t = 3 then 0 else bs (mr_mk r t) 16) = _
      by_cases y : ri r 43 t = 3
      · rw [if_pos y, if_pos y]
      · rw [if_neg y, if_neg y, bs_z h6 (fun i h1 h2 => ?_)]
        · rfl
        · obtain ⟨l', hl', el, ea, ha⟩ := m_fr_ok n1 ht
          have := V.2.2.2.2.2.1.2 i (m_fr r t) h1 h2 (by have := rr_1 n1; omega)
          unfold mr_mk
          rw [this]
          exact decide_eq_false (fun z => z.1 (by decide))
    rw [em]
    rfl
def hc_pis (c : hs_S) (x1 x2 x3 : Int32) : Bool := match ix_n x1 (hs_n c 2 0), ix_n x2 (hs_n c 0 0), ix_n x3 3 with
  | some _, some k, some _ => hc_bit (hs_i c 8 k 0 1) x1
  | _, _, _ => false
def hc_pct (c : hs_S) (x1 x2 x3 x4 : Int32) : Int32 := if hc_pis c x1 x2 x3 = true then (if x4 < 0 ∨ ¬ x4 ≤ 1 then 2 else 0) else 1
def hc_pcv (c : hs_S) (x1 x2 x3 x4 : Int32) : Int64 := hs_l c (if x4 = 0 then 16 else 17) (ix_v x2) (ix_v x1) (ix_v x3)
theorem q_piece (V : iv c r e) : hc_pct c x1 x2 x3 x4 = mr_pcT r x1 x2 x3 x4 ∧ (hc_pct c x1 x2 x3 x4 = 0 → hc_pcv c x1 x2 x3 x4 = mr_piece r x1 x2 x3 x4) := by
  have n1 := V.1.1
  have h1 := rr_1 n1
  have h6 := rr_6 n1
  have E0 : hc_pis c x1 x2 x3 = mr_pis r x1 x2 x3 := by
    unfold hc_pis mr_pis
    rw [← iv_S V, ← iv_K V]
    cases hn : ix_n x1 (rc r 6) with
    | none => rfl
    | some n =>
      cases hk : ix_n x2 (rc r 1) with
      | none => rfl
      | some k =>
        cases hd : ix_n x3 3 with
        | none => rfl
        | some d =>
          obtain ⟨en, ln⟩ := (ix_some (by omega)).mp hn
          obtain ⟨ek, lk⟩ := (ix_some (by omega)).mp hk
          dsimp only
          rw [en, ek, ix_vn (by omega), ix_vn (by omega), iv_bit V (by omega) lk]
          rfl
  have E : hc_pct c x1 x2 x3 x4 = mr_pcT r x1 x2 x3 x4 := by
    unfold hc_pct mr_pcT
    rw [E0]
    cases mr_pis r x1 x2 x3 with
    | true => rw [if_pos rfl, if_neg (show ¬ true = false by decide)]
    | false => rw [if_neg (show ¬ false = true by decide), if_pos rfl]
  refine ⟨E, fun z => ?_⟩
  have z' := z
  rw [E] at z'
  unfold mr_piece
  rw [if_pos z']
  unfold hc_pct at z
  have hp : hc_pis c x1 x2 x3 = true := by
    cases hq : hc_pis c x1 x2 x3 with
    | true => rfl
    | false => rw [hq, if_neg (by decide)] at z; exact absurd z (by decide)
  unfold hc_pis at hp
  rw [← iv_S V, ← iv_K V] at hp
  cases hn : ix_n x1 (rc r 6) with
  | none => rw [hn] at hp; cases hp
  | some n =>
    cases hk : ix_n x2 (rc r 1) with
    | none => rw [hn, hk] at hp; cases hp
    | some k =>
      cases hd : ix_n x3 3 with
      | none => rw [hn, hk, hd] at hp; cases hp
      | some d =>
        obtain ⟨en, ln⟩ := (ix_some (by omega)).mp hn
        obtain ⟨ek, lk⟩ := (ix_some (by omega)).mp hk
        obtain ⟨ed, ld⟩ := (ix_some (by decide)).mp hd
        rw [hn, hk, hd] at hp
        dsimp only at hp
        rw [en, iv_bit V (by omega) lk] at hp
        have g := (V.2.2.2.2.2.2.1 n k (by omega) lk hp).1 d ld
        unfold hc_pcv
        rw [en, ek, ed, ix_vn (by omega), ix_vn (by omega), ix_vn (by omega)]
        by_cases y : x4 = 0
        · rw [if_pos y, if_pos y]; exact g.1
        · rw [if_neg y, if_neg y]; exact g.2.1
def hc_tis (c : hs_S) (x1 x2 : Int32) : Bool := (ix_n x2 3).isSome && hc_finished c x1
def hc_ttt (c : hs_S) (x1 x2 : Int32) : Int32 := if hc_tis c x1 x2 = true then 0 else 1
def hc_tvF (c : hs_S) (n d k : Nat) : Int64 := hs_l c 16 k n d + hs_l c 17 k n d
def hc_tvG (c : hs_S) (n d l : Nat) : Int64 := hs_l c 23 l n d
def hc_ttv (c : hs_S) (x1 x2 : Int32) : Int64 := sm_l (hc_tvF c (ix_v x1) (ix_v x2)) (hs_n c 0 0) + sm_l (hc_tvG c (ix_v x1) (ix_v x2)) (hs_n c 1 0)
theorem q_total (V : iv c r 1000) : hc_ttt c x1 x2 = mr_ttT r x1 x2 ∧ (hc_ttt c x1 x2 = 0 → hc_ttv c x1 x2 = mr_total r x1 x2) := by
  have n1 := V.1.1
  have h1 := rr_1 n1
  have h6 := rr_6 n1
  have E0 : hc_tis c x1 x2 = mr_tis r x1 x2 := by
    unfold hc_tis mr_tis
    rw [q_fin V]
  have E : hc_ttt c x1 x2 = mr_ttT r x1 x2 := by
    unfold hc_ttt mr_ttT
    rw [E0]
  refine ⟨E, fun z => ?_⟩
  have hp : mr_tis r x1 x2 = true := by
    cases hq : mr_tis r x1 x2 with
    | true => rfl
    | false => unfold hc_ttt at z; rw [E0, hq, if_neg (by decide)] at z; exact absurd z (by decide)
  unfold mr_total
  rw [if_pos hp]
  unfold mr_tis mr_fin at hp
  rw [Bool.and_eq_true, Bool.and_eq_true, Bool.and_eq_true] at hp
  obtain ⟨p1, p2, p3, -⟩ := hp
  obtain ⟨d, hd⟩ := Option.isSome_iff_exists.mp p1
  obtain ⟨n, hn⟩ := Option.isSome_iff_exists.mp p2
  obtain ⟨en, ln⟩ := (ix_some (by omega)).mp hn
  obtain ⟨ed, ld⟩ := (ix_some (by decide)).mp hd
  rw [en, ix_vn (by omega)] at p3
  rw [fk_iff] at p3
  unfold hc_ttv
  rw [en, ed, ix_vn (by omega), ix_vn (by omega), ← iv_K V, ← iv_L V]
  have e1 : sm_l (hc_tvF c n d) (rc r 1) = sm_l (mr_tF r n (nI d)) (rc r 1) := sm_lc (fun k hk => by
    have g := (V.2.2.2.2.2.2.1 n k (by omega) hk (decide_eq_true (p3 k (by omega) (by omega)))).1 d ld
    unfold hc_tvF mr_tF
    rw [g.1, g.2.1])
  have e2 : sm_l (hc_tvG c n d) (rc r 3) = sm_l (mr_tG r n (nI d)) (rc r 3) := sm_lc (fun l hl => V.2.2.2.2.2.2.2.2.2.2 l n d hl (by omega) ld)
  rw [e1, e2]
end QRY
