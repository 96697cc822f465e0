/-! the methods of the house over the state: guards, kiosks -/
theorem zb_br {b : Bool} {A B : Prop} (hf : b = false → A) (ht : b = true → B) : (zb_i b = 0 → A) ∧ (¬ zb_i b = 0 → B) := by
  cases b
  · exact ⟨fun _ => hf rfl, fun h => absurd rfl h⟩
  · exact ⟨fun h => absurd h (by decide), fun _ => ht rfl⟩
theorem bt_ix {x : Int32} {n : Nat} (hn : n < 2 ^ 31) : decide (¬ x < 0 ∧ ¬ nI n - 1 < x) = (ix_n x n).isSome := by
  have e : (nI n - 1).toInt = (n : Int) - 1 := by
    cases n with
    | zero => decide
    | succ n => rw [nI_pred, nI_toInt (by omega)]; omega
  have h0 : (¬ x < 0) ↔ 0 ≤ x.toInt := by rw [Int32.lt_iff_toInt_lt, Int32.toInt_zero]; omega
  have h1 : (¬ nI n - 1 < x) ↔ x.toInt < n := by rw [Int32.lt_iff_toInt_lt, e]; omega
  by_cases q : 0 ≤ x.toInt ∧ x.toInt < (n : Int)
  · rw [ix_n, if_pos q, decide_eq_true (show ¬ x < 0 ∧ ¬ nI n - 1 < x from ⟨h0.mpr q.1, h1.mpr q.2⟩)]
    rfl
  · rw [ix_n, if_neg q, decide_eq_false (fun r : ¬ x < 0 ∧ ¬ nI n - 1 < x => q ⟨h0.mp r.1, h1.mp r.2⟩)]
    rfl
/-- what always holds of a state -/
def hs_ok (h : hs_S) : Prop := (1 ≤ hs_n h 0 0 ∧ hs_n h 0 0 ≤ 6) ∧ hs_n h 1 0 ≤ 12 ∧ hs_n h 2 0 ≤ 16 ∧ (∀ l, l < hs_n h 1 0 → hs_n h 3 l < hs_n h 0 0 ∧ hs_n h 4 l < hs_n h 0 0) ∧ (∀ l, l < hs_n h 1 0 ∨ l = 12 → hs_z h l ≤ hs_n h 5 l ∧ hs_n h 5 l < 100000)
theorem hs_okK {h : hs_S} (o : hs_ok h) : hs_n h 0 0 < 2 ^ 31 := Nat.lt_of_le_of_lt o.1.2 (by decide)
theorem hs_okL {h : hs_S} (o : hs_ok h) : hs_n h 1 0 < 2 ^ 31 := Nat.lt_of_le_of_lt o.2.1 (by decide)
theorem hs_okN {h : hs_S} (o : hs_ok h) : hs_n h 2 0 < 2 ^ 31 := Nat.lt_of_le_of_lt o.2.2.1 (by decide)
def hc_bit (m n : Int32) : Bool := decide ((m >>> (n &&& 31)) &&& 1 = 1)
section CL1
variable {g : Nat → ClassId} {e0 : Nat → Nat} {A : hs_A} {h : hs_S} {M : mo_M}
theorem l2_isBetween {K : Int32 → mo_M → Prop} {x lo hi : Int32} (hK : K (zb_i (decide (¬ x < lo ∧ ¬ hi < x))) M) : pp_H_isBetween g e0 K M x lo hi := by
  unfold pp_H_isBetween
  refine ⟨fun h1 => ⟨rfl, ?_⟩, fun h1 => ⟨fun h2 => ⟨rfl, ?_⟩, fun h2 => ⟨rfl, ?_⟩⟩⟩
  · rw [show decide (¬ x < lo ∧ ¬ hi < x) = false by simp [h1]] at hK; exact hK
  · rw [show decide (¬ x < lo ∧ ¬ hi < x) = false by simp [h2]] at hK; exact hK
  · rw [show decide (¬ x < lo ∧ ¬ hi < x) = true by simp [h1, h2]] at hK; exact hK
theorem l2_hasCurrency {K : Int32 → mo_M → Prop} {x : Int32} (hK : K (zb_i (ix_n x 3).isSome) M) : pp_H_hasCurrency g e0 K M x := by
  unfold pp_H_hasCurrency
  refine l2_isBetween ⟨zb_nar _, ?_⟩
  rw [show ((2 : Int32)) = nI 3 - 1 by decide, bt_ix (by decide)]
  exact hK
theorem l2_hasBit {K : Int32 → mo_M → Prop} {m n : Int32} (hK : K (zb_i (hc_bit m n)) M) : pp_H_hasBit g e0 K M m n := by
  unfold pp_H_hasBit
  refine ⟨fun h1 => ⟨rfl, ?_⟩, fun h1 => ⟨rfl, ?_⟩⟩
  · rw [show hc_bit m n = true by simpa [hc_bit] using h1] at hK; exact hK
  · rw [show hc_bit m n = false by simpa [hc_bit] using h1] at hK; exact hK
theorem l2_hasKiosk {K : Int32 → mo_M → Prop} {x : Int32} (H : hs_in g e0 A h M) (o : hs_ok h) (hK : K (zb_i (ix_n x (hs_n h 0 0)).isSome) M) : pp_H_hasKiosk g e0 K M (A 0 0 0) x := by
  unfold pp_H_hasKiosk
  refine mq_gr (hs_0 H) rfl (mq_ln (hs_1 H) (l2_isBetween ⟨zb_nar _, ?_⟩))
  rw [bt_ix (hs_okK o)]
  exact hK
theorem l2_hasNumber {K : Int32 → mo_M → Prop} {x : Int32} (H : hs_in g e0 A h M) (o : hs_ok h) (hK : K (zb_i (ix_n x (hs_n h 2 0)).isSome) M) : pp_H_hasNumber g e0 K M (A 0 0 0) x := by
  unfold pp_H_hasNumber
  refine mq_gi (hs_0 H) rfl (l2_isBetween ⟨zb_nar _, ?_⟩)
  rw [bt_ix (hs_okN o)]
  exact hK
theorem l2_kio {N : Nat → Prop} {x : Int32} {k : Nat} (H : hs_in g e0 A h M) (o : hs_ok h) (hx : ix_n x (hs_n h 0 0) = some k) (hN : k < hs_n h 0 0 → N (A 8 k 0)) : mp_gr M (A 0 0 0) 0 0 (fun v => mp_ar (g 3) M v x N) := by
  obtain ⟨e, hk⟩ := (ix_some (hs_okK o)).mp hx
  exact mq_gr (hs_0 H) rfl (mq_aq (hs_1 H) e hk (hs_okK o) rfl (hN hk))
theorem l2_hasMark {K : Int32 → mo_M → Prop} {n : Int32} {k : Nat} (H : hs_in g e0 A h M) (hk : k < hs_n h 0 0) (hK : K (zb_i (hc_bit (hs_i h 8 k 0 1) n)) M) : pp_K_hasMark g e0 K M (A 8 k 0) n := by
  unfold pp_K_hasMark
  exact mq_gi (hs_8 H hk) rfl (l2_hasBit ⟨zb_nar _, hK⟩)
def hc_can (h : hs_S) (k c : Nat) (x : Int32) : Bool := decide ((¬ x < 1 ∧ ¬ 1000000000 < x) ∧ ¬ hs_l h 9 k 0 c < x.toInt64)
theorem l2_hasCoins {K : Int32 → mo_M → Prop} {x1 x2 : Int32} {k c : Nat} (H : hs_in g e0 A h M) (hk : k < hs_n h 0 0) (hc : ix_n x1 3 = some c) (hK : K (zb_i (hc_can h k c x2)) M) : pp_K_hasCoins g e0 K M (A 8 k 0) x1 x2 := by
  obtain ⟨e, hc⟩ := (ix_some (by decide)).mp hc
  unfold pp_K_hasCoins
  refine l2_isBetween (zb_br (fun h1 => ⟨rfl, ?_⟩) (fun h1 => mq_gr (hs_8 H hk) rfl (mq_al (hs_9 H hk) e hc (by decide) ⟨fun h2 => ⟨rfl, ?_⟩, fun h2 => ⟨rfl, ?_⟩⟩)))
  · rw [show hc_can h k c x2 = false by simp only [decide_eq_false_iff_not] at h1; simp only [hc_can, decide_eq_false_iff_not]; exact fun q => h1 q.1] at hK; exact hK
  · rw [lg_cmp_lt] at h2
    rw [show hc_can h k c x2 = false by simp [hc_can, h2]] at hK; exact hK
  · rw [lg_cmp_lt] at h2
    simp only [decide_eq_true_eq] at h1
    rw [show hc_can h k c x2 = true by simp only [hc_can, decide_eq_true_eq]; exact ⟨h1, h2⟩] at hK; exact hK
theorem l2_canPay {K : Int32 → mo_M → Prop} {x1 x2 x3 : Int32} (H : hs_in g e0 A h M) (o : hs_ok h) (h0 : (∀ k c, ix_n x1 (hs_n h 0 0) = some k → ix_n x2 3 = some c → hc_can h k c x3 = false) → K 0 M) (h1 : ∀ k c, ix_n x1 (hs_n h 0 0) = some k → ix_n x2 3 = some c → k < hs_n h 0 0 → hc_can h k c x3 = true → K 1 M) : pp_H_canPay g e0 K M (A 0 0 0) x1 x2 x3 := by
  unfold pp_H_canPay
  refine ⟨⟨_, hs_0 H⟩, l2_hasKiosk H o (zb_br (fun q => ⟨rfl, h0 (fun k c a _ => by rw [a] at q; cases q)⟩) (fun q => l2_hasCurrency (zb_br (fun r => ⟨rfl, h0 (fun k c _ a => by rw [a] at r; cases r)⟩) (fun r => ?_))))⟩
  obtain ⟨k, hk⟩ := Option.isSome_iff_exists.mp q
  obtain ⟨c, hc⟩ := Option.isSome_iff_exists.mp r
  refine l2_kio H o hk (fun kk => ⟨⟨_, hs_8 H kk⟩, l2_hasCoins H kk hc (zb_br (fun t => ⟨rfl, h0 (fun k' c' a b => ?_)⟩) (fun t => ⟨rfl, h1 k c hk hc kk t⟩))⟩)
  cases hk.symm.trans a
  cases hc.symm.trans b
  exact t
/-- k gets a of c (made: also to what it made) -/
def hc_ev (h : hs_S) (k : Nat) : hs_S := hs_si h 8 k 0 (upd (hs_i h 8 k 0) 0 (hs_i h 8 k 0 0 + 1))
def hc_put (h : hs_S) (f k c : Nat) (x : Int64) : hs_S := hs_sl h f k 0 (vp_updL (hs_l h f k 0) c (hs_l h f k 0 c + x))
def hc_sub (h : hs_S) (f k c : Nat) (x : Int64) : hs_S := hs_sl h f k 0 (vp_updL (hs_l h f k 0) c (hs_l h f k 0 c - x))
def hc_add (h : hs_S) (k c : Nat) (x : Int32) : hs_S := hc_ev (hc_put (hc_put h 9 k c x.toInt64) 11 k c x.toInt64) k
theorem hc_put_in (H : hs_in g e0 A h M) {f k c : Nat} (hf : f = 9 ∨ f = 10 ∨ f = 11) (hk : k < hs_n h 0 0) (x : Int64) : hs_in g e0 A (hc_put h f k c x) (va_up M (A f k 0) (some (.inl (g 1, 3, .inr (.inl (vp_updL (hs_l h f k 0) c (hs_l h f k 0 c + x))))))) := by
  rcases hf with rfl | rfl | rfl <;> exact hs_wl H (by simp [hs_dom, hk]) rfl _
theorem hc_sub_in (H : hs_in g e0 A h M) {f k c : Nat} (hf : f = 9 ∨ f = 10 ∨ f = 11) (hk : k < hs_n h 0 0) (x : Int64) : hs_in g e0 A (hc_sub h f k c x) (va_up M (A f k 0) (some (.inl (g 1, 3, .inr (.inl (vp_updL (hs_l h f k 0) c (hs_l h f k 0 c - x))))))) := by
  rcases hf with rfl | rfl | rfl <;> exact hs_wl H (by simp [hs_dom, hk]) rfl _
theorem l2_addCoins {K : mo_M → Prop} {x1 x2 : Int32} {k c : Nat} (H : hs_in g e0 A h M) (hk : k < hs_n h 0 0) (hc : ix_n x1 3 = some c) (hK : ∀ M', hs_in g e0 A (hc_add h k c x2) M' → K M') : pp_K_addCoins g e0 K M (A 8 k 0) x1 x2 := by
  obtain ⟨e, hc⟩ := (ix_some (by decide)).mp hc
  unfold pp_K_addCoins
  refine mq_gr (hs_8 H hk) rfl (mq_al (hs_9 H hk) e hc (by decide) (mq_sl (hs_9 H hk) e hc (by decide) ?_))
  have H1 := hc_put_in H (c := c) (Or.inl rfl) hk x2.toInt64
  have hk1 : k < hs_n (hc_put h 9 k c x2.toInt64) 0 0 := hk
  refine mq_gr (hs_8 H1 hk1) rfl (mq_al (hs_11 H1 hk1) e hc (by decide) (mq_sl (hs_11 H1 hk1) e hc (by decide) ?_))
  have H2 := hc_put_in H1 (c := c) (Or.inr (Or.inr rfl)) hk1 x2.toInt64
  have hk2 : k < hs_n (hc_put (hc_put h 9 k c x2.toInt64) 11 k c x2.toInt64) 0 0 := hk
  refine mq_gi (hs_8 H2 hk2) rfl (mq_pt (hs_8 H2 hk2) (Nat.le_of_ble_eq_true rfl) (hK _ ?_))
  exact hs_w8_0 H2 hk2 _
end CL1
