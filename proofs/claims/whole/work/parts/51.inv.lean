section INV
variable {c : hs_S} {r r' : rS}
def isT (r : rS) (x : Int32) : Prop := ∃ a, a ≤ rc r 2 ∧ x = nI a
def rm_al (r : rS) (f : Nat) (x1 x2 : Int32) (i : Nat) : Int64 := if ri r 36 i = x1 ∧ ri r 37 i = x2 then rl r f i else 0
def mr_sm (r : rS) (f : Nat) (x1 x2 : Int32) : Int64 := sm_l (rm_al r f x1 x2) (rc r 4)
def rm_ea (r : rS) (x : Int32) (i : Nat) : Int32 := if ri r 36 i = x then ri r 39 i else 0
def mr_es (r : rS) (x : Int32) : Int32 := sm_i (rm_ea r x) (rc r 4)
/-- k has recorded n -/
def rk (r : rS) (k n : Nat) : Bool := decide (¬ ri r 50 (6 * n + k) ≤ 0)
def thg (r : rS) (t : Nat) : hs_T := (ri r 43 t, ri r 45 t, if ri r 43 t = 3 then ri r 47 t else ri r 46 t, if ri r 43 t = 3 then 0 else bs (mr_mk r t) 16)
/-- a link's queue, out of the things; thing e is left out -/
def qf (r : rS) (x : Int32) (e : Nat) : Nat → Nat → List hs_T
  | 0, _ => []
  | m + 1, t => if mr_there r x t = true ∧ t ≠ e then thg r t :: qf r x e m (t + 1) else qf r x e m (t + 1)
def iv_n (c : hs_S) (r : rS) : Prop := rr_ok r ∧ hs_ok c ∧ hs_n c 7 0 = hs_n c 1 0 ∧ rc r 1 = hs_n c 0 0 ∧ rc r 3 = hs_n c 1 0 ∧ rc r 6 = hs_n c 2 0
def iv_l (c : hs_S) (r : rS) : Prop := ∀ l, l < rc r 3 → ri r 31 l = nI (hs_n c 3 l) ∧ ri r 32 l = nI (hs_n c 4 l) ∧ hs_i c 19 l 0 0 = ri r 33 l
def iv_r (c : hs_S) (r : rS) : Prop := hs_rok c ∧ ∀ a b, a < 3 → b < 3 → hs_i c 5 a 0 b = ri r 34 (3 * a + b) ∧ hs_i c 7 a 0 b = ri r 35 (3 * a + b)
def iv_t (r : rS) : Prop := (∀ i, i < rc r 4 → isT r (ri r 38 i)) ∧ (∀ n k, n < 16 → k < 6 → isT r (ri r 50 (6 * n + k))) ∧ (∀ t, t < rc r 5 → isT r (ri r 48 t)) ∧ (∀ t, t < rc r 5 → isT r (ri r 49 t))
def iv_s (c : hs_S) (r : rS) : Prop := ∀ k, k < rc r 1 → (∀ d, d < 3 → hs_l c 9 k 0 d = mr_sm r 40 (nI k) (nI d) ∧ hs_l c 10 k 0 d = mr_sm r 41 (nI k) (nI d) ∧ hs_l c 11 k 0 d = mr_sm r 42 (nI k) (nI d)) ∧ hs_i c 8 k 0 0 = mr_es r (nI k)
def iv_m (c : hs_S) (r : rS) : Prop := (∀ k, k < rc r 1 → hs_i c 8 k 0 1 = bs (rk r k) 16) ∧ (∀ n k, rc r 6 ≤ n → n < 16 → k < 6 → ri r 50 (6 * n + k) = 0)
def iv_p (c : hs_S) (r : rS) : Prop := ∀ n k, n < 16 → k < rc r 1 → rk r k n = true → (∀ d, d < 3 → hs_l c 16 k n d = mr_at r 40 (nI k) (nI d) (ri r 50 (6 * n + k)) ∧ hs_l c 17 k n d = mr_at r 41 (nI k) (nI d) (ri r 50 (6 * n + k)) ∧ hs_l c 18 k n d = mr_at r 42 (nI k) (nI d) (ri r 50 (6 * n + k))) ∧ hs_i c 15 k 0 n = mr_evs r (nI k) (ri r 50 (6 * n + k))
def iv_q (c : hs_S) (r : rS) (e : Nat) : Prop := ∀ l, l < rc r 3 → hs_q c l = qf r (nI l) e (rc r 5) 0
def iv_k (r : rS) : Prop := ∀ t, t < rc r 5 → (ri r 43 t = 1 ∨ ri r 43 t = 2 ∨ ri r 43 t = 3) ∧ (ri r 43 t = 1 → ∃ d, d < 3 ∧ ri r 45 t = nI d) ∧ (ri r 43 t = 3 → ∃ n l, n < 16 ∧ l < rc r 3 ∧ ri r 47 t = nI n ∧ ri r 44 t = nI l ∧ ¬ ri r 33 l = 0 ∧ ¬ ri r 50 (6 * n + ix_v (ri r 31 l)) ≤ 0 ∧ (∀ t', t' < rc r 5 → ri r 43 t' = 3 → ri r 47 t' = nI n → ri r 44 t' = nI l → t' = t))
def iv_b (c : hs_S) (r : rS) : Prop := ∀ l n, l < rc r 3 → n < 16 → ¬ ri r 33 l = 0 → hc_bit (hs_i c 19 l 0 1) (nI n) = decide (¬ mr_ma r (nI n) (nI l) (rc r 5) 0 ≤ 0)
def iv_d (c : hs_S) (r : rS) : Prop := ∀ l n d, l < rc r 3 → n < 16 → d < 3 → hs_l c 23 l n d = mr_roadOf r n l (nI d)
/-- class and reference agree; thing e is in the hand -/
def iv (c : hs_S) (r : rS) (e : Nat) : Prop := iv_n c r ∧ iv_l c r ∧ iv_r c r ∧ iv_t r ∧ iv_s c r ∧ iv_m c r ∧ iv_p c r ∧ iv_q c r e ∧ iv_k r ∧ iv_b c r ∧ iv_d c r
theorem isT_le {x : Int32} (hT : rc r 2 < 2 ^ 30) (q : isT r x) {b : Nat} (hb : rc r 2 ≤ b) (hb2 : b < 2 ^ 31) : ¬ nI b < x := by
  obtain ⟨a, ha, rfl⟩ := q
  exact nI_nlt (by omega) hb2
theorem at_al (o : rr_ok r) (ht : ∀ i, i < rc r 4 → isT r (ri r 38 i)) {f b : Nat} {x1 x2 : Int32} (hb : rc r 2 ≤ b) (hb2 : b < 2 ^ 31) : mr_at r f x1 x2 (nI b) = mr_sm r f x1 x2 := by
  refine sm_lc (fun i hi => ?_)
  have := isT_le (rr_2 o) (ht i hi) hb hb2
  unfold rm_st rm_al
  by_cases y : ri r 36 i = x1 ∧ ri r 37 i = x2
  · rw [if_pos ⟨y.1, y.2, this⟩, if_pos y]
  · rw [if_neg (fun z => y ⟨z.1, z.2.1⟩), if_neg y]
theorem ev_ea (o : rr_ok r) (ht : ∀ i, i < rc r 4 → isT r (ri r 38 i)) {b : Nat} {x : Int32} (hb : rc r 2 ≤ b) (hb2 : b < 2 ^ 31) : mr_evs r x (nI b) = mr_es r x := by
  refine sm_ic (fun i hi => ?_)
  have := isT_le (rr_2 o) (ht i hi) hb hb2
  unfold mr_evF rm_ea
  by_cases y : ri r 36 i = x
  · rw [if_pos ⟨y, this⟩, if_pos y]
  · rw [if_neg (fun z => y z.1), if_neg y]
/-! the things' part: rows 31 32 33 43 .. 50 -/
def sth (r r' : rS) : Prop := (∀ f, (f = 31 ∨ f = 32 ∨ f = 33 ∨ 43 ≤ f ∧ f ≤ 50) → ri r' f = ri r f) ∧ rc r' 5 = rc r 5 ∧ rc r' 3 = rc r 3
theorem sth_mk (s : sth r r') (t n : Nat) : mr_mk r' t n = mr_mk r t n := by
  unfold mr_mk m_fr
  rw [s.1 50 (by omega), s.1 48 (by omega), s.1 31 (by omega), s.1 44 (by omega)]
theorem sth_thg (s : sth r r') (t : Nat) : thg r' t = thg r t := by
  unfold thg
  rw [s.1 43 (by omega), s.1 45 (by omega), s.1 46 (by omega), s.1 47 (by omega), bs_c (fun i _ => sth_mk s t i)]
theorem qf_c {x : Int32} {e : Nat} : ∀ m t, (∀ t', t ≤ t' → t' < t + m → mr_there r' x t' = mr_there r x t' ∧ thg r' t' = thg r t') → qf r' x e m t = qf r x e m t
  | 0, _, _ => rfl
  | m + 1, t, q => by
    unfold qf
    rw [(q t (by omega) (by omega)).1, (q t (by omega) (by omega)).2, qf_c m (t + 1) (fun t' h1 h2 => q t' (by omega) (by omega))]
theorem sth_there (s : sth r r') (x : Int32) (t : Nat) : mr_there r' x t = mr_there r x t := by
  unfold mr_there
  rw [s.1 44 (by omega), s.1 49 (by omega)]
theorem sth_q {e : Nat} (s : sth r r') (q : iv_q c r e) : iv_q c r' e := fun l hl => by
  rw [s.2.2] at hl
  rw [s.2.1, qf_c (r := r) (r' := r') _ _ (fun t' _ _ => ⟨sth_there s _ t', sth_thg s t'⟩)]
  exact q l hl
theorem ma_c {x1 x2 : Int32} : ∀ m t, (∀ t', t ≤ t' → t' < t + m → ri r' 44 t' = ri r 44 t' ∧ ri r' 43 t' = ri r 43 t' ∧ ri r' 47 t' = ri r 47 t' ∧ ri r' 49 t' = ri r 49 t') → mr_ma r' x1 x2 m t = mr_ma r x1 x2 m t
  | 0, _, _ => rfl
  | m + 1, t, q => by
    unfold mr_ma
    obtain ⟨q1, q2, q3, q4⟩ := q t (by omega) (by omega)
    rw [q1, q2, q3, q4, ma_c m (t + 1) (fun t' h1 h2 => q t' (by omega) (by omega))]
theorem sth_ma (s : sth r r') (x1 x2 : Int32) (m t : Nat) : mr_ma r' x1 x2 m t = mr_ma r x1 x2 m t := ma_c m t (fun t' _ _ => ⟨by rw [s.1 44 (by omega)], by rw [s.1 43 (by omega)], by rw [s.1 47 (by omega)], by rw [s.1 49 (by omega)]⟩)
theorem sth_k (s : sth r r') (q : iv_k r) : iv_k r' := by
  unfold iv_k at q ⊢
  rw [s.2.1, s.2.2, s.1 43 (by omega), s.1 45 (by omega), s.1 47 (by omega), s.1 44 (by omega), s.1 33 (by omega), s.1 50 (by omega), s.1 31 (by omega)]
  exact q
theorem sth_b (s : sth r r') (q : iv_b c r) : iv_b c r' := fun l n hl hn h33 => by
  rw [s.2.2] at hl
  rw [s.1 33 (by omega)] at h33
  rw [s.2.1, sth_ma s]
  exact q l n hl hn h33
theorem rdP_c {n l : Nat} {x3 x4 x5 : Int32} {t : Nat} (e1 : ri r' 44 t = ri r 44 t) (e2 : ri r' 43 t = ri r 43 t) (e3 : ri r' 45 t = ri r 45 t) (e4 : ri r' 49 t = ri r 49 t) (e5 : ri r' 33 l = ri r 33 l) (e6 : mr_mk r' t n = mr_mk r t n) (e7 : ri r' 46 t = ri r 46 t) : mr_rdF r' n l x3 x4 x5 t = mr_rdF r n l x3 x4 x5 t := by
  unfold mr_rdF mr_rdP
  rw [e1, e2, e3, e4, e5, e6, e7]
theorem sth_rd (s : sth r r') (n l : Nat) (x : Int32) : mr_roadOf r' n l x = mr_roadOf r n l x := by
  unfold mr_roadOf mr_until
  rw [s.1 50 (by omega), s.1 32 (by omega), s.1 33 (by omega), s.2.1, sth_ma s]
  have : ∀ x4 x5, sm_l (mr_rdF r' n l x x4 x5) (rc r 5) = sm_l (mr_rdF r n l x x4 x5) (rc r 5) := fun x4 x5 => sm_lc (fun t _ => rdP_c (by rw [s.1 44 (by omega)]) (by rw [s.1 43 (by omega)]) (by rw [s.1 45 (by omega)]) (by rw [s.1 49 (by omega)]) (by rw [s.1 33 (by omega)]) (sth_mk s t n) (by rw [s.1 46 (by omega)]))
  rw [this]
theorem sth_d (s : sth r r') (q : iv_d c r) : iv_d c r' := fun l n d hl hn hd => by
  rw [s.2.2] at hl
  rw [sth_rd s]
  exact q l n d hl hn hd
/-! a thing more -/
theorem qf_sn {x : Int32} {e : Nat} : ∀ m t, qf r x e (m + 1) t = qf r x e m t ++ (if mr_there r x (t + m) = true ∧ t + m ≠ e then [thg r (t + m)] else [])
  | 0, t => by
    unfold qf
    rw [Nat.add_zero]
    show _ = [] ++ _
    rw [List.nil_append]
    rfl
  | m + 1, t => by
    have ih := qf_sn (x := x) (e := e) m (t + 1)
    rw [show t + 1 + m = t + (m + 1) by omega] at ih
    rw [show qf r x e (m + 1 + 1) t = (if mr_there r x t = true ∧ t ≠ e then thg r t :: qf r x e (m + 1) (t + 1) else qf r x e (m + 1) (t + 1)) from rfl, show qf r x e (m + 1) t = (if mr_there r x t = true ∧ t ≠ e then thg r t :: qf r x e m (t + 1) else qf r x e m (t + 1)) from rfl, ih]
    by_cases y : mr_there r x t = true ∧ t ≠ e
    · rw [if_pos y, if_pos y, List.cons_append]
    · rw [if_neg y, if_neg y]
theorem ma_sn {x1 x2 : Int32} : ∀ m t, ri r 49 (t + m) = 0 → mr_ma r x1 x2 (m + 1) t = mr_ma r x1 x2 m t
  | 0, t, z => by
    rw [Nat.add_zero] at z
    show (if _ then ri r 49 t else (0 : Int32)) = 0
    rw [z]
    split <;> rfl
  | m + 1, t, z => by
    have ih := ma_sn (x1 := x1) (x2 := x2) m (t + 1) (by rw [show t + 1 + m = t + (m + 1) by omega]; exact z)
    rw [show mr_ma r x1 x2 (m + 1 + 1) t = (if ri r 44 t = x2 ∧ ri r 43 t = 3 ∧ ri r 47 t = x1 then ri r 49 t else mr_ma r x1 x2 (m + 1) (t + 1)) from rfl, show mr_ma r x1 x2 (m + 1) t = (if ri r 44 t = x2 ∧ ri r 43 t = 3 ∧ ri r 47 t = x1 then ri r 49 t else mr_ma r x1 x2 m (t + 1)) from rfl, ih]
theorem qf_len {x : Int32} {e : Nat} : ∀ m t, (qf r x e m t).length ≤ m
  | 0, _ => Nat.le_refl _
  | m + 1, t => by
    unfold qf
    have := qf_len (x := x) (e := e) m (t + 1)
    split
    · rw [List.length_cons]; omega
    · omega
theorem qf_mem {x : Int32} {e : Nat} {u : hs_T} : ∀ m t, u ∈ qf r x e m t → ∃ t', t ≤ t' ∧ t' < t + m ∧ u = thg r t'
  | 0, t, q => by cases q
  | m + 1, t, q => by
    unfold qf at q
    split at q
    · rcases List.mem_cons.mp q with y | y
      · exact ⟨t, by omega, by omega, y⟩
      · obtain ⟨t', h1, h2, h3⟩ := qf_mem m (t + 1) y
        exact ⟨t', by omega, by omega, h3⟩
    · obtain ⟨t', h1, h2, h3⟩ := qf_mem m (t + 1) q
      exact ⟨t', by omega, by omega, h3⟩
theorem iv_qb {e : Nat} (V : iv c r e) : hs_qb c (rc r 5) := fun l hl => by
  rw [V.2.2.2.2.2.2.2.1 l (by rw [V.1.2.2.2.2.1]; exact hl)]
  exact qf_len _ _
theorem iv_tk {e : Nat} (V : iv c r e) : ∀ l t, l < hs_n c 1 0 → t ∈ hs_q c l → hs_tk t := fun l u hl hu => by
  rw [V.2.2.2.2.2.2.2.1 l (by rw [V.1.2.2.2.2.1]; exact hl)] at hu
  obtain ⟨t, h1, h2, rfl⟩ := qf_mem _ _ hu
  obtain ⟨k1, k2, k3⟩ := V.2.2.2.2.2.2.2.2.1 t (by omega)
  refine ⟨fun z => ?_, fun z => ?_⟩
  · obtain ⟨n, l', hn, hl', e47, -⟩ := k3 z
    refine ⟨n, hn, ?_⟩
    show (if ri r 43 t = 3 then ri r 47 t else ri r 46 t) = nI n
    rw [if_pos (show ri r 43 t = 3 from z)]
    exact e47
  · exact k2 z
end INV
