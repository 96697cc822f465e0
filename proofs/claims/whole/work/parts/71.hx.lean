section HXX
variable {h h1 h2 : hs_S} {r r' : rS}
/-- the reference's rows are left alone -/
def hx (h h1 : hs_S) : Prop := ∀ f, 30 ≤ f → f ≤ 50 → h1.1 f 0 0 = h.1 f 0 0 ∧ h1.2.1 f 0 0 = h.2.1 f 0 0
theorem hx_rf (h : hs_S) : hx h h := fun _ _ _ => ⟨rfl, rfl⟩
theorem hx_tr (a : hx h h1) (b : hx h1 h2) : hx h h2 := fun f u v => ⟨((b f u v).1).trans (a f u v).1, ((b f u v).2).trans (a f u v).2⟩
theorem hx_si {f i j : Nat} {x : Nat → Int32} (a : hx h h1) (hf : f < 30) : hx h (hs_si h1 f i j x) := fun f' u v => by
  refine ⟨(a f' u v).1, ?_⟩
  show (if f' = f ∧ 0 = i ∧ 0 = j then x else h1.2.1 f' 0 0) = _
  rw [if_neg (by omega)]
  exact (a f' u v).2
theorem hx_sl {f i j : Nat} {x : Nat → Int64} (a : hx h h1) (hf : f < 30 ∨ 50 < f) : hx h (hs_sl h1 f i j x) := fun f' u v => by
  refine ⟨?_, (a f' u v).2⟩
  show (if f' = f ∧ 0 = i ∧ 0 = j then x else h1.1 f' 0 0) = _
  rw [if_neg (by omega)]
  exact (a f' u v).1
theorem hx_sq {i : Nat} {x : List hs_T} (a : hx h h1) : hx h (hs_sq h1 i x) := a
theorem hx_sn {f i v : Nat} (a : hx h h1) : hx h (hs_sn h1 f i v) := a
theorem hx_ev (a : hx h h1) (k : Nat) : hx h (hc_ev h1 k) := hx_si a (by decide)
theorem hx_put {f : Nat} (a : hx h h1) (hf : f < 30) (k d : Nat) (x : Int64) : hx h (hc_put h1 f k d x) := hx_sl a (Or.inl hf)
theorem hx_sub {f : Nat} (a : hx h h1) (hf : f < 30) (k d : Nat) (x : Int64) : hx h (hc_sub h1 f k d x) := hx_sl a (Or.inl hf)
theorem hx_mint (x1 x2 x3 : Int32) : hx h (hc_mint h x1 x2 x3).2 := by
  unfold hc_mint
  split
  · split
    · exact hx_ev (hx_put (hx_put (hx_rf h) (by decide) _ _ _) (by decide) _ _ _) _
    · exact hx_rf h
  · exact hx_rf h
theorem hx_melt (x1 x2 x3 : Int32) : hx h (hc_melt h x1 x2 x3).2 := by
  unfold hc_melt
  split
  · split
    · exact hx_ev (hx_put (hx_put (hx_rf h) (by decide) _ _ _) (by decide) _ _ _) _
    · exact hx_rf h
  · exact hx_rf h
theorem hx_exchange (x1 x2 x3 x4 : Int32) : hx h (hc_exchange h x1 x2 x3 x4).2 := by
  unfold hc_exchange
  split
  · split
    · exact hx_ev (hx_put (hx_sub (hx_put (hx_sub (hx_rf h) (by decide) _ _ _) (by decide) _ _ _) (by decide) _ _ _) (by decide) _ _ _) _
    · exact hx_rf h
  · exact hx_rf h
theorem hx_rate (x1 x2 x3 x4 : Int32) : hx h (hc_rate h x1 x2 x3 x4).2 := by
  unfold hc_rate
  split
  · split
    · exact hx_si (hx_si (hx_rf h) (by decide)) (by decide)
    · exact hx_rf h
  · exact hx_rf h
theorem hx_link (x1 x2 x3 : Int32) : hx h (hc_link h x1 x2 x3).2 := by
  unfold hc_link
  split
  · split
    · refine hx_sn (hx_sn (hx_si ?_ (by decide)))
      intro f u v
      constructor
      · show (if f = 23 ∧ _ then _ else h.1 f 0 0) = _
        rw [if_neg (by omega)]
      · show (if f = 19 ∧ _ then _ else if f = 20 ∧ _ then _ else h.2.1 f 0 0) = _
        rw [if_neg (by omega), if_neg (by omega)]
    · exact hx_rf h
  · exact hx_rf h
theorem hx_snd (a : hx h h1) (l : Nat) (t : hs_T) : hx h (hc_snd h1 l t) := hx_sn (hx_sn (hx_sq (hx_si (hx_sn (hx_si a (by decide))) (by decide))))
theorem hx_rl {k : Nat} {x : Int32} : ∀ m l (h1 : hs_S), hx h h1 → hx h (hc_rl k x m l h1)
  | 0, _, _, a => a
  | m + 1, l, h1, a => by
    unfold hc_rl
    refine hx_rl m (l + 1) _ ?_
    split
    · exact hx_snd a _ _
    · exact a
theorem hx_rec (a : hx h h1) (k n : Nat) (x : Int32) : hx h (hc_rec h1 k n x) := by
  unfold hc_rec
  split
  · exact a
  · exact hx_rl _ _ _ (hx_si (hx_si (hx_sl (hx_sl (hx_sl a (Or.inl (by decide))) (Or.inl (by decide))) (Or.inl (by decide))) (by decide)) (by decide))
theorem hx_snap (x : Int32) : hx h (hc_snap h x).2 := by
  unfold hc_snap
  split
  · split
    · exact hx_rec (hx_sn (hx_rf h)) _ _ _
    · exact hx_rf h
  · exact hx_rf h
theorem hx_bag (x1 x2 x3 : Int32) : hx h (hc_bag h x1 x2 x3).2 := by
  unfold hc_bag
  split
  · split
    · exact hx_snd (hx_ev (hx_sub (hx_rf h) (by decide) _ _ _) _) _ _
    · exact hx_rf h
  · exact hx_rf h
theorem hx_tbl {l : Nat} : ∀ m n (h1 : hs_S), hx h h1 → hx h (hc_tbl l m n h1)
  | 0, _, _, a => a
  | m + 1, n, h1, a => by
    unfold hc_tbl
    refine hx_tbl m (n + 1) _ ?_
    unfold hc_tb1
    split
    · exact hx_rec a _ _ _
    · exact a
theorem hx_arl {l d : Nat} : ∀ m n (h1 : hs_S), hx h h1 → hx h (hc_arl l d m n h1)
  | 0, _, _, a => a
  | m + 1, n, h1, a => by
    unfold hc_arl
    refine hx_arl m (n + 1) _ ?_
    unfold hc_ar1
    split
    · exact hx_sl a (Or.inl (by decide))
    · exact a
theorem hx_take (l j : Nat) : hx h (hc_take h l j) := hx_sn (hx_sq (hx_si (hx_si (hx_rf h) (by decide)) (by decide)))
theorem hx_dl (l j : Nat) : hx h (hc_dl h l j) := by
  unfold hc_dl
  split
  · exact hx_si (hx_rec (hx_sn (hx_take l j)) _ _ _) (by decide)
  · refine hx_sn ?_
    unfold hc_tbe
    have a := hx_tbl (l := l) 16 0 _ (hx_sn (hx_sn (hx_si (f := 26) (i := 0) (j := 0) (x := hs_i (hc_take h l j) 25 0 0) (hx_take (h := h) l j) (by decide)) (f := 6) (i := 0) (v := 0)) (f := 8) (i := 0) (v := 1))
    split
    · exact hx_arl _ _ _ (hx_ev (hx_put a (by decide) _ _ _) _)
    · exact a
theorem hx_deliver (x1 x2 : Int32) : hx h (hc_deliver h x1 x2).2 := by
  unfold hc_deliver
  split
  · split
    · exact hx_rf h
    · exact hx_dl _ _
  · exact hx_rf h
/-- h holds r -/
def er (h : hs_S) (r : rS) : Prop := ∀ f, 30 ≤ f → f ≤ 50 → h.1 f 0 0 = r.1 f ∧ h.2.1 f 0 0 = r.2 f
theorem er_hx (a : er h r) (b : hx h h1) : er h1 r := fun f u v => ⟨((b f u v).1).trans (a f u v).1, ((b f u v).2).trans (a f u v).2⟩
theorem er_put (a : er h r) : hs_put h r = h := by
  unfold hs_put
  refine Prod.ext ?_ (Prod.ext ?_ rfl)
  · funext f i j
    by_cases y : 30 ≤ f ∧ f ≤ 50 ∧ i = 0 ∧ j = 0
    · show (if _ then _ else _) = _
      rw [if_pos y, y.2.2.1, y.2.2.2]
      exact (a f y.1 y.2.1).1.symm
    · show (if _ then _ else _) = _
      rw [if_neg y]
  · funext f i j
    by_cases y : 30 ≤ f ∧ f ≤ 50 ∧ i = 0 ∧ j = 0
    · show (if _ then _ else _) = _
      rw [if_pos y, y.2.2.1, y.2.2.2]
      exact (a f y.1 y.2.1).2.symm
    · show (if _ then _ else _) = _
      rw [if_neg y]
theorem er_is (h : hs_S) (r : rS) : er (hs_put h r) r := fun f u v => ⟨if_pos ⟨u, v, rfl, rfl⟩, if_pos ⟨u, v, rfl, rfl⟩⟩
/-- what the relation reads of the class's state -/
def lo (h h1 : hs_S) : Prop := (∀ f i j, f < 30 → hs_l h1 f i j = hs_l h f i j) ∧ (∀ f i j, f < 30 → hs_i h1 f i j = hs_i h f i j) ∧ (∀ a b, hs_n h1 a b = hs_n h a b) ∧ (∀ l, hs_q h1 l = hs_q h l)
theorem lo_put (h : hs_S) (r : rS) : lo h (hs_put h r) := ⟨fun f i j hf => if_neg (by omega), fun f i j hf => if_neg (by omega), fun _ _ => rfl, fun _ => rfl⟩
theorem lo_60 (h : hs_S) (x : Nat → Int64) : lo h (hs_sl h 60 0 0 x) := ⟨fun f i j hf => if_neg (by omega), fun _ _ _ _ => rfl, fun _ _ => rfl, fun _ => rfl⟩
theorem lo_iv {e : Nat} (q : lo h h1) (V : iv h r e) : iv h1 r e := by
  obtain ⟨ql, qi, qn, qq⟩ := q
  obtain ⟨⟨n1, n2, n3, n4, n5, n6⟩, v2, v3, v4, v5, v6, v7, v8, v9, v10, v11⟩ := V
  refine ⟨⟨n1, ok_c qn qq n2, by rw [qn, qn]; exact n3, by rw [qn]; exact n4, by rw [qn]; exact n5, by rw [qn]; exact n6⟩, fun l hl => ?_, ⟨fun a b ha hb => ?_, fun a b ha hb => ?_⟩, v4, fun k hk => ⟨fun d hd => ?_, ?_⟩, ⟨fun k hk => ?_, v6.2⟩, fun n k hn hk hr => ⟨fun d hd => ?_, ?_⟩, fun l hl => ?_, v9, fun l n hl hn h33 => ?_, fun l n d hl hn hd => ?_⟩
  · rw [qn, qn, qi 19 l 0 (by decide)]; exact v2 l hl
  · rw [qi 5 a 0 (by decide), qi 7 a 0 (by decide)]; exact v3.1 a b ha hb
  · rw [qi 5 a 0 (by decide), qi 7 a 0 (by decide)]; exact v3.2 a b ha hb
  · rw [ql 9 k 0 (by decide), ql 10 k 0 (by decide), ql 11 k 0 (by decide)]; exact (v5 k hk).1 d hd
  · rw [qi 8 k 0 (by decide)]; exact (v5 k hk).2
  · rw [qi 8 k 0 (by decide)]; exact v6.1 k hk
  · rw [ql 16 k n (by decide), ql 17 k n (by decide), ql 18 k n (by decide)]; exact (v7 n k hn hk hr).1 d hd
  · rw [qi 15 k 0 (by decide)]; exact (v7 n k hn hk hr).2
  · rw [qq]; exact v8 l hl
  · rw [qi 19 l 0 (by decide)]; exact v10 l n hl hn h33
  · rw [ql 23 l n (by decide)]; exact v11 l n d hl hn hd
theorem lo_ci (q : lo h h1) (I : ci h) : ci h1 := ci_c (q.2.2.1 6 0) (q.2.2.1 1 0) q.2.2.2 I
end HXX
