/-! sums as the loops make them -/
def sm_l (F : Nat → Int64) : Nat → Int64
  | 0 => 0
  | n + 1 => sm_l F n + F n
def sm_i (F : Nat → Int32) : Nat → Int32
  | 0 => 0
  | n + 1 => sm_i F n + F n
theorem sm_lc {F G : Nat → Int64} : ∀ {n : Nat}, (∀ i, i < n → F i = G i) → sm_l F n = sm_l G n
  | 0, _ => rfl
  | n + 1, h => by
    show sm_l F n + F n = sm_l G n + G n
    rw [sm_lc (fun i hi => h i (Nat.lt_succ_of_lt hi)), h n (Nat.lt_succ_self n)]
theorem sm_ic {F G : Nat → Int32} : ∀ {n : Nat}, (∀ i, i < n → F i = G i) → sm_i F n = sm_i G n
  | 0, _ => rfl
  | n + 1, h => by
    show sm_i F n + F n = sm_i G n + G n
    rw [sm_ic (fun i hi => h i (Nat.lt_succ_of_lt hi)), h n (Nat.lt_succ_self n)]
theorem sm_l0 {F : Nat → Int64} : ∀ {n : Nat}, (∀ i, i < n → F i = 0) → sm_l F n = 0
  | 0, _ => rfl
  | n + 1, h => by
    show sm_l F n + F n = 0
    rw [sm_l0 (fun i hi => h i (Nat.lt_succ_of_lt hi)), h n (Nat.lt_succ_self n)]
    rfl
theorem sm_ladd (F G : Nat → Int64) : ∀ n : Nat, sm_l (fun i => F i + G i) n = sm_l F n + sm_l G n
  | 0 => rfl
  | n + 1 => by
    show sm_l (fun i => F i + G i) n + (F n + G n) = (sm_l F n + F n) + (sm_l G n + G n)
    rw [sm_ladd F G n]
    simp only [Int64.add_assoc]
    congr 1
    rw [← Int64.add_assoc, Int64.add_comm (sm_l G n), Int64.add_assoc]
/-- a place in a range of n, as a number -/
def ix_n (x : Int32) (n : Nat) : Option Nat := if 0 ≤ x.toInt ∧ x.toInt < n then some x.toInt.toNat else none
theorem ix_some {x : Int32} {n k : Nat} (hn : n < 2 ^ 31) : ix_n x n = some k ↔ x = nI k ∧ k < n := by
  unfold ix_n
  constructor
  · intro h
    split at h
    · rename_i hc
      cases h
      refine ⟨?_, by omega⟩
      apply Int32.toInt_inj.mp
      rw [nI_toInt (by omega)]
      omega
    · cases h
  · rintro ⟨rfl, hk⟩
    rw [nI_toInt (by omega), if_pos (by omega)]
    simp
theorem ix_none {x : Int32} {n : Nat} : ix_n x n = none ↔ ¬ (0 ≤ x.toInt ∧ x.toInt < n) := by
  unfold ix_n
  split <;> simp_all
/-! THE STATE of class and reference, in one type: rows of longs, rows of ints, the queues of the links, counts. A cell has a NAME (f, i, j): f its kind; an address book A gives its address. 
kinds: 0 house; 1 its kiosks; 4 rateTops, 5 its rows; 6 rateBottoms, 7 its rows; 8 a kiosk i; 9 stocks 10 tills 11 made; 12 stocksAt 13 tillsAt 14 madeAt; 15 eventsAt; 16 17 18 their rows (i, j); 19 a link i; 20 a list i (12: the house's links, else link i's things); 21 its array; 22 roads, 23 its rows; 24 a thing at place j of link i; 30 the reference; 31 from 32 to 33 ordered 34 up 35 down 36 kioskOf 37 currencyOf 38 at 39 event 40 toStock 41 toTill 42 toMint 43 kind 44 link 45 currency 46 amount 47 number 48 sentAt 49 takenAt 50 recordedAt; 60 the law's out
counts n f i: 0 kiosks, 1 links, 2 numbers, 3 from of link i, 4 to of link i, 5 the room of list i, 6 whether a thing is in the hand (kind 25), 7 the links that are made, 8 whether a taken thing is kept aside (kind 26) -/
abbrev hs_T : Type := Int32 × Int32 × Int32 × Int32
abbrev hs_S : Type := (Nat → Nat → Nat → Nat → Int64) × (Nat → Nat → Nat → Nat → Int32) × (Nat → List hs_T) × (Nat → Nat → Nat)
def hs_l (h : hs_S) (f i j : Nat) : Nat → Int64 := h.1 f i j
def hs_i (h : hs_S) (f i j : Nat) : Nat → Int32 := h.2.1 f i j
def hs_q (h : hs_S) (i : Nat) : List hs_T := h.2.2.1 i
def hs_n (h : hs_S) (f i : Nat) : Nat := h.2.2.2 f i
def hs_sl (h : hs_S) (f i j : Nat) (r : Nat → Int64) : hs_S := (fun f' i' j' => if f' = f ∧ i' = i ∧ j' = j then r else h.1 f' i' j', h.2)
def hs_si (h : hs_S) (f i j : Nat) (r : Nat → Int32) : hs_S := (h.1, fun f' i' j' => if f' = f ∧ i' = i ∧ j' = j then r else h.2.1 f' i' j', h.2.2)
def hs_sq (h : hs_S) (i : Nat) (r : List hs_T) : hs_S := (h.1, h.2.1, fun i' => if i' = i then r else h.2.2.1 i', h.2.2.2)
def hs_sn (h : hs_S) (f i v : Nat) : hs_S := (h.1, h.2.1, h.2.2.1, fun f' i' => if f' = f ∧ i' = i then v else h.2.2.2 f' i')
theorem hs_l_sl (h : hs_S) (f i j : Nat) (r : Nat → Int64) (f' i' j' : Nat) : hs_l (hs_sl h f i j r) f' i' j' = if f' = f ∧ i' = i ∧ j' = j then r else hs_l h f' i' j' := rfl
theorem hs_l_si (h : hs_S) (f i j : Nat) (r : Nat → Int32) (f' i' j' : Nat) : hs_l (hs_si h f i j r) f' i' j' = hs_l h f' i' j' := rfl
theorem hs_l_sq (h : hs_S) (i : Nat) (r : List hs_T) (f' i' j' : Nat) : hs_l (hs_sq h i r) f' i' j' = hs_l h f' i' j' := rfl
theorem hs_l_sn (h : hs_S) (f i v : Nat) (f' i' j' : Nat) : hs_l (hs_sn h f i v) f' i' j' = hs_l h f' i' j' := rfl
theorem hs_i_sl (h : hs_S) (f i j : Nat) (r : Nat → Int64) (f' i' j' : Nat) : hs_i (hs_sl h f i j r) f' i' j' = hs_i h f' i' j' := rfl
theorem hs_i_si (h : hs_S) (f i j : Nat) (r : Nat → Int32) (f' i' j' : Nat) : hs_i (hs_si h f i j r) f' i' j' = if f' = f ∧ i' = i ∧ j' = j then r else hs_i h f' i' j' := rfl
theorem hs_i_sq (h : hs_S) (i : Nat) (r : List hs_T) (f' i' j' : Nat) : hs_i (hs_sq h i r) f' i' j' = hs_i h f' i' j' := rfl
theorem hs_i_sn (h : hs_S) (f i v : Nat) (f' i' j' : Nat) : hs_i (hs_sn h f i v) f' i' j' = hs_i h f' i' j' := rfl
theorem hs_q_sl (h : hs_S) (f i j : Nat) (r : Nat → Int64) (i' : Nat) : hs_q (hs_sl h f i j r) i' = hs_q h i' := rfl
theorem hs_q_si (h : hs_S) (f i j : Nat) (r : Nat → Int32) (i' : Nat) : hs_q (hs_si h f i j r) i' = hs_q h i' := rfl
theorem hs_q_sq (h : hs_S) (i : Nat) (r : List hs_T) (i' : Nat) : hs_q (hs_sq h i r) i' = if i' = i then r else hs_q h i' := rfl
theorem hs_q_sn (h : hs_S) (f i v : Nat) (i' : Nat) : hs_q (hs_sn h f i v) i' = hs_q h i' := rfl
theorem hs_n_sl (h : hs_S) (f i j : Nat) (r : Nat → Int64) (f' i' : Nat) : hs_n (hs_sl h f i j r) f' i' = hs_n h f' i' := rfl
theorem hs_n_si (h : hs_S) (f i j : Nat) (r : Nat → Int32) (f' i' : Nat) : hs_n (hs_si h f i j r) f' i' = hs_n h f' i' := rfl
theorem hs_n_sq (h : hs_S) (i : Nat) (r : List hs_T) (f' i' : Nat) : hs_n (hs_sq h i r) f' i' = hs_n h f' i' := rfl
theorem hs_n_sn (h : hs_S) (f i v : Nat) (f' i' : Nat) : hs_n (hs_sn h f i v) f' i' = if f' = f ∧ i' = i then v else hs_n h f' i' := rfl
/-- 1: an array of longs, 2: of ints, 3: of booleans, 0: else -/
def hs_c (f : Nat) : Nat := ([0, 0, 0, 0, 0, 2, 0, 2, 0, 1, 1, 1, 0, 0, 0, 2, 1, 1, 1, 0, 0, 0, 0, 1, 0, 0, 0, 0, 0, 0, 0, 2, 2, 3, 2, 2, 2, 2, 2, 2, 1, 1, 1, 2, 2, 2, 2, 2, 2, 2, 2, 0, 0, 0, 0, 0, 0, 0, 0, 0, 1] : List Nat).getD f 0
/-- how long an array of that kind is -/
def hs_len (f : Nat) : Nat := ([0, 0, 0, 0, 3, 3, 3, 3, 0, 3, 3, 3, 16, 16, 16, 16, 3, 3, 3, 0, 0, 0, 16, 3, 0, 0, 0, 0, 0, 0, 0, 12, 12, 12, 9, 9, 1100, 1100, 1100, 1100, 1100, 1100, 1100, 800, 800, 800, 800, 800, 800, 800, 96, 0, 0, 0, 0, 0, 0, 0, 0, 0, 1] : List Nat).getD f 0
/-- the names that are there -/
def hs_dom (h : hs_S) (f i j : Nat) : Bool :=
  if f = 0 ∨ f = 1 ∨ f = 4 ∨ f = 6 then decide (i = 0 ∧ j = 0)
  else if f = 5 ∨ f = 7 then decide (i < 3 ∧ j = 0)
  else if f = 8 ∨ f = 9 ∨ f = 10 ∨ f = 11 ∨ f = 12 ∨ f = 13 ∨ f = 14 ∨ f = 15 then decide (i < hs_n h 0 0 ∧ j = 0)
  else if f = 16 ∨ f = 17 ∨ f = 18 then decide (i < hs_n h 0 0 ∧ j < 16)
  else if f = 19 ∨ f = 22 then decide (i < hs_n h 7 0 ∧ j = 0)
  else if f = 20 then decide ((i < hs_n h 7 0 ∨ i = 12) ∧ j = 0)
  else if f = 21 then decide ((i < hs_n h 7 0 ∨ i = 12) ∧ j = 0 ∧ 0 < hs_n h 5 i)
  else if f = 23 then decide (i < hs_n h 7 0 ∧ j < 16)
  else if f = 24 then decide (i < hs_n h 7 0 ∧ j < (hs_q h i).length)
  else if f = 25 then decide (hs_n h 6 0 = 1 ∧ i = 0 ∧ j = 0)
  else if f = 26 then decide (hs_n h 8 0 = 1 ∧ i = 0 ∧ j = 0)
  else if 30 ≤ f ∧ f ≤ 50 ∨ f = 60 then decide (i = 0 ∧ j = 0)
  else false
abbrev hs_A : Type := Nat → Nat → Nat → Nat
abbrev hs_rf (f : Nat → Option Nat) : (Nat → Int32) ⊕ (Nat → Int64) ⊕ (Nat → UInt32) ⊕ (Nat → UInt64) ⊕ (Nat → Option Nat) := .inr (.inr (.inr (.inr f)))
theorem mq_aq {M : mo_M} {cA : ClassId} {a n j b : Nat} {B : Nat → Nat} {i : Int32} {N : Nat → Prop} (h : M a = some (.inl (cA, n, hs_rf (fun k => if k < n then some (B k) else none)))) (hi : i = nI j) (hj : j < n) (hn : n < 2 ^ 31) (hb : B j = b) (hN : N b) : mp_ar cA M a i N := mq_ar h hi hj hn (by rw [if_pos hj, hb]) hN
/-- how many a list has -/
def hs_z (h : hs_S) (i : Nat) : Nat := if i = 12 then hs_n h 1 0 else (hs_q h i).length
/-- what lies at a name that is no array of numbers -/
def hs_o (g : Nat → ClassId) (e0 : Nat → Nat) (A : hs_A) (h : hs_S) (f i j : Nat) : va_E :=
  if f = 0 then .inr (0, [.ref (A 1 0 0), .ref (A 20 12 0), .ref (A 4 0 0), .ref (A 6 0 0), .int (nI (hs_n h 2 0))])
  else if f = 1 then .inl (g 3, hs_n h 0 0, hs_rf (fun k => if k < hs_n h 0 0 then some (A 8 k 0) else none))
  else if f = 4 then .inl (g 5, 3, hs_rf (fun c => if c < 3 then some (A 5 c 0) else none))
  else if f = 6 then .inl (g 5, 3, hs_rf (fun c => if c < 3 then some (A 7 c 0) else none))
  else if f = 8 then .inr (1, [.ref (A 9 i 0), .ref (A 10 i 0), .ref (A 11 i 0), .int (hs_i h f i j 0), .int (hs_i h f i j 1), .ref (A 12 i 0), .ref (A 13 i 0), .ref (A 14 i 0), .ref (A 15 i 0)])
  else if f = 12 then .inl (g 4, 16, hs_rf (fun n => if n < 16 then some (A 16 i n) else none))
  else if f = 13 then .inl (g 4, 16, hs_rf (fun n => if n < 16 then some (A 17 i n) else none))
  else if f = 14 then .inl (g 4, 16, hs_rf (fun n => if n < 16 then some (A 18 i n) else none))
  else if f = 19 then .inr (2, [.ref (A 8 (hs_n h 3 i) 0), .ref (A 8 (hs_n h 4 i) 0), .int (hs_i h f i j 0), .ref (A 20 i 0), .ref (A 22 i 0), .int (hs_i h f i j 1)])
  else if f = 20 then .inr (5, [.int (hs_i h f i j 0), .ref (if hs_n h 5 i = 0 then e0 0 else A 21 i 0), .int (nI (hs_z h i))])
  else if f = 21 then .inl (g 6, hs_n h 5 i, hs_rf (fun p => if p < hs_z h i then some (if i = 12 then A 19 p 0 else A 24 i p) else none))
  else if f = 22 then .inl (g 4, 16, hs_rf (fun n => if n < 16 then some (A 23 i n) else none))
  else if f = 24 then .inr (3, [.int ((hs_q h i).getD j (0, 0, 0, 0)).1, .int ((hs_q h i).getD j (0, 0, 0, 0)).2.1, .int ((hs_q h i).getD j (0, 0, 0, 0)).2.2.1, .int ((hs_q h i).getD j (0, 0, 0, 0)).2.2.2])
  else if f = 30 then .inr (4, [.int (hs_i h f i j 0), .int (hs_i h f i j 1), .int (hs_i h f i j 2), .int (hs_i h f i j 3), .ref (A 31 0 0), .ref (A 32 0 0), .ref (A 33 0 0), .ref (A 34 0 0), .ref (A 35 0 0), .int (hs_i h f i j 4), .ref (A 36 0 0), .ref (A 37 0 0), .ref (A 38 0 0), .ref (A 39 0 0), .ref (A 40 0 0), .ref (A 41 0 0), .ref (A 42 0 0), .int (hs_i h f i j 5), .ref (A 43 0 0), .ref (A 44 0 0), .ref (A 45 0 0), .ref (A 46 0 0), .ref (A 47 0 0), .ref (A 48 0 0), .ref (A 49 0 0), .int (hs_i h f i j 6), .ref (A 50 0 0)])
  else if f = 25 then .inr (3, [.int (hs_i h f i j 0), .int (hs_i h f i j 1), .int (hs_i h f i j 2), .int (hs_i h f i j 3)])
  else if f = 26 then .inr (3, [.int (hs_i h f i j 0), .int (hs_i h f i j 1), .int (hs_i h f i j 2), .int (hs_i h f i j 3)])
  else .inr (0, [])
/-- what lies at a name -/
def hs_e (g : Nat → ClassId) (e0 : Nat → Nat) (A : hs_A) (h : hs_S) (f i j : Nat) : va_E :=
  if hs_c f = 1 then .inl (g 1, hs_len f, .inr (.inl (hs_l h f i j)))
  else if hs_c f = 2 then .inl (g 0, hs_len f, .inl (hs_i h f i j))
  else if hs_c f = 3 then .inl (g 2, hs_len f, .inl (hs_i h f i j))
  else hs_o g e0 A h f i j
/-- the map holds the state, by the book A: names that are there have addresses of their own -/
def hs_in (g : Nat → ClassId) (e0 : Nat → Nat) (A : hs_A) (h : hs_S) (M : mo_M) : Prop :=
  (∀ f i j, hs_dom h f i j = true → M (A f i j) = some (hs_e g e0 A h f i j)) ∧
  (∀ f i j f' i' j', hs_dom h f i j = true → hs_dom h f' i' j' = true → A f i j = A f' i' j' → f = f' ∧ i = i' ∧ j = j') ∧ hs_n h 1 0 ≤ hs_n h 7 0
section HSL
variable {g : Nat → ClassId} {e0 : Nat → Nat} {A : hs_A} {h h' : hs_S} {M : mo_M} {f i j : Nat}
/-- one cell is written, the others say the same -/
theorem hs_wr (H : hs_in g e0 A h M) (hd : hs_dom h f i j = true) (hn7 : hs_n h' 1 0 ≤ hs_n h' 7 0) (hdom : ∀ f' i' j', hs_dom h' f' i' j' = hs_dom h f' i' j') (he : ∀ f' i' j', hs_dom h f' i' j' = true → ¬ (f' = f ∧ i' = i ∧ j' = j) → hs_e g e0 A h' f' i' j' = hs_e g e0 A h f' i' j') {e : va_E} (hn : hs_e g e0 A h' f i j = e) : hs_in g e0 A h' (va_up M (A f i j) (some e)) := by
  subst hn
  refine ⟨fun f' i' j' hd' => ?_, fun a b c a' b' c' h1 h2 => H.2.1 a b c a' b' c' (by rw [← hdom]; exact h1) (by rw [← hdom]; exact h2), hn7⟩
  rw [hdom] at hd'
  by_cases hq : f' = f ∧ i' = i ∧ j' = j
  · obtain ⟨rfl, rfl, rfl⟩ := hq
    rw [va_up_self]
  · rw [va_up_ne _ _ (fun q => hq (H.2.1 _ _ _ _ _ _ hd' hd q)), he _ _ _ hd' hq]
    exact H.1 _ _ _ hd'
/-- what lies at a name hangs on its own rows, the counts and the queues -/
theorem hs_ec (hd : hs_dom h f i j = true) (hl : hs_l h' f i j = hs_l h f i j) (hi : hs_i h' f i j = hs_i h f i j) (hn : ∀ a b, hs_n h' a b = hs_n h a b) (hq : ∀ a, hs_q h' a = hs_q h a) : hs_e g e0 A h' f i j = hs_e g e0 A h f i j := by
  unfold hs_e hs_o hs_z
  simp only [hl, hi, hn, hq]
theorem hs_dom_sl (r : Nat → Int64) (f' i' j' : Nat) : hs_dom (hs_sl h f i j r) f' i' j' = hs_dom h f' i' j' := rfl
theorem hs_dom_si (r : Nat → Int32) (f' i' j' : Nat) : hs_dom (hs_si h f i j r) f' i' j' = hs_dom h f' i' j' := rfl
/-- a row of longs is written -/
theorem hs_wl (H : hs_in g e0 A h M) (hd : hs_dom h f i j = true) (hc : hs_c f = 1) (r : Nat → Int64) : hs_in g e0 A (hs_sl h f i j r) (va_up M (A f i j) (some (.inl (g 1, hs_len f, .inr (.inl r))))) := by
  refine hs_wr (h' := hs_sl h f i j r) H hd H.2.2 (fun _ _ _ => rfl) (fun f' i' j' hd' hq => hs_ec hd' ?_ rfl (fun _ _ => rfl) (fun _ => rfl)) ?_
  · rw [hs_l_sl, if_neg hq]
  · unfold hs_e
    rw [if_pos hc, hs_l_sl, if_pos ⟨rfl, rfl, rfl⟩]
/-- a row of ints is written -/
theorem hs_wI (H : hs_in g e0 A h M) (hd : hs_dom h f i j = true) (r : Nat → Int32) {e : va_E} (he : hs_e g e0 A (hs_si h f i j r) f i j = e) : hs_in g e0 A (hs_si h f i j r) (va_up M (A f i j) (some e)) := by
  refine hs_wr (h' := hs_si h f i j r) H hd H.2.2 (fun _ _ _ => rfl) (fun f' i' j' hd' hq => hs_ec hd' rfl ?_ (fun _ _ => rfl) (fun _ => rfl)) he
  rw [hs_i_si, if_neg hq]
theorem hs_wi (H : hs_in g e0 A h M) (hd : hs_dom h f i j = true) (hc : hs_c f = 2) (r : Nat → Int32) : hs_in g e0 A (hs_si h f i j r) (va_up M (A f i j) (some (.inl (g 0, hs_len f, .inl r)))) := by
  refine hs_wI H hd r ?_
  have e : hs_i (hs_si h f i j r) f i j = r := by rw [hs_i_si, if_pos ⟨rfl, rfl, rfl⟩]
  simp only [hs_e, hc, e]
  rfl
theorem hs_wz (H : hs_in g e0 A h M) (hd : hs_dom h f i j = true) (hc : hs_c f = 3) (r : Nat → Int32) : hs_in g e0 A (hs_si h f i j r) (va_up M (A f i j) (some (.inl (g 2, hs_len f, .inl r)))) := by
  refine hs_wI H hd r ?_
  have e : hs_i (hs_si h f i j r) f i j = r := by rw [hs_i_si, if_pos ⟨rfl, rfl, rfl⟩]
  simp only [hs_e, hc, e]
  rfl
theorem hs_0 (H : hs_in g e0 A h M) : M (A 0 0 0) = some (.inr (0, [.ref (A 1 0 0), .ref (A 20 12 0), .ref (A 4 0 0), .ref (A 6 0 0), .int (nI (hs_n h 2 0))])) := H.1 0 0 0 rfl
theorem hs_1 (H : hs_in g e0 A h M) : M (A 1 0 0) = some (.inl (g 3, hs_n h 0 0, hs_rf (fun k => if k < hs_n h 0 0 then some (A 8 k 0) else none))) := H.1 1 0 0 rfl
theorem hs_4 (H : hs_in g e0 A h M) : M (A 4 0 0) = some (.inl (g 5, 3, hs_rf (fun c => if c < 3 then some (A 5 c 0) else none))) := H.1 4 0 0 rfl
theorem hs_6 (H : hs_in g e0 A h M) : M (A 6 0 0) = some (.inl (g 5, 3, hs_rf (fun c => if c < 3 then some (A 7 c 0) else none))) := H.1 6 0 0 rfl
theorem hs_8 (H : hs_in g e0 A h M) (hi : i < hs_n h 0 0) : M (A 8 i 0) = some (.inr (1, [.ref (A 9 i 0), .ref (A 10 i 0), .ref (A 11 i 0), .int (hs_i h 8 i 0 0), .int (hs_i h 8 i 0 1), .ref (A 12 i 0), .ref (A 13 i 0), .ref (A 14 i 0), .ref (A 15 i 0)])) := H.1 8 i 0 (by simp [hs_dom, hi])
theorem hs_12 (H : hs_in g e0 A h M) (hi : i < hs_n h 0 0) : M (A 12 i 0) = some (.inl (g 4, 16, hs_rf (fun n => if n < 16 then some (A 16 i n) else none))) := H.1 12 i 0 (by simp [hs_dom, hi])
theorem hs_13 (H : hs_in g e0 A h M) (hi : i < hs_n h 0 0) : M (A 13 i 0) = some (.inl (g 4, 16, hs_rf (fun n => if n < 16 then some (A 17 i n) else none))) := H.1 13 i 0 (by simp [hs_dom, hi])
theorem hs_14 (H : hs_in g e0 A h M) (hi : i < hs_n h 0 0) : M (A 14 i 0) = some (.inl (g 4, 16, hs_rf (fun n => if n < 16 then some (A 18 i n) else none))) := H.1 14 i 0 (by simp [hs_dom, hi])
theorem hs_9 (H : hs_in g e0 A h M) (hi : i < hs_n h 0 0) : M (A 9 i 0) = some (.inl (g 1, 3, .inr (.inl (hs_l h 9 i 0)))) := H.1 9 i 0 (by simp [hs_dom, hi])
theorem hs_10 (H : hs_in g e0 A h M) (hi : i < hs_n h 0 0) : M (A 10 i 0) = some (.inl (g 1, 3, .inr (.inl (hs_l h 10 i 0)))) := H.1 10 i 0 (by simp [hs_dom, hi])
theorem hs_11 (H : hs_in g e0 A h M) (hi : i < hs_n h 0 0) : M (A 11 i 0) = some (.inl (g 1, 3, .inr (.inl (hs_l h 11 i 0)))) := H.1 11 i 0 (by simp [hs_dom, hi])
theorem hs_16 (H : hs_in g e0 A h M) (hi : i < hs_n h 0 0) (hj : j < 16) : M (A 16 i j) = some (.inl (g 1, 3, .inr (.inl (hs_l h 16 i j)))) := H.1 16 i j (by simp [hs_dom, hi, hj])
theorem hs_17 (H : hs_in g e0 A h M) (hi : i < hs_n h 0 0) (hj : j < 16) : M (A 17 i j) = some (.inl (g 1, 3, .inr (.inl (hs_l h 17 i j)))) := H.1 17 i j (by simp [hs_dom, hi, hj])
theorem hs_18 (H : hs_in g e0 A h M) (hi : i < hs_n h 0 0) (hj : j < 16) : M (A 18 i j) = some (.inl (g 1, 3, .inr (.inl (hs_l h 18 i j)))) := H.1 18 i j (by simp [hs_dom, hi, hj])
theorem hs_15 (H : hs_in g e0 A h M) (hi : i < hs_n h 0 0) : M (A 15 i 0) = some (.inl (g 0, 16, .inl (hs_i h 15 i 0))) := H.1 15 i 0 (by simp [hs_dom, hi])
theorem hs_5 (H : hs_in g e0 A h M) (hi : i < 3) : M (A 5 i 0) = some (.inl (g 0, 3, .inl (hs_i h 5 i 0))) := H.1 5 i 0 (by simp [hs_dom, hi])
theorem hs_7 (H : hs_in g e0 A h M) (hi : i < 3) : M (A 7 i 0) = some (.inl (g 0, 3, .inl (hs_i h 7 i 0))) := H.1 7 i 0 (by simp [hs_dom, hi])
theorem hm_19 (H : hs_in g e0 A h M) (hi : i < hs_n h 7 0) : M (A 19 i 0) = some (.inr (2, [.ref (A 8 (hs_n h 3 i) 0), .ref (A 8 (hs_n h 4 i) 0), .int (hs_i h 19 i 0 0), .ref (A 20 i 0), .ref (A 22 i 0), .int (hs_i h 19 i 0 1)])) := H.1 19 i 0 (by simp [hs_dom, hi])
theorem hs_19 (H : hs_in g e0 A h M) (hi : i < hs_n h 1 0) : M (A 19 i 0) = some (.inr (2, [.ref (A 8 (hs_n h 3 i) 0), .ref (A 8 (hs_n h 4 i) 0), .int (hs_i h 19 i 0 0), .ref (A 20 i 0), .ref (A 22 i 0), .int (hs_i h 19 i 0 1)])) := hm_19 H (by have := H.2.2; omega)
theorem hm_22 (H : hs_in g e0 A h M) (hi : i < hs_n h 7 0) : M (A 22 i 0) = some (.inl (g 4, 16, hs_rf (fun n => if n < 16 then some (A 23 i n) else none))) := H.1 22 i 0 (by simp [hs_dom, hi])
theorem hs_22 (H : hs_in g e0 A h M) (hi : i < hs_n h 1 0) : M (A 22 i 0) = some (.inl (g 4, 16, hs_rf (fun n => if n < 16 then some (A 23 i n) else none))) := hm_22 H (by have := H.2.2; omega)
theorem hm_20 (H : hs_in g e0 A h M) (hi : i < hs_n h 7 0 ∨ i = 12) : M (A 20 i 0) = some (.inr (5, [.int (hs_i h 20 i 0 0), .ref (if hs_n h 5 i = 0 then e0 0 else A 21 i 0), .int (nI (hs_z h i))])) := H.1 20 i 0 (by simp [hs_dom, hi])
theorem hs_20 (H : hs_in g e0 A h M) (hi : i < hs_n h 1 0 ∨ i = 12) : M (A 20 i 0) = some (.inr (5, [.int (hs_i h 20 i 0 0), .ref (if hs_n h 5 i = 0 then e0 0 else A 21 i 0), .int (nI (hs_z h i))])) := hm_20 H (by have := H.2.2; omega)
theorem hm_21 (H : hs_in g e0 A h M) (hi : i < hs_n h 7 0 ∨ i = 12) (hc : 0 < hs_n h 5 i) : M (A 21 i 0) = some (.inl (g 6, hs_n h 5 i, hs_rf (fun p => if p < hs_z h i then some (if i = 12 then A 19 p 0 else A 24 i p) else none))) := H.1 21 i 0 (by simp [hs_dom, hi, hc])
theorem hs_21 (H : hs_in g e0 A h M) (hi : i < hs_n h 1 0 ∨ i = 12) (hc : 0 < hs_n h 5 i) : M (A 21 i 0) = some (.inl (g 6, hs_n h 5 i, hs_rf (fun p => if p < hs_z h i then some (if i = 12 then A 19 p 0 else A 24 i p) else none))) := hm_21 H (by have := H.2.2; omega) hc
theorem hm_23 (H : hs_in g e0 A h M) (hi : i < hs_n h 7 0) (hj : j < 16) : M (A 23 i j) = some (.inl (g 1, 3, .inr (.inl (hs_l h 23 i j)))) := H.1 23 i j (by simp [hs_dom, hi, hj])
theorem hs_23 (H : hs_in g e0 A h M) (hi : i < hs_n h 1 0) (hj : j < 16) : M (A 23 i j) = some (.inl (g 1, 3, .inr (.inl (hs_l h 23 i j)))) := hm_23 H (by have := H.2.2; omega) hj
theorem hm_24 (H : hs_in g e0 A h M) (hi : i < hs_n h 7 0) (hj : j < (hs_q h i).length) : M (A 24 i j) = some (.inr (3, [.int ((hs_q h i).getD j (0, 0, 0, 0)).1, .int ((hs_q h i).getD j (0, 0, 0, 0)).2.1, .int ((hs_q h i).getD j (0, 0, 0, 0)).2.2.1, .int ((hs_q h i).getD j (0, 0, 0, 0)).2.2.2])) := H.1 24 i j (by simp [hs_dom, hi, hj])
theorem hs_24 (H : hs_in g e0 A h M) (hi : i < hs_n h 1 0) (hj : j < (hs_q h i).length) : M (A 24 i j) = some (.inr (3, [.int ((hs_q h i).getD j (0, 0, 0, 0)).1, .int ((hs_q h i).getD j (0, 0, 0, 0)).2.1, .int ((hs_q h i).getD j (0, 0, 0, 0)).2.2.1, .int ((hs_q h i).getD j (0, 0, 0, 0)).2.2.2])) := hm_24 H (by have := H.2.2; omega) hj
theorem hs_25 (H : hs_in g e0 A h M) (hi : hs_n h 6 0 = 1) : M (A 25 0 0) = some (.inr (3, [.int (hs_i h 25 0 0 0), .int (hs_i h 25 0 0 1), .int (hs_i h 25 0 0 2), .int (hs_i h 25 0 0 3)])) := H.1 25 0 0 (by simp [hs_dom, hi])
theorem hs_26 (H : hs_in g e0 A h M) (hi : hs_n h 8 0 = 1) : M (A 26 0 0) = some (.inr (3, [.int (hs_i h 26 0 0 0), .int (hs_i h 26 0 0 1), .int (hs_i h 26 0 0 2), .int (hs_i h 26 0 0 3)])) := H.1 26 0 0 (by simp [hs_dom, hi])
theorem hs_30 (H : hs_in g e0 A h M) : M (A 30 0 0) = some (.inr (4, [.int (hs_i h 30 0 0 0), .int (hs_i h 30 0 0 1), .int (hs_i h 30 0 0 2), .int (hs_i h 30 0 0 3), .ref (A 31 0 0), .ref (A 32 0 0), .ref (A 33 0 0), .ref (A 34 0 0), .ref (A 35 0 0), .int (hs_i h 30 0 0 4), .ref (A 36 0 0), .ref (A 37 0 0), .ref (A 38 0 0), .ref (A 39 0 0), .ref (A 40 0 0), .ref (A 41 0 0), .ref (A 42 0 0), .int (hs_i h 30 0 0 5), .ref (A 43 0 0), .ref (A 44 0 0), .ref (A 45 0 0), .ref (A 46 0 0), .ref (A 47 0 0), .ref (A 48 0 0), .ref (A 49 0 0), .int (hs_i h 30 0 0 6), .ref (A 50 0 0)])) := H.1 30 0 0 rfl
theorem hs_31 (H : hs_in g e0 A h M) : M (A 31 0 0) = some (.inl (g 0, 12, .inl (hs_i h 31 0 0))) := H.1 31 0 0 rfl
theorem hs_32 (H : hs_in g e0 A h M) : M (A 32 0 0) = some (.inl (g 0, 12, .inl (hs_i h 32 0 0))) := H.1 32 0 0 rfl
theorem hs_33 (H : hs_in g e0 A h M) : M (A 33 0 0) = some (.inl (g 2, 12, .inl (hs_i h 33 0 0))) := H.1 33 0 0 rfl
theorem hs_34 (H : hs_in g e0 A h M) : M (A 34 0 0) = some (.inl (g 0, 9, .inl (hs_i h 34 0 0))) := H.1 34 0 0 rfl
theorem hs_35 (H : hs_in g e0 A h M) : M (A 35 0 0) = some (.inl (g 0, 9, .inl (hs_i h 35 0 0))) := H.1 35 0 0 rfl
theorem hs_36 (H : hs_in g e0 A h M) : M (A 36 0 0) = some (.inl (g 0, 1100, .inl (hs_i h 36 0 0))) := H.1 36 0 0 rfl
theorem hs_37 (H : hs_in g e0 A h M) : M (A 37 0 0) = some (.inl (g 0, 1100, .inl (hs_i h 37 0 0))) := H.1 37 0 0 rfl
theorem hs_38 (H : hs_in g e0 A h M) : M (A 38 0 0) = some (.inl (g 0, 1100, .inl (hs_i h 38 0 0))) := H.1 38 0 0 rfl
theorem hs_39 (H : hs_in g e0 A h M) : M (A 39 0 0) = some (.inl (g 0, 1100, .inl (hs_i h 39 0 0))) := H.1 39 0 0 rfl
theorem hs_40 (H : hs_in g e0 A h M) : M (A 40 0 0) = some (.inl (g 1, 1100, .inr (.inl (hs_l h 40 0 0)))) := H.1 40 0 0 rfl
theorem hs_41 (H : hs_in g e0 A h M) : M (A 41 0 0) = some (.inl (g 1, 1100, .inr (.inl (hs_l h 41 0 0)))) := H.1 41 0 0 rfl
theorem hs_42 (H : hs_in g e0 A h M) : M (A 42 0 0) = some (.inl (g 1, 1100, .inr (.inl (hs_l h 42 0 0)))) := H.1 42 0 0 rfl
theorem hs_43 (H : hs_in g e0 A h M) : M (A 43 0 0) = some (.inl (g 0, 800, .inl (hs_i h 43 0 0))) := H.1 43 0 0 rfl
theorem hs_44 (H : hs_in g e0 A h M) : M (A 44 0 0) = some (.inl (g 0, 800, .inl (hs_i h 44 0 0))) := H.1 44 0 0 rfl
theorem hs_45 (H : hs_in g e0 A h M) : M (A 45 0 0) = some (.inl (g 0, 800, .inl (hs_i h 45 0 0))) := H.1 45 0 0 rfl
theorem hs_46 (H : hs_in g e0 A h M) : M (A 46 0 0) = some (.inl (g 0, 800, .inl (hs_i h 46 0 0))) := H.1 46 0 0 rfl
theorem hs_47 (H : hs_in g e0 A h M) : M (A 47 0 0) = some (.inl (g 0, 800, .inl (hs_i h 47 0 0))) := H.1 47 0 0 rfl
theorem hs_48 (H : hs_in g e0 A h M) : M (A 48 0 0) = some (.inl (g 0, 800, .inl (hs_i h 48 0 0))) := H.1 48 0 0 rfl
theorem hs_49 (H : hs_in g e0 A h M) : M (A 49 0 0) = some (.inl (g 0, 800, .inl (hs_i h 49 0 0))) := H.1 49 0 0 rfl
theorem hs_50 (H : hs_in g e0 A h M) : M (A 50 0 0) = some (.inl (g 0, 96, .inl (hs_i h 50 0 0))) := H.1 50 0 0 rfl
theorem hs_60 (H : hs_in g e0 A h M) : M (A 60 0 0) = some (.inl (g 1, 1, .inr (.inl (hs_l h 60 0 0)))) := H.1 60 0 0 rfl
theorem hs_w8_0 (H : hs_in g e0 A h M) (hi : i < hs_n h 0 0) (v : Int32) : hs_in g e0 A (hs_si h 8 i 0 (upd (hs_i h 8 i 0) 0 v)) (va_up M (A 8 i 0) (some (.inr (1, [.ref (A 9 i 0), .ref (A 10 i 0), .ref (A 11 i 0), .int v, .int (hs_i h 8 i 0 1), .ref (A 12 i 0), .ref (A 13 i 0), .ref (A 14 i 0), .ref (A 15 i 0)])))) := by
  refine hs_wI H (by simp [hs_dom, hi]) _ ?_
  simp [hs_e, hs_c, hs_o, hs_i_si, upd, hs_n_si, hs_q_si, hs_z]
theorem hs_w8_1 (H : hs_in g e0 A h M) (hi : i < hs_n h 0 0) (v : Int32) : hs_in g e0 A (hs_si h 8 i 0 (upd (hs_i h 8 i 0) 1 v)) (va_up M (A 8 i 0) (some (.inr (1, [.ref (A 9 i 0), .ref (A 10 i 0), .ref (A 11 i 0), .int (hs_i h 8 i 0 0), .int v, .ref (A 12 i 0), .ref (A 13 i 0), .ref (A 14 i 0), .ref (A 15 i 0)])))) := by
  refine hs_wI H (by simp [hs_dom, hi]) _ ?_
  simp [hs_e, hs_c, hs_o, hs_i_si, upd, hs_n_si, hs_q_si, hs_z]
theorem hs_w19_1 (H : hs_in g e0 A h M) (hi : i < hs_n h 7 0) (v : Int32) : hs_in g e0 A (hs_si h 19 i 0 (upd (hs_i h 19 i 0) 1 v)) (va_up M (A 19 i 0) (some (.inr (2, [.ref (A 8 (hs_n h 3 i) 0), .ref (A 8 (hs_n h 4 i) 0), .int (hs_i h 19 i 0 0), .ref (A 20 i 0), .ref (A 22 i 0), .int v])))) := by
  refine hs_wI H (by simp [hs_dom, hi]) _ ?_
  simp [hs_e, hs_c, hs_o, hs_i_si, upd, hs_n_si, hs_q_si, hs_z]
theorem hs_w20_0 (H : hs_in g e0 A h M) (hi : i < hs_n h 7 0 ∨ i = 12) (v : Int32) : hs_in g e0 A (hs_si h 20 i 0 (upd (hs_i h 20 i 0) 0 v)) (va_up M (A 20 i 0) (some (.inr (5, [.int v, .ref (if hs_n h 5 i = 0 then e0 0 else A 21 i 0), .int (nI (hs_z h i))])))) := by
  refine hs_wI H (by simp [hs_dom, hi]) _ ?_
  simp [hs_e, hs_c, hs_o, hs_i_si, upd, hs_n_si, hs_q_si, hs_z]
  try rfl
theorem hs_w30_0 (H : hs_in g e0 A h M) (v : Int32) : hs_in g e0 A (hs_si h 30 0 0 (upd (hs_i h 30 0 0) 0 v)) (va_up M (A 30 0 0) (some (.inr (4, [.int v, .int (hs_i h 30 0 0 1), .int (hs_i h 30 0 0 2), .int (hs_i h 30 0 0 3), .ref (A 31 0 0), .ref (A 32 0 0), .ref (A 33 0 0), .ref (A 34 0 0), .ref (A 35 0 0), .int (hs_i h 30 0 0 4), .ref (A 36 0 0), .ref (A 37 0 0), .ref (A 38 0 0), .ref (A 39 0 0), .ref (A 40 0 0), .ref (A 41 0 0), .ref (A 42 0 0), .int (hs_i h 30 0 0 5), .ref (A 43 0 0), .ref (A 44 0 0), .ref (A 45 0 0), .ref (A 46 0 0), .ref (A 47 0 0), .ref (A 48 0 0), .ref (A 49 0 0), .int (hs_i h 30 0 0 6), .ref (A 50 0 0)])))) := by
  refine hs_wI H rfl _ ?_
  simp [hs_e, hs_c, hs_o, hs_i_si, upd, hs_n_si, hs_q_si, hs_z]
theorem hs_w30_1 (H : hs_in g e0 A h M) (v : Int32) : hs_in g e0 A (hs_si h 30 0 0 (upd (hs_i h 30 0 0) 1 v)) (va_up M (A 30 0 0) (some (.inr (4, [.int (hs_i h 30 0 0 0), .int v, .int (hs_i h 30 0 0 2), .int (hs_i h 30 0 0 3), .ref (A 31 0 0), .ref (A 32 0 0), .ref (A 33 0 0), .ref (A 34 0 0), .ref (A 35 0 0), .int (hs_i h 30 0 0 4), .ref (A 36 0 0), .ref (A 37 0 0), .ref (A 38 0 0), .ref (A 39 0 0), .ref (A 40 0 0), .ref (A 41 0 0), .ref (A 42 0 0), .int (hs_i h 30 0 0 5), .ref (A 43 0 0), .ref (A 44 0 0), .ref (A 45 0 0), .ref (A 46 0 0), .ref (A 47 0 0), .ref (A 48 0 0), .ref (A 49 0 0), .int (hs_i h 30 0 0 6), .ref (A 50 0 0)])))) := by
  refine hs_wI H rfl _ ?_
  simp [hs_e, hs_c, hs_o, hs_i_si, upd, hs_n_si, hs_q_si, hs_z]
theorem hs_w30_2 (H : hs_in g e0 A h M) (v : Int32) : hs_in g e0 A (hs_si h 30 0 0 (upd (hs_i h 30 0 0) 2 v)) (va_up M (A 30 0 0) (some (.inr (4, [.int (hs_i h 30 0 0 0), .int (hs_i h 30 0 0 1), .int v, .int (hs_i h 30 0 0 3), .ref (A 31 0 0), .ref (A 32 0 0), .ref (A 33 0 0), .ref (A 34 0 0), .ref (A 35 0 0), .int (hs_i h 30 0 0 4), .ref (A 36 0 0), .ref (A 37 0 0), .ref (A 38 0 0), .ref (A 39 0 0), .ref (A 40 0 0), .ref (A 41 0 0), .ref (A 42 0 0), .int (hs_i h 30 0 0 5), .ref (A 43 0 0), .ref (A 44 0 0), .ref (A 45 0 0), .ref (A 46 0 0), .ref (A 47 0 0), .ref (A 48 0 0), .ref (A 49 0 0), .int (hs_i h 30 0 0 6), .ref (A 50 0 0)])))) := by
  refine hs_wI H rfl _ ?_
  simp [hs_e, hs_c, hs_o, hs_i_si, upd, hs_n_si, hs_q_si, hs_z]
theorem hs_w30_3 (H : hs_in g e0 A h M) (v : Int32) : hs_in g e0 A (hs_si h 30 0 0 (upd (hs_i h 30 0 0) 3 v)) (va_up M (A 30 0 0) (some (.inr (4, [.int (hs_i h 30 0 0 0), .int (hs_i h 30 0 0 1), .int (hs_i h 30 0 0 2), .int v, .ref (A 31 0 0), .ref (A 32 0 0), .ref (A 33 0 0), .ref (A 34 0 0), .ref (A 35 0 0), .int (hs_i h 30 0 0 4), .ref (A 36 0 0), .ref (A 37 0 0), .ref (A 38 0 0), .ref (A 39 0 0), .ref (A 40 0 0), .ref (A 41 0 0), .ref (A 42 0 0), .int (hs_i h 30 0 0 5), .ref (A 43 0 0), .ref (A 44 0 0), .ref (A 45 0 0), .ref (A 46 0 0), .ref (A 47 0 0), .ref (A 48 0 0), .ref (A 49 0 0), .int (hs_i h 30 0 0 6), .ref (A 50 0 0)])))) := by
  refine hs_wI H rfl _ ?_
  simp [hs_e, hs_c, hs_o, hs_i_si, upd, hs_n_si, hs_q_si, hs_z]
theorem hs_w30_4 (H : hs_in g e0 A h M) (v : Int32) : hs_in g e0 A (hs_si h 30 0 0 (upd (hs_i h 30 0 0) 4 v)) (va_up M (A 30 0 0) (some (.inr (4, [.int (hs_i h 30 0 0 0), .int (hs_i h 30 0 0 1), .int (hs_i h 30 0 0 2), .int (hs_i h 30 0 0 3), .ref (A 31 0 0), .ref (A 32 0 0), .ref (A 33 0 0), .ref (A 34 0 0), .ref (A 35 0 0), .int v, .ref (A 36 0 0), .ref (A 37 0 0), .ref (A 38 0 0), .ref (A 39 0 0), .ref (A 40 0 0), .ref (A 41 0 0), .ref (A 42 0 0), .int (hs_i h 30 0 0 5), .ref (A 43 0 0), .ref (A 44 0 0), .ref (A 45 0 0), .ref (A 46 0 0), .ref (A 47 0 0), .ref (A 48 0 0), .ref (A 49 0 0), .int (hs_i h 30 0 0 6), .ref (A 50 0 0)])))) := by
  refine hs_wI H rfl _ ?_
  simp [hs_e, hs_c, hs_o, hs_i_si, upd, hs_n_si, hs_q_si, hs_z]
theorem hs_w30_5 (H : hs_in g e0 A h M) (v : Int32) : hs_in g e0 A (hs_si h 30 0 0 (upd (hs_i h 30 0 0) 5 v)) (va_up M (A 30 0 0) (some (.inr (4, [.int (hs_i h 30 0 0 0), .int (hs_i h 30 0 0 1), .int (hs_i h 30 0 0 2), .int (hs_i h 30 0 0 3), .ref (A 31 0 0), .ref (A 32 0 0), .ref (A 33 0 0), .ref (A 34 0 0), .ref (A 35 0 0), .int (hs_i h 30 0 0 4), .ref (A 36 0 0), .ref (A 37 0 0), .ref (A 38 0 0), .ref (A 39 0 0), .ref (A 40 0 0), .ref (A 41 0 0), .ref (A 42 0 0), .int v, .ref (A 43 0 0), .ref (A 44 0 0), .ref (A 45 0 0), .ref (A 46 0 0), .ref (A 47 0 0), .ref (A 48 0 0), .ref (A 49 0 0), .int (hs_i h 30 0 0 6), .ref (A 50 0 0)])))) := by
  refine hs_wI H rfl _ ?_
  simp [hs_e, hs_c, hs_o, hs_i_si, upd, hs_n_si, hs_q_si, hs_z]
theorem hs_w30_6 (H : hs_in g e0 A h M) (v : Int32) : hs_in g e0 A (hs_si h 30 0 0 (upd (hs_i h 30 0 0) 6 v)) (va_up M (A 30 0 0) (some (.inr (4, [.int (hs_i h 30 0 0 0), .int (hs_i h 30 0 0 1), .int (hs_i h 30 0 0 2), .int (hs_i h 30 0 0 3), .ref (A 31 0 0), .ref (A 32 0 0), .ref (A 33 0 0), .ref (A 34 0 0), .ref (A 35 0 0), .int (hs_i h 30 0 0 4), .ref (A 36 0 0), .ref (A 37 0 0), .ref (A 38 0 0), .ref (A 39 0 0), .ref (A 40 0 0), .ref (A 41 0 0), .ref (A 42 0 0), .int (hs_i h 30 0 0 5), .ref (A 43 0 0), .ref (A 44 0 0), .ref (A 45 0 0), .ref (A 46 0 0), .ref (A 47 0 0), .ref (A 48 0 0), .ref (A 49 0 0), .int v, .ref (A 50 0 0)])))) := by
  refine hs_wI H rfl _ ?_
  simp [hs_e, hs_c, hs_o, hs_i_si, upd, hs_n_si, hs_q_si, hs_z]
end HSL
