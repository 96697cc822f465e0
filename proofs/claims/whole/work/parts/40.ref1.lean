section RF1
/-! THE REFERENCE's rows alone: kinds 30 .. 50 -/
abbrev rS : Type := (Nat → Nat → Int64) × (Nat → Nat → Int32)
def rl (r : rS) (f : Nat) : Nat → Int64 := r.1 f
def ri (r : rS) (f : Nat) : Nat → Int32 := r.2 f
def rsl (r : rS) (f : Nat) (x : Nat → Int64) : rS := (fun f' => if f' = f then x else r.1 f', r.2)
def rsi (r : rS) (f : Nat) (x : Nat → Int32) : rS := (r.1, fun f' => if f' = f then x else r.2 f')
theorem rl_sl (r : rS) (f f' : Nat) (x : Nat → Int64) : rl (rsl r f x) f' = if f' = f then x else rl r f' := rfl
theorem rl_si (r : rS) (f f' : Nat) (x : Nat → Int32) : rl (rsi r f x) f' = rl r f' := rfl
theorem ri_sl (r : rS) (f f' : Nat) (x : Nat → Int64) : ri (rsl r f x) f' = ri r f' := rfl
theorem ri_si (r : rS) (f f' : Nat) (x : Nat → Int32) : ri (rsi r f x) f' = if f' = f then x else ri r f' := rfl
def m_u (r : rS) (f n : Nat) (v : Int32) : rS := rsi r f (upd (ri r f) n v)
def m_w (r : rS) (f n : Nat) (v : Int64) : rS := rsl r f (vp_updL (rl r f) n v)
theorem ri_u (r : rS) (f n f' : Nat) (v : Int32) : ri (m_u r f n v) f' = if f' = f then upd (ri r f) n v else ri r f' := rfl
theorem rl_u (r : rS) (f n f' : Nat) (v : Int32) : rl (m_u r f n v) f' = rl r f' := rfl
theorem ri_w (r : rS) (f n f' : Nat) (v : Int64) : ri (m_w r f n v) f' = ri r f' := rfl
theorem rl_w (r : rS) (f n f' : Nat) (v : Int64) : rl (m_w r f n v) f' = if f' = f then vp_updL (rl r f) n v else rl r f' := rfl
/-- the class's state with the reference's rows r -/
def hs_put (h : hs_S) (r : rS) : hs_S := (fun f i j => if 30 ≤ f ∧ f ≤ 50 ∧ i = 0 ∧ j = 0 then r.1 f else h.1 f i j, fun f i j => if 30 ≤ f ∧ f ≤ 50 ∧ i = 0 ∧ j = 0 then r.2 f else h.2.1 f i j, h.2.2)
def rf (h : hs_S) : rS := (fun f => if 30 ≤ f ∧ f ≤ 50 then hs_l h f 0 0 else fun _ => 0, fun f => if 30 ≤ f ∧ f ≤ 50 then hs_i h f 0 0 else fun _ => 0)
theorem put_rf (h : hs_S) : hs_put h (rf h) = h := by
  obtain ⟨a, b, c, d⟩ := h
  refine Prod.ext (funext fun f => funext fun i => funext fun j => ?_) (Prod.ext (funext fun f => funext fun i => funext fun j => ?_) rfl)
  · show (if 30 ≤ f ∧ f ≤ 50 ∧ i = 0 ∧ j = 0 then (if 30 ≤ f ∧ f ≤ 50 then a f 0 0 else fun _ => 0) else a f i j) = a f i j
    by_cases y : 30 ≤ f ∧ f ≤ 50 ∧ i = 0 ∧ j = 0
    · obtain ⟨y1, y2, rfl, rfl⟩ := y
      rw [if_pos ⟨y1, y2, rfl, rfl⟩, if_pos ⟨y1, y2⟩]
    · rw [if_neg y]
  · show (if 30 ≤ f ∧ f ≤ 50 ∧ i = 0 ∧ j = 0 then (if 30 ≤ f ∧ f ≤ 50 then b f 0 0 else fun _ => 0) else b f i j) = b f i j
    by_cases y : 30 ≤ f ∧ f ≤ 50 ∧ i = 0 ∧ j = 0
    · obtain ⟨y1, y2, rfl, rfl⟩ := y
      rw [if_pos ⟨y1, y2, rfl, rfl⟩, if_pos ⟨y1, y2⟩]
    · rw [if_neg y]
theorem rf_si {h : hs_S} {f i j : Nat} {x : Nat → Int32} (hf : f < 30) : rf (hs_si h f i j x) = rf h := by
  refine Prod.ext rfl (funext fun f' => ?_)
  show (if 30 ≤ f' ∧ f' ≤ 50 then (if f' = f ∧ 0 = i ∧ 0 = j then x else hs_i h f' 0 0) else fun _ => 0) = (if 30 ≤ f' ∧ f' ≤ 50 then hs_i h f' 0 0 else fun _ => 0)
  by_cases y : 30 ≤ f' ∧ f' ≤ 50
  · rw [if_pos y, if_pos y, if_neg (by omega)]
  · rw [if_neg y, if_neg y]
theorem rf_sl {h : hs_S} {f i j : Nat} {x : Nat → Int64} (hf : f < 30) : rf (hs_sl h f i j x) = rf h := by
  refine Prod.ext (funext fun f' => ?_) rfl
  show (if 30 ≤ f' ∧ f' ≤ 50 then (if f' = f ∧ 0 = i ∧ 0 = j then x else hs_l h f' 0 0) else fun _ => 0) = (if 30 ≤ f' ∧ f' ≤ 50 then hs_l h f' 0 0 else fun _ => 0)
  by_cases y : 30 ≤ f' ∧ f' ≤ 50
  · rw [if_pos y, if_pos y, if_neg (by omega)]
  · rw [if_neg y, if_neg y]
theorem rf_sq {h : hs_S} {i : Nat} {x : List hs_T} : rf (hs_sq h i x) = rf h := rfl
theorem rf_sn {h : hs_S} {f i v : Nat} : rf (hs_sn h f i v) = rf h := rfl
/-- put again is put once; reading what was put, within the reference's kinds -/
theorem put_si {h : hs_S} {r : rS} {f : Nat} {x : Nat → Int32} (hf : 30 ≤ f) (hf' : f ≤ 50) : hs_si (hs_put h r) f 0 0 x = hs_put h (rsi r f x) := by
  refine Prod.ext rfl (Prod.ext (funext fun f' => funext fun i => funext fun j => ?_) rfl)
  show (if f' = f ∧ i = 0 ∧ j = 0 then x else if 30 ≤ f' ∧ f' ≤ 50 ∧ i = 0 ∧ j = 0 then r.2 f' else h.2.1 f' i j) = (if 30 ≤ f' ∧ f' ≤ 50 ∧ i = 0 ∧ j = 0 then (if f' = f then x else r.2 f') else h.2.1 f' i j)
  by_cases y : f' = f ∧ i = 0 ∧ j = 0
  · rw [if_pos y, if_pos (by omega), if_pos y.1]
  · rw [if_neg y]
    by_cases z : 30 ≤ f' ∧ f' ≤ 50 ∧ i = 0 ∧ j = 0
    · rw [if_pos z, if_pos z, if_neg (by omega)]
    · rw [if_neg z, if_neg z]
theorem put_sl {h : hs_S} {r : rS} {f : Nat} {x : Nat → Int64} (hf : 30 ≤ f) (hf' : f ≤ 50) : hs_sl (hs_put h r) f 0 0 x = hs_put h (rsl r f x) := by
  refine Prod.ext (funext fun f' => funext fun i => funext fun j => ?_) rfl
  show (if f' = f ∧ i = 0 ∧ j = 0 then x else if 30 ≤ f' ∧ f' ≤ 50 ∧ i = 0 ∧ j = 0 then r.1 f' else h.1 f' i j) = (if 30 ≤ f' ∧ f' ≤ 50 ∧ i = 0 ∧ j = 0 then (if f' = f then x else r.1 f') else h.1 f' i j)
  by_cases y : f' = f ∧ i = 0 ∧ j = 0
  · rw [if_pos y, if_pos (by omega), if_pos y.1]
  · rw [if_neg y]
    by_cases z : 30 ≤ f' ∧ f' ≤ 50 ∧ i = 0 ∧ j = 0
    · rw [if_pos z, if_pos z, if_neg (by omega)]
    · rw [if_neg z, if_neg z]
variable {g : Nat → ClassId} {e0 : Nat → Nat} {A : hs_A} {h : hs_S} {r : rS} {M : mo_M}
theorem rs_30 (H : hs_in g e0 A (hs_put h r) M) : M (A 30 0 0) = some (.inr (4, [.int (ri r 30 0), .int (ri r 30 1), .int (ri r 30 2), .int (ri r 30 3), .ref (A 31 0 0), .ref (A 32 0 0), .ref (A 33 0 0), .ref (A 34 0 0), .ref (A 35 0 0), .int (ri r 30 4), .ref (A 36 0 0), .ref (A 37 0 0), .ref (A 38 0 0), .ref (A 39 0 0), .ref (A 40 0 0), .ref (A 41 0 0), .ref (A 42 0 0), .int (ri r 30 5), .ref (A 43 0 0), .ref (A 44 0 0), .ref (A 45 0 0), .ref (A 46 0 0), .ref (A 47 0 0), .ref (A 48 0 0), .ref (A 49 0 0), .int (ri r 30 6), .ref (A 50 0 0)])) := hs_30 H
theorem rs_31 (H : hs_in g e0 A (hs_put h r) M) : M (A 31 0 0) = some (.inl (g 0, 12, .inl (ri r 31))) := hs_31 H
theorem rs_32 (H : hs_in g e0 A (hs_put h r) M) : M (A 32 0 0) = some (.inl (g 0, 12, .inl (ri r 32))) := hs_32 H
theorem rs_33 (H : hs_in g e0 A (hs_put h r) M) : M (A 33 0 0) = some (.inl (g 2, 12, .inl (ri r 33))) := hs_33 H
theorem rs_34 (H : hs_in g e0 A (hs_put h r) M) : M (A 34 0 0) = some (.inl (g 0, 9, .inl (ri r 34))) := hs_34 H
theorem rs_35 (H : hs_in g e0 A (hs_put h r) M) : M (A 35 0 0) = some (.inl (g 0, 9, .inl (ri r 35))) := hs_35 H
theorem rs_36 (H : hs_in g e0 A (hs_put h r) M) : M (A 36 0 0) = some (.inl (g 0, 1100, .inl (ri r 36))) := hs_36 H
theorem rs_37 (H : hs_in g e0 A (hs_put h r) M) : M (A 37 0 0) = some (.inl (g 0, 1100, .inl (ri r 37))) := hs_37 H
theorem rs_38 (H : hs_in g e0 A (hs_put h r) M) : M (A 38 0 0) = some (.inl (g 0, 1100, .inl (ri r 38))) := hs_38 H
theorem rs_39 (H : hs_in g e0 A (hs_put h r) M) : M (A 39 0 0) = some (.inl (g 0, 1100, .inl (ri r 39))) := hs_39 H
theorem rs_40 (H : hs_in g e0 A (hs_put h r) M) : M (A 40 0 0) = some (.inl (g 1, 1100, .inr (.inl (rl r 40)))) := hs_40 H
theorem rs_41 (H : hs_in g e0 A (hs_put h r) M) : M (A 41 0 0) = some (.inl (g 1, 1100, .inr (.inl (rl r 41)))) := hs_41 H
theorem rs_42 (H : hs_in g e0 A (hs_put h r) M) : M (A 42 0 0) = some (.inl (g 1, 1100, .inr (.inl (rl r 42)))) := hs_42 H
theorem rs_43 (H : hs_in g e0 A (hs_put h r) M) : M (A 43 0 0) = some (.inl (g 0, 800, .inl (ri r 43))) := hs_43 H
theorem rs_44 (H : hs_in g e0 A (hs_put h r) M) : M (A 44 0 0) = some (.inl (g 0, 800, .inl (ri r 44))) := hs_44 H
theorem rs_45 (H : hs_in g e0 A (hs_put h r) M) : M (A 45 0 0) = some (.inl (g 0, 800, .inl (ri r 45))) := hs_45 H
theorem rs_46 (H : hs_in g e0 A (hs_put h r) M) : M (A 46 0 0) = some (.inl (g 0, 800, .inl (ri r 46))) := hs_46 H
theorem rs_47 (H : hs_in g e0 A (hs_put h r) M) : M (A 47 0 0) = some (.inl (g 0, 800, .inl (ri r 47))) := hs_47 H
theorem rs_48 (H : hs_in g e0 A (hs_put h r) M) : M (A 48 0 0) = some (.inl (g 0, 800, .inl (ri r 48))) := hs_48 H
theorem rs_49 (H : hs_in g e0 A (hs_put h r) M) : M (A 49 0 0) = some (.inl (g 0, 800, .inl (ri r 49))) := hs_49 H
theorem rs_50 (H : hs_in g e0 A (hs_put h r) M) : M (A 50 0 0) = some (.inl (g 0, 96, .inl (ri r 50))) := hs_50 H
theorem rw_30_0 (H : hs_in g e0 A (hs_put h r) M) (v : Int32) : hs_in g e0 A (hs_put h (m_u r 30 0 v)) (va_up M (A 30 0 0) (some (.inr (4, [.int v, .int (ri r 30 1), .int (ri r 30 2), .int (ri r 30 3), .ref (A 31 0 0), .ref (A 32 0 0), .ref (A 33 0 0), .ref (A 34 0 0), .ref (A 35 0 0), .int (ri r 30 4), .ref (A 36 0 0), .ref (A 37 0 0), .ref (A 38 0 0), .ref (A 39 0 0), .ref (A 40 0 0), .ref (A 41 0 0), .ref (A 42 0 0), .int (ri r 30 5), .ref (A 43 0 0), .ref (A 44 0 0), .ref (A 45 0 0), .ref (A 46 0 0), .ref (A 47 0 0), .ref (A 48 0 0), .ref (A 49 0 0), .int (ri r 30 6), .ref (A 50 0 0)])))) := by
  unfold m_u
  rw [← put_si (by decide) (by decide)]
  exact hs_w30_0 H v
theorem rw_30_1 (H : hs_in g e0 A (hs_put h r) M) (v : Int32) : hs_in g e0 A (hs_put h (m_u r 30 1 v)) (va_up M (A 30 0 0) (some (.inr (4, [.int (ri r 30 0), .int v, .int (ri r 30 2), .int (ri r 30 3), .ref (A 31 0 0), .ref (A 32 0 0), .ref (A 33 0 0), .ref (A 34 0 0), .ref (A 35 0 0), .int (ri r 30 4), .ref (A 36 0 0), .ref (A 37 0 0), .ref (A 38 0 0), .ref (A 39 0 0), .ref (A 40 0 0), .ref (A 41 0 0), .ref (A 42 0 0), .int (ri r 30 5), .ref (A 43 0 0), .ref (A 44 0 0), .ref (A 45 0 0), .ref (A 46 0 0), .ref (A 47 0 0), .ref (A 48 0 0), .ref (A 49 0 0), .int (ri r 30 6), .ref (A 50 0 0)])))) := by
  unfold m_u
  rw [← put_si (by decide) (by decide)]
  exact hs_w30_1 H v
theorem rw_30_2 (H : hs_in g e0 A (hs_put h r) M) (v : Int32) : hs_in g e0 A (hs_put h (m_u r 30 2 v)) (va_up M (A 30 0 0) (some (.inr (4, [.int (ri r 30 0), .int (ri r 30 1), .int v, .int (ri r 30 3), .ref (A 31 0 0), .ref (A 32 0 0), .ref (A 33 0 0), .ref (A 34 0 0), .ref (A 35 0 0), .int (ri r 30 4), .ref (A 36 0 0), .ref (A 37 0 0), .ref (A 38 0 0), .ref (A 39 0 0), .ref (A 40 0 0), .ref (A 41 0 0), .ref (A 42 0 0), .int (ri r 30 5), .ref (A 43 0 0), .ref (A 44 0 0), .ref (A 45 0 0), .ref (A 46 0 0), .ref (A 47 0 0), .ref (A 48 0 0), .ref (A 49 0 0), .int (ri r 30 6), .ref (A 50 0 0)])))) := by
  unfold m_u
  rw [← put_si (by decide) (by decide)]
  exact hs_w30_2 H v
theorem rw_30_3 (H : hs_in g e0 A (hs_put h r) M) (v : Int32) : hs_in g e0 A (hs_put h (m_u r 30 3 v)) (va_up M (A 30 0 0) (some (.inr (4, [.int (ri r 30 0), .int (ri r 30 1), .int (ri r 30 2), .int v, .ref (A 31 0 0), .ref (A 32 0 0), .ref (A 33 0 0), .ref (A 34 0 0), .ref (A 35 0 0), .int (ri r 30 4), .ref (A 36 0 0), .ref (A 37 0 0), .ref (A 38 0 0), .ref (A 39 0 0), .ref (A 40 0 0), .ref (A 41 0 0), .ref (A 42 0 0), .int (ri r 30 5), .ref (A 43 0 0), .ref (A 44 0 0), .ref (A 45 0 0), .ref (A 46 0 0), .ref (A 47 0 0), .ref (A 48 0 0), .ref (A 49 0 0), .int (ri r 30 6), .ref (A 50 0 0)])))) := by
  unfold m_u
  rw [← put_si (by decide) (by decide)]
  exact hs_w30_3 H v
theorem rw_30_4 (H : hs_in g e0 A (hs_put h r) M) (v : Int32) : hs_in g e0 A (hs_put h (m_u r 30 4 v)) (va_up M (A 30 0 0) (some (.inr (4, [.int (ri r 30 0), .int (ri r 30 1), .int (ri r 30 2), .int (ri r 30 3), .ref (A 31 0 0), .ref (A 32 0 0), .ref (A 33 0 0), .ref (A 34 0 0), .ref (A 35 0 0), .int v, .ref (A 36 0 0), .ref (A 37 0 0), .ref (A 38 0 0), .ref (A 39 0 0), .ref (A 40 0 0), .ref (A 41 0 0), .ref (A 42 0 0), .int (ri r 30 5), .ref (A 43 0 0), .ref (A 44 0 0), .ref (A 45 0 0), .ref (A 46 0 0), .ref (A 47 0 0), .ref (A 48 0 0), .ref (A 49 0 0), .int (ri r 30 6), .ref (A 50 0 0)])))) := by
  unfold m_u
  rw [← put_si (by decide) (by decide)]
  exact hs_w30_4 H v
theorem rw_30_5 (H : hs_in g e0 A (hs_put h r) M) (v : Int32) : hs_in g e0 A (hs_put h (m_u r 30 5 v)) (va_up M (A 30 0 0) (some (.inr (4, [.int (ri r 30 0), .int (ri r 30 1), .int (ri r 30 2), .int (ri r 30 3), .ref (A 31 0 0), .ref (A 32 0 0), .ref (A 33 0 0), .ref (A 34 0 0), .ref (A 35 0 0), .int (ri r 30 4), .ref (A 36 0 0), .ref (A 37 0 0), .ref (A 38 0 0), .ref (A 39 0 0), .ref (A 40 0 0), .ref (A 41 0 0), .ref (A 42 0 0), .int v, .ref (A 43 0 0), .ref (A 44 0 0), .ref (A 45 0 0), .ref (A 46 0 0), .ref (A 47 0 0), .ref (A 48 0 0), .ref (A 49 0 0), .int (ri r 30 6), .ref (A 50 0 0)])))) := by
  unfold m_u
  rw [← put_si (by decide) (by decide)]
  exact hs_w30_5 H v
theorem rw_30_6 (H : hs_in g e0 A (hs_put h r) M) (v : Int32) : hs_in g e0 A (hs_put h (m_u r 30 6 v)) (va_up M (A 30 0 0) (some (.inr (4, [.int (ri r 30 0), .int (ri r 30 1), .int (ri r 30 2), .int (ri r 30 3), .ref (A 31 0 0), .ref (A 32 0 0), .ref (A 33 0 0), .ref (A 34 0 0), .ref (A 35 0 0), .int (ri r 30 4), .ref (A 36 0 0), .ref (A 37 0 0), .ref (A 38 0 0), .ref (A 39 0 0), .ref (A 40 0 0), .ref (A 41 0 0), .ref (A 42 0 0), .int (ri r 30 5), .ref (A 43 0 0), .ref (A 44 0 0), .ref (A 45 0 0), .ref (A 46 0 0), .ref (A 47 0 0), .ref (A 48 0 0), .ref (A 49 0 0), .int v, .ref (A 50 0 0)])))) := by
  unfold m_u
  rw [← put_si (by decide) (by decide)]
  exact hs_w30_6 H v
theorem rw_31 (H : hs_in g e0 A (hs_put h r) M) (n : Nat) (v : Int32) : hs_in g e0 A (hs_put h (m_u r 31 n v)) (va_up M (A 31 0 0) (some (.inl (g 0, 12, .inl (upd (ri r 31) n v))))) := by
  unfold m_u
  rw [← put_si (by decide) (by decide)]
  exact hs_wi H rfl rfl _
theorem rw_32 (H : hs_in g e0 A (hs_put h r) M) (n : Nat) (v : Int32) : hs_in g e0 A (hs_put h (m_u r 32 n v)) (va_up M (A 32 0 0) (some (.inl (g 0, 12, .inl (upd (ri r 32) n v))))) := by
  unfold m_u
  rw [← put_si (by decide) (by decide)]
  exact hs_wi H rfl rfl _
theorem rw_33 (H : hs_in g e0 A (hs_put h r) M) (n : Nat) (v : Int32) : hs_in g e0 A (hs_put h (m_u r 33 n v)) (va_up M (A 33 0 0) (some (.inl (g 2, 12, .inl (upd (ri r 33) n v))))) := by
  unfold m_u
  rw [← put_si (by decide) (by decide)]
  exact hs_wz H rfl rfl _
theorem rw_34 (H : hs_in g e0 A (hs_put h r) M) (n : Nat) (v : Int32) : hs_in g e0 A (hs_put h (m_u r 34 n v)) (va_up M (A 34 0 0) (some (.inl (g 0, 9, .inl (upd (ri r 34) n v))))) := by
  unfold m_u
  rw [← put_si (by decide) (by decide)]
  exact hs_wi H rfl rfl _
theorem rw_35 (H : hs_in g e0 A (hs_put h r) M) (n : Nat) (v : Int32) : hs_in g e0 A (hs_put h (m_u r 35 n v)) (va_up M (A 35 0 0) (some (.inl (g 0, 9, .inl (upd (ri r 35) n v))))) := by
  unfold m_u
  rw [← put_si (by decide) (by decide)]
  exact hs_wi H rfl rfl _
theorem rw_36 (H : hs_in g e0 A (hs_put h r) M) (n : Nat) (v : Int32) : hs_in g e0 A (hs_put h (m_u r 36 n v)) (va_up M (A 36 0 0) (some (.inl (g 0, 1100, .inl (upd (ri r 36) n v))))) := by
  unfold m_u
  rw [← put_si (by decide) (by decide)]
  exact hs_wi H rfl rfl _
theorem rw_37 (H : hs_in g e0 A (hs_put h r) M) (n : Nat) (v : Int32) : hs_in g e0 A (hs_put h (m_u r 37 n v)) (va_up M (A 37 0 0) (some (.inl (g 0, 1100, .inl (upd (ri r 37) n v))))) := by
  unfold m_u
  rw [← put_si (by decide) (by decide)]
  exact hs_wi H rfl rfl _
theorem rw_38 (H : hs_in g e0 A (hs_put h r) M) (n : Nat) (v : Int32) : hs_in g e0 A (hs_put h (m_u r 38 n v)) (va_up M (A 38 0 0) (some (.inl (g 0, 1100, .inl (upd (ri r 38) n v))))) := by
  unfold m_u
  rw [← put_si (by decide) (by decide)]
  exact hs_wi H rfl rfl _
theorem rw_39 (H : hs_in g e0 A (hs_put h r) M) (n : Nat) (v : Int32) : hs_in g e0 A (hs_put h (m_u r 39 n v)) (va_up M (A 39 0 0) (some (.inl (g 0, 1100, .inl (upd (ri r 39) n v))))) := by
  unfold m_u
  rw [← put_si (by decide) (by decide)]
  exact hs_wi H rfl rfl _
theorem rw_40 (H : hs_in g e0 A (hs_put h r) M) (n : Nat) (v : Int64) : hs_in g e0 A (hs_put h (m_w r 40 n v)) (va_up M (A 40 0 0) (some (.inl (g 1, 1100, .inr (.inl (vp_updL (rl r 40) n v)))))) := by
  unfold m_w
  rw [← put_sl (by decide) (by decide)]
  exact hs_wl H rfl rfl _
theorem rw_41 (H : hs_in g e0 A (hs_put h r) M) (n : Nat) (v : Int64) : hs_in g e0 A (hs_put h (m_w r 41 n v)) (va_up M (A 41 0 0) (some (.inl (g 1, 1100, .inr (.inl (vp_updL (rl r 41) n v)))))) := by
  unfold m_w
  rw [← put_sl (by decide) (by decide)]
  exact hs_wl H rfl rfl _
theorem rw_42 (H : hs_in g e0 A (hs_put h r) M) (n : Nat) (v : Int64) : hs_in g e0 A (hs_put h (m_w r 42 n v)) (va_up M (A 42 0 0) (some (.inl (g 1, 1100, .inr (.inl (vp_updL (rl r 42) n v)))))) := by
  unfold m_w
  rw [← put_sl (by decide) (by decide)]
  exact hs_wl H rfl rfl _
theorem rw_43 (H : hs_in g e0 A (hs_put h r) M) (n : Nat) (v : Int32) : hs_in g e0 A (hs_put h (m_u r 43 n v)) (va_up M (A 43 0 0) (some (.inl (g 0, 800, .inl (upd (ri r 43) n v))))) := by
  unfold m_u
  rw [← put_si (by decide) (by decide)]
  exact hs_wi H rfl rfl _
theorem rw_44 (H : hs_in g e0 A (hs_put h r) M) (n : Nat) (v : Int32) : hs_in g e0 A (hs_put h (m_u r 44 n v)) (va_up M (A 44 0 0) (some (.inl (g 0, 800, .inl (upd (ri r 44) n v))))) := by
  unfold m_u
  rw [← put_si (by decide) (by decide)]
  exact hs_wi H rfl rfl _
theorem rw_45 (H : hs_in g e0 A (hs_put h r) M) (n : Nat) (v : Int32) : hs_in g e0 A (hs_put h (m_u r 45 n v)) (va_up M (A 45 0 0) (some (.inl (g 0, 800, .inl (upd (ri r 45) n v))))) := by
  unfold m_u
  rw [← put_si (by decide) (by decide)]
  exact hs_wi H rfl rfl _
theorem rw_46 (H : hs_in g e0 A (hs_put h r) M) (n : Nat) (v : Int32) : hs_in g e0 A (hs_put h (m_u r 46 n v)) (va_up M (A 46 0 0) (some (.inl (g 0, 800, .inl (upd (ri r 46) n v))))) := by
  unfold m_u
  rw [← put_si (by decide) (by decide)]
  exact hs_wi H rfl rfl _
theorem rw_47 (H : hs_in g e0 A (hs_put h r) M) (n : Nat) (v : Int32) : hs_in g e0 A (hs_put h (m_u r 47 n v)) (va_up M (A 47 0 0) (some (.inl (g 0, 800, .inl (upd (ri r 47) n v))))) := by
  unfold m_u
  rw [← put_si (by decide) (by decide)]
  exact hs_wi H rfl rfl _
theorem rw_48 (H : hs_in g e0 A (hs_put h r) M) (n : Nat) (v : Int32) : hs_in g e0 A (hs_put h (m_u r 48 n v)) (va_up M (A 48 0 0) (some (.inl (g 0, 800, .inl (upd (ri r 48) n v))))) := by
  unfold m_u
  rw [← put_si (by decide) (by decide)]
  exact hs_wi H rfl rfl _
theorem rw_49 (H : hs_in g e0 A (hs_put h r) M) (n : Nat) (v : Int32) : hs_in g e0 A (hs_put h (m_u r 49 n v)) (va_up M (A 49 0 0) (some (.inl (g 0, 800, .inl (upd (ri r 49) n v))))) := by
  unfold m_u
  rw [← put_si (by decide) (by decide)]
  exact hs_wi H rfl rfl _
theorem rw_50 (H : hs_in g e0 A (hs_put h r) M) (n : Nat) (v : Int32) : hs_in g e0 A (hs_put h (m_u r 50 n v)) (va_up M (A 50 0 0) (some (.inl (g 0, 96, .inl (upd (ri r 50) n v))))) := by
  unfold m_u
  rw [← put_si (by decide) (by decide)]
  exact hs_wi H rfl rfl _
/-- the reference's counts: kiosks, time, links, lines, things, snapshots -/
def rc (r : rS) (k : Nat) : Nat := ix_v (ri r 30 k)
def rr_ok (r : rS) : Prop := (∀ k, 1 ≤ k → k ≤ 6 → ri r 30 k = nI (rc r k)) ∧ (1 ≤ rc r 1 ∧ rc r 1 ≤ 6) ∧ rc r 2 < 2 ^ 30 ∧ rc r 3 ≤ 12 ∧ rc r 4 ≤ 1100 ∧ rc r 5 ≤ 800 ∧ rc r 6 ≤ 16 ∧ (∀ l, l < rc r 3 → (∃ a, a < rc r 1 ∧ ri r 31 l = nI a) ∧ (∃ b, b < rc r 1 ∧ ri r 32 l = nI b)) ∧ (∀ t, t < rc r 5 → ∃ l, l < rc r 3 ∧ ri r 44 t = nI l) ∧ (∀ t, t < rc r 5 → ri r 43 t = 3 → ∃ n, n < 16 ∧ ri r 47 t = nI n) ∧ (∀ i, i < 9 → 1 ≤ (ri r 35 i).toInt)
theorem rm_ix {K : Int32 → mo_M → Prop} {x v : Int32} {n : Nat} (hv : v = nI n) (hn : n < 2 ^ 31) (hK : K (zb_i (ix_n x n).isSome) M) : ((x < 0 → (narrow .boolean (.int ((0 : Int32))) = .int ((0 : Int32)) ∧ K ((0 : Int32)) M)) ∧ (¬ (x < 0) → ((v ≤ x → (narrow .boolean (.int ((0 : Int32))) = .int ((0 : Int32)) ∧ K ((0 : Int32)) M)) ∧ (¬ (v ≤ x) → (narrow .boolean (.int ((1 : Int32))) = .int ((1 : Int32)) ∧ K ((1 : Int32)) M))))) := by
  subst hv
  have e0 : (0 : Int32).toInt = 0 := by decide
  refine ⟨fun z => ⟨rfl, ?_⟩, fun z => ⟨fun w => ⟨rfl, ?_⟩, fun w => ⟨rfl, ?_⟩⟩⟩
  · have z' := Int32.lt_iff_toInt_lt.mp z
    rw [show ix_n x n = none from ix_none.mpr (by omega)] at hK
    exact hK
  · have w' := Int32.le_iff_toInt_le.mp w
    rw [nI_toInt hn] at w'
    rw [show ix_n x n = none from ix_none.mpr (by omega)] at hK
    exact hK
  · have z' := mt Int32.lt_iff_toInt_lt.mpr z
    have w' := mt Int32.le_iff_toInt_le.mpr w
    rw [nI_toInt hn] at w'
    have : ix_n x n = some x.toInt.toNat := by unfold ix_n; rw [if_pos (by omega)]
    rw [this] at hK
    exact hK
theorem l2m_isKiosk {K : Int32 → mo_M → Prop} {x : Int32} (H : hs_in g e0 A (hs_put h r) M) (o : rr_ok r) (hK : K (zb_i (ix_n x (rc r 1)).isSome) M) : pp_M_isKiosk g e0 K M (A 30 0 0) x := by
  unfold pp_M_isKiosk
  have := rm_ix (M := M) (o.1 1 (by decide) (by decide)) (by have := o.2.1.2; omega) hK
  exact ⟨this.1, fun z => mq_gi (rs_30 H) rfl (this.2 z)⟩
theorem l2m_isLink {K : Int32 → mo_M → Prop} {x : Int32} (H : hs_in g e0 A (hs_put h r) M) (o : rr_ok r) (hK : K (zb_i (ix_n x (rc r 3)).isSome) M) : pp_M_isLink g e0 K M (A 30 0 0) x := by
  unfold pp_M_isLink
  have := rm_ix (M := M) (o.1 3 (by decide) (by decide)) (by have := o.2.2.2.1; omega) hK
  exact ⟨this.1, fun z => mq_gi (rs_30 H) rfl (this.2 z)⟩
theorem l2m_isNumber {K : Int32 → mo_M → Prop} {x : Int32} (H : hs_in g e0 A (hs_put h r) M) (o : rr_ok r) (hK : K (zb_i (ix_n x (rc r 6)).isSome) M) : pp_M_isNumber g e0 K M (A 30 0 0) x := by
  unfold pp_M_isNumber
  have := rm_ix (M := M) (o.1 6 (by decide) (by decide)) (by have := o.2.2.2.2.2.2.1; omega) hK
  exact ⟨this.1, fun z => mq_gi (rs_30 H) rfl (this.2 z)⟩
theorem l2m_isCurrency {K : Int32 → mo_M → Prop} {x : Int32} (hK : K (zb_i (ix_n x 3).isSome) M) : pp_M_isCurrency g e0 K M x := by
  unfold pp_M_isCurrency
  exact rm_ix (v := 3) (n := 3) rfl (by decide) hK
def hc_amt (x : Int32) : Bool := decide (¬ x < 1 ∧ ¬ 1000000000 < x)
theorem l2m_isAmount {K : Int32 → mo_M → Prop} {x : Int32} (hK : K (zb_i (hc_amt x)) M) : pp_M_isAmount g e0 K M x := by
  unfold pp_M_isAmount
  refine ⟨fun h1 => ⟨rfl, ?_⟩, fun h1 => ⟨fun h2 => ⟨rfl, ?_⟩, fun h2 => ⟨rfl, ?_⟩⟩⟩
  · rw [show hc_amt x = false by simp [hc_amt, h1]] at hK; exact hK
  · rw [show hc_amt x = false by simp [hc_amt, h2]] at hK; exact hK
  · rw [show hc_amt x = true by simp [hc_amt, h1, h2]] at hK; exact hK
theorem l2m_thrown {K : Int32 → mo_M → Prop} (H : hs_in g e0 A (hs_put h r) M) (hK : K (ri r 30 0) M) : pp_M_thrown g e0 K M (A 30 0 0) := mq_gi (rs_30 H) rfl hK
/-- what was thrown -/
def m_t (r : rS) (v : Int32) : rS := m_u r 30 0 v
theorem mt_i (r : rS) (v : Int32) {f : Nat} (hf : f ≠ 30) : ri (m_t r v) f = ri r f := if_neg hf
theorem mt_l (r : rS) (v : Int32) (f : Nat) : rl (m_t r v) f = rl r f := rfl
theorem mt_n (r : rS) (v : Int32) {k : Nat} (hk : k ≠ 0) : ri (m_t r v) 30 k = ri r 30 k := by
  unfold m_t
  rw [ri_u, if_pos rfl]
  exact if_neg hk
theorem mt_c (r : rS) (v : Int32) {k : Nat} (hk : k ≠ 0) : rc (m_t r v) k = rc r k := by unfold rc; rw [mt_n r v hk]
theorem mt_ok (r : rS) (v : Int32) (o : rr_ok r) : rr_ok (m_t r v) := by
  unfold rr_ok at o ⊢
  rw [mt_c r v (show 1 ≠ 0 by decide), mt_c r v (show 2 ≠ 0 by decide), mt_c r v (show 3 ≠ 0 by decide), mt_c r v (show 4 ≠ 0 by decide), mt_c r v (show 5 ≠ 0 by decide), mt_c r v (show 6 ≠ 0 by decide)]
  refine ⟨fun k h1 h2 => ?_, o.2⟩
  rw [mt_n r v (by omega), mt_c r v (by omega)]
  exact o.1 k h1 h2
/-- a line is noted -/
def m_note (r : rS) (x1 x2 : Int32) (s t m : Int64) : rS := m_u (m_w (m_w (m_w (m_u (m_u (m_u (m_u (m_u r 30 2 (ri r 30 2 + 1)) 36 (rc r 4) x1) 37 (rc r 4) x2) 38 (rc r 4) (ri r 30 2 + 1)) 39 (rc r 4) 1) 40 (rc r 4) s) 41 (rc r 4) t) 42 (rc r 4) m) 30 4 (ri r 30 4 + 1)
theorem l2m_note {K : mo_M → Prop} {x1 x2 : Int32} {s t m : Int64} (H : hs_in g e0 A (hs_put h r) M) (o : rr_ok r) (hN : rc r 4 < 1100) (hK : ∀ M', hs_in g e0 A (hs_put h (m_note r x1 x2 s t m)) M' → K M') : pp_M_note g e0 K M (A 30 0 0) x1 x2 s t m := by
  have e4 : ri r 30 4 = nI (rc r 4) := o.1 4 (by decide) (by decide)
  unfold pp_M_note
  refine mq_gi (rs_30 H) rfl (mq_pt (rs_30 H) (Nat.le_of_ble_eq_true rfl) ?_)
  have H1 := rw_30_2 H (ri r 30 2 + 1)
  refine mq_gr (rs_30 H1) rfl (mq_gi (rs_30 H1) rfl (mq_si (rs_36 H1) e4 hN (by decide) ?_))
  have H2 := rw_36 H1 (rc r 4) x1
  refine mq_gr (rs_30 H2) rfl (mq_gi (rs_30 H2) rfl (mq_si (rs_37 H2) e4 hN (by decide) ?_))
  have H3 := rw_37 H2 (rc r 4) x2
  refine mq_gr (rs_30 H3) rfl (mq_gi (rs_30 H3) rfl (mq_gi (rs_30 H3) rfl (mq_si (rs_38 H3) e4 hN (by decide) ?_)))
  have H4 := rw_38 H3 (rc r 4) (ri r 30 2 + 1)
  refine mq_gr (rs_30 H4) rfl (mq_gi (rs_30 H4) rfl (mq_si (rs_39 H4) e4 hN (by decide) ?_))
  have H5 := rw_39 H4 (rc r 4) 1
  refine mq_gr (rs_30 H5) rfl (mq_gi (rs_30 H5) rfl (mq_sl (rs_40 H5) e4 hN (by decide) ?_))
  have H6 := rw_40 H5 (rc r 4) s
  refine mq_gr (rs_30 H6) rfl (mq_gi (rs_30 H6) rfl (mq_sl (rs_41 H6) e4 hN (by decide) ?_))
  have H7 := rw_41 H6 (rc r 4) t
  refine mq_gr (rs_30 H7) rfl (mq_gi (rs_30 H7) rfl (mq_sl (rs_42 H7) e4 hN (by decide) ?_))
  have H8 := rw_42 H7 (rc r 4) m
  exact mq_gi (rs_30 H8) rfl (mq_pt (rs_30 H8) (Nat.le_of_ble_eq_true rfl) (hK _ (rw_30_4 H8 (ri r 30 4 + 1))))
end RF1
