section BIT
/-- bit i of a mark -/
def bt (m : Int32) (i : Nat) : Bool := m.toBitVec.getLsbD i
theorem bt_ext {a b : Int32} (e : ∀ i, i < 32 → bt a i = bt b i) : a = b := by
  apply Int32.toBitVec_inj.mp
  exact BitVec.eq_of_getLsbD_eq (fun i hi => e i hi)
theorem bt_or (a b : Int32) (i : Nat) : bt (a ||| b) i = (bt a i || bt b i) := by
  unfold bt
  rw [Int32.toBitVec_or, BitVec.getLsbD_or]
theorem sh_bv : ∀ m : Fin 16, ((1 : Int32) <<< (nI m.val &&& 31)).toBitVec = 1#32 <<< m.val := by decide
theorem bt_sh {m : Nat} (hm : m < 16) (i : Nat) : bt ((1 : Int32) <<< (nI m &&& 31)) i = decide (i = m) := by
  unfold bt
  rw [sh_bv ⟨m, hm⟩]
  show (1#32 <<< m).getLsbD i = decide (i = m)
  rw [BitVec.getLsbD_shiftLeft, BitVec.getLsbD_one]
  by_cases y : i = m
  · subst y
    simp
    omega
  · rw [decide_eq_false y]
    by_cases z : i < m
    · simp [z]
    · have : ¬ i - m = 0 := by omega
      simp [this]
theorem bt_0 (i : Nat) : bt 0 i = false := by
  unfold bt
  show (0#32).getLsbD i = false
  simp
theorem bt_add {a b : Int32} (hd : ∀ i, ¬ (bt a i = true ∧ bt b i = true)) (i : Nat) : bt (a + b) i = (bt a i || bt b i) := by
  unfold bt at hd ⊢
  rw [Int32.toBitVec_add, BitVec.add_eq_or_of_and_eq_zero, BitVec.getLsbD_or]
  apply BitVec.eq_of_getLsbD_eq
  intro j hj
  rw [BitVec.getLsbD_and, BitVec.getLsbD_zero]
  have := hd j
  cases ha : a.toBitVec.getLsbD j <;> cases hb : b.toBitVec.getLsbD j <;> simp_all
/-- marks as a sum -/
def bsF (f : Nat → Bool) (n : Nat) : Int32 := if f n = true then (1 : Int32) <<< (nI n &&& 31) else 0
def bs (f : Nat → Bool) (m : Nat) : Int32 := sm_i (bsF f) m
theorem bs_bt (f : Nat → Bool) : ∀ m, m ≤ 16 → ∀ i, bt (bs f m) i = (decide (i < m) && f i)
  | 0, _, i => by
    show bt 0 i = _
    rw [bt_0, decide_eq_false (by omega)]
    rfl
  | m + 1, hm, i => by
    have ih := bs_bt f m (by omega)
    show bt (bs f m + bsF f m) i = _
    by_cases y : f m = true
    · rw [show bsF f m = (1 : Int32) <<< (nI m &&& 31) from if_pos y, bt_add, ih, bt_sh (by omega)]
      · by_cases z : i = m
        · subst z
          rw [y]
          simp
        · rw [decide_eq_false z]
          by_cases w : i < m
          · rw [decide_eq_true w, decide_eq_true (show i < m + 1 by omega)]
            simp
          · rw [decide_eq_false w, decide_eq_false (show ¬ i < m + 1 by omega)]
            simp
      · intro j hj
        rw [ih, bt_sh (by omega)] at hj
        have := of_decide_eq_true hj.2
        have h1 := hj.1
        rw [Bool.and_eq_true] at h1
        have := of_decide_eq_true h1.1
        omega
    · rw [show bsF f m = 0 from if_neg y, Int32.add_zero, ih]
      by_cases z : i = m
      · subst z
        rw [decide_eq_false (by omega)]
        simp [y]
      · by_cases w : i < m
        · rw [decide_eq_true w, decide_eq_true (show i < m + 1 by omega)]
        · rw [decide_eq_false w, decide_eq_false (show ¬ i < m + 1 by omega)]
theorem bs_c {f f' : Nat → Bool} {m : Nat} (e : ∀ i, i < m → f i = f' i) : bs f m = bs f' m := sm_ic (fun i hi => by unfold bsF; rw [e i hi])
theorem bs_z {f : Nat → Bool} {m : Nat} (hm : m ≤ 16) (e : ∀ i, m ≤ i → i < 16 → f i = false) : bs f 16 = bs f m := by
  apply bt_ext
  intro i _
  rw [bs_bt f 16 (by decide), bs_bt f m hm]
  by_cases y : i < m
  · rw [decide_eq_true y, decide_eq_true (show i < 16 by omega)]
  · rw [decide_eq_false y]
    by_cases z : i < 16
    · rw [e i (by omega) z]; simp
    · rw [decide_eq_false z]
theorem bs_or {f : Nat → Bool} {n : Nat} (hn : n < 16) : bs f 16 ||| ((1 : Int32) <<< (nI n &&& 31)) = bs (fun i => f i || decide (i = n)) 16 := by
  apply bt_ext
  intro i _
  rw [bt_or, bs_bt _ 16 (by decide), bs_bt _ 16 (by decide), bt_sh hn]
  by_cases y : i = n
  · subst y
    rw [decide_eq_true hn]
    simp
  · rw [decide_eq_false y]
    simp
theorem shr_bv : ∀ m : Fin 16, ((nI m.val &&& 31).toBitVec.smod 32).toNat = m.val := by decide
theorem bit_bt {m : Int32} {n : Nat} (hn : n < 16) : hc_bit m (nI n) = bt m n := by
  unfold hc_bit bt
  have e : (m >>> (nI n &&& 31)).toBitVec = m.toBitVec.sshiftRight n := by
    rw [Int32.toBitVec_shiftRight]
    show m.toBitVec.sshiftRight ((nI n &&& 31).toBitVec.smod 32).toNat = _
    rw [shr_bv ⟨n, hn⟩]
  have e2 : ((m >>> (nI n &&& 31)) &&& 1).toBitVec = m.toBitVec.sshiftRight n &&& 1#32 := by
    rw [Int32.toBitVec_and, e]
    rfl
  have e3 : (m.toBitVec.sshiftRight n).getLsbD 0 = m.toBitVec.getLsbD n := by
    rw [BitVec.getLsbD_sshiftRight]
    simp
    omega
  cases hb : m.toBitVec.getLsbD n with
  | true =>
    refine decide_eq_true (Int32.toBitVec_inj.mp ?_)
    rw [e2]
    apply BitVec.eq_of_getLsbD_eq
    intro i hi
    rw [BitVec.getLsbD_and]
    show (_ && (1#32).getLsbD i) = (1#32).getLsbD i
    rw [BitVec.getLsbD_one]
    by_cases y : i = 0
    · subst y
      rw [e3, hb]
      rfl
    · simp [y]
  | false =>
    refine decide_eq_false (fun z => ?_)
    have z' := congrArg Int32.toBitVec z
    rw [e2] at z'
    have z2 := congrArg (fun v => v.getLsbD 0) z'
    simp only [BitVec.getLsbD_and] at z2
    rw [e3, hb] at z2
    have : ((1 : Int32).toBitVec).getLsbD 0 = true := by decide
    rw [this] at z2
    cases z2
theorem bs_bit {f : Nat → Bool} {n : Nat} (hn : n < 16) : hc_bit (bs f 16) (nI n) = f n := by
  rw [bit_bt hn, bs_bt f 16 (by decide), decide_eq_true hn]
  rfl
theorem or_bit {m : Int32} {n k : Nat} (hn : n < 16) (hk : k < 16) : hc_bit (m ||| ((1 : Int32) <<< (nI n &&& 31))) (nI k) = (hc_bit m (nI k) || decide (k = n)) := by
  rw [bit_bt hk, bit_bt hk, bt_or, bt_sh hn]
end BIT
