section ST2
variable {s : State} {args : Array Value}
theorem lw_arrP {ty : FieldType} (h : (Cond.arrayClass ty).before args s = true) (hty : ∀ C, ty ≠ .object C) : ∃ cA, ArrOfT s cA ty ∧ va_RA s cA ty := by
  obtain ⟨c, k, comp, h1, h2, h3⟩ := Cond.arrayClass_spec h
  refine ⟨c, fun n z => ⟨fun k h => (by cases h), k, h2, comp, h3⟩, ?_⟩
  cases ty with
  | object C => exact absurd rfl (hty C)
  | _ => exact h1
theorem lw_arrO {C : String} (h : (Cond.arrayOver (.object C)).before args s = true) : ∃ cA, ArrOfT s cA (.object C) ∧ va_RA s cA (.object C) := by
  obtain ⟨comp, c, k, h1, h2, h3, h4, h5⟩ := Cond.arrayOver_spec h
  exact ⟨c, fun n z => ⟨fun k h => (by cases h), k, h3, comp, h4⟩, k, comp, h3, h4, h1, h5⟩
theorem lw_arrA {t : FieldType} (h : (Cond.arrayOver (.array t)).before args s = true) : ∃ cA, ArrOfT s cA (.array t) ∧ va_RA s cA (.array t) := by
  obtain ⟨comp, c, k, h1, h3, h4, h5⟩ := mn_cls h
  exact ⟨c, fun n z => ⟨fun k h => (by cases h), k, h3, comp, h4⟩, h5⟩
theorem lw_nkO {w : Cond} (h : lw_nk w = true) : w.onTables = true := by
  cases w <;> first | rfl | (exact absurd h (by simp [lw_nk]))
theorem lw_str {own tx : String} {k : Nat} (h1 : (Cond.stringRef own k tx).before args s = true) (h2 : (Cond.exactly (.string own k) "java/lang/String").before args s = true) : ∃ a, vk_R own k tx a s := by
  obtain ⟨a, c, ce, kk, q1, -⟩ := Cond.exactly_spec (args := args) (first := s) (o := none) (s := s) (idx := []) h2
  exact ⟨a, vk_R.of h1 q1⟩
theorem lw_naof (h : (Cond.not (.castable tx_I tx_N)).before args s = true) : tx_na s := by
  intro c1 c2 e1 e2
  have hv := Cond.holds_not_iff.mp h
  simp only [Cond.value, e1, e2] at hv
  exact Option.some.inj hv
end ST2
/-- from the entry, for every script of at most 2561 ints, the law comes to its end with true -/
theorem whole_start {p : Program} {e : Env} {s : State} {m : MethodId} {below : List Frame} {meth : Method} {c : Code} (l : Launch) (hfl : l.flags = pinnedFlags ++ [noTraceFlag]) {b L : Nat} {xs : Nat → Int32} (hL : L ≤ 2561) (C0 : lw_At p s m meth c b L xs) : W p l e room_1 s m #[Value.ref b] below meth c s.heap [] 0 0 (lw_Z below #[Value.ref b] s) (entryFrame m ([Value.ref b] : List Value).toArray 8) := by
  obtain ⟨hx, hb, hr, hml, hown, hts0, hX, hbl, hlocks, hgv⟩ := C0
  have hts : ∀ w ∈ lw_g, w.before #[Value.ref b] s = true := fun w hw => hts0 w (List.mem_filter.mp hw).1
  have hs := flat_of_before _ hgv
  have hA : ∀ a : Nat, a < s.heap.size → ¬ (fun q => s.heap.size ≤ q) a := fun a ha q => absurd q (Nat.not_le.mpr ha)
  obtain ⟨d0, k0, u0⟩ := u_known (T := F_0) (N := 5) hts ui_0 (hts _ wd_53)
  obtain ⟨d1, k1, u1⟩ := u_known (T := F_1) (N := 9) hts ui_1 (hts _ wd_96)
  obtain ⟨d2, k2, u2⟩ := u_known (T := F_2) (N := 6) hts ui_2 (hts _ wd_173)
  obtain ⟨d3, k3, u3⟩ := u_known (T := F_3) (N := 4) hts ui_3 (hts _ wd_339)
  obtain ⟨d4, k4, u4⟩ := u_known (T := F_4) (N := 27) hts ui_4 (hts _ wd_605)
  obtain ⟨d5, k5, u5⟩ := u_known (T := F_5) (N := 3) hts ui_5 (hts _ wd_61)
  obtain ⟨g0, a0⟩ := lw_arrP (hts _ wd_139) (fun C q => by cases q)
  obtain ⟨g1, a1⟩ := lw_arrP (hts _ wd_140) (fun C q => by cases q)
  obtain ⟨g2, a2⟩ := lw_arrP (hts _ wd_692) (fun C q => by cases q)
  obtain ⟨g3, a3⟩ := lw_arrO (hts0 _ wn_95)
  obtain ⟨g4, a4⟩ := lw_arrA (hts0 _ wn_102)
  obtain ⟨g5, a5⟩ := lw_arrA (hts0 _ wn_87)
  obtain ⟨g6, a6⟩ := lw_arrO (hts0 _ wn_249)
  obtain ⟨mi, hmi⟩ := va_Mi.of (C := "[Ljava/lang/Object;") (hs (Jvm.Cond.isRef (Jvm.Term.mirror "[Ljava/lang/Object;")) (by decide +kernel))
  obtain ⟨t0, ht0, hT0⟩ := va_Tof (tm := Jvm.Term.static "java/util/ArrayList" "DEFAULTCAPACITY_EMPTY_ELEMENTDATA" "[Ljava/lang/Object;") (ty := .object "java/lang/Object") (N := 0) (f := fun _ => .null) (A := fun q => s.heap.size ≤ q) (by decide) (hs _ (by decide +kernel)) (va_eqt (hs (Jvm.Cond.eq (Jvm.Term.length (Jvm.Term.static "java/util/ArrayList" "DEFAULTCAPACITY_EMPTY_ELEMENTDATA" "[Ljava/lang/Object;")) (Jvm.Term.int (0 : Int32))) (by decide +kernel))) (fun j hj => absurd hj (Nat.not_lt_zero j)) hA
  have hZ0 := va_Zref (A := fun q => s.heap.size ≤ q) (hts0 _ wn_73) (hts _ wd_36) ht0 hA
  have hK : va_K (fun c => [d0, d1, d2, d3, d4, d5].getD c 0, fun c => [k0, k1, k2, k3, k4, k5].getD c (fun _ => 0)) vwCl (mo_T (fun c => [g0, g1, g2, g3, g4, g5, g6].getD c 0)) s := by
    constructor
    · intro c q hq
      have hc : c = 0 ∨ c = 1 ∨ c = 2 ∨ c = 3 ∨ c = 4 ∨ c = 5 := by
        have := (List.getElem?_eq_some_iff.mp hq).1
        have e : vwCl.length = 6 := rfl
        omega
      rcases hc with rfl | rfl | rfl | rfl | rfl | rfl <;> cases hq <;> assumption
    · intro c q hq
      have hc : c = 0 ∨ c = 1 ∨ c = 2 ∨ c = 3 ∨ c = 4 ∨ c = 5 ∨ c = 6 := by
        have := (List.getElem?_eq_some_iff.mp hq).1
        have e : (mo_T (fun c => [g0, g1, g2, g3, g4, g5, g6].getD c 0)).length = 7 := rfl
        omega
      rcases hc with rfl | rfl | rfl | rfl | rfl | rfl | rfl <;> cases hq <;> assumption
  have hE : mo_E s.heap.size (fun i => if i = 0 then t0 else mi) s s.heap := ⟨⟨fun w hw hk => va_Nw.of (lw_nkO hk) (hts0 w hw), va_AO.of (hts0 _ wn_95), va_AO.of (hts0 _ wn_249), hmi, hts0 _ wn_87, hts0 _ wn_102⟩, hZ0, hT0⟩
  have hI : mo_in s.heap.size (fun c => [d0, d1, d2, d3, d4, d5].getD c 0, fun c => [k0, k1, k2, k3, k4, k5].getD c (fun _ => 0)) vwCl (fun _ => none) s.heap := ⟨[], fun _ => .inr (0, []), fun a e h => (by cases h), fun k q h => (by cases h), ⟨fun i j p q h => (by cases h), fun k q h => (by cases h)⟩⟩
  have hok : mo_ok s.heap.size (fun i => if i = 0 then t0 else mi) (fun c => [d0, d1, d2, d3, d4, d5].getD c 0, fun c => [k0, k1, k2, k3, k4, k5].getD c (fun _ => 0)) vwCl (mo_T (fun c => [g0, g1, g2, g3, g4, g5, g6].getD c 0)) s (fun _ => none) s.heap [] := ⟨Nat.le_refl _, ⟨hK, hE⟩, hI, va_S.rf⟩
  have hq : tq s.heap.size s := by
    refine ⟨⟨hts0 _ wn_530, va_Zqof (hts0 _ wn_530) (hts _ wd_47) (hs (Jvm.Cond.isRef (Jvm.Term.static "java/lang/Throwable" "UNASSIGNED_STACK" "[Ljava/lang/StackTraceElement;")) (by decide +kernel)) hA⟩, ⟨hts0 _ wn_532, va_Zqof (hts0 _ wn_532) (hts _ wd_47) (hs (Jvm.Cond.isRef (Jvm.Term.static "java/lang/Throwable" "SUPPRESSED_SENTINEL" "Ljava/util/List;")) (by decide +kernel)) hA⟩, ?_, ?_, ?_, ?_, ?_, ?_⟩
    · exact lw_str (hts0 _ wn_543) (hs (Jvm.Cond.exactly (Jvm.Term.string "PurseHouse" (148 : Nat)) "java/lang/String") (by decide +kernel))
    · exact lw_str (hts0 _ wn_579) (hs (Jvm.Cond.exactly (Jvm.Term.string "PurseHouse" (161 : Nat)) "java/lang/String") (by decide +kernel))
    · exact lw_str (hts0 _ wn_593) (hs (Jvm.Cond.exactly (Jvm.Term.string "PurseHouse" (176 : Nat)) "java/lang/String") (by decide +kernel))
    · exact lw_str (hts0 _ wn_594) (hs (Jvm.Cond.exactly (Jvm.Term.string "PurseHouse" (185 : Nat)) "java/lang/String") (by decide +kernel))
    · exact lw_str (hts0 _ wn_603) (hs (Jvm.Cond.exactly (Jvm.Term.string "PurseHouse" (193 : Nat)) "java/lang/String") (by decide +kernel))
    · exact lw_naof (hs (Jvm.Cond.not (Jvm.Cond.castable "java/lang/IllegalArgumentException" "java/util/NoSuchElementException")) (by decide +kernel))
  have hmc : 20000 ≤ room_1.cells := Nat.le_of_ble_eq_true rfl
  have hms : 2200000 ≤ room_1.slots := Nat.le_of_ble_eq_true rfl
  exact lw_go l hfl hL hx hb hr hml hown hts hX hbl hlocks rfl hok hq (lw_st (K := fun _ => True) hmc hms hL (fun _ => trivial))
