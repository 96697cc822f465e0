section CL7
variable {g : Nat → ClassId} {e0 : Nat → Nat} {A : hs_A} {h : hs_S} {M : mo_M}
theorem mq_cl3 {cA : ClassId} {a0 a : Nat} {p q : Nat → Int64} {N : mo_M → Prop} (h0 : M a0 = some (.inl (cA, 3, .inr (.inl p)))) (h1 : M a = some (.inl (cA, 3, .inr (.inl q)))) (hN : N (va_up M a (some (.inl (cA, 3, .inr (.inl (va_cpy p q 0 0 3))))))) : mp_cl cA M a0 0 a 0 3 N := ⟨3, 3, p, q, h0, h1, ⟨by decide, by decide, by decide⟩, by decide, by decide, hN⟩
def hc_pg (h : hs_S) (f f' k n : Nat) : hs_S := hs_sl h f' k n (va_cpy (hs_l h f k 0) (hs_l h f' k n) 0 0 3)
def hc_pe (h : hs_S) (k n : Nat) : hs_S := hs_si h 15 k 0 (upd (hs_i h 15 k 0) n (hs_i h 8 k 0 0))
def hc_pm (h : hs_S) (k : Nat) (x : Int32) : hs_S := hs_si h 8 k 0 (upd (hs_i h 8 k 0) 1 (hs_i h 8 k 0 1 ||| ((1 : Int32) <<< (x &&& 31))))
/-- kiosk k keeps the page of n -/
def hc_page (h : hs_S) (k n : Nat) (x : Int32) : hs_S := hc_pm (hc_pe (hc_pg (hc_pg (hc_pg h 9 16 k n) 10 17 k n) 11 18 k n) k n) k x
theorem hc_pg_in {f f' k n : Nat} (H : hs_in g e0 A h M) (hf : f' = 16 ∨ f' = 17 ∨ f' = 18) (hk : k < hs_n h 0 0) (hn : n < 16) : hs_in g e0 A (hc_pg h f f' k n) (va_up M (A f' k n) (some (.inl (g 1, 3, .inr (.inl (va_cpy (hs_l h f k 0) (hs_l h f' k n) 0 0 3)))))) := by
  rcases hf with rfl | rfl | rfl <;> exact hs_wl H (by simp [hs_dom, hk, hn]) rfl _
theorem l2_keepPage {K : mo_M → Prop} {x : Int32} {k n : Nat} (H : hs_in g e0 A h M) (hk : k < hs_n h 0 0) (hx : x = nI n) (hn : n < 16) (hK : ∀ M', hs_in g e0 A (hc_page h k n x) M' → K M') : pp_K_keepPage g e0 K M (A 8 k 0) x := by
  unfold pp_K_keepPage
  unfold hc_page at hK
  refine mq_gr (hs_8 H hk) rfl (mq_gr (hs_8 H hk) rfl (mq_aq (hs_12 H hk) hx hn (by decide) rfl (mq_cl3 (hs_9 H hk) (hs_16 H hk hn) ?_)))
  have H1 := hc_pg_in (f := 9) H (Or.inl rfl) hk hn
  have hk1 : k < hs_n (hc_pg h 9 16 k n) 0 0 := hk
  generalize hc_pg h 9 16 k n = h1 at H1 hk1 hK
  refine mq_gr (hs_8 H1 hk1) rfl (mq_gr (hs_8 H1 hk1) rfl (mq_aq (hs_13 H1 hk1) hx hn (by decide) rfl (mq_cl3 (hs_10 H1 hk1) (hs_17 H1 hk1 hn) ?_)))
  have H2 := hc_pg_in (f := 10) H1 (Or.inr (Or.inl rfl)) hk1 hn
  have hk2 : k < hs_n (hc_pg h1 10 17 k n) 0 0 := hk1
  generalize hc_pg h1 10 17 k n = h2 at H2 hk2 hK
  refine mq_gr (hs_8 H2 hk2) rfl (mq_gr (hs_8 H2 hk2) rfl (mq_aq (hs_14 H2 hk2) hx hn (by decide) rfl (mq_cl3 (hs_11 H2 hk2) (hs_18 H2 hk2 hn) ?_)))
  have H3 := hc_pg_in (f := 11) H2 (Or.inr (Or.inr rfl)) hk2 hn
  have hk3 : k < hs_n (hc_pg h2 11 18 k n) 0 0 := hk2
  generalize hc_pg h2 11 18 k n = h3 at H3 hk3 hK
  refine mq_gr (hs_8 H3 hk3) rfl (mq_gi (hs_8 H3 hk3) rfl (mq_si (hs_15 H3 hk3) hx hn (by decide) ?_))
  have H4 := hs_wi H3 (f := 15) (i := k) (j := 0) (by simp [hs_dom, hk3]) rfl (upd (hs_i h3 15 k 0) n (hs_i h3 8 k 0 0))
  have hk4 : k < hs_n (hc_pe h3 k n) 0 0 := hk3
  change hs_in g e0 A (hc_pe h3 k n) _ at H4
  generalize hc_pe h3 k n = h4 at H4 hk4 hK
  exact mq_gi (hs_8 H4 hk4) rfl (mq_pt (hs_8 H4 hk4) (Nat.le_of_ble_eq_true rfl) (hK _ (hs_w8_1 H4 hk4 _)))
/-- the books agree but for queues and the hand -/
def hs_sm (A A' : hs_A) : Prop := ∀ f i j, f ≠ 21 → f ≠ 24 → f ≠ 25 → A' f i j = A f i j
theorem hs_sm_rf (A : hs_A) : hs_sm A A := fun _ _ _ _ _ _ => rfl
theorem hs_sm_tr {A A' A'' : hs_A} (h1 : hs_sm A A') (h2 : hs_sm A' A'') : hs_sm A A'' := fun f i j a b c => (h2 f i j a b c).trans (h1 f i j a b c)
/-- a new thing t at the end of link l -/
def hc_snd (h : hs_S) (l : Nat) (t : hs_T) : hs_S := hc_push (hc_hand h t) l
theorem hs_ok_hand {t : hs_T} (o : hs_ok h) : hs_ok (hc_hand h t) := by
  obtain ⟨o1, o2, o3, o4, o5⟩ := o
  refine ⟨by rw [hh_n h t 0 0 (by decide)]; exact o1, by rw [hh_n h t 1 0 (by decide)]; exact o2, by rw [hh_n h t 2 0 (by decide)]; exact o3, ?_, ?_⟩
  · intro l hl
    rw [hh_n h t 1 0 (by decide)] at hl
    rw [hh_n h t 3 l (by decide), hh_n h t 4 l (by decide), hh_n h t 0 0 (by decide)]
    exact o4 l hl
  · intro l hl
    rw [hh_n h t 1 0 (by decide)] at hl
    rw [hh_n h t 5 l (by decide), show hs_z (hc_hand h t) l = hs_z h l by unfold hs_z; rw [hh_n h t 1 0 (by decide)]; rfl]
    exact o5 l hl
theorem hs_ok_push {l : Nat} (o : hs_ok h) (hl : l < hs_n h 1 0) (hb : (hs_q h l).length ≤ 40000) : hs_ok (hc_push h l) := by
  have h12 := hs_okl o hl
  obtain ⟨o1, o2, o3, o4, o5⟩ := o
  refine ⟨by rw [hp_n h l 0 0 (by decide) (by decide)]; exact o1, by rw [hp_n h l 1 0 (by decide) (by decide)]; exact o2, by rw [hp_n h l 2 0 (by decide) (by decide)]; exact o3, ?_, ?_⟩
  · intro k hk
    rw [hp_n h l 1 0 (by decide) (by decide)] at hk
    rw [hp_n h l 3 k (by decide) (by decide), hp_n h l 4 k (by decide) (by decide), hp_n h l 0 0 (by decide) (by decide)]
    exact o4 k hk
  · intro k hk
    rw [hp_n h l 1 0 (by decide) (by decide)] at hk
    have ok := o5 k hk
    by_cases q : k = l
    · subst q
      rw [hs_zl h h12] at ok
      rw [hs_zl _ h12, hp_q, hp_n5, if_pos rfl, if_pos rfl, List.length_append, List.length_singleton]
      have h1 := ls_ncp (hs_q h k).length
      have h2 : ls_nc (hs_q h k).length < 100000 := by unfold ls_nc; split <;> (try split) <;> omega
      split <;> omega
    · have ez : hs_z (hc_push h l) k = hs_z h k := by unfold hs_z; rw [hp_q, if_neg q, hp_n h l 1 0 (by decide) (by decide)]
      rw [ez, hp_n5, if_neg q]
      exact ok
/-- new Thing, its fields, into the queue -/
theorem l2_send {K : mo_M → Prop} {l mc ms : Nat} {x1 x2 x3 x4 : Int32} (H : hs_in g e0 A h M) (o : hs_ok h) (hl : l < hs_n h 1 0) (hb : (hs_q h l).length ≤ 800) (hm : 2 ≤ mc) (hs : 1300 ≤ ms) (hK : ∀ A' M', hs_sm A A' → hs_in g e0 A' (hc_snd h l (x1, x2, x3, x4)) M' → K M') (q : Nat) (hq : mo_fr M q) : pp_T_init g e0 (fun M8 => (∃ c9 t10 : Nat, 0 + 1 + c9 ≤ mc ∧ 0 + 4 + t10 ≤ ms ∧ (mp_is M8 (A 20 l 0) 5 ∧ pp_A_add0 g e0 c9 t10 (fun r12 M11 => (0 + 1 + c9 ≤ mc ∧ 0 + 4 + t10 ≤ ms ∧ K M11)) M8 (A 20 l 0) q))) (va_up M q (some (.inr (3, [.int 0, .int 0, .int 0, .int 0])))) q x1 x2 x3 x4 := by
  have h12 := hs_okl o hl
  have hl7 : l < hs_n h 7 0 := Nat.lt_of_lt_of_le hl H.2.2
  unfold pp_T_init
  refine mq_pt (va_up_self _ _ _) (Nat.le_of_ble_eq_true rfl) (mq_pt (va_up_self _ _ _) (Nat.le_of_ble_eq_true rfl) (mq_pt (va_up_self _ _ _) (Nat.le_of_ble_eq_true rfl) (mq_pt (va_up_self _ _ _) (Nat.le_of_ble_eq_true rfl) ?_)))
  have H1 := hs_hand (t := (x1, x2, x3, x4)) (M' := va_up (va_up (va_up (va_up (va_up M q (some (.inr (3, [.int 0, .int 0, .int 0, .int 0])))) q (some (.inr (3, [Value.int 0, .int 0, .int 0, .int 0].set 0 (.int x1))))) q (some (.inr (3, ([Value.int 0, .int 0, .int 0, .int 0].set 0 (.int x1)).set 1 (.int x2))))) q (some (.inr (3, (([Value.int 0, .int 0, .int 0, .int 0].set 0 (.int x1)).set 1 (.int x2)).set 2 (.int x3))))) q (some (.inr (3, ((([Value.int 0, .int 0, .int 0, .int 0].set 0 (.int x1)).set 1 (.int x2)).set 2 (.int x3)).set 3 (.int x4))))) H hq (by rw [va_up_self]; rfl) (fun b hb => by rw [va_up_ne _ _ hb, va_up_ne _ _ hb, va_up_ne _ _ hb, va_up_ne _ _ hb, va_up_ne _ _ hb])
  generalize va_up (va_up (va_up (va_up (va_up M q (some (.inr (3, [.int 0, .int 0, .int 0, .int 0])))) q (some (.inr (3, [Value.int 0, .int 0, .int 0, .int 0].set 0 (.int x1))))) q (some (.inr (3, ([Value.int 0, .int 0, .int 0, .int 0].set 0 (.int x1)).set 1 (.int x2))))) q (some (.inr (3, (([Value.int 0, .int 0, .int 0, .int 0].set 0 (.int x1)).set 1 (.int x2)).set 2 (.int x3))))) q (some (.inr (3, ((([Value.int 0, .int 0, .int 0, .int 0].set 0 (.int x1)).set 1 (.int x2)).set 2 (.int x3)).set 3 (.int x4)))) = M1 at H1
  have o1 := hs_ok_hand (t := (x1, x2, x3, x4)) o
  have hl1 : l < hs_n (hc_hand h (x1, x2, x3, x4)) 1 0 := by rw [hh_n h _ 1 0 (by decide)]; exact hl
  have h61 : hs_n (hc_hand h (x1, x2, x3, x4)) 6 0 = 1 := by simp [hc_hand, hs_n_sn]
  have hqq : hs_q (hc_hand h (x1, x2, x3, x4)) l = hs_q h l := rfl
  have hAl : hs_hA A q 20 l 0 = A 20 l 0 := rfl
  have hA25 : hs_hA A q 25 0 0 = q := rfl
  rw [← hqq] at hb
  unfold hc_snd at hK
  generalize hc_hand h (x1, x2, x3, x4) = h1 at H1 o1 hl1 h61 hb hK
  have hz := hs_zl h1 h12
  have hcap := o1.2.2.2.2 l (Or.inl hl1)
  rw [hz] at hcap
  have hl17 : l < hs_n h1 7 0 := Nat.lt_of_lt_of_le hl1 H1.2.2
  refine ⟨mc - 1, ms - 4, by omega, by omega, ?_⟩
  have ha := hs_20 H1 (Or.inl hl1)
  rw [hAl, hz] at ha
  refine ⟨⟨_, ha⟩, ?_⟩
  refine l2_add (cap := hs_n h1 5 l) (f := fun p => if p < hs_z h1 l then some (if l = 12 then hs_hA A q 19 p 0 else hs_hA A q 24 l p) else none) ha ?_ hcap.1 hcap.2 ?_ ?_ ?_ ?_ (fun M' d' S => ?_)
  · by_cases hc0 : hs_n h1 5 l = 0
    · refine Or.inl ⟨hc0, by rw [if_pos hc0], funext fun p => ?_⟩
      rw [hz, if_neg (by omega)]
    · have := hs_21 H1 (Or.inl hl1) (by omega)
      refine Or.inr ⟨by omega, ?_⟩
      rw [if_neg hc0]
      exact this
  · intro p hp
    rw [hz, if_neg (by omega)]
  · intro p y hy
    by_cases hp : p < hs_z h1 l
    · rw [if_pos hp, if_neg h12] at hy
      cases hy
      rw [hz] at hp
      exact Or.inr ⟨_, hs_24 H1 hl1 hp⟩
    · rw [if_neg hp] at hy
      cases hy
  · exact Or.inr ⟨_, hs_25 H1 h61⟩
  · intro hfull
    refine ⟨by omega, ?_⟩
    unfold ls_nc
    split <;> (try split) <;> omega
  · have S' : ls_sp g M1 M' (hs_hA A q 20 l 0) (if hs_n h1 5 l = 0 then e0 0 else hs_hA A q 21 l 0) (hs_hA A q 25 0 0) (hs_q h1 l).length (hs_n h1 5 l) (hs_i h1 20 l 0 0) (fun p => if p < hs_z h1 l then some (if l = 12 then hs_hA A q 19 p 0 else hs_hA A q 24 l p) else none) d' := S
    have H2 := hs_push H1 o1 hl1 h61 S'
    refine ⟨by omega, by omega, hK _ _ ?_ H2⟩
    intro f i j a1 a2 a3
    unfold hs_pA hs_hA
    rw [if_neg (fun z => a2 z.1), if_neg (fun z => a1 z.1), if_neg a3]
end CL7
