section
-- ===== PART A: goes FIRST, ahead of the names: the tables' words, and 'selects' of the private methods out of them =====
/-- a private method of a class that the tables say can be made, by its rows of tables_1 -/
def lw_okq (q : MethodName × Nat) : Prop := (q.1.cls ≠ "java/lang/invoke/MethodHandle" ∧ q.1.cls ≠ "java/lang/invoke/VarHandle") ∧ Cond.instantiable q.1.cls q.2 ∈ tables_1 ∧ Cond.privateMethod q.1 ∈ tables_1 ∧ Cond.instanceMethod q.1 ∈ tables_1
theorem lw_p0 : lw_okq (⟨"PurseHouse", "hasKiosk", "(I)Z"⟩, 5) := ⟨⟨by decide +kernel, by decide +kernel⟩, List.mem_of_getElem? (i := 21) (by decide +kernel), List.mem_of_getElem? (i := 130) (by decide +kernel), List.mem_of_getElem? (i := 131) (by decide +kernel)⟩
theorem lw_p1 : lw_okq (⟨"java/util/ArrayList", "add", "(Ljava/lang/Object;[Ljava/lang/Object;I)V"⟩, 3) := ⟨⟨by decide +kernel, by decide +kernel⟩, List.mem_of_getElem? (i := 29) (by decide +kernel), List.mem_of_getElem? (i := 179) (by decide +kernel), List.mem_of_getElem? (i := 180) (by decide +kernel)⟩
theorem lw_p2 : lw_okq (⟨"java/util/ArrayList", "grow", "()[Ljava/lang/Object;"⟩, 3) := ⟨⟨by decide +kernel, by decide +kernel⟩, List.mem_of_getElem? (i := 29) (by decide +kernel), List.mem_of_getElem? (i := 183) (by decide +kernel), List.mem_of_getElem? (i := 184) (by decide +kernel)⟩
theorem lw_p3 : lw_okq (⟨"java/util/ArrayList", "grow", "(I)[Ljava/lang/Object;"⟩, 3) := ⟨⟨by decide +kernel, by decide +kernel⟩, List.mem_of_getElem? (i := 29) (by decide +kernel), List.mem_of_getElem? (i := 187) (by decide +kernel), List.mem_of_getElem? (i := 188) (by decide +kernel)⟩
theorem lw_p4 : lw_okq (⟨"PurseHouse", "canPay", "(III)Z"⟩, 5) := ⟨⟨by decide +kernel, by decide +kernel⟩, List.mem_of_getElem? (i := 21) (by decide +kernel), List.mem_of_getElem? (i := 247) (by decide +kernel), List.mem_of_getElem? (i := 248) (by decide +kernel)⟩
theorem lw_p5 : lw_okq (⟨"PurseHouse", "hasLink", "(I)Z"⟩, 5) := ⟨⟨by decide +kernel, by decide +kernel⟩, List.mem_of_getElem? (i := 21) (by decide +kernel), List.mem_of_getElem? (i := 275) (by decide +kernel), List.mem_of_getElem? (i := 276) (by decide +kernel)⟩
theorem lw_p6 : lw_okq (⟨"PurseHouse", "hasThing", "(II)Z"⟩, 5) := ⟨⟨by decide +kernel, by decide +kernel⟩, List.mem_of_getElem? (i := 21) (by decide +kernel), List.mem_of_getElem? (i := 339) (by decide +kernel), List.mem_of_getElem? (i := 340) (by decide +kernel)⟩
theorem lw_p7 : lw_okq (⟨"java/util/ArrayList", "fastRemove", "([Ljava/lang/Object;I)V"⟩, 3) := ⟨⟨by decide +kernel, by decide +kernel⟩, List.mem_of_getElem? (i := 29) (by decide +kernel), List.mem_of_getElem? (i := 347) (by decide +kernel), List.mem_of_getElem? (i := 348) (by decide +kernel)⟩
theorem lw_p8 : lw_okq (⟨"PurseHouse", "takeMarker", "(LPurseHouse$Link;I)V"⟩, 5) := ⟨⟨by decide +kernel, by decide +kernel⟩, List.mem_of_getElem? (i := 21) (by decide +kernel), List.mem_of_getElem? (i := 353) (by decide +kernel), List.mem_of_getElem? (i := 354) (by decide +kernel)⟩
theorem lw_p9 : lw_okq (⟨"PurseHouse", "recordAt", "(LPurseHouse$Kiosk;I)V"⟩, 5) := ⟨⟨by decide +kernel, by decide +kernel⟩, List.mem_of_getElem? (i := 21) (by decide +kernel), List.mem_of_getElem? (i := 357) (by decide +kernel), List.mem_of_getElem? (i := 358) (by decide +kernel)⟩
theorem lw_p10 : lw_okq (⟨"PurseHouse", "takeBag", "(LPurseHouse$Link;LPurseHouse$Thing;)V"⟩, 5) := ⟨⟨by decide +kernel, by decide +kernel⟩, List.mem_of_getElem? (i := 21) (by decide +kernel), List.mem_of_getElem? (i := 377) (by decide +kernel), List.mem_of_getElem? (i := 378) (by decide +kernel)⟩
theorem lw_p11 : lw_okq (⟨"PurseHouse", "hasNumber", "(I)Z"⟩, 5) := ⟨⟨by decide +kernel, by decide +kernel⟩, List.mem_of_getElem? (i := 21) (by decide +kernel), List.mem_of_getElem? (i := 412) (by decide +kernel), List.mem_of_getElem? (i := 413) (by decide +kernel)⟩
theorem lw_p12 : lw_okq (⟨"PurseHouse", "allKiosksRecorded", "(I)Z"⟩, 5) := ⟨⟨by decide +kernel, by decide +kernel⟩, List.mem_of_getElem? (i := 21) (by decide +kernel), List.mem_of_getElem? (i := 420) (by decide +kernel), List.mem_of_getElem? (i := 421) (by decide +kernel)⟩
theorem lw_p13 : lw_okq (⟨"PurseHouse", "allLinksDone", "(I)Z"⟩, 5) := ⟨⟨by decide +kernel, by decide +kernel⟩, List.mem_of_getElem? (i := 21) (by decide +kernel), List.mem_of_getElem? (i := 424) (by decide +kernel), List.mem_of_getElem? (i := 425) (by decide +kernel)⟩
theorem lw_p14 : lw_okq (⟨"java/lang/Throwable", "fillInStackTrace", "(I)Ljava/lang/Throwable;"⟩, 6) := ⟨⟨by decide +kernel, by decide +kernel⟩, List.mem_of_getElem? (i := 509) (by decide +kernel), List.mem_of_getElem? (i := 507) (by decide +kernel), List.mem_of_getElem? (i := 508) (by decide +kernel)⟩
theorem lw_p15 : lw_okq (⟨"PurseHouseModel", "isKiosk", "(I)Z"⟩, 27) := ⟨⟨by decide +kernel, by decide +kernel⟩, List.mem_of_getElem? (i := 573) (by decide +kernel), List.mem_of_getElem? (i := 670) (by decide +kernel), List.mem_of_getElem? (i := 671) (by decide +kernel)⟩
def lw_privs_1 : List (MethodName × Nat) := [(⟨"PurseHouse", "hasKiosk", "(I)Z"⟩, 5), (⟨"java/util/ArrayList", "add", "(Ljava/lang/Object;[Ljava/lang/Object;I)V"⟩, 3), (⟨"java/util/ArrayList", "grow", "()[Ljava/lang/Object;"⟩, 3), (⟨"java/util/ArrayList", "grow", "(I)[Ljava/lang/Object;"⟩, 3), (⟨"PurseHouse", "canPay", "(III)Z"⟩, 5), (⟨"PurseHouse", "hasLink", "(I)Z"⟩, 5), (⟨"PurseHouse", "hasThing", "(II)Z"⟩, 5), (⟨"java/util/ArrayList", "fastRemove", "([Ljava/lang/Object;I)V"⟩, 3), (⟨"PurseHouse", "takeMarker", "(LPurseHouse$Link;I)V"⟩, 5), (⟨"PurseHouse", "recordAt", "(LPurseHouse$Kiosk;I)V"⟩, 5), (⟨"PurseHouse", "takeBag", "(LPurseHouse$Link;LPurseHouse$Thing;)V"⟩, 5), (⟨"PurseHouse", "hasNumber", "(I)Z"⟩, 5), (⟨"PurseHouse", "allKiosksRecorded", "(I)Z"⟩, 5), (⟨"PurseHouse", "allLinksDone", "(I)Z"⟩, 5), (⟨"java/lang/Throwable", "fillInStackTrace", "(I)Ljava/lang/Throwable;"⟩, 6), (⟨"PurseHouseModel", "isKiosk", "(I)Z"⟩, 27)]
theorem lw_r1 : ∀ q ∈ lw_privs_1, lw_okq q := List.forall_mem_cons.mpr ⟨lw_p0, List.forall_mem_cons.mpr ⟨lw_p1, List.forall_mem_cons.mpr ⟨lw_p2, List.forall_mem_cons.mpr ⟨lw_p3, List.forall_mem_cons.mpr ⟨lw_p4, List.forall_mem_cons.mpr ⟨lw_p5, List.forall_mem_cons.mpr ⟨lw_p6, List.forall_mem_cons.mpr ⟨lw_p7, List.forall_mem_cons.mpr ⟨lw_p8, List.forall_mem_cons.mpr ⟨lw_p9, List.forall_mem_cons.mpr ⟨lw_p10, List.forall_mem_cons.mpr ⟨lw_p11, List.forall_mem_cons.mpr ⟨lw_p12, List.forall_mem_cons.mpr ⟨lw_p13, List.forall_mem_cons.mpr ⟨lw_p14, List.forall_mem_cons.mpr ⟨lw_p15, fun _ h => absurd h List.not_mem_nil⟩⟩⟩⟩⟩⟩⟩⟩⟩⟩⟩⟩⟩⟩⟩⟩
theorem lw_p16 : lw_okq (⟨"PurseHouseModel", "note", "(IIJJJ)V"⟩, 27) := ⟨⟨by decide +kernel, by decide +kernel⟩, List.mem_of_getElem? (i := 573) (by decide +kernel), List.mem_of_getElem? (i := 690) (by decide +kernel), List.mem_of_getElem? (i := 691) (by decide +kernel)⟩
theorem lw_p17 : lw_okq (⟨"PurseHouseModel", "has", "(III)Z"⟩, 27) := ⟨⟨by decide +kernel, by decide +kernel⟩, List.mem_of_getElem? (i := 573) (by decide +kernel), List.mem_of_getElem? (i := 698) (by decide +kernel), List.mem_of_getElem? (i := 699) (by decide +kernel)⟩
theorem lw_p18 : lw_okq (⟨"PurseHouseModel", "stockAt", "(III)J"⟩, 27) := ⟨⟨by decide +kernel, by decide +kernel⟩, List.mem_of_getElem? (i := 573) (by decide +kernel), List.mem_of_getElem? (i := 702) (by decide +kernel), List.mem_of_getElem? (i := 703) (by decide +kernel)⟩
theorem lw_p19 : lw_okq (⟨"PurseHouseModel", "isLink", "(I)Z"⟩, 27) := ⟨⟨by decide +kernel, by decide +kernel⟩, List.mem_of_getElem? (i := 573) (by decide +kernel), List.mem_of_getElem? (i := 714) (by decide +kernel), List.mem_of_getElem? (i := 715) (by decide +kernel)⟩
theorem lw_p20 : lw_okq (⟨"PurseHouseModel", "isThere", "(II)Z"⟩, 27) := ⟨⟨by decide +kernel, by decide +kernel⟩, List.mem_of_getElem? (i := 573) (by decide +kernel), List.mem_of_getElem? (i := 718) (by decide +kernel), List.mem_of_getElem? (i := 719) (by decide +kernel)⟩
theorem lw_p21 : lw_okq (⟨"PurseHouseModel", "send", "(IIIII)V"⟩, 27) := ⟨⟨by decide +kernel, by decide +kernel⟩, List.mem_of_getElem? (i := 573) (by decide +kernel), List.mem_of_getElem? (i := 722) (by decide +kernel), List.mem_of_getElem? (i := 723) (by decide +kernel)⟩
theorem lw_p22 : lw_okq (⟨"PurseHouseModel", "thingAt", "(II)I"⟩, 27) := ⟨⟨by decide +kernel, by decide +kernel⟩, List.mem_of_getElem? (i := 573) (by decide +kernel), List.mem_of_getElem? (i := 730) (by decide +kernel), List.mem_of_getElem? (i := 731) (by decide +kernel)⟩
theorem lw_p23 : lw_okq (⟨"PurseHouseModel", "record", "(II)V"⟩, 27) := ⟨⟨by decide +kernel, by decide +kernel⟩, List.mem_of_getElem? (i := 573) (by decide +kernel), List.mem_of_getElem? (i := 734) (by decide +kernel), List.mem_of_getElem? (i := 735) (by decide +kernel)⟩
theorem lw_p24 : lw_okq (⟨"PurseHouseModel", "recording", "(II)I"⟩, 27) := ⟨⟨by decide +kernel, by decide +kernel⟩, List.mem_of_getElem? (i := 573) (by decide +kernel), List.mem_of_getElem? (i := 738) (by decide +kernel), List.mem_of_getElem? (i := 739) (by decide +kernel)⟩
theorem lw_p25 : lw_okq (⟨"PurseHouseModel", "isMarked", "(II)Z"⟩, 27) := ⟨⟨by decide +kernel, by decide +kernel⟩, List.mem_of_getElem? (i := 573) (by decide +kernel), List.mem_of_getElem? (i := 742) (by decide +kernel), List.mem_of_getElem? (i := 743) (by decide +kernel)⟩
theorem lw_p26 : lw_okq (⟨"PurseHouseModel", "tillAt", "(III)J"⟩, 27) := ⟨⟨by decide +kernel, by decide +kernel⟩, List.mem_of_getElem? (i := 573) (by decide +kernel), List.mem_of_getElem? (i := 758) (by decide +kernel), List.mem_of_getElem? (i := 759) (by decide +kernel)⟩
theorem lw_p27 : lw_okq (⟨"PurseHouseModel", "isNumber", "(I)Z"⟩, 27) := ⟨⟨by decide +kernel, by decide +kernel⟩, List.mem_of_getElem? (i := 573) (by decide +kernel), List.mem_of_getElem? (i := 774) (by decide +kernel), List.mem_of_getElem? (i := 775) (by decide +kernel)⟩
theorem lw_p28 : lw_okq (⟨"PurseHouseModel", "isDone", "(II)Z"⟩, 27) := ⟨⟨by decide +kernel, by decide +kernel⟩, List.mem_of_getElem? (i := 573) (by decide +kernel), List.mem_of_getElem? (i := 782) (by decide +kernel), List.mem_of_getElem? (i := 783) (by decide +kernel)⟩
theorem lw_p29 : lw_okq (⟨"PurseHouseModel", "markerAt", "(II)I"⟩, 27) := ⟨⟨by decide +kernel, by decide +kernel⟩, List.mem_of_getElem? (i := 573) (by decide +kernel), List.mem_of_getElem? (i := 786) (by decide +kernel), List.mem_of_getElem? (i := 787) (by decide +kernel)⟩
theorem lw_p30 : lw_okq (⟨"PurseHouseModel", "roadOf", "(III)J"⟩, 27) := ⟨⟨by decide +kernel, by decide +kernel⟩, List.mem_of_getElem? (i := 573) (by decide +kernel), List.mem_of_getElem? (i := 798) (by decide +kernel), List.mem_of_getElem? (i := 799) (by decide +kernel)⟩
theorem lw_p31 : lw_okq (⟨"PurseHouseModel", "mintedAt", "(III)J"⟩, 27) := ⟨⟨by decide +kernel, by decide +kernel⟩, List.mem_of_getElem? (i := 573) (by decide +kernel), List.mem_of_getElem? (i := 811) (by decide +kernel), List.mem_of_getElem? (i := 812) (by decide +kernel)⟩
def lw_privs_2 : List (MethodName × Nat) := [(⟨"PurseHouseModel", "note", "(IIJJJ)V"⟩, 27), (⟨"PurseHouseModel", "has", "(III)Z"⟩, 27), (⟨"PurseHouseModel", "stockAt", "(III)J"⟩, 27), (⟨"PurseHouseModel", "isLink", "(I)Z"⟩, 27), (⟨"PurseHouseModel", "isThere", "(II)Z"⟩, 27), (⟨"PurseHouseModel", "send", "(IIIII)V"⟩, 27), (⟨"PurseHouseModel", "thingAt", "(II)I"⟩, 27), (⟨"PurseHouseModel", "record", "(II)V"⟩, 27), (⟨"PurseHouseModel", "recording", "(II)I"⟩, 27), (⟨"PurseHouseModel", "isMarked", "(II)Z"⟩, 27), (⟨"PurseHouseModel", "tillAt", "(III)J"⟩, 27), (⟨"PurseHouseModel", "isNumber", "(I)Z"⟩, 27), (⟨"PurseHouseModel", "isDone", "(II)Z"⟩, 27), (⟨"PurseHouseModel", "markerAt", "(II)I"⟩, 27), (⟨"PurseHouseModel", "roadOf", "(III)J"⟩, 27), (⟨"PurseHouseModel", "mintedAt", "(III)J"⟩, 27)]
theorem lw_r2 : ∀ q ∈ lw_privs_2, lw_okq q := List.forall_mem_cons.mpr ⟨lw_p16, List.forall_mem_cons.mpr ⟨lw_p17, List.forall_mem_cons.mpr ⟨lw_p18, List.forall_mem_cons.mpr ⟨lw_p19, List.forall_mem_cons.mpr ⟨lw_p20, List.forall_mem_cons.mpr ⟨lw_p21, List.forall_mem_cons.mpr ⟨lw_p22, List.forall_mem_cons.mpr ⟨lw_p23, List.forall_mem_cons.mpr ⟨lw_p24, List.forall_mem_cons.mpr ⟨lw_p25, List.forall_mem_cons.mpr ⟨lw_p26, List.forall_mem_cons.mpr ⟨lw_p27, List.forall_mem_cons.mpr ⟨lw_p28, List.forall_mem_cons.mpr ⟨lw_p29, List.forall_mem_cons.mpr ⟨lw_p30, List.forall_mem_cons.mpr ⟨lw_p31, fun _ h => absurd h List.not_mem_nil⟩⟩⟩⟩⟩⟩⟩⟩⟩⟩⟩⟩⟩⟩⟩⟩
def lw_privs : List (MethodName × Nat) := lw_privs_1 ++ (lw_privs_2)
def lw_tbl : List Cond := k2_sels lw_privs ++ tables_1
theorem lw_privs_ok : ∀ q ∈ lw_privs, lw_okq q := by
  show ∀ q ∈ lw_privs_1 ++ (lw_privs_2), lw_okq q
  exact List.forall_mem_append.mpr ⟨lw_r1, lw_r2⟩
def lw_nk : Cond → Bool
  | .methodLinkNest .. => true
  | .fieldLinkNest .. => true
  | .castable .. => true
  | .declares _ => true
  | _ => false
def lw_g : List Cond := lw_tbl.filter goodWord
/-- the words of a callee among all words -/
theorem lw_gi {c : Cond} (h : c ∈ lw_g) : GoodIn lw_g (c :: lw_g) := fun w hw => (List.mem_cons.mp hw).elim (fun e => by subst e; exact ⟨h, good_of_word (List.mem_filter.mp h).2⟩) (fun q => ⟨q, good_of_word (List.mem_filter.mp q).2⟩)
theorem lw_in {c : Cond} (i : Nat) (h : lw_tbl[i]? = some c) (hg : goodWord c = true) : c ∈ lw_g := List.mem_filter.mpr ⟨List.mem_of_getElem? h, hg⟩
end
section
theorem wd_0 : (Jvm.Cond.selects "PurseHouse" ({ cls := "PurseHouse", name := "hasKiosk", desc := "(I)Z" } : Jvm.MethodName) ({ cls := "PurseHouse", name := "hasKiosk", desc := "(I)Z" } : Jvm.MethodName)) ∈ lw_g := lw_in 0 (by decide +kernel) (by decide +kernel)
theorem wd_1 : (Jvm.Cond.selects "java/util/ArrayList" ({ cls := "java/util/ArrayList", name := "add", desc := "(Ljava/lang/Object;[Ljava/lang/Object;I)V" } : Jvm.MethodName) ({ cls := "java/util/ArrayList", name := "add", desc := "(Ljava/lang/Object;[Ljava/lang/Object;I)V" } : Jvm.MethodName)) ∈ lw_g := lw_in 1 (by decide +kernel) (by decide +kernel)
theorem wd_2 : (Jvm.Cond.selects "java/util/ArrayList" ({ cls := "java/util/ArrayList", name := "grow", desc := "()[Ljava/lang/Object;" } : Jvm.MethodName) ({ cls := "java/util/ArrayList", name := "grow", desc := "()[Ljava/lang/Object;" } : Jvm.MethodName)) ∈ lw_g := lw_in 2 (by decide +kernel) (by decide +kernel)
theorem wd_3 : (Jvm.Cond.selects "java/util/ArrayList" ({ cls := "java/util/ArrayList", name := "grow", desc := "(I)[Ljava/lang/Object;" } : Jvm.MethodName) ({ cls := "java/util/ArrayList", name := "grow", desc := "(I)[Ljava/lang/Object;" } : Jvm.MethodName)) ∈ lw_g := lw_in 3 (by decide +kernel) (by decide +kernel)
theorem wd_4 : (Jvm.Cond.selects "PurseHouse" ({ cls := "PurseHouse", name := "canPay", desc := "(III)Z" } : Jvm.MethodName) ({ cls := "PurseHouse", name := "canPay", desc := "(III)Z" } : Jvm.MethodName)) ∈ lw_g := lw_in 4 (by decide +kernel) (by decide +kernel)
theorem wd_5 : (Jvm.Cond.selects "PurseHouse" ({ cls := "PurseHouse", name := "hasLink", desc := "(I)Z" } : Jvm.MethodName) ({ cls := "PurseHouse", name := "hasLink", desc := "(I)Z" } : Jvm.MethodName)) ∈ lw_g := lw_in 5 (by decide +kernel) (by decide +kernel)
theorem wd_6 : (Jvm.Cond.selects "PurseHouse" ({ cls := "PurseHouse", name := "hasThing", desc := "(II)Z" } : Jvm.MethodName) ({ cls := "PurseHouse", name := "hasThing", desc := "(II)Z" } : Jvm.MethodName)) ∈ lw_g := lw_in 6 (by decide +kernel) (by decide +kernel)
theorem wd_7 : (Jvm.Cond.selects "java/util/ArrayList" ({ cls := "java/util/ArrayList", name := "fastRemove", desc := "([Ljava/lang/Object;I)V" } : Jvm.MethodName) ({ cls := "java/util/ArrayList", name := "fastRemove", desc := "([Ljava/lang/Object;I)V" } : Jvm.MethodName)) ∈ lw_g := lw_in 7 (by decide +kernel) (by decide +kernel)
theorem wd_8 : (Jvm.Cond.selects "PurseHouse" ({ cls := "PurseHouse", name := "takeMarker", desc := "(LPurseHouse$Link;I)V" } : Jvm.MethodName) ({ cls := "PurseHouse", name := "takeMarker", desc := "(LPurseHouse$Link;I)V" } : Jvm.MethodName)) ∈ lw_g := lw_in 8 (by decide +kernel) (by decide +kernel)
theorem wd_9 : (Jvm.Cond.selects "PurseHouse" ({ cls := "PurseHouse", name := "recordAt", desc := "(LPurseHouse$Kiosk;I)V" } : Jvm.MethodName) ({ cls := "PurseHouse", name := "recordAt", desc := "(LPurseHouse$Kiosk;I)V" } : Jvm.MethodName)) ∈ lw_g := lw_in 9 (by decide +kernel) (by decide +kernel)
theorem wd_10 : (Jvm.Cond.selects "PurseHouse" ({ cls := "PurseHouse", name := "takeBag", desc := "(LPurseHouse$Link;LPurseHouse$Thing;)V" } : Jvm.MethodName) ({ cls := "PurseHouse", name := "takeBag", desc := "(LPurseHouse$Link;LPurseHouse$Thing;)V" } : Jvm.MethodName)) ∈ lw_g := lw_in 10 (by decide +kernel) (by decide +kernel)
theorem wd_11 : (Jvm.Cond.selects "PurseHouse" ({ cls := "PurseHouse", name := "hasNumber", desc := "(I)Z" } : Jvm.MethodName) ({ cls := "PurseHouse", name := "hasNumber", desc := "(I)Z" } : Jvm.MethodName)) ∈ lw_g := lw_in 11 (by decide +kernel) (by decide +kernel)
theorem wd_12 : (Jvm.Cond.selects "PurseHouse" ({ cls := "PurseHouse", name := "allKiosksRecorded", desc := "(I)Z" } : Jvm.MethodName) ({ cls := "PurseHouse", name := "allKiosksRecorded", desc := "(I)Z" } : Jvm.MethodName)) ∈ lw_g := lw_in 12 (by decide +kernel) (by decide +kernel)
theorem wd_13 : (Jvm.Cond.selects "PurseHouse" ({ cls := "PurseHouse", name := "allLinksDone", desc := "(I)Z" } : Jvm.MethodName) ({ cls := "PurseHouse", name := "allLinksDone", desc := "(I)Z" } : Jvm.MethodName)) ∈ lw_g := lw_in 13 (by decide +kernel) (by decide +kernel)
theorem wd_14 : (Jvm.Cond.selects "java/lang/Throwable" ({ cls := "java/lang/Throwable", name := "fillInStackTrace", desc := "(I)Ljava/lang/Throwable;" } : Jvm.MethodName) ({ cls := "java/lang/Throwable", name := "fillInStackTrace", desc := "(I)Ljava/lang/Throwable;" } : Jvm.MethodName)) ∈ lw_g := lw_in 14 (by decide +kernel) (by decide +kernel)
theorem wd_15 : (Jvm.Cond.selects "PurseHouseModel" ({ cls := "PurseHouseModel", name := "isKiosk", desc := "(I)Z" } : Jvm.MethodName) ({ cls := "PurseHouseModel", name := "isKiosk", desc := "(I)Z" } : Jvm.MethodName)) ∈ lw_g := lw_in 15 (by decide +kernel) (by decide +kernel)
theorem wd_16 : (Jvm.Cond.selects "PurseHouseModel" ({ cls := "PurseHouseModel", name := "note", desc := "(IIJJJ)V" } : Jvm.MethodName) ({ cls := "PurseHouseModel", name := "note", desc := "(IIJJJ)V" } : Jvm.MethodName)) ∈ lw_g := lw_in 16 (by decide +kernel) (by decide +kernel)
theorem wd_17 : (Jvm.Cond.selects "PurseHouseModel" ({ cls := "PurseHouseModel", name := "has", desc := "(III)Z" } : Jvm.MethodName) ({ cls := "PurseHouseModel", name := "has", desc := "(III)Z" } : Jvm.MethodName)) ∈ lw_g := lw_in 17 (by decide +kernel) (by decide +kernel)
theorem wd_18 : (Jvm.Cond.selects "PurseHouseModel" ({ cls := "PurseHouseModel", name := "stockAt", desc := "(III)J" } : Jvm.MethodName) ({ cls := "PurseHouseModel", name := "stockAt", desc := "(III)J" } : Jvm.MethodName)) ∈ lw_g := lw_in 18 (by decide +kernel) (by decide +kernel)
theorem wd_19 : (Jvm.Cond.selects "PurseHouseModel" ({ cls := "PurseHouseModel", name := "isLink", desc := "(I)Z" } : Jvm.MethodName) ({ cls := "PurseHouseModel", name := "isLink", desc := "(I)Z" } : Jvm.MethodName)) ∈ lw_g := lw_in 19 (by decide +kernel) (by decide +kernel)
theorem wd_20 : (Jvm.Cond.selects "PurseHouseModel" ({ cls := "PurseHouseModel", name := "isThere", desc := "(II)Z" } : Jvm.MethodName) ({ cls := "PurseHouseModel", name := "isThere", desc := "(II)Z" } : Jvm.MethodName)) ∈ lw_g := lw_in 20 (by decide +kernel) (by decide +kernel)
theorem wd_21 : (Jvm.Cond.selects "PurseHouseModel" ({ cls := "PurseHouseModel", name := "send", desc := "(IIIII)V" } : Jvm.MethodName) ({ cls := "PurseHouseModel", name := "send", desc := "(IIIII)V" } : Jvm.MethodName)) ∈ lw_g := lw_in 21 (by decide +kernel) (by decide +kernel)
theorem wd_22 : (Jvm.Cond.selects "PurseHouseModel" ({ cls := "PurseHouseModel", name := "thingAt", desc := "(II)I" } : Jvm.MethodName) ({ cls := "PurseHouseModel", name := "thingAt", desc := "(II)I" } : Jvm.MethodName)) ∈ lw_g := lw_in 22 (by decide +kernel) (by decide +kernel)
theorem wd_23 : (Jvm.Cond.selects "PurseHouseModel" ({ cls := "PurseHouseModel", name := "record", desc := "(II)V" } : Jvm.MethodName) ({ cls := "PurseHouseModel", name := "record", desc := "(II)V" } : Jvm.MethodName)) ∈ lw_g := lw_in 23 (by decide +kernel) (by decide +kernel)
theorem wd_24 : (Jvm.Cond.selects "PurseHouseModel" ({ cls := "PurseHouseModel", name := "recording", desc := "(II)I" } : Jvm.MethodName) ({ cls := "PurseHouseModel", name := "recording", desc := "(II)I" } : Jvm.MethodName)) ∈ lw_g := lw_in 24 (by decide +kernel) (by decide +kernel)
theorem wd_25 : (Jvm.Cond.selects "PurseHouseModel" ({ cls := "PurseHouseModel", name := "isMarked", desc := "(II)Z" } : Jvm.MethodName) ({ cls := "PurseHouseModel", name := "isMarked", desc := "(II)Z" } : Jvm.MethodName)) ∈ lw_g := lw_in 25 (by decide +kernel) (by decide +kernel)
theorem wd_26 : (Jvm.Cond.selects "PurseHouseModel" ({ cls := "PurseHouseModel", name := "tillAt", desc := "(III)J" } : Jvm.MethodName) ({ cls := "PurseHouseModel", name := "tillAt", desc := "(III)J" } : Jvm.MethodName)) ∈ lw_g := lw_in 26 (by decide +kernel) (by decide +kernel)
theorem wd_27 : (Jvm.Cond.selects "PurseHouseModel" ({ cls := "PurseHouseModel", name := "isNumber", desc := "(I)Z" } : Jvm.MethodName) ({ cls := "PurseHouseModel", name := "isNumber", desc := "(I)Z" } : Jvm.MethodName)) ∈ lw_g := lw_in 27 (by decide +kernel) (by decide +kernel)
theorem wd_28 : (Jvm.Cond.selects "PurseHouseModel" ({ cls := "PurseHouseModel", name := "isDone", desc := "(II)Z" } : Jvm.MethodName) ({ cls := "PurseHouseModel", name := "isDone", desc := "(II)Z" } : Jvm.MethodName)) ∈ lw_g := lw_in 28 (by decide +kernel) (by decide +kernel)
theorem wd_29 : (Jvm.Cond.selects "PurseHouseModel" ({ cls := "PurseHouseModel", name := "markerAt", desc := "(II)I" } : Jvm.MethodName) ({ cls := "PurseHouseModel", name := "markerAt", desc := "(II)I" } : Jvm.MethodName)) ∈ lw_g := lw_in 29 (by decide +kernel) (by decide +kernel)
theorem wd_30 : (Jvm.Cond.selects "PurseHouseModel" ({ cls := "PurseHouseModel", name := "roadOf", desc := "(III)J" } : Jvm.MethodName) ({ cls := "PurseHouseModel", name := "roadOf", desc := "(III)J" } : Jvm.MethodName)) ∈ lw_g := lw_in 30 (by decide +kernel) (by decide +kernel)
theorem wd_31 : (Jvm.Cond.selects "PurseHouseModel" ({ cls := "PurseHouseModel", name := "mintedAt", desc := "(III)J" } : Jvm.MethodName) ({ cls := "PurseHouseModel", name := "mintedAt", desc := "(III)J" } : Jvm.MethodName)) ∈ lw_g := lw_in 31 (by decide +kernel) (by decide +kernel)
theorem wd_32 : (Jvm.Cond.initialized "PurseHouseLaw") ∈ lw_g := lw_in 32 (by decide +kernel) (by decide +kernel)
theorem wd_33 : (Jvm.Cond.initialized "PurseHouse") ∈ lw_g := lw_in 33 (by decide +kernel) (by decide +kernel)
theorem wd_34 : (Jvm.Cond.initialized "java/util/AbstractCollection") ∈ lw_g := lw_in 34 (by decide +kernel) (by decide +kernel)
theorem wd_35 : (Jvm.Cond.initialized "java/util/AbstractList") ∈ lw_g := lw_in 35 (by decide +kernel) (by decide +kernel)
theorem wd_36 : (Jvm.Cond.initialized "java/util/ArrayList") ∈ lw_g := lw_in 36 (by decide +kernel) (by decide +kernel)
theorem wd_37 : (Jvm.Cond.initialized "java/lang/Math") ∈ lw_g := lw_in 37 (by decide +kernel) (by decide +kernel)
theorem wd_38 : (Jvm.Cond.initialized "PurseHouse$Kiosk") ∈ lw_g := lw_in 38 (by decide +kernel) (by decide +kernel)
theorem wd_39 : (Jvm.Cond.initialized "PurseHouseModel") ∈ lw_g := lw_in 39 (by decide +kernel) (by decide +kernel)
theorem wd_40 : (Jvm.Cond.initialized "PurseHouse$Link") ∈ lw_g := lw_in 40 (by decide +kernel) (by decide +kernel)
theorem wd_41 : (Jvm.Cond.initialized "jdk/internal/util/ArraysSupport") ∈ lw_g := lw_in 41 (by decide +kernel) (by decide +kernel)
theorem wd_42 : (Jvm.Cond.initialized "java/util/Arrays") ∈ lw_g := lw_in 42 (by decide +kernel) (by decide +kernel)
theorem wd_43 : (Jvm.Cond.initialized "java/lang/System") ∈ lw_g := lw_in 43 (by decide +kernel) (by decide +kernel)
theorem wd_44 : (Jvm.Cond.initialized "java/util/Objects") ∈ lw_g := lw_in 44 (by decide +kernel) (by decide +kernel)
theorem wd_45 : (Jvm.Cond.initialized "jdk/internal/util/Preconditions") ∈ lw_g := lw_in 45 (by decide +kernel) (by decide +kernel)
theorem wd_46 : (Jvm.Cond.initialized "PurseHouse$Thing") ∈ lw_g := lw_in 46 (by decide +kernel) (by decide +kernel)
theorem wd_47 : (Jvm.Cond.initialized "java/lang/Throwable") ∈ lw_g := lw_in 47 (by decide +kernel) (by decide +kernel)
theorem wd_48 : (Jvm.Cond.initialized "java/lang/Exception") ∈ lw_g := lw_in 48 (by decide +kernel) (by decide +kernel)
theorem wd_49 : (Jvm.Cond.initialized "java/lang/RuntimeException") ∈ lw_g := lw_in 49 (by decide +kernel) (by decide +kernel)
theorem wd_50 : (Jvm.Cond.initialized "java/util/NoSuchElementException") ∈ lw_g := lw_in 50 (by decide +kernel) (by decide +kernel)
theorem wd_51 : (Jvm.Cond.initialized "java/lang/IllegalArgumentException") ∈ lw_g := lw_in 51 (by decide +kernel) (by decide +kernel)
theorem wd_52 : (Jvm.Cond.classLink "PurseHouseLaw" (8 : Nat) "PurseHouse") ∈ lw_g := lw_in 52 (by decide +kernel) (by decide +kernel)
theorem wd_53 : (Jvm.Cond.instantiable "PurseHouse" (5 : Nat)) ∈ lw_g := lw_in 53 (by decide +kernel) (by decide +kernel)
theorem wd_54 : (Jvm.Cond.methodLink "PurseHouseLaw" (31 : Nat) ({ cls := "PurseHouse", name := "<init>", desc := "(I)V" } : Jvm.MethodName)) ∈ lw_g := lw_in 54 (by decide +kernel) (by decide +kernel)
theorem wd_55 : (Jvm.Cond.instanceMethod ({ cls := "PurseHouse", name := "<init>", desc := "(I)V" } : Jvm.MethodName)) ∈ lw_g := lw_in 55 (by decide +kernel) (by decide +kernel)
set_option maxRecDepth 100000 in
theorem wd_56 : (Jvm.Cond.code ({ cls := "PurseHouse", name := "<init>", desc := "(I)V" } : Jvm.MethodName) prog_1_method_1_code (4 : Nat) (Option.none : Option Jvm.ClassFile.FieldType)) ∈ lw_g := lw_in 56 (by rfl) (by decide +kernel)
theorem wd_57 : (Jvm.Cond.methodLink "PurseHouse" (1 : Nat) ({ cls := "java/lang/Object", name := "<init>", desc := "()V" } : Jvm.MethodName)) ∈ lw_g := lw_in 57 (by decide +kernel) (by decide +kernel)
theorem wd_58 : (Jvm.Cond.instanceMethod ({ cls := "java/lang/Object", name := "<init>", desc := "()V" } : Jvm.MethodName)) ∈ lw_g := lw_in 58 (by decide +kernel) (by decide +kernel)
set_option maxRecDepth 100000 in
theorem wd_59 : (Jvm.Cond.code ({ cls := "java/lang/Object", name := "<init>", desc := "()V" } : Jvm.MethodName) object_method_1_code (1 : Nat) (Option.none : Option Jvm.ClassFile.FieldType)) ∈ lw_g := lw_in 59 (by rfl) (by decide +kernel)
theorem wd_60 : (Jvm.Cond.classLink "PurseHouse" (7 : Nat) "java/util/ArrayList") ∈ lw_g := lw_in 60 (by decide +kernel) (by decide +kernel)
theorem wd_61 : (Jvm.Cond.instantiable "java/util/ArrayList" (3 : Nat)) ∈ lw_g := lw_in 61 (by decide +kernel) (by decide +kernel)
theorem wd_62 : (Jvm.Cond.methodLink "PurseHouse" (9 : Nat) ({ cls := "java/util/ArrayList", name := "<init>", desc := "()V" } : Jvm.MethodName)) ∈ lw_g := lw_in 62 (by decide +kernel) (by decide +kernel)
theorem wd_63 : (Jvm.Cond.instanceMethod ({ cls := "java/util/ArrayList", name := "<init>", desc := "()V" } : Jvm.MethodName)) ∈ lw_g := lw_in 63 (by decide +kernel) (by decide +kernel)
set_option maxRecDepth 100000 in
theorem wd_64 : (Jvm.Cond.code ({ cls := "java/util/ArrayList", name := "<init>", desc := "()V" } : Jvm.MethodName) prog_19_method_2_code (1 : Nat) (Option.none : Option Jvm.ClassFile.FieldType)) ∈ lw_g := lw_in 64 (by rfl) (by decide +kernel)
theorem wd_65 : (Jvm.Cond.methodLink "java/util/ArrayList" (1 : Nat) ({ cls := "java/util/AbstractList", name := "<init>", desc := "()V" } : Jvm.MethodName)) ∈ lw_g := lw_in 65 (by decide +kernel) (by decide +kernel)
theorem wd_66 : (Jvm.Cond.instanceMethod ({ cls := "java/util/AbstractList", name := "<init>", desc := "()V" } : Jvm.MethodName)) ∈ lw_g := lw_in 66 (by decide +kernel) (by decide +kernel)
set_option maxRecDepth 100000 in
theorem wd_67 : (Jvm.Cond.code ({ cls := "java/util/AbstractList", name := "<init>", desc := "()V" } : Jvm.MethodName) prog_18_method_1_code (1 : Nat) (Option.none : Option Jvm.ClassFile.FieldType)) ∈ lw_g := lw_in 67 (by rfl) (by decide +kernel)
theorem wd_68 : (Jvm.Cond.methodLink "java/util/AbstractList" (1 : Nat) ({ cls := "java/util/AbstractCollection", name := "<init>", desc := "()V" } : Jvm.MethodName)) ∈ lw_g := lw_in 68 (by decide +kernel) (by decide +kernel)
theorem wd_69 : (Jvm.Cond.instanceMethod ({ cls := "java/util/AbstractCollection", name := "<init>", desc := "()V" } : Jvm.MethodName)) ∈ lw_g := lw_in 69 (by decide +kernel) (by decide +kernel)
set_option maxRecDepth 100000 in
theorem wd_70 : (Jvm.Cond.code ({ cls := "java/util/AbstractCollection", name := "<init>", desc := "()V" } : Jvm.MethodName) prog_17_method_1_code (1 : Nat) (Option.none : Option Jvm.ClassFile.FieldType)) ∈ lw_g := lw_in 70 (by rfl) (by decide +kernel)
theorem wd_71 : (Jvm.Cond.methodLink "java/util/AbstractCollection" (1 : Nat) ({ cls := "java/lang/Object", name := "<init>", desc := "()V" } : Jvm.MethodName)) ∈ lw_g := lw_in 71 (by decide +kernel) (by decide +kernel)
theorem wd_72 : (Jvm.Cond.fieldLink "java/util/ArrayList" (39 : Nat) "java/util/ArrayList" "DEFAULTCAPACITY_EMPTY_ELEMENTDATA" "[Ljava/lang/Object;") ∈ lw_g := lw_in 72 (by decide +kernel) (by decide +kernel)
theorem wn_73 : (Jvm.Cond.laysStatic "java/util/ArrayList" "DEFAULTCAPACITY_EMPTY_ELEMENTDATA" "[Ljava/lang/Object;") ∈ lw_tbl := List.mem_of_getElem? (i := 73) (by decide +kernel)
theorem wd_74 : (Jvm.Cond.fieldLink "java/util/ArrayList" (9 : Nat) "java/util/ArrayList" "elementData" "[Ljava/lang/Object;") ∈ lw_g := lw_in 74 (by decide +kernel) (by decide +kernel)
theorem wd_75 : (Jvm.Cond.fieldLink "java/util/ArrayList" (48 : Nat) "java/util/ArrayList" "size" "I") ∈ lw_g := lw_in 75 (by decide +kernel) (by decide +kernel)
theorem wd_76 : (Jvm.Cond.fieldLink "java/util/AbstractList" (7 : Nat) "java/util/AbstractList" "modCount" "I") ∈ lw_g := lw_in 76 (by decide +kernel) (by decide +kernel)
theorem wd_77 : (Jvm.Cond.fieldLink "java/util/ArrayList" (63 : Nat) "java/util/ArrayList" "modCount" "I") ∈ lw_g := lw_in 77 (by decide +kernel) (by decide +kernel)
theorem wd_78 : (Jvm.Cond.sameField "java/util/ArrayList" "java/util/AbstractList" "modCount" "I") ∈ lw_g := lw_in 78 (by decide +kernel) (by decide +kernel)
theorem wd_79 : (Jvm.Cond.lays "java/util/ArrayList" "java/util/ArrayList" "elementData" "[Ljava/lang/Object;") ∈ lw_g := lw_in 79 (by decide +kernel) (by decide +kernel)
theorem wd_80 : (Jvm.Cond.soleField "java/util/ArrayList" "elementData") ∈ lw_g := lw_in 80 (by decide +kernel) (by decide +kernel)
theorem wd_81 : (Jvm.Cond.lays "java/util/ArrayList" "java/util/ArrayList" "size" "I") ∈ lw_g := lw_in 81 (by decide +kernel) (by decide +kernel)
theorem wd_82 : (Jvm.Cond.soleField "java/util/ArrayList" "size") ∈ lw_g := lw_in 82 (by decide +kernel) (by decide +kernel)
theorem wd_83 : (Jvm.Cond.lays "java/util/ArrayList" "java/util/AbstractList" "modCount" "I") ∈ lw_g := lw_in 83 (by decide +kernel) (by decide +kernel)
theorem wd_84 : (Jvm.Cond.soleField "java/util/AbstractList" "modCount") ∈ lw_g := lw_in 84 (by decide +kernel) (by decide +kernel)
theorem wd_85 : (Jvm.Cond.superclass "java/util/ArrayList" "java/util/AbstractList") ∈ lw_g := lw_in 85 (by decide +kernel) (by decide +kernel)
theorem wd_86 : (Jvm.Cond.classLink "PurseHouse" (16 : Nat) "[[I") ∈ lw_g := lw_in 86 (by decide +kernel) (by decide +kernel)
theorem wn_87 : (Jvm.Cond.arrayOver (Jvm.ClassFile.FieldType.array Jvm.ClassFile.FieldType.int)) ∈ lw_tbl := List.mem_of_getElem? (i := 87) (by decide +kernel)
theorem wd_88 : (Jvm.Cond.methodLink "PurseHouse" (28 : Nat) ({ cls := "java/lang/Math", name := "min", desc := "(II)I" } : Jvm.MethodName)) ∈ lw_g := lw_in 88 (by decide +kernel) (by decide +kernel)
theorem wd_89 : (Jvm.Cond.static ({ cls := "java/lang/Math", name := "min", desc := "(II)I" } : Jvm.MethodName)) ∈ lw_g := lw_in 89 (by decide +kernel) (by decide +kernel)
set_option maxRecDepth 100000 in
theorem wd_90 : (Jvm.Cond.code ({ cls := "java/lang/Math", name := "min", desc := "(II)I" } : Jvm.MethodName) prog_12_method_69_code (2 : Nat) (Option.some Jvm.ClassFile.FieldType.int)) ∈ lw_g := lw_in 90 (by rfl) (by decide +kernel)
theorem wd_91 : (Jvm.Cond.methodLink "PurseHouse" (34 : Nat) ({ cls := "java/lang/Math", name := "max", desc := "(II)I" } : Jvm.MethodName)) ∈ lw_g := lw_in 91 (by decide +kernel) (by decide +kernel)
theorem wd_92 : (Jvm.Cond.static ({ cls := "java/lang/Math", name := "max", desc := "(II)I" } : Jvm.MethodName)) ∈ lw_g := lw_in 92 (by decide +kernel) (by decide +kernel)
set_option maxRecDepth 100000 in
theorem wd_93 : (Jvm.Cond.code ({ cls := "java/lang/Math", name := "max", desc := "(II)I" } : Jvm.MethodName) prog_12_method_65_code (2 : Nat) (Option.some Jvm.ClassFile.FieldType.int)) ∈ lw_g := lw_in 93 (by rfl) (by decide +kernel)
theorem wd_94 : (Jvm.Cond.classLink "PurseHouse" (37 : Nat) "PurseHouse$Kiosk") ∈ lw_g := lw_in 94 (by decide +kernel) (by decide +kernel)
theorem wn_95 : (Jvm.Cond.arrayOver (Jvm.ClassFile.FieldType.object "PurseHouse$Kiosk")) ∈ lw_tbl := List.mem_of_getElem? (i := 95) (by decide +kernel)
theorem wd_96 : (Jvm.Cond.instantiable "PurseHouse$Kiosk" (9 : Nat)) ∈ lw_g := lw_in 96 (by decide +kernel) (by decide +kernel)
theorem wn_97 : (Jvm.Cond.methodLinkNest "PurseHouse" (43 : Nat) ({ cls := "PurseHouse$Kiosk", name := "<init>", desc := "()V" } : Jvm.MethodName) "PurseHouse") ∈ lw_tbl := List.mem_of_getElem? (i := 97) (by decide +kernel)
theorem wd_98 : (Jvm.Cond.instanceMethod ({ cls := "PurseHouse$Kiosk", name := "<init>", desc := "()V" } : Jvm.MethodName)) ∈ lw_g := lw_in 98 (by decide +kernel) (by decide +kernel)
set_option maxRecDepth 100000 in
theorem wd_99 : (Jvm.Cond.code ({ cls := "PurseHouse$Kiosk", name := "<init>", desc := "()V" } : Jvm.MethodName) prog_2_method_1_code (1 : Nat) (Option.none : Option Jvm.ClassFile.FieldType)) ∈ lw_g := lw_in 99 (by rfl) (by decide +kernel)
theorem wd_100 : (Jvm.Cond.methodLink "PurseHouse$Kiosk" (3 : Nat) ({ cls := "java/lang/Object", name := "<init>", desc := "()V" } : Jvm.MethodName)) ∈ lw_g := lw_in 100 (by decide +kernel) (by decide +kernel)
theorem wd_101 : (Jvm.Cond.classLink "PurseHouse$Kiosk" (28 : Nat) "[[J") ∈ lw_g := lw_in 101 (by decide +kernel) (by decide +kernel)
theorem wn_102 : (Jvm.Cond.arrayOver (Jvm.ClassFile.FieldType.array Jvm.ClassFile.FieldType.long)) ∈ lw_tbl := List.mem_of_getElem? (i := 102) (by decide +kernel)
theorem wd_103 : (Jvm.Cond.fieldLink "PurseHouse$Kiosk" (9 : Nat) "PurseHouse$Kiosk" "stocks" "[J") ∈ lw_g := lw_in 103 (by decide +kernel) (by decide +kernel)
theorem wd_104 : (Jvm.Cond.fieldLink "PurseHouse" (139 : Nat) "PurseHouse$Kiosk" "stocks" "[J") ∈ lw_g := lw_in 104 (by decide +kernel) (by decide +kernel)
theorem wd_105 : (Jvm.Cond.fieldLink "PurseHouse$Kiosk" (15 : Nat) "PurseHouse$Kiosk" "tills" "[J") ∈ lw_g := lw_in 105 (by decide +kernel) (by decide +kernel)
theorem wd_106 : (Jvm.Cond.fieldLink "PurseHouse" (143 : Nat) "PurseHouse$Kiosk" "tills" "[J") ∈ lw_g := lw_in 106 (by decide +kernel) (by decide +kernel)
theorem wd_107 : (Jvm.Cond.fieldLink "PurseHouse$Kiosk" (18 : Nat) "PurseHouse$Kiosk" "made" "[J") ∈ lw_g := lw_in 107 (by decide +kernel) (by decide +kernel)
theorem wd_108 : (Jvm.Cond.fieldLink "PurseHouse$Kiosk" (21 : Nat) "PurseHouse$Kiosk" "eventCount" "I") ∈ lw_g := lw_in 108 (by decide +kernel) (by decide +kernel)
theorem wd_109 : (Jvm.Cond.fieldLink "PurseHouse" (202 : Nat) "PurseHouse$Kiosk" "eventCount" "I") ∈ lw_g := lw_in 109 (by decide +kernel) (by decide +kernel)
theorem wd_110 : (Jvm.Cond.fieldLink "PurseHouse$Kiosk" (25 : Nat) "PurseHouse$Kiosk" "marks" "I") ∈ lw_g := lw_in 110 (by decide +kernel) (by decide +kernel)
theorem wd_111 : (Jvm.Cond.fieldLink "PurseHouse$Link" (63 : Nat) "PurseHouse$Kiosk" "marks" "I") ∈ lw_g := lw_in 111 (by decide +kernel) (by decide +kernel)
theorem wd_112 : (Jvm.Cond.fieldLink "PurseHouse$Kiosk" (30 : Nat) "PurseHouse$Kiosk" "stocksAt" "[[J") ∈ lw_g := lw_in 112 (by decide +kernel) (by decide +kernel)
theorem wd_113 : (Jvm.Cond.fieldLink "PurseHouse" (178 : Nat) "PurseHouse$Kiosk" "stocksAt" "[[J") ∈ lw_g := lw_in 113 (by decide +kernel) (by decide +kernel)
theorem wd_114 : (Jvm.Cond.fieldLink "PurseHouse$Kiosk" (33 : Nat) "PurseHouse$Kiosk" "tillsAt" "[[J") ∈ lw_g := lw_in 114 (by decide +kernel) (by decide +kernel)
theorem wd_115 : (Jvm.Cond.fieldLink "PurseHouse" (182 : Nat) "PurseHouse$Kiosk" "tillsAt" "[[J") ∈ lw_g := lw_in 115 (by decide +kernel) (by decide +kernel)
theorem wd_116 : (Jvm.Cond.fieldLink "PurseHouse$Kiosk" (36 : Nat) "PurseHouse$Kiosk" "madeAt" "[[J") ∈ lw_g := lw_in 116 (by decide +kernel) (by decide +kernel)
theorem wd_117 : (Jvm.Cond.fieldLink "PurseHouse" (195 : Nat) "PurseHouse$Kiosk" "madeAt" "[[J") ∈ lw_g := lw_in 117 (by decide +kernel) (by decide +kernel)
theorem wd_118 : (Jvm.Cond.fieldLink "PurseHouse$Kiosk" (39 : Nat) "PurseHouse$Kiosk" "eventsAt" "[I") ∈ lw_g := lw_in 118 (by decide +kernel) (by decide +kernel)
theorem wd_119 : (Jvm.Cond.fieldLink "PurseHouse" (205 : Nat) "PurseHouse$Kiosk" "eventsAt" "[I") ∈ lw_g := lw_in 119 (by decide +kernel) (by decide +kernel)
theorem wd_120 : (Jvm.Cond.laysFinal "PurseHouse$Kiosk" "PurseHouse$Kiosk" "stocks" "[J") ∈ lw_g := lw_in 120 (by decide +kernel) (by decide +kernel)
theorem wd_121 : (Jvm.Cond.soleField "PurseHouse$Kiosk" "stocks") ∈ lw_g := lw_in 121 (by decide +kernel) (by decide +kernel)
theorem wd_122 : (Jvm.Cond.laysFinal "PurseHouse$Kiosk" "PurseHouse$Kiosk" "tills" "[J") ∈ lw_g := lw_in 122 (by decide +kernel) (by decide +kernel)
theorem wd_123 : (Jvm.Cond.soleField "PurseHouse$Kiosk" "tills") ∈ lw_g := lw_in 123 (by decide +kernel) (by decide +kernel)
theorem wd_124 : (Jvm.Cond.laysFinal "PurseHouse$Kiosk" "PurseHouse$Kiosk" "made" "[J") ∈ lw_g := lw_in 124 (by decide +kernel) (by decide +kernel)
theorem wd_125 : (Jvm.Cond.soleField "PurseHouse$Kiosk" "made") ∈ lw_g := lw_in 125 (by decide +kernel) (by decide +kernel)
theorem wd_126 : (Jvm.Cond.lays "PurseHouse$Kiosk" "PurseHouse$Kiosk" "eventCount" "I") ∈ lw_g := lw_in 126 (by decide +kernel) (by decide +kernel)
theorem wd_127 : (Jvm.Cond.soleField "PurseHouse$Kiosk" "eventCount") ∈ lw_g := lw_in 127 (by decide +kernel) (by decide +kernel)
theorem wd_128 : (Jvm.Cond.lays "PurseHouse$Kiosk" "PurseHouse$Kiosk" "marks" "I") ∈ lw_g := lw_in 128 (by decide +kernel) (by decide +kernel)
theorem wd_129 : (Jvm.Cond.soleField "PurseHouse$Kiosk" "marks") ∈ lw_g := lw_in 129 (by decide +kernel) (by decide +kernel)
theorem wd_130 : (Jvm.Cond.laysFinal "PurseHouse$Kiosk" "PurseHouse$Kiosk" "stocksAt" "[[J") ∈ lw_g := lw_in 130 (by decide +kernel) (by decide +kernel)
theorem wd_131 : (Jvm.Cond.soleField "PurseHouse$Kiosk" "stocksAt") ∈ lw_g := lw_in 131 (by decide +kernel) (by decide +kernel)
theorem wd_132 : (Jvm.Cond.laysFinal "PurseHouse$Kiosk" "PurseHouse$Kiosk" "tillsAt" "[[J") ∈ lw_g := lw_in 132 (by decide +kernel) (by decide +kernel)
theorem wd_133 : (Jvm.Cond.soleField "PurseHouse$Kiosk" "tillsAt") ∈ lw_g := lw_in 133 (by decide +kernel) (by decide +kernel)
theorem wd_134 : (Jvm.Cond.laysFinal "PurseHouse$Kiosk" "PurseHouse$Kiosk" "madeAt" "[[J") ∈ lw_g := lw_in 134 (by decide +kernel) (by decide +kernel)
theorem wd_135 : (Jvm.Cond.soleField "PurseHouse$Kiosk" "madeAt") ∈ lw_g := lw_in 135 (by decide +kernel) (by decide +kernel)
theorem wd_136 : (Jvm.Cond.laysFinal "PurseHouse$Kiosk" "PurseHouse$Kiosk" "eventsAt" "[I") ∈ lw_g := lw_in 136 (by decide +kernel) (by decide +kernel)
theorem wd_137 : (Jvm.Cond.soleField "PurseHouse$Kiosk" "eventsAt") ∈ lw_g := lw_in 137 (by decide +kernel) (by decide +kernel)
theorem wd_138 : (Jvm.Cond.superclass "PurseHouse$Kiosk" "java/lang/Object") ∈ lw_g := lw_in 138 (by decide +kernel) (by decide +kernel)
theorem wd_139 : (Jvm.Cond.arrayClass Jvm.ClassFile.FieldType.int) ∈ lw_g := lw_in 139 (by decide +kernel) (by decide +kernel)
theorem wd_140 : (Jvm.Cond.arrayClass Jvm.ClassFile.FieldType.long) ∈ lw_g := lw_in 140 (by decide +kernel) (by decide +kernel)
theorem wd_141 : (Jvm.Cond.fieldLink "PurseHouse" (39 : Nat) "PurseHouse" "kiosks" "[LPurseHouse$Kiosk;") ∈ lw_g := lw_in 141 (by decide +kernel) (by decide +kernel)
theorem wd_142 : (Jvm.Cond.fieldLink "PurseHouse" (10 : Nat) "PurseHouse" "links" "Ljava/util/ArrayList;") ∈ lw_g := lw_in 142 (by decide +kernel) (by decide +kernel)
theorem wd_143 : (Jvm.Cond.fieldLink "PurseHouse" (18 : Nat) "PurseHouse" "rateTops" "[[I") ∈ lw_g := lw_in 143 (by decide +kernel) (by decide +kernel)
theorem wd_144 : (Jvm.Cond.fieldLink "PurseHouse" (21 : Nat) "PurseHouse" "rateBottoms" "[[I") ∈ lw_g := lw_in 144 (by decide +kernel) (by decide +kernel)
theorem wd_145 : (Jvm.Cond.fieldLink "PurseHouse" (24 : Nat) "PurseHouse" "numbers" "I") ∈ lw_g := lw_in 145 (by decide +kernel) (by decide +kernel)
theorem wd_146 : (Jvm.Cond.laysFinal "PurseHouse" "PurseHouse" "kiosks" "[LPurseHouse$Kiosk;") ∈ lw_g := lw_in 146 (by decide +kernel) (by decide +kernel)
theorem wd_147 : (Jvm.Cond.soleField "PurseHouse" "kiosks") ∈ lw_g := lw_in 147 (by decide +kernel) (by decide +kernel)
theorem wd_148 : (Jvm.Cond.laysFinal "PurseHouse" "PurseHouse" "links" "Ljava/util/ArrayList;") ∈ lw_g := lw_in 148 (by decide +kernel) (by decide +kernel)
theorem wd_149 : (Jvm.Cond.soleField "PurseHouse" "links") ∈ lw_g := lw_in 149 (by decide +kernel) (by decide +kernel)
theorem wd_150 : (Jvm.Cond.laysFinal "PurseHouse" "PurseHouse" "rateTops" "[[I") ∈ lw_g := lw_in 150 (by decide +kernel) (by decide +kernel)
theorem wd_151 : (Jvm.Cond.soleField "PurseHouse" "rateTops") ∈ lw_g := lw_in 151 (by decide +kernel) (by decide +kernel)
theorem wd_152 : (Jvm.Cond.laysFinal "PurseHouse" "PurseHouse" "rateBottoms" "[[I") ∈ lw_g := lw_in 152 (by decide +kernel) (by decide +kernel)
theorem wd_153 : (Jvm.Cond.soleField "PurseHouse" "rateBottoms") ∈ lw_g := lw_in 153 (by decide +kernel) (by decide +kernel)
theorem wd_154 : (Jvm.Cond.lays "PurseHouse" "PurseHouse" "numbers" "I") ∈ lw_g := lw_in 154 (by decide +kernel) (by decide +kernel)
theorem wd_155 : (Jvm.Cond.soleField "PurseHouse" "numbers") ∈ lw_g := lw_in 155 (by decide +kernel) (by decide +kernel)
theorem wd_156 : (Jvm.Cond.superclass "PurseHouse" "java/lang/Object") ∈ lw_g := lw_in 156 (by decide +kernel) (by decide +kernel)
theorem wd_157 : (Jvm.Cond.methodLink "PurseHouseLaw" (37 : Nat) ({ cls := "PurseHouse", name := "link", desc := "(IIZ)I" } : Jvm.MethodName)) ∈ lw_g := lw_in 157 (by decide +kernel) (by decide +kernel)
theorem wd_158 : (Jvm.Cond.instanceMethod ({ cls := "PurseHouse", name := "link", desc := "(IIZ)I" } : Jvm.MethodName)) ∈ lw_g := lw_in 158 (by decide +kernel) (by decide +kernel)
theorem wd_159 : (Jvm.Cond.selects "PurseHouse" ({ cls := "PurseHouse", name := "link", desc := "(IIZ)I" } : Jvm.MethodName) ({ cls := "PurseHouse", name := "link", desc := "(IIZ)I" } : Jvm.MethodName)) ∈ lw_g := lw_in 159 (by decide +kernel) (by decide +kernel)
set_option maxRecDepth 100000 in
theorem wd_160 : (Jvm.Cond.code ({ cls := "PurseHouse", name := "link", desc := "(IIZ)I" } : Jvm.MethodName) prog_1_method_2_code (4 : Nat) (Option.some Jvm.ClassFile.FieldType.int)) ∈ lw_g := lw_in 160 (by rfl) (by decide +kernel)
theorem wd_161 : (Jvm.Cond.methodLink "PurseHouse" (44 : Nat) ({ cls := "PurseHouse", name := "hasKiosk", desc := "(I)Z" } : Jvm.MethodName)) ∈ lw_g := lw_in 161 (by decide +kernel) (by decide +kernel)
theorem wn_162 : (Jvm.Cond.privateMethod ({ cls := "PurseHouse", name := "hasKiosk", desc := "(I)Z" } : Jvm.MethodName)) ∈ lw_tbl := List.mem_of_getElem? (i := 162) (by decide +kernel)
theorem wd_163 : (Jvm.Cond.instanceMethod ({ cls := "PurseHouse", name := "hasKiosk", desc := "(I)Z" } : Jvm.MethodName)) ∈ lw_g := lw_in 163 (by decide +kernel) (by decide +kernel)
set_option maxRecDepth 100000 in
theorem wd_164 : (Jvm.Cond.code ({ cls := "PurseHouse", name := "hasKiosk", desc := "(I)Z" } : Jvm.MethodName) prog_1_method_27_code (2 : Nat) (Option.some Jvm.ClassFile.FieldType.boolean)) ∈ lw_g := lw_in 164 (by rfl) (by decide +kernel)
theorem wd_165 : (Jvm.Cond.methodLink "PurseHouse" (65 : Nat) ({ cls := "PurseHouse", name := "isBetween", desc := "(III)Z" } : Jvm.MethodName)) ∈ lw_g := lw_in 165 (by decide +kernel) (by decide +kernel)
theorem wd_166 : (Jvm.Cond.static ({ cls := "PurseHouse", name := "isBetween", desc := "(III)Z" } : Jvm.MethodName)) ∈ lw_g := lw_in 166 (by decide +kernel) (by decide +kernel)
set_option maxRecDepth 100000 in
theorem wd_167 : (Jvm.Cond.code ({ cls := "PurseHouse", name := "isBetween", desc := "(III)Z" } : Jvm.MethodName) prog_1_method_23_code (3 : Nat) (Option.some Jvm.ClassFile.FieldType.boolean)) ∈ lw_g := lw_in 167 (by rfl) (by decide +kernel)
theorem wd_168 : (Jvm.Cond.methodLink "PurseHouse" (48 : Nat) ({ cls := "java/util/ArrayList", name := "size", desc := "()I" } : Jvm.MethodName)) ∈ lw_g := lw_in 168 (by decide +kernel) (by decide +kernel)
theorem wd_169 : (Jvm.Cond.instanceMethod ({ cls := "java/util/ArrayList", name := "size", desc := "()I" } : Jvm.MethodName)) ∈ lw_g := lw_in 169 (by decide +kernel) (by decide +kernel)
theorem wd_170 : (Jvm.Cond.selects "java/util/ArrayList" ({ cls := "java/util/ArrayList", name := "size", desc := "()I" } : Jvm.MethodName) ({ cls := "java/util/ArrayList", name := "size", desc := "()I" } : Jvm.MethodName)) ∈ lw_g := lw_in 170 (by decide +kernel) (by decide +kernel)
set_option maxRecDepth 100000 in
theorem wd_171 : (Jvm.Cond.code ({ cls := "java/util/ArrayList", name := "size", desc := "()I" } : Jvm.MethodName) prog_19_method_8_code (1 : Nat) (Option.some Jvm.ClassFile.FieldType.int)) ∈ lw_g := lw_in 171 (by rfl) (by decide +kernel)
theorem wd_172 : (Jvm.Cond.classLink "PurseHouse" (52 : Nat) "PurseHouse$Link") ∈ lw_g := lw_in 172 (by decide +kernel) (by decide +kernel)
theorem wd_173 : (Jvm.Cond.instantiable "PurseHouse$Link" (6 : Nat)) ∈ lw_g := lw_in 173 (by decide +kernel) (by decide +kernel)
theorem wd_174 : (Jvm.Cond.methodLink "PurseHouse" (54 : Nat) ({ cls := "PurseHouse$Link", name := "<init>", desc := "(LPurseHouse$Kiosk;LPurseHouse$Kiosk;Z)V" } : Jvm.MethodName)) ∈ lw_g := lw_in 174 (by decide +kernel) (by decide +kernel)
theorem wd_175 : (Jvm.Cond.instanceMethod ({ cls := "PurseHouse$Link", name := "<init>", desc := "(LPurseHouse$Kiosk;LPurseHouse$Kiosk;Z)V" } : Jvm.MethodName)) ∈ lw_g := lw_in 175 (by decide +kernel) (by decide +kernel)
set_option maxRecDepth 100000 in
theorem wd_176 : (Jvm.Cond.code ({ cls := "PurseHouse$Link", name := "<init>", desc := "(LPurseHouse$Kiosk;LPurseHouse$Kiosk;Z)V" } : Jvm.MethodName) prog_3_method_1_code (4 : Nat) (Option.none : Option Jvm.ClassFile.FieldType)) ∈ lw_g := lw_in 176 (by rfl) (by decide +kernel)
theorem wd_177 : (Jvm.Cond.methodLink "PurseHouse$Link" (3 : Nat) ({ cls := "java/lang/Object", name := "<init>", desc := "()V" } : Jvm.MethodName)) ∈ lw_g := lw_in 177 (by decide +kernel) (by decide +kernel)
theorem wd_178 : (Jvm.Cond.classLink "PurseHouse$Link" (9 : Nat) "java/util/ArrayList") ∈ lw_g := lw_in 178 (by decide +kernel) (by decide +kernel)
theorem wd_179 : (Jvm.Cond.methodLink "PurseHouse$Link" (11 : Nat) ({ cls := "java/util/ArrayList", name := "<init>", desc := "()V" } : Jvm.MethodName)) ∈ lw_g := lw_in 179 (by decide +kernel) (by decide +kernel)
theorem wd_180 : (Jvm.Cond.classLink "PurseHouse$Link" (18 : Nat) "[[J") ∈ lw_g := lw_in 180 (by decide +kernel) (by decide +kernel)
theorem wd_181 : (Jvm.Cond.fieldLink "PurseHouse$Link" (27 : Nat) "PurseHouse$Link" "from" "LPurseHouse$Kiosk;") ∈ lw_g := lw_in 181 (by decide +kernel) (by decide +kernel)
theorem wd_182 : (Jvm.Cond.fieldLink "PurseHouse" (92 : Nat) "PurseHouse$Link" "from" "LPurseHouse$Kiosk;") ∈ lw_g := lw_in 182 (by decide +kernel) (by decide +kernel)
theorem wd_183 : (Jvm.Cond.fieldLink "PurseHouse$Link" (31 : Nat) "PurseHouse$Link" "to" "LPurseHouse$Kiosk;") ∈ lw_g := lw_in 183 (by decide +kernel) (by decide +kernel)
theorem wd_184 : (Jvm.Cond.fieldLink "PurseHouse" (222 : Nat) "PurseHouse$Link" "to" "LPurseHouse$Kiosk;") ∈ lw_g := lw_in 184 (by decide +kernel) (by decide +kernel)
theorem wd_185 : (Jvm.Cond.fieldLink "PurseHouse$Link" (34 : Nat) "PurseHouse$Link" "ordered" "Z") ∈ lw_g := lw_in 185 (by decide +kernel) (by decide +kernel)
theorem wd_186 : (Jvm.Cond.fieldLink "PurseHouse" (109 : Nat) "PurseHouse$Link" "ordered" "Z") ∈ lw_g := lw_in 186 (by decide +kernel) (by decide +kernel)
theorem wd_187 : (Jvm.Cond.fieldLink "PurseHouse$Link" (12 : Nat) "PurseHouse$Link" "things" "Ljava/util/ArrayList;") ∈ lw_g := lw_in 187 (by decide +kernel) (by decide +kernel)
theorem wd_188 : (Jvm.Cond.fieldLink "PurseHouse" (113 : Nat) "PurseHouse$Link" "things" "Ljava/util/ArrayList;") ∈ lw_g := lw_in 188 (by decide +kernel) (by decide +kernel)
theorem wd_189 : (Jvm.Cond.fieldLink "PurseHouse$Link" (20 : Nat) "PurseHouse$Link" "roads" "[[J") ∈ lw_g := lw_in 189 (by decide +kernel) (by decide +kernel)
theorem wd_190 : (Jvm.Cond.fieldLink "PurseHouse" (187 : Nat) "PurseHouse$Link" "roads" "[[J") ∈ lw_g := lw_in 190 (by decide +kernel) (by decide +kernel)
theorem wd_191 : (Jvm.Cond.fieldLink "PurseHouse$Link" (23 : Nat) "PurseHouse$Link" "markersTaken" "I") ∈ lw_g := lw_in 191 (by decide +kernel) (by decide +kernel)
theorem wd_192 : (Jvm.Cond.fieldLink "PurseHouse" (225 : Nat) "PurseHouse$Link" "markersTaken" "I") ∈ lw_g := lw_in 192 (by decide +kernel) (by decide +kernel)
theorem wd_193 : (Jvm.Cond.laysFinal "PurseHouse$Link" "PurseHouse$Link" "from" "LPurseHouse$Kiosk;") ∈ lw_g := lw_in 193 (by decide +kernel) (by decide +kernel)
theorem wd_194 : (Jvm.Cond.soleField "PurseHouse$Link" "from") ∈ lw_g := lw_in 194 (by decide +kernel) (by decide +kernel)
theorem wd_195 : (Jvm.Cond.laysFinal "PurseHouse$Link" "PurseHouse$Link" "to" "LPurseHouse$Kiosk;") ∈ lw_g := lw_in 195 (by decide +kernel) (by decide +kernel)
theorem wd_196 : (Jvm.Cond.soleField "PurseHouse$Link" "to") ∈ lw_g := lw_in 196 (by decide +kernel) (by decide +kernel)
theorem wd_197 : (Jvm.Cond.laysFinal "PurseHouse$Link" "PurseHouse$Link" "ordered" "Z") ∈ lw_g := lw_in 197 (by decide +kernel) (by decide +kernel)
theorem wd_198 : (Jvm.Cond.soleField "PurseHouse$Link" "ordered") ∈ lw_g := lw_in 198 (by decide +kernel) (by decide +kernel)
theorem wd_199 : (Jvm.Cond.laysFinal "PurseHouse$Link" "PurseHouse$Link" "things" "Ljava/util/ArrayList;") ∈ lw_g := lw_in 199 (by decide +kernel) (by decide +kernel)
theorem wd_200 : (Jvm.Cond.soleField "PurseHouse$Link" "things") ∈ lw_g := lw_in 200 (by decide +kernel) (by decide +kernel)
theorem wd_201 : (Jvm.Cond.laysFinal "PurseHouse$Link" "PurseHouse$Link" "roads" "[[J") ∈ lw_g := lw_in 201 (by decide +kernel) (by decide +kernel)
theorem wd_202 : (Jvm.Cond.soleField "PurseHouse$Link" "roads") ∈ lw_g := lw_in 202 (by decide +kernel) (by decide +kernel)
theorem wd_203 : (Jvm.Cond.lays "PurseHouse$Link" "PurseHouse$Link" "markersTaken" "I") ∈ lw_g := lw_in 203 (by decide +kernel) (by decide +kernel)
theorem wd_204 : (Jvm.Cond.soleField "PurseHouse$Link" "markersTaken") ∈ lw_g := lw_in 204 (by decide +kernel) (by decide +kernel)
theorem wd_205 : (Jvm.Cond.superclass "PurseHouse$Link" "java/lang/Object") ∈ lw_g := lw_in 205 (by decide +kernel) (by decide +kernel)
theorem wd_206 : (Jvm.Cond.methodLink "PurseHouse" (57 : Nat) ({ cls := "java/util/ArrayList", name := "add", desc := "(Ljava/lang/Object;)Z" } : Jvm.MethodName)) ∈ lw_g := lw_in 206 (by decide +kernel) (by decide +kernel)
theorem wd_207 : (Jvm.Cond.instanceMethod ({ cls := "java/util/ArrayList", name := "add", desc := "(Ljava/lang/Object;)Z" } : Jvm.MethodName)) ∈ lw_g := lw_in 207 (by decide +kernel) (by decide +kernel)
theorem wd_208 : (Jvm.Cond.selects "java/util/ArrayList" ({ cls := "java/util/ArrayList", name := "add", desc := "(Ljava/lang/Object;)Z" } : Jvm.MethodName) ({ cls := "java/util/ArrayList", name := "add", desc := "(Ljava/lang/Object;)Z" } : Jvm.MethodName)) ∈ lw_g := lw_in 208 (by decide +kernel) (by decide +kernel)
set_option maxRecDepth 100000 in
theorem wd_209 : (Jvm.Cond.code ({ cls := "java/util/ArrayList", name := "add", desc := "(Ljava/lang/Object;)Z" } : Jvm.MethodName) prog_19_method_25_code (2 : Nat) (Option.some Jvm.ClassFile.FieldType.boolean)) ∈ lw_g := lw_in 209 (by rfl) (by decide +kernel)
theorem wd_210 : (Jvm.Cond.methodLink "java/util/ArrayList" (131 : Nat) ({ cls := "java/util/ArrayList", name := "add", desc := "(Ljava/lang/Object;[Ljava/lang/Object;I)V" } : Jvm.MethodName)) ∈ lw_g := lw_in 210 (by decide +kernel) (by decide +kernel)
theorem wn_211 : (Jvm.Cond.privateMethod ({ cls := "java/util/ArrayList", name := "add", desc := "(Ljava/lang/Object;[Ljava/lang/Object;I)V" } : Jvm.MethodName)) ∈ lw_tbl := List.mem_of_getElem? (i := 211) (by decide +kernel)
theorem wd_212 : (Jvm.Cond.instanceMethod ({ cls := "java/util/ArrayList", name := "add", desc := "(Ljava/lang/Object;[Ljava/lang/Object;I)V" } : Jvm.MethodName)) ∈ lw_g := lw_in 212 (by decide +kernel) (by decide +kernel)
set_option maxRecDepth 100000 in
theorem wd_213 : (Jvm.Cond.code ({ cls := "java/util/ArrayList", name := "add", desc := "(Ljava/lang/Object;[Ljava/lang/Object;I)V" } : Jvm.MethodName) prog_19_method_24_code (4 : Nat) (Option.none : Option Jvm.ClassFile.FieldType)) ∈ lw_g := lw_in 213 (by rfl) (by decide +kernel)
theorem wd_214 : (Jvm.Cond.methodLink "java/util/ArrayList" (129 : Nat) ({ cls := "java/util/ArrayList", name := "grow", desc := "()[Ljava/lang/Object;" } : Jvm.MethodName)) ∈ lw_g := lw_in 214 (by decide +kernel) (by decide +kernel)
theorem wn_215 : (Jvm.Cond.privateMethod ({ cls := "java/util/ArrayList", name := "grow", desc := "()[Ljava/lang/Object;" } : Jvm.MethodName)) ∈ lw_tbl := List.mem_of_getElem? (i := 215) (by decide +kernel)
theorem wd_216 : (Jvm.Cond.instanceMethod ({ cls := "java/util/ArrayList", name := "grow", desc := "()[Ljava/lang/Object;" } : Jvm.MethodName)) ∈ lw_g := lw_in 216 (by decide +kernel) (by decide +kernel)
set_option maxRecDepth 100000 in
theorem wd_217 : (Jvm.Cond.code ({ cls := "java/util/ArrayList", name := "grow", desc := "()[Ljava/lang/Object;" } : Jvm.MethodName) prog_19_method_7_code (1 : Nat) (Option.some (Jvm.ClassFile.FieldType.array (Jvm.ClassFile.FieldType.object "java/lang/Object")))) ∈ lw_g := lw_in 217 (by rfl) (by decide +kernel)
theorem wd_218 : (Jvm.Cond.methodLink "java/util/ArrayList" (69 : Nat) ({ cls := "java/util/ArrayList", name := "grow", desc := "(I)[Ljava/lang/Object;" } : Jvm.MethodName)) ∈ lw_g := lw_in 218 (by decide +kernel) (by decide +kernel)
theorem wn_219 : (Jvm.Cond.privateMethod ({ cls := "java/util/ArrayList", name := "grow", desc := "(I)[Ljava/lang/Object;" } : Jvm.MethodName)) ∈ lw_tbl := List.mem_of_getElem? (i := 219) (by decide +kernel)
theorem wd_220 : (Jvm.Cond.instanceMethod ({ cls := "java/util/ArrayList", name := "grow", desc := "(I)[Ljava/lang/Object;" } : Jvm.MethodName)) ∈ lw_g := lw_in 220 (by decide +kernel) (by decide +kernel)
set_option maxRecDepth 100000 in
theorem wd_221 : (Jvm.Cond.code ({ cls := "java/util/ArrayList", name := "grow", desc := "(I)[Ljava/lang/Object;" } : Jvm.MethodName) prog_19_method_6_code (4 : Nat) (Option.some (Jvm.ClassFile.FieldType.array (Jvm.ClassFile.FieldType.object "java/lang/Object")))) ∈ lw_g := lw_in 221 (by rfl) (by decide +kernel)
theorem wd_222 : (Jvm.Cond.methodLink "java/util/ArrayList" (73 : Nat) ({ cls := "jdk/internal/util/ArraysSupport", name := "newLength", desc := "(III)I" } : Jvm.MethodName)) ∈ lw_g := lw_in 222 (by decide +kernel) (by decide +kernel)
theorem wd_223 : (Jvm.Cond.static ({ cls := "jdk/internal/util/ArraysSupport", name := "newLength", desc := "(III)I" } : Jvm.MethodName)) ∈ lw_g := lw_in 223 (by decide +kernel) (by decide +kernel)
set_option maxRecDepth 100000 in
theorem wd_224 : (Jvm.Cond.code ({ cls := "jdk/internal/util/ArraysSupport", name := "newLength", desc := "(III)I" } : Jvm.MethodName) prog_27_method_27_code (4 : Nat) (Option.some Jvm.ClassFile.FieldType.int)) ∈ lw_g := lw_in 224 (by rfl) (by decide +kernel)
theorem wd_225 : (Jvm.Cond.methodLink "jdk/internal/util/ArraysSupport" (194 : Nat) ({ cls := "java/lang/Math", name := "max", desc := "(II)I" } : Jvm.MethodName)) ∈ lw_g := lw_in 225 (by decide +kernel) (by decide +kernel)
theorem wd_226 : (Jvm.Cond.constant "jdk/internal/util/ArraysSupport" (200 : Nat) (2147483639 : Int32)) ∈ lw_g := lw_in 226 (by decide +kernel) (by decide +kernel)
theorem wd_227 : (Jvm.Cond.methodLink "jdk/internal/util/ArraysSupport" (201 : Nat) ({ cls := "jdk/internal/util/ArraysSupport", name := "hugeLength", desc := "(II)I" } : Jvm.MethodName)) ∈ lw_g := lw_in 227 (by decide +kernel) (by decide +kernel)
theorem wd_228 : (Jvm.Cond.static ({ cls := "jdk/internal/util/ArraysSupport", name := "hugeLength", desc := "(II)I" } : Jvm.MethodName)) ∈ lw_g := lw_in 228 (by decide +kernel) (by decide +kernel)
set_option maxRecDepth 100000 in
theorem wd_229 : (Jvm.Cond.code ({ cls := "jdk/internal/util/ArraysSupport", name := "hugeLength", desc := "(II)I" } : Jvm.MethodName) prog_27_method_28_code (3 : Nat) (Option.some Jvm.ClassFile.FieldType.int)) ∈ lw_g := lw_in 229 (by rfl) (by decide +kernel)
theorem wd_230 : (Jvm.Cond.methodLink "java/util/ArrayList" (66 : Nat) ({ cls := "java/util/Arrays", name := "copyOf", desc := "([Ljava/lang/Object;I)[Ljava/lang/Object;" } : Jvm.MethodName)) ∈ lw_g := lw_in 230 (by decide +kernel) (by decide +kernel)
theorem wd_231 : (Jvm.Cond.static ({ cls := "java/util/Arrays", name := "copyOf", desc := "([Ljava/lang/Object;I)[Ljava/lang/Object;" } : Jvm.MethodName)) ∈ lw_g := lw_in 231 (by decide +kernel) (by decide +kernel)
set_option maxRecDepth 100000 in
theorem wd_232 : (Jvm.Cond.code ({ cls := "java/util/Arrays", name := "copyOf", desc := "([Ljava/lang/Object;I)[Ljava/lang/Object;" } : Jvm.MethodName) prog_20_method_119_code (2 : Nat) (Option.some (Jvm.ClassFile.FieldType.array (Jvm.ClassFile.FieldType.object "java/lang/Object")))) ∈ lw_g := lw_in 232 (by rfl) (by decide +kernel)
theorem wd_233 : (Jvm.Cond.methodLink "java/util/Arrays" (86 : Nat) ({ cls := "java/lang/Object", name := "getClass", desc := "()Ljava/lang/Class;" } : Jvm.MethodName)) ∈ lw_g := lw_in 233 (by decide +kernel) (by decide +kernel)
theorem wd_234 : (Jvm.Cond.instanceMethod ({ cls := "java/lang/Object", name := "getClass", desc := "()Ljava/lang/Class;" } : Jvm.MethodName)) ∈ lw_g := lw_in 234 (by decide +kernel) (by decide +kernel)
theorem wd_235 : (Jvm.Cond.sameMethod "java/lang/Object" "java/lang/Object" "getClass" "()Ljava/lang/Class;") ∈ lw_g := lw_in 235 (by decide +kernel) (by decide +kernel)
theorem wd_236 : (Jvm.Cond.selects "PurseHouse" ({ cls := "java/lang/Object", name := "getClass", desc := "()Ljava/lang/Class;" } : Jvm.MethodName) ({ cls := "java/lang/Object", name := "getClass", desc := "()Ljava/lang/Class;" } : Jvm.MethodName)) ∈ lw_g := lw_in 236 (by decide +kernel) (by decide +kernel)
theorem wd_237 : (Jvm.Cond.selects "PurseHouse$Kiosk" ({ cls := "java/lang/Object", name := "getClass", desc := "()Ljava/lang/Class;" } : Jvm.MethodName) ({ cls := "java/lang/Object", name := "getClass", desc := "()Ljava/lang/Class;" } : Jvm.MethodName)) ∈ lw_g := lw_in 237 (by decide +kernel) (by decide +kernel)
theorem wd_238 : (Jvm.Cond.selects "PurseHouse$Link" ({ cls := "java/lang/Object", name := "getClass", desc := "()Ljava/lang/Class;" } : Jvm.MethodName) ({ cls := "java/lang/Object", name := "getClass", desc := "()Ljava/lang/Class;" } : Jvm.MethodName)) ∈ lw_g := lw_in 238 (by decide +kernel) (by decide +kernel)
theorem wd_239 : (Jvm.Cond.selects "PurseHouse$Thing" ({ cls := "java/lang/Object", name := "getClass", desc := "()Ljava/lang/Class;" } : Jvm.MethodName) ({ cls := "java/lang/Object", name := "getClass", desc := "()Ljava/lang/Class;" } : Jvm.MethodName)) ∈ lw_g := lw_in 239 (by decide +kernel) (by decide +kernel)
theorem wd_240 : (Jvm.Cond.selects "PurseHouseModel" ({ cls := "java/lang/Object", name := "getClass", desc := "()Ljava/lang/Class;" } : Jvm.MethodName) ({ cls := "java/lang/Object", name := "getClass", desc := "()Ljava/lang/Class;" } : Jvm.MethodName)) ∈ lw_g := lw_in 240 (by decide +kernel) (by decide +kernel)
theorem wd_241 : (Jvm.Cond.selects "java/lang/IllegalArgumentException" ({ cls := "java/lang/Object", name := "getClass", desc := "()Ljava/lang/Class;" } : Jvm.MethodName) ({ cls := "java/lang/Object", name := "getClass", desc := "()Ljava/lang/Class;" } : Jvm.MethodName)) ∈ lw_g := lw_in 241 (by decide +kernel) (by decide +kernel)
theorem wd_242 : (Jvm.Cond.selects "java/util/ArrayList" ({ cls := "java/lang/Object", name := "getClass", desc := "()Ljava/lang/Class;" } : Jvm.MethodName) ({ cls := "java/lang/Object", name := "getClass", desc := "()Ljava/lang/Class;" } : Jvm.MethodName)) ∈ lw_g := lw_in 242 (by decide +kernel) (by decide +kernel)
theorem wd_243 : (Jvm.Cond.selects "java/util/NoSuchElementException" ({ cls := "java/lang/Object", name := "getClass", desc := "()Ljava/lang/Class;" } : Jvm.MethodName) ({ cls := "java/lang/Object", name := "getClass", desc := "()Ljava/lang/Class;" } : Jvm.MethodName)) ∈ lw_g := lw_in 243 (by decide +kernel) (by decide +kernel)
theorem wd_244 : (Jvm.Cond.native ({ cls := "java/lang/Object", name := "getClass", desc := "()Ljava/lang/Class;" } : Jvm.MethodName)) ∈ lw_g := lw_in 244 (by decide +kernel) (by decide +kernel)
theorem wd_245 : (Jvm.Cond.methodLink "java/util/Arrays" (300 : Nat) ({ cls := "java/util/Arrays", name := "copyOf", desc := "([Ljava/lang/Object;ILjava/lang/Class;)[Ljava/lang/Object;" } : Jvm.MethodName)) ∈ lw_g := lw_in 245 (by decide +kernel) (by decide +kernel)
theorem wd_246 : (Jvm.Cond.static ({ cls := "java/util/Arrays", name := "copyOf", desc := "([Ljava/lang/Object;ILjava/lang/Class;)[Ljava/lang/Object;" } : Jvm.MethodName)) ∈ lw_g := lw_in 246 (by decide +kernel) (by decide +kernel)
set_option maxRecDepth 100000 in
theorem wd_247 : (Jvm.Cond.code ({ cls := "java/util/Arrays", name := "copyOf", desc := "([Ljava/lang/Object;ILjava/lang/Class;)[Ljava/lang/Object;" } : Jvm.MethodName) prog_20_method_120_code (4 : Nat) (Option.some (Jvm.ClassFile.FieldType.array (Jvm.ClassFile.FieldType.object "java/lang/Object")))) ∈ lw_g := lw_in 247 (by rfl) (by decide +kernel)
theorem wd_248 : (Jvm.Cond.classLink "java/util/Arrays" (110 : Nat) "[Ljava/lang/Object;") ∈ lw_g := lw_in 248 (by decide +kernel) (by decide +kernel)
theorem wn_249 : (Jvm.Cond.arrayOver (Jvm.ClassFile.FieldType.object "java/lang/Object")) ∈ lw_tbl := List.mem_of_getElem? (i := 249) (by decide +kernel)
theorem wd_250 : (Jvm.Cond.classLink "java/util/Arrays" (2 : Nat) "java/lang/Object") ∈ lw_g := lw_in 250 (by decide +kernel) (by decide +kernel)
theorem wd_251 : (Jvm.Cond.methodLink "java/util/Arrays" (304 : Nat) ({ cls := "java/lang/Math", name := "min", desc := "(II)I" } : Jvm.MethodName)) ∈ lw_g := lw_in 251 (by decide +kernel) (by decide +kernel)
theorem wd_252 : (Jvm.Cond.methodLink "java/util/Arrays" (150 : Nat) ({ cls := "java/lang/System", name := "arraycopy", desc := "(Ljava/lang/Object;ILjava/lang/Object;II)V" } : Jvm.MethodName)) ∈ lw_g := lw_in 252 (by decide +kernel) (by decide +kernel)
theorem wd_253 : (Jvm.Cond.static ({ cls := "java/lang/System", name := "arraycopy", desc := "(Ljava/lang/Object;ILjava/lang/Object;II)V" } : Jvm.MethodName)) ∈ lw_g := lw_in 253 (by decide +kernel) (by decide +kernel)
theorem wd_254 : (Jvm.Cond.native ({ cls := "java/lang/System", name := "arraycopy", desc := "(Ljava/lang/Object;ILjava/lang/Object;II)V" } : Jvm.MethodName)) ∈ lw_g := lw_in 254 (by decide +kernel) (by decide +kernel)
theorem wd_255 : (Jvm.Cond.methodLink "java/util/ArrayList" (79 : Nat) ({ cls := "java/lang/Math", name := "max", desc := "(II)I" } : Jvm.MethodName)) ∈ lw_g := lw_in 255 (by decide +kernel) (by decide +kernel)
theorem wd_256 : (Jvm.Cond.classLink "java/util/ArrayList" (7 : Nat) "java/lang/Object") ∈ lw_g := lw_in 256 (by decide +kernel) (by decide +kernel)
theorem wd_257 : (Jvm.Cond.methodLink "PurseHouseLaw" (42 : Nat) ({ cls := "PurseHouse", name := "rate", desc := "(IIII)Z" } : Jvm.MethodName)) ∈ lw_g := lw_in 257 (by decide +kernel) (by decide +kernel)
theorem wd_258 : (Jvm.Cond.instanceMethod ({ cls := "PurseHouse", name := "rate", desc := "(IIII)Z" } : Jvm.MethodName)) ∈ lw_g := lw_in 258 (by decide +kernel) (by decide +kernel)
theorem wd_259 : (Jvm.Cond.selects "PurseHouse" ({ cls := "PurseHouse", name := "rate", desc := "(IIII)Z" } : Jvm.MethodName) ({ cls := "PurseHouse", name := "rate", desc := "(IIII)Z" } : Jvm.MethodName)) ∈ lw_g := lw_in 259 (by decide +kernel) (by decide +kernel)
set_option maxRecDepth 100000 in
theorem wd_260 : (Jvm.Cond.code ({ cls := "PurseHouse", name := "rate", desc := "(IIII)Z" } : Jvm.MethodName) prog_1_method_3_code (5 : Nat) (Option.some Jvm.ClassFile.FieldType.boolean)) ∈ lw_g := lw_in 260 (by rfl) (by decide +kernel)
theorem wd_261 : (Jvm.Cond.methodLink "PurseHouse" (61 : Nat) ({ cls := "PurseHouse", name := "hasCurrency", desc := "(I)Z" } : Jvm.MethodName)) ∈ lw_g := lw_in 261 (by decide +kernel) (by decide +kernel)
theorem wd_262 : (Jvm.Cond.static ({ cls := "PurseHouse", name := "hasCurrency", desc := "(I)Z" } : Jvm.MethodName)) ∈ lw_g := lw_in 262 (by decide +kernel) (by decide +kernel)
set_option maxRecDepth 100000 in
theorem wd_263 : (Jvm.Cond.code ({ cls := "PurseHouse", name := "hasCurrency", desc := "(I)Z" } : Jvm.MethodName) prog_1_method_24_code (1 : Nat) (Option.some Jvm.ClassFile.FieldType.boolean)) ∈ lw_g := lw_in 263 (by rfl) (by decide +kernel)
theorem wd_264 : (Jvm.Cond.constant "PurseHouse" (64 : Nat) (1000000 : Int32)) ∈ lw_g := lw_in 264 (by decide +kernel) (by decide +kernel)
theorem wd_265 : (Jvm.Cond.methodLink "PurseHouseLaw" (47 : Nat) ({ cls := "PurseHouse", name := "mint", desc := "(III)Z" } : Jvm.MethodName)) ∈ lw_g := lw_in 265 (by decide +kernel) (by decide +kernel)
theorem wd_266 : (Jvm.Cond.instanceMethod ({ cls := "PurseHouse", name := "mint", desc := "(III)Z" } : Jvm.MethodName)) ∈ lw_g := lw_in 266 (by decide +kernel) (by decide +kernel)
theorem wd_267 : (Jvm.Cond.selects "PurseHouse" ({ cls := "PurseHouse", name := "mint", desc := "(III)Z" } : Jvm.MethodName) ({ cls := "PurseHouse", name := "mint", desc := "(III)Z" } : Jvm.MethodName)) ∈ lw_g := lw_in 267 (by decide +kernel) (by decide +kernel)
set_option maxRecDepth 100000 in
theorem wd_268 : (Jvm.Cond.code ({ cls := "PurseHouse", name := "mint", desc := "(III)Z" } : Jvm.MethodName) prog_1_method_4_code (4 : Nat) (Option.some Jvm.ClassFile.FieldType.boolean)) ∈ lw_g := lw_in 268 (by rfl) (by decide +kernel)
theorem wd_269 : (Jvm.Cond.constant "PurseHouse" (69 : Nat) (1000000000 : Int32)) ∈ lw_g := lw_in 269 (by decide +kernel) (by decide +kernel)
theorem wd_270 : (Jvm.Cond.methodLink "PurseHouse" (70 : Nat) ({ cls := "PurseHouse$Kiosk", name := "addCoins", desc := "(II)V" } : Jvm.MethodName)) ∈ lw_g := lw_in 270 (by decide +kernel) (by decide +kernel)
theorem wd_271 : (Jvm.Cond.instanceMethod ({ cls := "PurseHouse$Kiosk", name := "addCoins", desc := "(II)V" } : Jvm.MethodName)) ∈ lw_g := lw_in 271 (by decide +kernel) (by decide +kernel)
theorem wd_272 : (Jvm.Cond.selects "PurseHouse$Kiosk" ({ cls := "PurseHouse$Kiosk", name := "addCoins", desc := "(II)V" } : Jvm.MethodName) ({ cls := "PurseHouse$Kiosk", name := "addCoins", desc := "(II)V" } : Jvm.MethodName)) ∈ lw_g := lw_in 272 (by decide +kernel) (by decide +kernel)
set_option maxRecDepth 100000 in
theorem wd_273 : (Jvm.Cond.code ({ cls := "PurseHouse$Kiosk", name := "addCoins", desc := "(II)V" } : Jvm.MethodName) prog_2_method_4_code (3 : Nat) (Option.none : Option Jvm.ClassFile.FieldType)) ∈ lw_g := lw_in 273 (by rfl) (by decide +kernel)
theorem wd_274 : (Jvm.Cond.methodLink "PurseHouseLaw" (52 : Nat) ({ cls := "PurseHouse", name := "melt", desc := "(III)Z" } : Jvm.MethodName)) ∈ lw_g := lw_in 274 (by decide +kernel) (by decide +kernel)
theorem wd_275 : (Jvm.Cond.instanceMethod ({ cls := "PurseHouse", name := "melt", desc := "(III)Z" } : Jvm.MethodName)) ∈ lw_g := lw_in 275 (by decide +kernel) (by decide +kernel)
theorem wd_276 : (Jvm.Cond.selects "PurseHouse" ({ cls := "PurseHouse", name := "melt", desc := "(III)Z" } : Jvm.MethodName) ({ cls := "PurseHouse", name := "melt", desc := "(III)Z" } : Jvm.MethodName)) ∈ lw_g := lw_in 276 (by decide +kernel) (by decide +kernel)
set_option maxRecDepth 100000 in
theorem wd_277 : (Jvm.Cond.code ({ cls := "PurseHouse", name := "melt", desc := "(III)Z" } : Jvm.MethodName) prog_1_method_5_code (4 : Nat) (Option.some Jvm.ClassFile.FieldType.boolean)) ∈ lw_g := lw_in 277 (by rfl) (by decide +kernel)
theorem wd_278 : (Jvm.Cond.methodLink "PurseHouse" (74 : Nat) ({ cls := "PurseHouse", name := "canPay", desc := "(III)Z" } : Jvm.MethodName)) ∈ lw_g := lw_in 278 (by decide +kernel) (by decide +kernel)
theorem wn_279 : (Jvm.Cond.privateMethod ({ cls := "PurseHouse", name := "canPay", desc := "(III)Z" } : Jvm.MethodName)) ∈ lw_tbl := List.mem_of_getElem? (i := 279) (by decide +kernel)
theorem wd_280 : (Jvm.Cond.instanceMethod ({ cls := "PurseHouse", name := "canPay", desc := "(III)Z" } : Jvm.MethodName)) ∈ lw_g := lw_in 280 (by decide +kernel) (by decide +kernel)
set_option maxRecDepth 100000 in
theorem wd_281 : (Jvm.Cond.code ({ cls := "PurseHouse", name := "canPay", desc := "(III)Z" } : Jvm.MethodName) prog_1_method_31_code (4 : Nat) (Option.some Jvm.ClassFile.FieldType.boolean)) ∈ lw_g := lw_in 281 (by rfl) (by decide +kernel)
theorem wd_282 : (Jvm.Cond.methodLink "PurseHouse" (96 : Nat) ({ cls := "PurseHouse$Kiosk", name := "hasCoins", desc := "(II)Z" } : Jvm.MethodName)) ∈ lw_g := lw_in 282 (by decide +kernel) (by decide +kernel)
theorem wd_283 : (Jvm.Cond.instanceMethod ({ cls := "PurseHouse$Kiosk", name := "hasCoins", desc := "(II)Z" } : Jvm.MethodName)) ∈ lw_g := lw_in 283 (by decide +kernel) (by decide +kernel)
theorem wd_284 : (Jvm.Cond.selects "PurseHouse$Kiosk" ({ cls := "PurseHouse$Kiosk", name := "hasCoins", desc := "(II)Z" } : Jvm.MethodName) ({ cls := "PurseHouse$Kiosk", name := "hasCoins", desc := "(II)Z" } : Jvm.MethodName)) ∈ lw_g := lw_in 284 (by decide +kernel) (by decide +kernel)
set_option maxRecDepth 100000 in
theorem wd_285 : (Jvm.Cond.code ({ cls := "PurseHouse$Kiosk", name := "hasCoins", desc := "(II)Z" } : Jvm.MethodName) prog_2_method_3_code (3 : Nat) (Option.some Jvm.ClassFile.FieldType.boolean)) ∈ lw_g := lw_in 285 (by rfl) (by decide +kernel)
theorem wd_286 : (Jvm.Cond.constant "PurseHouse$Kiosk" (47 : Nat) (1000000000 : Int32)) ∈ lw_g := lw_in 286 (by decide +kernel) (by decide +kernel)
theorem wn_287 : (Jvm.Cond.methodLinkNest "PurseHouse$Kiosk" (48 : Nat) ({ cls := "PurseHouse", name := "isBetween", desc := "(III)Z" } : Jvm.MethodName) "PurseHouse") ∈ lw_tbl := List.mem_of_getElem? (i := 287) (by decide +kernel)
theorem wd_288 : (Jvm.Cond.methodLink "PurseHouseLaw" (56 : Nat) ({ cls := "PurseHouse", name := "exchange", desc := "(IIII)Z" } : Jvm.MethodName)) ∈ lw_g := lw_in 288 (by decide +kernel) (by decide +kernel)
theorem wd_289 : (Jvm.Cond.instanceMethod ({ cls := "PurseHouse", name := "exchange", desc := "(IIII)Z" } : Jvm.MethodName)) ∈ lw_g := lw_in 289 (by decide +kernel) (by decide +kernel)
theorem wd_290 : (Jvm.Cond.selects "PurseHouse" ({ cls := "PurseHouse", name := "exchange", desc := "(IIII)Z" } : Jvm.MethodName) ({ cls := "PurseHouse", name := "exchange", desc := "(IIII)Z" } : Jvm.MethodName)) ∈ lw_g := lw_in 290 (by decide +kernel) (by decide +kernel)
set_option maxRecDepth 100000 in
theorem wd_291 : (Jvm.Cond.code ({ cls := "PurseHouse", name := "exchange", desc := "(IIII)Z" } : Jvm.MethodName) prog_1_method_6_code (7 : Nat) (Option.some Jvm.ClassFile.FieldType.boolean)) ∈ lw_g := lw_in 291 (by rfl) (by decide +kernel)
theorem wd_292 : (Jvm.Cond.methodLink "PurseHouse" (77 : Nat) ({ cls := "PurseHouse", name := "floorOf", desc := "(JJ)J" } : Jvm.MethodName)) ∈ lw_g := lw_in 292 (by decide +kernel) (by decide +kernel)
theorem wd_293 : (Jvm.Cond.static ({ cls := "PurseHouse", name := "floorOf", desc := "(JJ)J" } : Jvm.MethodName)) ∈ lw_g := lw_in 293 (by decide +kernel) (by decide +kernel)
set_option maxRecDepth 100000 in
theorem wd_294 : (Jvm.Cond.code ({ cls := "PurseHouse", name := "floorOf", desc := "(JJ)J" } : Jvm.MethodName) prog_1_method_26_code (4 : Nat) (Option.some Jvm.ClassFile.FieldType.long)) ∈ lw_g := lw_in 294 (by rfl) (by decide +kernel)
theorem wd_295 : (Jvm.Cond.methodLink "PurseHouse" (209 : Nat) ({ cls := "java/lang/Math", name := "floorDiv", desc := "(JJ)J" } : Jvm.MethodName)) ∈ lw_g := lw_in 295 (by decide +kernel) (by decide +kernel)
theorem wd_296 : (Jvm.Cond.static ({ cls := "java/lang/Math", name := "floorDiv", desc := "(JJ)J" } : Jvm.MethodName)) ∈ lw_g := lw_in 296 (by decide +kernel) (by decide +kernel)
set_option maxRecDepth 100000 in
theorem wd_297 : (Jvm.Cond.code ({ cls := "java/lang/Math", name := "floorDiv", desc := "(JJ)J" } : Jvm.MethodName) prog_12_method_49_code (6 : Nat) (Option.some Jvm.ClassFile.FieldType.long)) ∈ lw_g := lw_in 297 (by rfl) (by decide +kernel)
theorem wd_298 : (Jvm.Cond.methodLink "PurseHouse" (81 : Nat) ({ cls := "PurseHouse$Kiosk", name := "swapCoins", desc := "(IJIJ)V" } : Jvm.MethodName)) ∈ lw_g := lw_in 298 (by decide +kernel) (by decide +kernel)
theorem wd_299 : (Jvm.Cond.instanceMethod ({ cls := "PurseHouse$Kiosk", name := "swapCoins", desc := "(IJIJ)V" } : Jvm.MethodName)) ∈ lw_g := lw_in 299 (by decide +kernel) (by decide +kernel)
theorem wd_300 : (Jvm.Cond.selects "PurseHouse$Kiosk" ({ cls := "PurseHouse$Kiosk", name := "swapCoins", desc := "(IJIJ)V" } : Jvm.MethodName) ({ cls := "PurseHouse$Kiosk", name := "swapCoins", desc := "(IJIJ)V" } : Jvm.MethodName)) ∈ lw_g := lw_in 300 (by decide +kernel) (by decide +kernel)
set_option maxRecDepth 100000 in
theorem wd_301 : (Jvm.Cond.code ({ cls := "PurseHouse$Kiosk", name := "swapCoins", desc := "(IJIJ)V" } : Jvm.MethodName) prog_2_method_5_code (7 : Nat) (Option.none : Option Jvm.ClassFile.FieldType)) ∈ lw_g := lw_in 301 (by rfl) (by decide +kernel)
theorem wd_302 : (Jvm.Cond.methodLink "PurseHouseLaw" (60 : Nat) ({ cls := "PurseHouse", name := "bag", desc := "(III)Z" } : Jvm.MethodName)) ∈ lw_g := lw_in 302 (by decide +kernel) (by decide +kernel)
theorem wd_303 : (Jvm.Cond.instanceMethod ({ cls := "PurseHouse", name := "bag", desc := "(III)Z" } : Jvm.MethodName)) ∈ lw_g := lw_in 303 (by decide +kernel) (by decide +kernel)
theorem wd_304 : (Jvm.Cond.selects "PurseHouse" ({ cls := "PurseHouse", name := "bag", desc := "(III)Z" } : Jvm.MethodName) ({ cls := "PurseHouse", name := "bag", desc := "(III)Z" } : Jvm.MethodName)) ∈ lw_g := lw_in 304 (by decide +kernel) (by decide +kernel)
set_option maxRecDepth 100000 in
theorem wd_305 : (Jvm.Cond.code ({ cls := "PurseHouse", name := "bag", desc := "(III)Z" } : Jvm.MethodName) prog_1_method_7_code (5 : Nat) (Option.some Jvm.ClassFile.FieldType.boolean)) ∈ lw_g := lw_in 305 (by rfl) (by decide +kernel)
theorem wd_306 : (Jvm.Cond.methodLink "PurseHouse" (85 : Nat) ({ cls := "PurseHouse", name := "hasLink", desc := "(I)Z" } : Jvm.MethodName)) ∈ lw_g := lw_in 306 (by decide +kernel) (by decide +kernel)
theorem wn_307 : (Jvm.Cond.privateMethod ({ cls := "PurseHouse", name := "hasLink", desc := "(I)Z" } : Jvm.MethodName)) ∈ lw_tbl := List.mem_of_getElem? (i := 307) (by decide +kernel)
theorem wd_308 : (Jvm.Cond.instanceMethod ({ cls := "PurseHouse", name := "hasLink", desc := "(I)Z" } : Jvm.MethodName)) ∈ lw_g := lw_in 308 (by decide +kernel) (by decide +kernel)
set_option maxRecDepth 100000 in
theorem wd_309 : (Jvm.Cond.code ({ cls := "PurseHouse", name := "hasLink", desc := "(I)Z" } : Jvm.MethodName) prog_1_method_28_code (2 : Nat) (Option.some Jvm.ClassFile.FieldType.boolean)) ∈ lw_g := lw_in 309 (by rfl) (by decide +kernel)
theorem wd_310 : (Jvm.Cond.methodLink "PurseHouse" (88 : Nat) ({ cls := "java/util/ArrayList", name := "get", desc := "(I)Ljava/lang/Object;" } : Jvm.MethodName)) ∈ lw_g := lw_in 310 (by decide +kernel) (by decide +kernel)
theorem wd_311 : (Jvm.Cond.instanceMethod ({ cls := "java/util/ArrayList", name := "get", desc := "(I)Ljava/lang/Object;" } : Jvm.MethodName)) ∈ lw_g := lw_in 311 (by decide +kernel) (by decide +kernel)
theorem wd_312 : (Jvm.Cond.selects "java/util/ArrayList" ({ cls := "java/util/ArrayList", name := "get", desc := "(I)Ljava/lang/Object;" } : Jvm.MethodName) ({ cls := "java/util/ArrayList", name := "get", desc := "(I)Ljava/lang/Object;" } : Jvm.MethodName)) ∈ lw_g := lw_in 312 (by decide +kernel) (by decide +kernel)
set_option maxRecDepth 100000 in
theorem wd_313 : (Jvm.Cond.code ({ cls := "java/util/ArrayList", name := "get", desc := "(I)Ljava/lang/Object;" } : Jvm.MethodName) prog_19_method_20_code (2 : Nat) (Option.some (Jvm.ClassFile.FieldType.object "java/lang/Object"))) ∈ lw_g := lw_in 313 (by rfl) (by decide +kernel)
theorem wd_314 : (Jvm.Cond.methodLink "java/util/ArrayList" (118 : Nat) ({ cls := "java/util/Objects", name := "checkIndex", desc := "(II)I" } : Jvm.MethodName)) ∈ lw_g := lw_in 314 (by decide +kernel) (by decide +kernel)
theorem wd_315 : (Jvm.Cond.static ({ cls := "java/util/Objects", name := "checkIndex", desc := "(II)I" } : Jvm.MethodName)) ∈ lw_g := lw_in 315 (by decide +kernel) (by decide +kernel)
set_option maxRecDepth 100000 in
theorem wd_316 : (Jvm.Cond.code ({ cls := "java/util/Objects", name := "checkIndex", desc := "(II)I" } : Jvm.MethodName) prog_24_method_17_code (2 : Nat) (Option.some Jvm.ClassFile.FieldType.int)) ∈ lw_g := lw_in 316 (by rfl) (by decide +kernel)
theorem wd_317 : (Jvm.Cond.methodLink "java/util/Objects" (105 : Nat) ({ cls := "jdk/internal/util/Preconditions", name := "checkIndex", desc := "(IILjava/util/function/BiFunction;)I" } : Jvm.MethodName)) ∈ lw_g := lw_in 317 (by decide +kernel) (by decide +kernel)
theorem wd_318 : (Jvm.Cond.static ({ cls := "jdk/internal/util/Preconditions", name := "checkIndex", desc := "(IILjava/util/function/BiFunction;)I" } : Jvm.MethodName)) ∈ lw_g := lw_in 318 (by decide +kernel) (by decide +kernel)
set_option maxRecDepth 100000 in
theorem wd_319 : (Jvm.Cond.code ({ cls := "jdk/internal/util/Preconditions", name := "checkIndex", desc := "(IILjava/util/function/BiFunction;)I" } : Jvm.MethodName) prog_28_method_11_code (3 : Nat) (Option.some Jvm.ClassFile.FieldType.int)) ∈ lw_g := lw_in 319 (by rfl) (by decide +kernel)
theorem wd_320 : (Jvm.Cond.methodLink "java/util/ArrayList" (123 : Nat) ({ cls := "java/util/ArrayList", name := "elementData", desc := "(I)Ljava/lang/Object;" } : Jvm.MethodName)) ∈ lw_g := lw_in 320 (by decide +kernel) (by decide +kernel)
theorem wd_321 : (Jvm.Cond.instanceMethod ({ cls := "java/util/ArrayList", name := "elementData", desc := "(I)Ljava/lang/Object;" } : Jvm.MethodName)) ∈ lw_g := lw_in 321 (by decide +kernel) (by decide +kernel)
theorem wd_322 : (Jvm.Cond.selects "java/util/ArrayList" ({ cls := "java/util/ArrayList", name := "elementData", desc := "(I)Ljava/lang/Object;" } : Jvm.MethodName) ({ cls := "java/util/ArrayList", name := "elementData", desc := "(I)Ljava/lang/Object;" } : Jvm.MethodName)) ∈ lw_g := lw_in 322 (by decide +kernel) (by decide +kernel)
set_option maxRecDepth 100000 in
theorem wd_323 : (Jvm.Cond.code ({ cls := "java/util/ArrayList", name := "elementData", desc := "(I)Ljava/lang/Object;" } : Jvm.MethodName) prog_19_method_18_code (2 : Nat) (Option.some (Jvm.ClassFile.FieldType.object "java/lang/Object"))) ∈ lw_g := lw_in 323 (by rfl) (by decide +kernel)
theorem wd_324 : (Jvm.Cond.methodLink "PurseHouse" (100 : Nat) ({ cls := "PurseHouse$Link", name := "countBags", desc := "()I" } : Jvm.MethodName)) ∈ lw_g := lw_in 324 (by decide +kernel) (by decide +kernel)
theorem wd_325 : (Jvm.Cond.instanceMethod ({ cls := "PurseHouse$Link", name := "countBags", desc := "()I" } : Jvm.MethodName)) ∈ lw_g := lw_in 325 (by decide +kernel) (by decide +kernel)
theorem wd_326 : (Jvm.Cond.selects "PurseHouse$Link" ({ cls := "PurseHouse$Link", name := "countBags", desc := "()I" } : Jvm.MethodName) ({ cls := "PurseHouse$Link", name := "countBags", desc := "()I" } : Jvm.MethodName)) ∈ lw_g := lw_in 326 (by decide +kernel) (by decide +kernel)
set_option maxRecDepth 100000 in
theorem wd_327 : (Jvm.Cond.code ({ cls := "PurseHouse$Link", name := "countBags", desc := "()I" } : Jvm.MethodName) prog_3_method_2_code (3 : Nat) (Option.some Jvm.ClassFile.FieldType.int)) ∈ lw_g := lw_in 327 (by rfl) (by decide +kernel)
theorem wd_328 : (Jvm.Cond.methodLink "PurseHouse$Link" (38 : Nat) ({ cls := "java/util/ArrayList", name := "size", desc := "()I" } : Jvm.MethodName)) ∈ lw_g := lw_in 328 (by decide +kernel) (by decide +kernel)
theorem wd_329 : (Jvm.Cond.methodLink "PurseHouse$Link" (42 : Nat) ({ cls := "java/util/ArrayList", name := "get", desc := "(I)Ljava/lang/Object;" } : Jvm.MethodName)) ∈ lw_g := lw_in 329 (by decide +kernel) (by decide +kernel)
theorem wd_330 : (Jvm.Cond.classLink "PurseHouse$Link" (46 : Nat) "PurseHouse$Thing") ∈ lw_g := lw_in 330 (by decide +kernel) (by decide +kernel)
theorem wd_331 : (Jvm.Cond.methodLink "PurseHouse" (103 : Nat) ({ cls := "PurseHouse$Link", name := "sendBag", desc := "(II)V" } : Jvm.MethodName)) ∈ lw_g := lw_in 331 (by decide +kernel) (by decide +kernel)
theorem wd_332 : (Jvm.Cond.instanceMethod ({ cls := "PurseHouse$Link", name := "sendBag", desc := "(II)V" } : Jvm.MethodName)) ∈ lw_g := lw_in 332 (by decide +kernel) (by decide +kernel)
theorem wd_333 : (Jvm.Cond.selects "PurseHouse$Link" ({ cls := "PurseHouse$Link", name := "sendBag", desc := "(II)V" } : Jvm.MethodName) ({ cls := "PurseHouse$Link", name := "sendBag", desc := "(II)V" } : Jvm.MethodName)) ∈ lw_g := lw_in 333 (by decide +kernel) (by decide +kernel)
set_option maxRecDepth 100000 in
theorem wd_334 : (Jvm.Cond.code ({ cls := "PurseHouse$Link", name := "sendBag", desc := "(II)V" } : Jvm.MethodName) prog_3_method_4_code (3 : Nat) (Option.none : Option Jvm.ClassFile.FieldType)) ∈ lw_g := lw_in 334 (by rfl) (by decide +kernel)
theorem wd_335 : (Jvm.Cond.methodLink "PurseHouse$Link" (57 : Nat) ({ cls := "PurseHouse$Kiosk", name := "giveCoins", desc := "(II)V" } : Jvm.MethodName)) ∈ lw_g := lw_in 335 (by decide +kernel) (by decide +kernel)
theorem wd_336 : (Jvm.Cond.instanceMethod ({ cls := "PurseHouse$Kiosk", name := "giveCoins", desc := "(II)V" } : Jvm.MethodName)) ∈ lw_g := lw_in 336 (by decide +kernel) (by decide +kernel)
theorem wd_337 : (Jvm.Cond.selects "PurseHouse$Kiosk" ({ cls := "PurseHouse$Kiosk", name := "giveCoins", desc := "(II)V" } : Jvm.MethodName) ({ cls := "PurseHouse$Kiosk", name := "giveCoins", desc := "(II)V" } : Jvm.MethodName)) ∈ lw_g := lw_in 337 (by decide +kernel) (by decide +kernel)
set_option maxRecDepth 100000 in
theorem wd_338 : (Jvm.Cond.code ({ cls := "PurseHouse$Kiosk", name := "giveCoins", desc := "(II)V" } : Jvm.MethodName) prog_2_method_6_code (3 : Nat) (Option.none : Option Jvm.ClassFile.FieldType)) ∈ lw_g := lw_in 338 (by rfl) (by decide +kernel)
theorem wd_339 : (Jvm.Cond.instantiable "PurseHouse$Thing" (4 : Nat)) ∈ lw_g := lw_in 339 (by decide +kernel) (by decide +kernel)
theorem wd_340 : (Jvm.Cond.methodLink "PurseHouse$Link" (66 : Nat) ({ cls := "PurseHouse$Thing", name := "<init>", desc := "(IIII)V" } : Jvm.MethodName)) ∈ lw_g := lw_in 340 (by decide +kernel) (by decide +kernel)
theorem wd_341 : (Jvm.Cond.instanceMethod ({ cls := "PurseHouse$Thing", name := "<init>", desc := "(IIII)V" } : Jvm.MethodName)) ∈ lw_g := lw_in 341 (by decide +kernel) (by decide +kernel)
set_option maxRecDepth 100000 in
theorem wd_342 : (Jvm.Cond.code ({ cls := "PurseHouse$Thing", name := "<init>", desc := "(IIII)V" } : Jvm.MethodName) prog_4_method_1_code (5 : Nat) (Option.none : Option Jvm.ClassFile.FieldType)) ∈ lw_g := lw_in 342 (by rfl) (by decide +kernel)
theorem wd_343 : (Jvm.Cond.methodLink "PurseHouse$Thing" (1 : Nat) ({ cls := "java/lang/Object", name := "<init>", desc := "()V" } : Jvm.MethodName)) ∈ lw_g := lw_in 343 (by decide +kernel) (by decide +kernel)
theorem wd_344 : (Jvm.Cond.fieldLink "PurseHouse$Thing" (7 : Nat) "PurseHouse$Thing" "kind" "I") ∈ lw_g := lw_in 344 (by decide +kernel) (by decide +kernel)
theorem wd_345 : (Jvm.Cond.fieldLink "PurseHouse$Link" (48 : Nat) "PurseHouse$Thing" "kind" "I") ∈ lw_g := lw_in 345 (by decide +kernel) (by decide +kernel)
theorem wd_346 : (Jvm.Cond.fieldLink "PurseHouse" (121 : Nat) "PurseHouse$Thing" "kind" "I") ∈ lw_g := lw_in 346 (by decide +kernel) (by decide +kernel)
theorem wd_347 : (Jvm.Cond.fieldLink "PurseHouse$Thing" (13 : Nat) "PurseHouse$Thing" "currency" "I") ∈ lw_g := lw_in 347 (by decide +kernel) (by decide +kernel)
theorem wd_348 : (Jvm.Cond.fieldLink "PurseHouse$Link" (51 : Nat) "PurseHouse$Thing" "currency" "I") ∈ lw_g := lw_in 348 (by decide +kernel) (by decide +kernel)
theorem wd_349 : (Jvm.Cond.fieldLink "PurseHouse" (153 : Nat) "PurseHouse$Thing" "currency" "I") ∈ lw_g := lw_in 349 (by decide +kernel) (by decide +kernel)
theorem wd_350 : (Jvm.Cond.fieldLink "PurseHouse$Thing" (16 : Nat) "PurseHouse$Thing" "figure" "I") ∈ lw_g := lw_in 350 (by decide +kernel) (by decide +kernel)
theorem wd_351 : (Jvm.Cond.fieldLink "PurseHouse$Link" (54 : Nat) "PurseHouse$Thing" "figure" "I") ∈ lw_g := lw_in 351 (by decide +kernel) (by decide +kernel)
theorem wd_352 : (Jvm.Cond.fieldLink "PurseHouse" (124 : Nat) "PurseHouse$Thing" "figure" "I") ∈ lw_g := lw_in 352 (by decide +kernel) (by decide +kernel)
theorem wd_353 : (Jvm.Cond.fieldLink "PurseHouse$Thing" (19 : Nat) "PurseHouse$Thing" "marks" "I") ∈ lw_g := lw_in 353 (by decide +kernel) (by decide +kernel)
theorem wd_354 : (Jvm.Cond.fieldLink "PurseHouse$Link" (84 : Nat) "PurseHouse$Thing" "marks" "I") ∈ lw_g := lw_in 354 (by decide +kernel) (by decide +kernel)
theorem wd_355 : (Jvm.Cond.fieldLink "PurseHouse" (156 : Nat) "PurseHouse$Thing" "marks" "I") ∈ lw_g := lw_in 355 (by decide +kernel) (by decide +kernel)
theorem wd_356 : (Jvm.Cond.laysFinal "PurseHouse$Thing" "PurseHouse$Thing" "kind" "I") ∈ lw_g := lw_in 356 (by decide +kernel) (by decide +kernel)
theorem wd_357 : (Jvm.Cond.soleField "PurseHouse$Thing" "kind") ∈ lw_g := lw_in 357 (by decide +kernel) (by decide +kernel)
theorem wd_358 : (Jvm.Cond.laysFinal "PurseHouse$Thing" "PurseHouse$Thing" "currency" "I") ∈ lw_g := lw_in 358 (by decide +kernel) (by decide +kernel)
theorem wd_359 : (Jvm.Cond.soleField "PurseHouse$Thing" "currency") ∈ lw_g := lw_in 359 (by decide +kernel) (by decide +kernel)
theorem wd_360 : (Jvm.Cond.laysFinal "PurseHouse$Thing" "PurseHouse$Thing" "figure" "I") ∈ lw_g := lw_in 360 (by decide +kernel) (by decide +kernel)
theorem wd_361 : (Jvm.Cond.soleField "PurseHouse$Thing" "figure") ∈ lw_g := lw_in 361 (by decide +kernel) (by decide +kernel)
theorem wd_362 : (Jvm.Cond.laysFinal "PurseHouse$Thing" "PurseHouse$Thing" "marks" "I") ∈ lw_g := lw_in 362 (by decide +kernel) (by decide +kernel)
theorem wd_363 : (Jvm.Cond.soleField "PurseHouse$Thing" "marks") ∈ lw_g := lw_in 363 (by decide +kernel) (by decide +kernel)
theorem wd_364 : (Jvm.Cond.superclass "PurseHouse$Thing" "java/lang/Object") ∈ lw_g := lw_in 364 (by decide +kernel) (by decide +kernel)
theorem wd_365 : (Jvm.Cond.methodLink "PurseHouse$Link" (69 : Nat) ({ cls := "java/util/ArrayList", name := "add", desc := "(Ljava/lang/Object;)Z" } : Jvm.MethodName)) ∈ lw_g := lw_in 365 (by decide +kernel) (by decide +kernel)
theorem wd_366 : (Jvm.Cond.methodLink "PurseHouseLaw" (64 : Nat) ({ cls := "PurseHouse", name := "deliver", desc := "(II)Z" } : Jvm.MethodName)) ∈ lw_g := lw_in 366 (by decide +kernel) (by decide +kernel)
theorem wd_367 : (Jvm.Cond.instanceMethod ({ cls := "PurseHouse", name := "deliver", desc := "(II)Z" } : Jvm.MethodName)) ∈ lw_g := lw_in 367 (by decide +kernel) (by decide +kernel)
theorem wd_368 : (Jvm.Cond.selects "PurseHouse" ({ cls := "PurseHouse", name := "deliver", desc := "(II)Z" } : Jvm.MethodName) ({ cls := "PurseHouse", name := "deliver", desc := "(II)Z" } : Jvm.MethodName)) ∈ lw_g := lw_in 368 (by decide +kernel) (by decide +kernel)
set_option maxRecDepth 100000 in
theorem wd_369 : (Jvm.Cond.code ({ cls := "PurseHouse", name := "deliver", desc := "(II)Z" } : Jvm.MethodName) prog_1_method_8_code (5 : Nat) (Option.some Jvm.ClassFile.FieldType.boolean)) ∈ lw_g := lw_in 369 (by rfl) (by decide +kernel)
theorem wd_370 : (Jvm.Cond.methodLink "PurseHouse" (106 : Nat) ({ cls := "PurseHouse", name := "hasThing", desc := "(II)Z" } : Jvm.MethodName)) ∈ lw_g := lw_in 370 (by decide +kernel) (by decide +kernel)
theorem wn_371 : (Jvm.Cond.privateMethod ({ cls := "PurseHouse", name := "hasThing", desc := "(II)Z" } : Jvm.MethodName)) ∈ lw_tbl := List.mem_of_getElem? (i := 371) (by decide +kernel)
theorem wd_372 : (Jvm.Cond.instanceMethod ({ cls := "PurseHouse", name := "hasThing", desc := "(II)Z" } : Jvm.MethodName)) ∈ lw_g := lw_in 372 (by decide +kernel) (by decide +kernel)
set_option maxRecDepth 100000 in
theorem wd_373 : (Jvm.Cond.code ({ cls := "PurseHouse", name := "hasThing", desc := "(II)Z" } : Jvm.MethodName) prog_1_method_29_code (3 : Nat) (Option.some Jvm.ClassFile.FieldType.boolean)) ∈ lw_g := lw_in 373 (by rfl) (by decide +kernel)
theorem wd_374 : (Jvm.Cond.methodLink "PurseHouse" (116 : Nat) ({ cls := "java/util/ArrayList", name := "remove", desc := "(I)Ljava/lang/Object;" } : Jvm.MethodName)) ∈ lw_g := lw_in 374 (by decide +kernel) (by decide +kernel)
theorem wd_375 : (Jvm.Cond.instanceMethod ({ cls := "java/util/ArrayList", name := "remove", desc := "(I)Ljava/lang/Object;" } : Jvm.MethodName)) ∈ lw_g := lw_in 375 (by decide +kernel) (by decide +kernel)
theorem wd_376 : (Jvm.Cond.selects "java/util/ArrayList" ({ cls := "java/util/ArrayList", name := "remove", desc := "(I)Ljava/lang/Object;" } : Jvm.MethodName) ({ cls := "java/util/ArrayList", name := "remove", desc := "(I)Ljava/lang/Object;" } : Jvm.MethodName)) ∈ lw_g := lw_in 376 (by decide +kernel) (by decide +kernel)
set_option maxRecDepth 100000 in
theorem wd_377 : (Jvm.Cond.code ({ cls := "java/util/ArrayList", name := "remove", desc := "(I)Ljava/lang/Object;" } : Jvm.MethodName) prog_19_method_29_code (4 : Nat) (Option.some (Jvm.ClassFile.FieldType.object "java/lang/Object"))) ∈ lw_g := lw_in 377 (by rfl) (by decide +kernel)
theorem wd_378 : (Jvm.Cond.methodLink "java/util/ArrayList" (144 : Nat) ({ cls := "java/util/ArrayList", name := "fastRemove", desc := "([Ljava/lang/Object;I)V" } : Jvm.MethodName)) ∈ lw_g := lw_in 378 (by decide +kernel) (by decide +kernel)
theorem wn_379 : (Jvm.Cond.privateMethod ({ cls := "java/util/ArrayList", name := "fastRemove", desc := "([Ljava/lang/Object;I)V" } : Jvm.MethodName)) ∈ lw_tbl := List.mem_of_getElem? (i := 379) (by decide +kernel)
theorem wd_380 : (Jvm.Cond.instanceMethod ({ cls := "java/util/ArrayList", name := "fastRemove", desc := "([Ljava/lang/Object;I)V" } : Jvm.MethodName)) ∈ lw_g := lw_in 380 (by decide +kernel) (by decide +kernel)
set_option maxRecDepth 100000 in
theorem wd_381 : (Jvm.Cond.code ({ cls := "java/util/ArrayList", name := "fastRemove", desc := "([Ljava/lang/Object;I)V" } : Jvm.MethodName) prog_19_method_39_code (4 : Nat) (Option.none : Option Jvm.ClassFile.FieldType)) ∈ lw_g := lw_in 381 (by rfl) (by decide +kernel)
theorem wd_382 : (Jvm.Cond.methodLink "java/util/ArrayList" (112 : Nat) ({ cls := "java/lang/System", name := "arraycopy", desc := "(Ljava/lang/Object;ILjava/lang/Object;II)V" } : Jvm.MethodName)) ∈ lw_g := lw_in 382 (by decide +kernel) (by decide +kernel)
theorem wd_383 : (Jvm.Cond.classLink "PurseHouse" (119 : Nat) "PurseHouse$Thing") ∈ lw_g := lw_in 383 (by decide +kernel) (by decide +kernel)
theorem wd_384 : (Jvm.Cond.methodLink "PurseHouse" (127 : Nat) ({ cls := "PurseHouse", name := "takeMarker", desc := "(LPurseHouse$Link;I)V" } : Jvm.MethodName)) ∈ lw_g := lw_in 384 (by decide +kernel) (by decide +kernel)
theorem wn_385 : (Jvm.Cond.privateMethod ({ cls := "PurseHouse", name := "takeMarker", desc := "(LPurseHouse$Link;I)V" } : Jvm.MethodName)) ∈ lw_tbl := List.mem_of_getElem? (i := 385) (by decide +kernel)
theorem wd_386 : (Jvm.Cond.instanceMethod ({ cls := "PurseHouse", name := "takeMarker", desc := "(LPurseHouse$Link;I)V" } : Jvm.MethodName)) ∈ lw_g := lw_in 386 (by decide +kernel) (by decide +kernel)
set_option maxRecDepth 100000 in
theorem wd_387 : (Jvm.Cond.code ({ cls := "PurseHouse", name := "takeMarker", desc := "(LPurseHouse$Link;I)V" } : Jvm.MethodName) prog_1_method_35_code (3 : Nat) (Option.none : Option Jvm.ClassFile.FieldType)) ∈ lw_g := lw_in 387 (by rfl) (by decide +kernel)
theorem wd_388 : (Jvm.Cond.methodLink "PurseHouse" (135 : Nat) ({ cls := "PurseHouse", name := "recordAt", desc := "(LPurseHouse$Kiosk;I)V" } : Jvm.MethodName)) ∈ lw_g := lw_in 388 (by decide +kernel) (by decide +kernel)
theorem wn_389 : (Jvm.Cond.privateMethod ({ cls := "PurseHouse", name := "recordAt", desc := "(LPurseHouse$Kiosk;I)V" } : Jvm.MethodName)) ∈ lw_tbl := List.mem_of_getElem? (i := 389) (by decide +kernel)
theorem wd_390 : (Jvm.Cond.instanceMethod ({ cls := "PurseHouse", name := "recordAt", desc := "(LPurseHouse$Kiosk;I)V" } : Jvm.MethodName)) ∈ lw_g := lw_in 390 (by decide +kernel) (by decide +kernel)
set_option maxRecDepth 100000 in
theorem wd_391 : (Jvm.Cond.code ({ cls := "PurseHouse", name := "recordAt", desc := "(LPurseHouse$Kiosk;I)V" } : Jvm.MethodName) prog_1_method_34_code (4 : Nat) (Option.none : Option Jvm.ClassFile.FieldType)) ∈ lw_g := lw_in 391 (by rfl) (by decide +kernel)
theorem wd_392 : (Jvm.Cond.methodLink "PurseHouse" (167 : Nat) ({ cls := "PurseHouse$Kiosk", name := "hasMark", desc := "(I)Z" } : Jvm.MethodName)) ∈ lw_g := lw_in 392 (by decide +kernel) (by decide +kernel)
theorem wd_393 : (Jvm.Cond.instanceMethod ({ cls := "PurseHouse$Kiosk", name := "hasMark", desc := "(I)Z" } : Jvm.MethodName)) ∈ lw_g := lw_in 393 (by decide +kernel) (by decide +kernel)
theorem wd_394 : (Jvm.Cond.selects "PurseHouse$Kiosk" ({ cls := "PurseHouse$Kiosk", name := "hasMark", desc := "(I)Z" } : Jvm.MethodName) ({ cls := "PurseHouse$Kiosk", name := "hasMark", desc := "(I)Z" } : Jvm.MethodName)) ∈ lw_g := lw_in 394 (by decide +kernel) (by decide +kernel)
set_option maxRecDepth 100000 in
theorem wd_395 : (Jvm.Cond.code ({ cls := "PurseHouse$Kiosk", name := "hasMark", desc := "(I)Z" } : Jvm.MethodName) prog_2_method_2_code (2 : Nat) (Option.some Jvm.ClassFile.FieldType.boolean)) ∈ lw_g := lw_in 395 (by rfl) (by decide +kernel)
theorem wn_396 : (Jvm.Cond.methodLinkNest "PurseHouse$Kiosk" (43 : Nat) ({ cls := "PurseHouse", name := "hasBit", desc := "(II)Z" } : Jvm.MethodName) "PurseHouse") ∈ lw_tbl := List.mem_of_getElem? (i := 396) (by decide +kernel)
theorem wd_397 : (Jvm.Cond.static ({ cls := "PurseHouse", name := "hasBit", desc := "(II)Z" } : Jvm.MethodName)) ∈ lw_g := lw_in 397 (by decide +kernel) (by decide +kernel)
set_option maxRecDepth 100000 in
theorem wd_398 : (Jvm.Cond.code ({ cls := "PurseHouse", name := "hasBit", desc := "(II)Z" } : Jvm.MethodName) prog_1_method_25_code (2 : Nat) (Option.some Jvm.ClassFile.FieldType.boolean)) ∈ lw_g := lw_in 398 (by rfl) (by decide +kernel)
theorem wd_399 : (Jvm.Cond.methodLink "PurseHouse" (215 : Nat) ({ cls := "PurseHouse$Kiosk", name := "keepPage", desc := "(I)V" } : Jvm.MethodName)) ∈ lw_g := lw_in 399 (by decide +kernel) (by decide +kernel)
theorem wd_400 : (Jvm.Cond.instanceMethod ({ cls := "PurseHouse$Kiosk", name := "keepPage", desc := "(I)V" } : Jvm.MethodName)) ∈ lw_g := lw_in 400 (by decide +kernel) (by decide +kernel)
theorem wd_401 : (Jvm.Cond.selects "PurseHouse$Kiosk" ({ cls := "PurseHouse$Kiosk", name := "keepPage", desc := "(I)V" } : Jvm.MethodName) ({ cls := "PurseHouse$Kiosk", name := "keepPage", desc := "(I)V" } : Jvm.MethodName)) ∈ lw_g := lw_in 401 (by decide +kernel) (by decide +kernel)
set_option maxRecDepth 100000 in
theorem wd_402 : (Jvm.Cond.code ({ cls := "PurseHouse$Kiosk", name := "keepPage", desc := "(I)V" } : Jvm.MethodName) prog_2_method_8_code (2 : Nat) (Option.none : Option Jvm.ClassFile.FieldType)) ∈ lw_g := lw_in 402 (by rfl) (by decide +kernel)
theorem wd_403 : (Jvm.Cond.methodLink "PurseHouse$Kiosk" (52 : Nat) ({ cls := "java/lang/System", name := "arraycopy", desc := "(Ljava/lang/Object;ILjava/lang/Object;II)V" } : Jvm.MethodName)) ∈ lw_g := lw_in 403 (by decide +kernel) (by decide +kernel)
theorem wd_404 : (Jvm.Cond.methodLink "PurseHouse" (219 : Nat) ({ cls := "PurseHouse$Link", name := "announce", desc := "(I)V" } : Jvm.MethodName)) ∈ lw_g := lw_in 404 (by decide +kernel) (by decide +kernel)
theorem wd_405 : (Jvm.Cond.instanceMethod ({ cls := "PurseHouse$Link", name := "announce", desc := "(I)V" } : Jvm.MethodName)) ∈ lw_g := lw_in 405 (by decide +kernel) (by decide +kernel)
theorem wd_406 : (Jvm.Cond.selects "PurseHouse$Link" ({ cls := "PurseHouse$Link", name := "announce", desc := "(I)V" } : Jvm.MethodName) ({ cls := "PurseHouse$Link", name := "announce", desc := "(I)V" } : Jvm.MethodName)) ∈ lw_g := lw_in 406 (by decide +kernel) (by decide +kernel)
set_option maxRecDepth 100000 in
theorem wd_407 : (Jvm.Cond.code ({ cls := "PurseHouse$Link", name := "announce", desc := "(I)V" } : Jvm.MethodName) prog_3_method_5_code (2 : Nat) (Option.none : Option Jvm.ClassFile.FieldType)) ∈ lw_g := lw_in 407 (by rfl) (by decide +kernel)
theorem wd_408 : (Jvm.Cond.methodLink "PurseHouse" (131 : Nat) ({ cls := "PurseHouse", name := "takeBag", desc := "(LPurseHouse$Link;LPurseHouse$Thing;)V" } : Jvm.MethodName)) ∈ lw_g := lw_in 408 (by decide +kernel) (by decide +kernel)
theorem wn_409 : (Jvm.Cond.privateMethod ({ cls := "PurseHouse", name := "takeBag", desc := "(LPurseHouse$Link;LPurseHouse$Thing;)V" } : Jvm.MethodName)) ∈ lw_tbl := List.mem_of_getElem? (i := 409) (by decide +kernel)
theorem wd_410 : (Jvm.Cond.instanceMethod ({ cls := "PurseHouse", name := "takeBag", desc := "(LPurseHouse$Link;LPurseHouse$Thing;)V" } : Jvm.MethodName)) ∈ lw_g := lw_in 410 (by decide +kernel) (by decide +kernel)
set_option maxRecDepth 100000 in
theorem wd_411 : (Jvm.Cond.code ({ cls := "PurseHouse", name := "takeBag", desc := "(LPurseHouse$Link;LPurseHouse$Thing;)V" } : Jvm.MethodName) prog_1_method_36_code (4 : Nat) (Option.none : Option Jvm.ClassFile.FieldType)) ∈ lw_g := lw_in 411 (by rfl) (by decide +kernel)
theorem wd_412 : (Jvm.Cond.methodLink "PurseHouse" (228 : Nat) ({ cls := "PurseHouse", name := "hasBit", desc := "(II)Z" } : Jvm.MethodName)) ∈ lw_g := lw_in 412 (by decide +kernel) (by decide +kernel)
theorem wd_413 : (Jvm.Cond.methodLink "PurseHouse" (231 : Nat) ({ cls := "PurseHouse$Kiosk", name := "receiveCoins", desc := "(II)V" } : Jvm.MethodName)) ∈ lw_g := lw_in 413 (by decide +kernel) (by decide +kernel)
theorem wd_414 : (Jvm.Cond.instanceMethod ({ cls := "PurseHouse$Kiosk", name := "receiveCoins", desc := "(II)V" } : Jvm.MethodName)) ∈ lw_g := lw_in 414 (by decide +kernel) (by decide +kernel)
theorem wd_415 : (Jvm.Cond.selects "PurseHouse$Kiosk" ({ cls := "PurseHouse$Kiosk", name := "receiveCoins", desc := "(II)V" } : Jvm.MethodName) ({ cls := "PurseHouse$Kiosk", name := "receiveCoins", desc := "(II)V" } : Jvm.MethodName)) ∈ lw_g := lw_in 415 (by decide +kernel) (by decide +kernel)
set_option maxRecDepth 100000 in
theorem wd_416 : (Jvm.Cond.code ({ cls := "PurseHouse$Kiosk", name := "receiveCoins", desc := "(II)V" } : Jvm.MethodName) prog_2_method_7_code (3 : Nat) (Option.none : Option Jvm.ClassFile.FieldType)) ∈ lw_g := lw_in 416 (by rfl) (by decide +kernel)
theorem wd_417 : (Jvm.Cond.methodLink "PurseHouse" (234 : Nat) ({ cls := "PurseHouse$Link", name := "addToRoads", desc := "(LPurseHouse$Thing;)V" } : Jvm.MethodName)) ∈ lw_g := lw_in 417 (by decide +kernel) (by decide +kernel)
theorem wd_418 : (Jvm.Cond.instanceMethod ({ cls := "PurseHouse$Link", name := "addToRoads", desc := "(LPurseHouse$Thing;)V" } : Jvm.MethodName)) ∈ lw_g := lw_in 418 (by decide +kernel) (by decide +kernel)
theorem wd_419 : (Jvm.Cond.selects "PurseHouse$Link" ({ cls := "PurseHouse$Link", name := "addToRoads", desc := "(LPurseHouse$Thing;)V" } : Jvm.MethodName) ({ cls := "PurseHouse$Link", name := "addToRoads", desc := "(LPurseHouse$Thing;)V" } : Jvm.MethodName)) ∈ lw_g := lw_in 419 (by decide +kernel) (by decide +kernel)
set_option maxRecDepth 100000 in
theorem wd_420 : (Jvm.Cond.code ({ cls := "PurseHouse$Link", name := "addToRoads", desc := "(LPurseHouse$Thing;)V" } : Jvm.MethodName) prog_3_method_8_code (4 : Nat) (Option.none : Option Jvm.ClassFile.FieldType)) ∈ lw_g := lw_in 420 (by rfl) (by decide +kernel)
theorem wn_421 : (Jvm.Cond.methodLinkNest "PurseHouse$Link" (73 : Nat) ({ cls := "PurseHouse", name := "hasBit", desc := "(II)Z" } : Jvm.MethodName) "PurseHouse") ∈ lw_tbl := List.mem_of_getElem? (i := 421) (by decide +kernel)
theorem wd_422 : (Jvm.Cond.methodLink "PurseHouse$Link" (77 : Nat) ({ cls := "PurseHouse$Kiosk", name := "hasMark", desc := "(I)Z" } : Jvm.MethodName)) ∈ lw_g := lw_in 422 (by decide +kernel) (by decide +kernel)
theorem wd_423 : (Jvm.Cond.methodLink "PurseHouseLaw" (69 : Nat) ({ cls := "PurseHouse", name := "snap", desc := "(I)I" } : Jvm.MethodName)) ∈ lw_g := lw_in 423 (by decide +kernel) (by decide +kernel)
theorem wd_424 : (Jvm.Cond.instanceMethod ({ cls := "PurseHouse", name := "snap", desc := "(I)I" } : Jvm.MethodName)) ∈ lw_g := lw_in 424 (by decide +kernel) (by decide +kernel)
theorem wd_425 : (Jvm.Cond.selects "PurseHouse" ({ cls := "PurseHouse", name := "snap", desc := "(I)I" } : Jvm.MethodName) ({ cls := "PurseHouse", name := "snap", desc := "(I)I" } : Jvm.MethodName)) ∈ lw_g := lw_in 425 (by decide +kernel) (by decide +kernel)
set_option maxRecDepth 100000 in
theorem wd_426 : (Jvm.Cond.code ({ cls := "PurseHouse", name := "snap", desc := "(I)I" } : Jvm.MethodName) prog_1_method_9_code (3 : Nat) (Option.some Jvm.ClassFile.FieldType.int)) ∈ lw_g := lw_in 426 (by rfl) (by decide +kernel)
theorem wd_427 : (Jvm.Cond.methodLink "PurseHouseLaw" (74 : Nat) ({ cls := "PurseHouse", name := "stock", desc := "(II)J" } : Jvm.MethodName)) ∈ lw_g := lw_in 427 (by decide +kernel) (by decide +kernel)
theorem wd_428 : (Jvm.Cond.instanceMethod ({ cls := "PurseHouse", name := "stock", desc := "(II)J" } : Jvm.MethodName)) ∈ lw_g := lw_in 428 (by decide +kernel) (by decide +kernel)
theorem wd_429 : (Jvm.Cond.selects "PurseHouse" ({ cls := "PurseHouse", name := "stock", desc := "(II)J" } : Jvm.MethodName) ({ cls := "PurseHouse", name := "stock", desc := "(II)J" } : Jvm.MethodName)) ∈ lw_g := lw_in 429 (by decide +kernel) (by decide +kernel)
set_option maxRecDepth 100000 in
theorem wd_430 : (Jvm.Cond.code ({ cls := "PurseHouse", name := "stock", desc := "(II)J" } : Jvm.MethodName) prog_1_method_10_code (3 : Nat) (Option.some Jvm.ClassFile.FieldType.long)) ∈ lw_g := lw_in 430 (by rfl) (by decide +kernel)
theorem wd_431 : (Jvm.Cond.methodLink "PurseHouseLaw" (78 : Nat) ({ cls := "PurseHouse", name := "till", desc := "(II)J" } : Jvm.MethodName)) ∈ lw_g := lw_in 431 (by decide +kernel) (by decide +kernel)
theorem wd_432 : (Jvm.Cond.instanceMethod ({ cls := "PurseHouse", name := "till", desc := "(II)J" } : Jvm.MethodName)) ∈ lw_g := lw_in 432 (by decide +kernel) (by decide +kernel)
theorem wd_433 : (Jvm.Cond.selects "PurseHouse" ({ cls := "PurseHouse", name := "till", desc := "(II)J" } : Jvm.MethodName) ({ cls := "PurseHouse", name := "till", desc := "(II)J" } : Jvm.MethodName)) ∈ lw_g := lw_in 433 (by decide +kernel) (by decide +kernel)
set_option maxRecDepth 100000 in
theorem wd_434 : (Jvm.Cond.code ({ cls := "PurseHouse", name := "till", desc := "(II)J" } : Jvm.MethodName) prog_1_method_11_code (3 : Nat) (Option.some Jvm.ClassFile.FieldType.long)) ∈ lw_g := lw_in 434 (by rfl) (by decide +kernel)
end
section
theorem wd_435 : (Jvm.Cond.methodLink "PurseHouseLaw" (82 : Nat) ({ cls := "PurseHouse", name := "onLink", desc := "(I)I" } : Jvm.MethodName)) ∈ lw_g := lw_in 435 (by decide +kernel) (by decide +kernel)
theorem wd_436 : (Jvm.Cond.instanceMethod ({ cls := "PurseHouse", name := "onLink", desc := "(I)I" } : Jvm.MethodName)) ∈ lw_g := lw_in 436 (by decide +kernel) (by decide +kernel)
theorem wd_437 : (Jvm.Cond.selects "PurseHouse" ({ cls := "PurseHouse", name := "onLink", desc := "(I)I" } : Jvm.MethodName) ({ cls := "PurseHouse", name := "onLink", desc := "(I)I" } : Jvm.MethodName)) ∈ lw_g := lw_in 437 (by decide +kernel) (by decide +kernel)
set_option maxRecDepth 100000 in
theorem wd_438 : (Jvm.Cond.code ({ cls := "PurseHouse", name := "onLink", desc := "(I)I" } : Jvm.MethodName) prog_1_method_12_code (2 : Nat) (Option.some Jvm.ClassFile.FieldType.int)) ∈ lw_g := lw_in 438 (by rfl) (by decide +kernel)
theorem wd_439 : (Jvm.Cond.methodLink "PurseHouseLaw" (94 : Nat) ({ cls := "PurseHouse", name := "recorded", desc := "(II)Z" } : Jvm.MethodName)) ∈ lw_g := lw_in 439 (by decide +kernel) (by decide +kernel)
theorem wd_440 : (Jvm.Cond.instanceMethod ({ cls := "PurseHouse", name := "recorded", desc := "(II)Z" } : Jvm.MethodName)) ∈ lw_g := lw_in 440 (by decide +kernel) (by decide +kernel)
theorem wd_441 : (Jvm.Cond.selects "PurseHouse" ({ cls := "PurseHouse", name := "recorded", desc := "(II)Z" } : Jvm.MethodName) ({ cls := "PurseHouse", name := "recorded", desc := "(II)Z" } : Jvm.MethodName)) ∈ lw_g := lw_in 441 (by decide +kernel) (by decide +kernel)
set_option maxRecDepth 100000 in
theorem wd_442 : (Jvm.Cond.code ({ cls := "PurseHouse", name := "recorded", desc := "(II)Z" } : Jvm.MethodName) prog_1_method_14_code (3 : Nat) (Option.some Jvm.ClassFile.FieldType.boolean)) ∈ lw_g := lw_in 442 (by rfl) (by decide +kernel)
theorem wd_443 : (Jvm.Cond.methodLink "PurseHouse" (164 : Nat) ({ cls := "PurseHouse", name := "hasNumber", desc := "(I)Z" } : Jvm.MethodName)) ∈ lw_g := lw_in 443 (by decide +kernel) (by decide +kernel)
theorem wn_444 : (Jvm.Cond.privateMethod ({ cls := "PurseHouse", name := "hasNumber", desc := "(I)Z" } : Jvm.MethodName)) ∈ lw_tbl := List.mem_of_getElem? (i := 444) (by decide +kernel)
theorem wd_445 : (Jvm.Cond.instanceMethod ({ cls := "PurseHouse", name := "hasNumber", desc := "(I)Z" } : Jvm.MethodName)) ∈ lw_g := lw_in 445 (by decide +kernel) (by decide +kernel)
set_option maxRecDepth 100000 in
theorem wd_446 : (Jvm.Cond.code ({ cls := "PurseHouse", name := "hasNumber", desc := "(I)Z" } : Jvm.MethodName) prog_1_method_30_code (2 : Nat) (Option.some Jvm.ClassFile.FieldType.boolean)) ∈ lw_g := lw_in 446 (by rfl) (by decide +kernel)
theorem wd_447 : (Jvm.Cond.methodLink "PurseHouseLaw" (98 : Nat) ({ cls := "PurseHouse", name := "finished", desc := "(I)Z" } : Jvm.MethodName)) ∈ lw_g := lw_in 447 (by decide +kernel) (by decide +kernel)
theorem wd_448 : (Jvm.Cond.instanceMethod ({ cls := "PurseHouse", name := "finished", desc := "(I)Z" } : Jvm.MethodName)) ∈ lw_g := lw_in 448 (by decide +kernel) (by decide +kernel)
theorem wd_449 : (Jvm.Cond.selects "PurseHouse" ({ cls := "PurseHouse", name := "finished", desc := "(I)Z" } : Jvm.MethodName) ({ cls := "PurseHouse", name := "finished", desc := "(I)Z" } : Jvm.MethodName)) ∈ lw_g := lw_in 449 (by decide +kernel) (by decide +kernel)
set_option maxRecDepth 100000 in
theorem wd_450 : (Jvm.Cond.code ({ cls := "PurseHouse", name := "finished", desc := "(I)Z" } : Jvm.MethodName) prog_1_method_15_code (2 : Nat) (Option.some Jvm.ClassFile.FieldType.boolean)) ∈ lw_g := lw_in 450 (by rfl) (by decide +kernel)
theorem wd_451 : (Jvm.Cond.methodLink "PurseHouse" (170 : Nat) ({ cls := "PurseHouse", name := "allKiosksRecorded", desc := "(I)Z" } : Jvm.MethodName)) ∈ lw_g := lw_in 451 (by decide +kernel) (by decide +kernel)
theorem wn_452 : (Jvm.Cond.privateMethod ({ cls := "PurseHouse", name := "allKiosksRecorded", desc := "(I)Z" } : Jvm.MethodName)) ∈ lw_tbl := List.mem_of_getElem? (i := 452) (by decide +kernel)
theorem wd_453 : (Jvm.Cond.instanceMethod ({ cls := "PurseHouse", name := "allKiosksRecorded", desc := "(I)Z" } : Jvm.MethodName)) ∈ lw_g := lw_in 453 (by decide +kernel) (by decide +kernel)
set_option maxRecDepth 100000 in
theorem wd_454 : (Jvm.Cond.code ({ cls := "PurseHouse", name := "allKiosksRecorded", desc := "(I)Z" } : Jvm.MethodName) prog_1_method_32_code (3 : Nat) (Option.some Jvm.ClassFile.FieldType.boolean)) ∈ lw_g := lw_in 454 (by rfl) (by decide +kernel)
theorem wd_455 : (Jvm.Cond.methodLink "PurseHouse" (173 : Nat) ({ cls := "PurseHouse", name := "allLinksDone", desc := "(I)Z" } : Jvm.MethodName)) ∈ lw_g := lw_in 455 (by decide +kernel) (by decide +kernel)
theorem wn_456 : (Jvm.Cond.privateMethod ({ cls := "PurseHouse", name := "allLinksDone", desc := "(I)Z" } : Jvm.MethodName)) ∈ lw_tbl := List.mem_of_getElem? (i := 456) (by decide +kernel)
theorem wd_457 : (Jvm.Cond.instanceMethod ({ cls := "PurseHouse", name := "allLinksDone", desc := "(I)Z" } : Jvm.MethodName)) ∈ lw_g := lw_in 457 (by decide +kernel) (by decide +kernel)
set_option maxRecDepth 100000 in
theorem wd_458 : (Jvm.Cond.code ({ cls := "PurseHouse", name := "allLinksDone", desc := "(I)Z" } : Jvm.MethodName) prog_1_method_33_code (3 : Nat) (Option.some Jvm.ClassFile.FieldType.boolean)) ∈ lw_g := lw_in 458 (by rfl) (by decide +kernel)
theorem wd_459 : (Jvm.Cond.methodLink "PurseHouse" (212 : Nat) ({ cls := "PurseHouse$Link", name := "isDone", desc := "(I)Z" } : Jvm.MethodName)) ∈ lw_g := lw_in 459 (by decide +kernel) (by decide +kernel)
theorem wd_460 : (Jvm.Cond.instanceMethod ({ cls := "PurseHouse$Link", name := "isDone", desc := "(I)Z" } : Jvm.MethodName)) ∈ lw_g := lw_in 460 (by decide +kernel) (by decide +kernel)
theorem wd_461 : (Jvm.Cond.selects "PurseHouse$Link" ({ cls := "PurseHouse$Link", name := "isDone", desc := "(I)Z" } : Jvm.MethodName) ({ cls := "PurseHouse$Link", name := "isDone", desc := "(I)Z" } : Jvm.MethodName)) ∈ lw_g := lw_in 461 (by decide +kernel) (by decide +kernel)
set_option maxRecDepth 100000 in
theorem wd_462 : (Jvm.Cond.code ({ cls := "PurseHouse$Link", name := "isDone", desc := "(I)Z" } : Jvm.MethodName) prog_3_method_6_code (2 : Nat) (Option.some Jvm.ClassFile.FieldType.boolean)) ∈ lw_g := lw_in 462 (by rfl) (by decide +kernel)
theorem wd_463 : (Jvm.Cond.methodLink "PurseHouse$Link" (81 : Nat) ({ cls := "PurseHouse$Link", name := "hasBagFromBefore", desc := "(I)Z" } : Jvm.MethodName)) ∈ lw_g := lw_in 463 (by decide +kernel) (by decide +kernel)
theorem wd_464 : (Jvm.Cond.instanceMethod ({ cls := "PurseHouse$Link", name := "hasBagFromBefore", desc := "(I)Z" } : Jvm.MethodName)) ∈ lw_g := lw_in 464 (by decide +kernel) (by decide +kernel)
theorem wd_465 : (Jvm.Cond.selects "PurseHouse$Link" ({ cls := "PurseHouse$Link", name := "hasBagFromBefore", desc := "(I)Z" } : Jvm.MethodName) ({ cls := "PurseHouse$Link", name := "hasBagFromBefore", desc := "(I)Z" } : Jvm.MethodName)) ∈ lw_g := lw_in 465 (by decide +kernel) (by decide +kernel)
set_option maxRecDepth 100000 in
theorem wd_466 : (Jvm.Cond.code ({ cls := "PurseHouse$Link", name := "hasBagFromBefore", desc := "(I)Z" } : Jvm.MethodName) prog_3_method_7_code (4 : Nat) (Option.some Jvm.ClassFile.FieldType.boolean)) ∈ lw_g := lw_in 466 (by rfl) (by decide +kernel)
theorem wd_467 : (Jvm.Cond.methodLink "PurseHouseLaw" (107 : Nat) ({ cls := "PurseHouse", name := "road", desc := "(III)J" } : Jvm.MethodName)) ∈ lw_g := lw_in 467 (by decide +kernel) (by decide +kernel)
theorem wd_468 : (Jvm.Cond.instanceMethod ({ cls := "PurseHouse", name := "road", desc := "(III)J" } : Jvm.MethodName)) ∈ lw_g := lw_in 468 (by decide +kernel) (by decide +kernel)
theorem wd_469 : (Jvm.Cond.selects "PurseHouse" ({ cls := "PurseHouse", name := "road", desc := "(III)J" } : Jvm.MethodName) ({ cls := "PurseHouse", name := "road", desc := "(III)J" } : Jvm.MethodName)) ∈ lw_g := lw_in 469 (by decide +kernel) (by decide +kernel)
set_option maxRecDepth 100000 in
theorem wd_470 : (Jvm.Cond.code ({ cls := "PurseHouse", name := "road", desc := "(III)J" } : Jvm.MethodName) prog_1_method_17_code (4 : Nat) (Option.some Jvm.ClassFile.FieldType.long)) ∈ lw_g := lw_in 470 (by rfl) (by decide +kernel)
theorem wd_471 : (Jvm.Cond.methodLink "PurseHouseLaw" (116 : Nat) ({ cls := "PurseHouse", name := "minted", desc := "(II)J" } : Jvm.MethodName)) ∈ lw_g := lw_in 471 (by decide +kernel) (by decide +kernel)
theorem wd_472 : (Jvm.Cond.instanceMethod ({ cls := "PurseHouse", name := "minted", desc := "(II)J" } : Jvm.MethodName)) ∈ lw_g := lw_in 472 (by decide +kernel) (by decide +kernel)
theorem wd_473 : (Jvm.Cond.selects "PurseHouse" ({ cls := "PurseHouse", name := "minted", desc := "(II)J" } : Jvm.MethodName) ({ cls := "PurseHouse", name := "minted", desc := "(II)J" } : Jvm.MethodName)) ∈ lw_g := lw_in 473 (by decide +kernel) (by decide +kernel)
set_option maxRecDepth 100000 in
theorem wd_474 : (Jvm.Cond.code ({ cls := "PurseHouse", name := "minted", desc := "(II)J" } : Jvm.MethodName) prog_1_method_19_code (6 : Nat) (Option.some Jvm.ClassFile.FieldType.long)) ∈ lw_g := lw_in 474 (by rfl) (by decide +kernel)
theorem wd_475 : (Jvm.Cond.methodLink "PurseHouseLaw" (120 : Nat) ({ cls := "PurseHouse", name := "trueTotal", desc := "(I)J" } : Jvm.MethodName)) ∈ lw_g := lw_in 475 (by decide +kernel) (by decide +kernel)
theorem wd_476 : (Jvm.Cond.instanceMethod ({ cls := "PurseHouse", name := "trueTotal", desc := "(I)J" } : Jvm.MethodName)) ∈ lw_g := lw_in 476 (by decide +kernel) (by decide +kernel)
theorem wd_477 : (Jvm.Cond.selects "PurseHouse" ({ cls := "PurseHouse", name := "trueTotal", desc := "(I)J" } : Jvm.MethodName) ({ cls := "PurseHouse", name := "trueTotal", desc := "(I)J" } : Jvm.MethodName)) ∈ lw_g := lw_in 477 (by decide +kernel) (by decide +kernel)
set_option maxRecDepth 100000 in
theorem wd_478 : (Jvm.Cond.code ({ cls := "PurseHouse", name := "trueTotal", desc := "(I)J" } : Jvm.MethodName) prog_1_method_20_code (5 : Nat) (Option.some Jvm.ClassFile.FieldType.long)) ∈ lw_g := lw_in 478 (by rfl) (by decide +kernel)
theorem wd_479 : (Jvm.Cond.methodLink "PurseHouse" (198 : Nat) ({ cls := "PurseHouse$Link", name := "sumOfBags", desc := "(I)J" } : Jvm.MethodName)) ∈ lw_g := lw_in 479 (by decide +kernel) (by decide +kernel)
theorem wd_480 : (Jvm.Cond.instanceMethod ({ cls := "PurseHouse$Link", name := "sumOfBags", desc := "(I)J" } : Jvm.MethodName)) ∈ lw_g := lw_in 480 (by decide +kernel) (by decide +kernel)
theorem wd_481 : (Jvm.Cond.selects "PurseHouse$Link" ({ cls := "PurseHouse$Link", name := "sumOfBags", desc := "(I)J" } : Jvm.MethodName) ({ cls := "PurseHouse$Link", name := "sumOfBags", desc := "(I)J" } : Jvm.MethodName)) ∈ lw_g := lw_in 481 (by decide +kernel) (by decide +kernel)
set_option maxRecDepth 100000 in
theorem wd_482 : (Jvm.Cond.code ({ cls := "PurseHouse$Link", name := "sumOfBags", desc := "(I)J" } : Jvm.MethodName) prog_3_method_3_code (6 : Nat) (Option.some Jvm.ClassFile.FieldType.long)) ∈ lw_g := lw_in 482 (by rfl) (by decide +kernel)
theorem wd_483 : (Jvm.Cond.methodLink "PurseHouseLaw" (127 : Nat) ({ cls := "PurseHouse", name := "below", desc := "(IIJ)I" } : Jvm.MethodName)) ∈ lw_g := lw_in 483 (by decide +kernel) (by decide +kernel)
theorem wd_484 : (Jvm.Cond.instanceMethod ({ cls := "PurseHouse", name := "below", desc := "(IIJ)I" } : Jvm.MethodName)) ∈ lw_g := lw_in 484 (by decide +kernel) (by decide +kernel)
theorem wd_485 : (Jvm.Cond.selects "PurseHouse" ({ cls := "PurseHouse", name := "below", desc := "(IIJ)I" } : Jvm.MethodName) ({ cls := "PurseHouse", name := "below", desc := "(IIJ)I" } : Jvm.MethodName)) ∈ lw_g := lw_in 485 (by decide +kernel) (by decide +kernel)
set_option maxRecDepth 100000 in
theorem wd_486 : (Jvm.Cond.code ({ cls := "PurseHouse", name := "below", desc := "(IIJ)I" } : Jvm.MethodName) prog_1_method_21_code (6 : Nat) (Option.some Jvm.ClassFile.FieldType.int)) ∈ lw_g := lw_in 486 (by rfl) (by decide +kernel)
theorem wd_487 : (Jvm.Cond.methodLink "PurseHouseLaw" (132 : Nat) ({ cls := "PurseHouse", name := "events", desc := "(II)I" } : Jvm.MethodName)) ∈ lw_g := lw_in 487 (by decide +kernel) (by decide +kernel)
theorem wd_488 : (Jvm.Cond.instanceMethod ({ cls := "PurseHouse", name := "events", desc := "(II)I" } : Jvm.MethodName)) ∈ lw_g := lw_in 488 (by decide +kernel) (by decide +kernel)
theorem wd_489 : (Jvm.Cond.selects "PurseHouse" ({ cls := "PurseHouse", name := "events", desc := "(II)I" } : Jvm.MethodName) ({ cls := "PurseHouse", name := "events", desc := "(II)I" } : Jvm.MethodName)) ∈ lw_g := lw_in 489 (by decide +kernel) (by decide +kernel)
set_option maxRecDepth 100000 in
theorem wd_490 : (Jvm.Cond.code ({ cls := "PurseHouse", name := "events", desc := "(II)I" } : Jvm.MethodName) prog_1_method_22_code (3 : Nat) (Option.some Jvm.ClassFile.FieldType.int)) ∈ lw_g := lw_in 490 (by rfl) (by decide +kernel)
theorem wd_491 : (Jvm.Cond.methodLink "PurseHouseLaw" (25 : Nat) ({ cls := "PurseHouseLaw", name := "cell", desc := "([II)I" } : Jvm.MethodName)) ∈ lw_g := lw_in 491 (by decide +kernel) (by decide +kernel)
theorem wd_492 : (Jvm.Cond.static ({ cls := "PurseHouseLaw", name := "cell", desc := "([II)I" } : Jvm.MethodName)) ∈ lw_g := lw_in 492 (by decide +kernel) (by decide +kernel)
set_option maxRecDepth 100000 in
theorem wd_493 : (Jvm.Cond.code ({ cls := "PurseHouseLaw", name := "cell", desc := "([II)I" } : Jvm.MethodName) method_2_code (2 : Nat) (Option.some Jvm.ClassFile.FieldType.int)) ∈ lw_g := lw_in 493 (by rfl) (by decide +kernel)
theorem wd_494 : (Jvm.Cond.methodLink "PurseHouseLaw" (86 : Nat) ({ cls := "PurseHouseLaw", name := "thing", desc := "(LPurseHouse;III[J)I" } : Jvm.MethodName)) ∈ lw_g := lw_in 494 (by decide +kernel) (by decide +kernel)
theorem wd_495 : (Jvm.Cond.static ({ cls := "PurseHouseLaw", name := "thing", desc := "(LPurseHouse;III[J)I" } : Jvm.MethodName)) ∈ lw_g := lw_in 495 (by decide +kernel) (by decide +kernel)
set_option maxRecDepth 100000 in
theorem wd_496 : (Jvm.Cond.codeWith ({ cls := "PurseHouseLaw", name := "thing", desc := "(LPurseHouse;III[J)I" } : Jvm.MethodName) method_3_code (6 : Nat) (Option.some Jvm.ClassFile.FieldType.int) [((0 : Nat), (12 : Nat), (15 : Nat), (13 : Nat)), ((0 : Nat), (12 : Nat), (19 : Nat), (15 : Nat))]) ∈ lw_g := lw_in 496 (by rfl) (by decide +kernel)
theorem wd_497 : (Jvm.Cond.classLink "PurseHouseLaw" (13 : Nat) "java/util/NoSuchElementException") ∈ lw_g := lw_in 497 (by decide +kernel) (by decide +kernel)
theorem wd_498 : (Jvm.Cond.classLink "PurseHouseLaw" (15 : Nat) "java/lang/IllegalArgumentException") ∈ lw_g := lw_in 498 (by decide +kernel) (by decide +kernel)
theorem wd_499 : (Jvm.Cond.methodLink "PurseHouseLaw" (7 : Nat) ({ cls := "PurseHouse", name := "thing", desc := "(III)I" } : Jvm.MethodName)) ∈ lw_g := lw_in 499 (by decide +kernel) (by decide +kernel)
theorem wd_500 : (Jvm.Cond.instanceMethod ({ cls := "PurseHouse", name := "thing", desc := "(III)I" } : Jvm.MethodName)) ∈ lw_g := lw_in 500 (by decide +kernel) (by decide +kernel)
theorem wd_501 : (Jvm.Cond.selects "PurseHouse" ({ cls := "PurseHouse", name := "thing", desc := "(III)I" } : Jvm.MethodName) ({ cls := "PurseHouse", name := "thing", desc := "(III)I" } : Jvm.MethodName)) ∈ lw_g := lw_in 501 (by decide +kernel) (by decide +kernel)
set_option maxRecDepth 100000 in
theorem wd_502 : (Jvm.Cond.code ({ cls := "PurseHouse", name := "thing", desc := "(III)I" } : Jvm.MethodName) prog_1_method_13_code (5 : Nat) (Option.some Jvm.ClassFile.FieldType.int)) ∈ lw_g := lw_in 502 (by rfl) (by decide +kernel)
theorem wd_503 : (Jvm.Cond.classLink "PurseHouse" (146 : Nat) "java/util/NoSuchElementException") ∈ lw_g := lw_in 503 (by decide +kernel) (by decide +kernel)
theorem wd_504 : (Jvm.Cond.instantiable "java/util/NoSuchElementException" (6 : Nat)) ∈ lw_g := lw_in 504 (by decide +kernel) (by decide +kernel)
theorem wn_505 : (Jvm.Cond.castable "java/util/NoSuchElementException" "java/util/NoSuchElementException") ∈ lw_tbl := List.mem_of_getElem? (i := 505) (by decide +kernel)
theorem wn_506 : (Jvm.Cond.declares ({ cls := "java/lang/RuntimeException", name := "<init>", desc := "()V" } : Jvm.MethodName)) ∈ lw_tbl := List.mem_of_getElem? (i := 506) (by decide +kernel)
theorem wn_507 : (Jvm.Cond.declares ({ cls := "java/lang/RuntimeException", name := "<init>", desc := "(Ljava/lang/String;)V" } : Jvm.MethodName)) ∈ lw_tbl := List.mem_of_getElem? (i := 507) (by decide +kernel)
theorem wn_508 : (Jvm.Cond.declares ({ cls := "java/lang/Exception", name := "<init>", desc := "()V" } : Jvm.MethodName)) ∈ lw_tbl := List.mem_of_getElem? (i := 508) (by decide +kernel)
theorem wn_509 : (Jvm.Cond.declares ({ cls := "java/lang/Exception", name := "<init>", desc := "(Ljava/lang/String;)V" } : Jvm.MethodName)) ∈ lw_tbl := List.mem_of_getElem? (i := 509) (by decide +kernel)
theorem wn_510 : (Jvm.Cond.declares ({ cls := "java/lang/Throwable", name := "<init>", desc := "()V" } : Jvm.MethodName)) ∈ lw_tbl := List.mem_of_getElem? (i := 510) (by decide +kernel)
theorem wn_511 : (Jvm.Cond.declares ({ cls := "java/lang/Throwable", name := "<init>", desc := "(Ljava/lang/String;)V" } : Jvm.MethodName)) ∈ lw_tbl := List.mem_of_getElem? (i := 511) (by decide +kernel)
theorem wd_512 : (Jvm.Cond.selects "java/util/NoSuchElementException" ({ cls := "java/lang/Throwable", name := "fillInStackTrace", desc := "(I)Ljava/lang/Throwable;" } : Jvm.MethodName) ({ cls := "java/lang/Throwable", name := "fillInStackTrace", desc := "(I)Ljava/lang/Throwable;" } : Jvm.MethodName)) ∈ lw_g := lw_in 512 (by decide +kernel) (by decide +kernel)
theorem wd_513 : (Jvm.Cond.selects "java/util/NoSuchElementException" ({ cls := "java/lang/Throwable", name := "fillInStackTrace", desc := "()Ljava/lang/Throwable;" } : Jvm.MethodName) ({ cls := "java/lang/Throwable", name := "fillInStackTrace", desc := "()Ljava/lang/Throwable;" } : Jvm.MethodName)) ∈ lw_g := lw_in 513 (by decide +kernel) (by decide +kernel)
theorem wd_514 : (Jvm.Cond.lays "java/util/NoSuchElementException" "java/lang/Throwable" "cause" "Ljava/lang/Throwable;") ∈ lw_g := lw_in 514 (by decide +kernel) (by decide +kernel)
theorem wd_515 : (Jvm.Cond.lays "java/lang/Throwable" "java/lang/Throwable" "cause" "Ljava/lang/Throwable;") ∈ lw_g := lw_in 515 (by decide +kernel) (by decide +kernel)
theorem wd_516 : (Jvm.Cond.lays "java/util/NoSuchElementException" "java/lang/Throwable" "stackTrace" "[Ljava/lang/StackTraceElement;") ∈ lw_g := lw_in 516 (by decide +kernel) (by decide +kernel)
theorem wd_517 : (Jvm.Cond.lays "java/lang/Throwable" "java/lang/Throwable" "stackTrace" "[Ljava/lang/StackTraceElement;") ∈ lw_g := lw_in 517 (by decide +kernel) (by decide +kernel)
theorem wd_518 : (Jvm.Cond.lays "java/util/NoSuchElementException" "java/lang/Throwable" "suppressedExceptions" "Ljava/util/List;") ∈ lw_g := lw_in 518 (by decide +kernel) (by decide +kernel)
theorem wd_519 : (Jvm.Cond.lays "java/lang/Throwable" "java/lang/Throwable" "suppressedExceptions" "Ljava/util/List;") ∈ lw_g := lw_in 519 (by decide +kernel) (by decide +kernel)
theorem wd_520 : (Jvm.Cond.lays "java/util/NoSuchElementException" "java/lang/Throwable" "detailMessage" "Ljava/lang/String;") ∈ lw_g := lw_in 520 (by decide +kernel) (by decide +kernel)
theorem wd_521 : (Jvm.Cond.lays "java/lang/Throwable" "java/lang/Throwable" "detailMessage" "Ljava/lang/String;") ∈ lw_g := lw_in 521 (by decide +kernel) (by decide +kernel)
theorem wd_522 : (Jvm.Cond.lays "java/util/NoSuchElementException" "java/lang/Throwable" "backtrace" "Ljava/lang/Object;") ∈ lw_g := lw_in 522 (by decide +kernel) (by decide +kernel)
theorem wd_523 : (Jvm.Cond.lays "java/lang/Throwable" "java/lang/Throwable" "backtrace" "Ljava/lang/Object;") ∈ lw_g := lw_in 523 (by decide +kernel) (by decide +kernel)
theorem wd_524 : (Jvm.Cond.fieldLink "java/lang/Throwable" (198 : Nat) "java/lang/Throwable" "backtrace" "Ljava/lang/Object;") ∈ lw_g := lw_in 524 (by decide +kernel) (by decide +kernel)
theorem wd_525 : (Jvm.Cond.superclass "java/lang/Throwable" "java/lang/Object") ∈ lw_g := lw_in 525 (by decide +kernel) (by decide +kernel)
theorem wd_526 : (Jvm.Cond.instanceMethod ({ cls := "java/lang/Throwable", name := "<init>", desc := "()V" } : Jvm.MethodName)) ∈ lw_g := lw_in 526 (by decide +kernel) (by decide +kernel)
set_option maxRecDepth 100000 in
theorem wd_527 : (Jvm.Cond.code ({ cls := "java/lang/Throwable", name := "<init>", desc := "()V" } : Jvm.MethodName) prog_16_method_1_code (1 : Nat) (Option.none : Option Jvm.ClassFile.FieldType)) ∈ lw_g := lw_in 527 (by rfl) (by decide +kernel)
theorem wd_528 : (Jvm.Cond.methodLink "java/lang/Throwable" (1 : Nat) ({ cls := "java/lang/Object", name := "<init>", desc := "()V" } : Jvm.MethodName)) ∈ lw_g := lw_in 528 (by decide +kernel) (by decide +kernel)
theorem wd_529 : (Jvm.Cond.fieldLink "java/lang/Throwable" (13 : Nat) "java/lang/Throwable" "UNASSIGNED_STACK" "[Ljava/lang/StackTraceElement;") ∈ lw_g := lw_in 529 (by decide +kernel) (by decide +kernel)
theorem wn_530 : (Jvm.Cond.laysStatic "java/lang/Throwable" "UNASSIGNED_STACK" "[Ljava/lang/StackTraceElement;") ∈ lw_tbl := List.mem_of_getElem? (i := 530) (by decide +kernel)
theorem wd_531 : (Jvm.Cond.fieldLink "java/lang/Throwable" (20 : Nat) "java/lang/Throwable" "SUPPRESSED_SENTINEL" "Ljava/util/List;") ∈ lw_g := lw_in 531 (by decide +kernel) (by decide +kernel)
theorem wn_532 : (Jvm.Cond.laysStatic "java/lang/Throwable" "SUPPRESSED_SENTINEL" "Ljava/util/List;") ∈ lw_tbl := List.mem_of_getElem? (i := 532) (by decide +kernel)
theorem wd_533 : (Jvm.Cond.methodLink "java/lang/Throwable" (27 : Nat) ({ cls := "java/lang/Throwable", name := "fillInStackTrace", desc := "()Ljava/lang/Throwable;" } : Jvm.MethodName)) ∈ lw_g := lw_in 533 (by decide +kernel) (by decide +kernel)
theorem wd_534 : (Jvm.Cond.instanceMethod ({ cls := "java/lang/Throwable", name := "fillInStackTrace", desc := "()Ljava/lang/Throwable;" } : Jvm.MethodName)) ∈ lw_g := lw_in 534 (by decide +kernel) (by decide +kernel)
theorem wd_535 : (Jvm.Cond.sameMethod "java/lang/Throwable" "java/lang/Throwable" "fillInStackTrace" "()Ljava/lang/Throwable;") ∈ lw_g := lw_in 535 (by decide +kernel) (by decide +kernel)
theorem wd_536 : (Jvm.Cond.selects "java/lang/IllegalArgumentException" ({ cls := "java/lang/Throwable", name := "fillInStackTrace", desc := "()Ljava/lang/Throwable;" } : Jvm.MethodName) ({ cls := "java/lang/Throwable", name := "fillInStackTrace", desc := "()Ljava/lang/Throwable;" } : Jvm.MethodName)) ∈ lw_g := lw_in 536 (by decide +kernel) (by decide +kernel)
set_option maxRecDepth 100000 in
theorem wd_537 : (Jvm.Cond.codeSync ({ cls := "java/lang/Throwable", name := "fillInStackTrace", desc := "()Ljava/lang/Throwable;" } : Jvm.MethodName) prog_16_method_18_code (1 : Nat) (Option.some (Jvm.ClassFile.FieldType.object "java/lang/Throwable"))) ∈ lw_g := lw_in 537 (by rfl) (by decide +kernel)
theorem wd_538 : (Jvm.Cond.methodLink "java/lang/Throwable" (202 : Nat) ({ cls := "java/lang/Throwable", name := "fillInStackTrace", desc := "(I)Ljava/lang/Throwable;" } : Jvm.MethodName)) ∈ lw_g := lw_in 538 (by decide +kernel) (by decide +kernel)
theorem wn_539 : (Jvm.Cond.privateMethod ({ cls := "java/lang/Throwable", name := "fillInStackTrace", desc := "(I)Ljava/lang/Throwable;" } : Jvm.MethodName)) ∈ lw_tbl := List.mem_of_getElem? (i := 539) (by decide +kernel)
theorem wd_540 : (Jvm.Cond.instanceMethod ({ cls := "java/lang/Throwable", name := "fillInStackTrace", desc := "(I)Ljava/lang/Throwable;" } : Jvm.MethodName)) ∈ lw_g := lw_in 540 (by decide +kernel) (by decide +kernel)
theorem wd_541 : (Jvm.Cond.instantiable "java/lang/Throwable" (6 : Nat)) ∈ lw_g := lw_in 541 (by decide +kernel) (by decide +kernel)
theorem wd_542 : (Jvm.Cond.native ({ cls := "java/lang/Throwable", name := "fillInStackTrace", desc := "(I)Ljava/lang/Throwable;" } : Jvm.MethodName)) ∈ lw_g := lw_in 542 (by decide +kernel) (by decide +kernel)
theorem wn_543 : (Jvm.Cond.stringRef "PurseHouse" (148 : Nat) "nothing is at this place of such a link") ∈ lw_tbl := List.mem_of_getElem? (i := 543) (by decide +kernel)
theorem wd_544 : (Jvm.Cond.methodLink "PurseHouse" (150 : Nat) ({ cls := "java/util/NoSuchElementException", name := "<init>", desc := "(Ljava/lang/String;)V" } : Jvm.MethodName)) ∈ lw_g := lw_in 544 (by decide +kernel) (by decide +kernel)
theorem wd_545 : (Jvm.Cond.instanceMethod ({ cls := "java/util/NoSuchElementException", name := "<init>", desc := "(Ljava/lang/String;)V" } : Jvm.MethodName)) ∈ lw_g := lw_in 545 (by decide +kernel) (by decide +kernel)
set_option maxRecDepth 100000 in
theorem wd_546 : (Jvm.Cond.code ({ cls := "java/util/NoSuchElementException", name := "<init>", desc := "(Ljava/lang/String;)V" } : Jvm.MethodName) prog_23_method_4_code (2 : Nat) (Option.none : Option Jvm.ClassFile.FieldType)) ∈ lw_g := lw_in 546 (by rfl) (by decide +kernel)
theorem wd_547 : (Jvm.Cond.methodLink "java/util/NoSuchElementException" (13 : Nat) ({ cls := "java/lang/RuntimeException", name := "<init>", desc := "(Ljava/lang/String;)V" } : Jvm.MethodName)) ∈ lw_g := lw_in 547 (by decide +kernel) (by decide +kernel)
theorem wd_548 : (Jvm.Cond.instanceMethod ({ cls := "java/lang/RuntimeException", name := "<init>", desc := "(Ljava/lang/String;)V" } : Jvm.MethodName)) ∈ lw_g := lw_in 548 (by decide +kernel) (by decide +kernel)
set_option maxRecDepth 100000 in
theorem wd_549 : (Jvm.Cond.code ({ cls := "java/lang/RuntimeException", name := "<init>", desc := "(Ljava/lang/String;)V" } : Jvm.MethodName) prog_13_method_2_code (2 : Nat) (Option.none : Option Jvm.ClassFile.FieldType)) ∈ lw_g := lw_in 549 (by rfl) (by decide +kernel)
theorem wd_550 : (Jvm.Cond.methodLink "java/lang/RuntimeException" (7 : Nat) ({ cls := "java/lang/Exception", name := "<init>", desc := "(Ljava/lang/String;)V" } : Jvm.MethodName)) ∈ lw_g := lw_in 550 (by decide +kernel) (by decide +kernel)
theorem wd_551 : (Jvm.Cond.instanceMethod ({ cls := "java/lang/Exception", name := "<init>", desc := "(Ljava/lang/String;)V" } : Jvm.MethodName)) ∈ lw_g := lw_in 551 (by decide +kernel) (by decide +kernel)
set_option maxRecDepth 100000 in
theorem wd_552 : (Jvm.Cond.code ({ cls := "java/lang/Exception", name := "<init>", desc := "(Ljava/lang/String;)V" } : Jvm.MethodName) prog_9_method_2_code (2 : Nat) (Option.none : Option Jvm.ClassFile.FieldType)) ∈ lw_g := lw_in 552 (by rfl) (by decide +kernel)
theorem wd_553 : (Jvm.Cond.methodLink "java/lang/Exception" (7 : Nat) ({ cls := "java/lang/Throwable", name := "<init>", desc := "(Ljava/lang/String;)V" } : Jvm.MethodName)) ∈ lw_g := lw_in 553 (by decide +kernel) (by decide +kernel)
theorem wd_554 : (Jvm.Cond.instanceMethod ({ cls := "java/lang/Throwable", name := "<init>", desc := "(Ljava/lang/String;)V" } : Jvm.MethodName)) ∈ lw_g := lw_in 554 (by decide +kernel) (by decide +kernel)
set_option maxRecDepth 100000 in
theorem wd_555 : (Jvm.Cond.code ({ cls := "java/lang/Throwable", name := "<init>", desc := "(Ljava/lang/String;)V" } : Jvm.MethodName) prog_16_method_2_code (2 : Nat) (Option.none : Option Jvm.ClassFile.FieldType)) ∈ lw_g := lw_in 555 (by rfl) (by decide +kernel)
theorem wd_557 : (Jvm.Cond.fieldLink "java/lang/Throwable" (31 : Nat) "java/lang/Throwable" "detailMessage" "Ljava/lang/String;") ∈ lw_g := lw_in 557 (by decide +kernel) (by decide +kernel)
theorem wd_558 : (Jvm.Cond.fieldLink "java/lang/Throwable" (7 : Nat) "java/lang/Throwable" "cause" "Ljava/lang/Throwable;") ∈ lw_g := lw_in 558 (by decide +kernel) (by decide +kernel)
theorem wd_559 : (Jvm.Cond.fieldLink "java/lang/Throwable" (17 : Nat) "java/lang/Throwable" "stackTrace" "[Ljava/lang/StackTraceElement;") ∈ lw_g := lw_in 559 (by decide +kernel) (by decide +kernel)
theorem wd_560 : (Jvm.Cond.fieldLink "java/lang/Throwable" (24 : Nat) "java/lang/Throwable" "suppressedExceptions" "Ljava/util/List;") ∈ lw_g := lw_in 560 (by decide +kernel) (by decide +kernel)
theorem wd_561 : (Jvm.Cond.soleField "java/lang/Throwable" "backtrace") ∈ lw_g := lw_in 561 (by decide +kernel) (by decide +kernel)
theorem wd_562 : (Jvm.Cond.soleField "java/lang/Throwable" "detailMessage") ∈ lw_g := lw_in 562 (by decide +kernel) (by decide +kernel)
theorem wd_563 : (Jvm.Cond.soleField "java/lang/Throwable" "cause") ∈ lw_g := lw_in 563 (by decide +kernel) (by decide +kernel)
theorem wd_564 : (Jvm.Cond.soleField "java/lang/Throwable" "stackTrace") ∈ lw_g := lw_in 564 (by decide +kernel) (by decide +kernel)
theorem wd_565 : (Jvm.Cond.lays "java/util/NoSuchElementException" "java/lang/Throwable" "depth" "I") ∈ lw_g := lw_in 565 (by decide +kernel) (by decide +kernel)
theorem wd_566 : (Jvm.Cond.soleField "java/lang/Throwable" "depth") ∈ lw_g := lw_in 566 (by decide +kernel) (by decide +kernel)
theorem wd_567 : (Jvm.Cond.soleField "java/lang/Throwable" "suppressedExceptions") ∈ lw_g := lw_in 567 (by decide +kernel) (by decide +kernel)
theorem wd_568 : (Jvm.Cond.superclass "java/util/NoSuchElementException" "java/lang/RuntimeException") ∈ lw_g := lw_in 568 (by decide +kernel) (by decide +kernel)
theorem wd_569 : (Jvm.Cond.arrayClass Jvm.ClassFile.FieldType.byte) ∈ lw_g := lw_in 569 (by decide +kernel) (by decide +kernel)
theorem wd_570 : (Jvm.Cond.classLink "PurseHouse" (159 : Nat) "java/lang/IllegalArgumentException") ∈ lw_g := lw_in 570 (by decide +kernel) (by decide +kernel)
theorem wd_571 : (Jvm.Cond.instantiable "java/lang/IllegalArgumentException" (6 : Nat)) ∈ lw_g := lw_in 571 (by decide +kernel) (by decide +kernel)
theorem wn_572 : (Jvm.Cond.castable "java/lang/IllegalArgumentException" "java/lang/IllegalArgumentException") ∈ lw_tbl := List.mem_of_getElem? (i := 572) (by decide +kernel)
theorem wd_573 : (Jvm.Cond.selects "java/lang/IllegalArgumentException" ({ cls := "java/lang/Throwable", name := "fillInStackTrace", desc := "(I)Ljava/lang/Throwable;" } : Jvm.MethodName) ({ cls := "java/lang/Throwable", name := "fillInStackTrace", desc := "(I)Ljava/lang/Throwable;" } : Jvm.MethodName)) ∈ lw_g := lw_in 573 (by decide +kernel) (by decide +kernel)
theorem wd_574 : (Jvm.Cond.lays "java/lang/IllegalArgumentException" "java/lang/Throwable" "cause" "Ljava/lang/Throwable;") ∈ lw_g := lw_in 574 (by decide +kernel) (by decide +kernel)
theorem wd_575 : (Jvm.Cond.lays "java/lang/IllegalArgumentException" "java/lang/Throwable" "stackTrace" "[Ljava/lang/StackTraceElement;") ∈ lw_g := lw_in 575 (by decide +kernel) (by decide +kernel)
theorem wd_576 : (Jvm.Cond.lays "java/lang/IllegalArgumentException" "java/lang/Throwable" "suppressedExceptions" "Ljava/util/List;") ∈ lw_g := lw_in 576 (by decide +kernel) (by decide +kernel)
theorem wd_577 : (Jvm.Cond.lays "java/lang/IllegalArgumentException" "java/lang/Throwable" "detailMessage" "Ljava/lang/String;") ∈ lw_g := lw_in 577 (by decide +kernel) (by decide +kernel)
theorem wd_578 : (Jvm.Cond.lays "java/lang/IllegalArgumentException" "java/lang/Throwable" "backtrace" "Ljava/lang/Object;") ∈ lw_g := lw_in 578 (by decide +kernel) (by decide +kernel)
theorem wn_579 : (Jvm.Cond.stringRef "PurseHouse" (161 : Nat) "what is 0, 1, 2 or 3") ∈ lw_tbl := List.mem_of_getElem? (i := 579) (by decide +kernel)
theorem wd_580 : (Jvm.Cond.methodLink "PurseHouse" (163 : Nat) ({ cls := "java/lang/IllegalArgumentException", name := "<init>", desc := "(Ljava/lang/String;)V" } : Jvm.MethodName)) ∈ lw_g := lw_in 580 (by decide +kernel) (by decide +kernel)
theorem wd_581 : (Jvm.Cond.instanceMethod ({ cls := "java/lang/IllegalArgumentException", name := "<init>", desc := "(Ljava/lang/String;)V" } : Jvm.MethodName)) ∈ lw_g := lw_in 581 (by decide +kernel) (by decide +kernel)
set_option maxRecDepth 100000 in
theorem wd_582 : (Jvm.Cond.code ({ cls := "java/lang/IllegalArgumentException", name := "<init>", desc := "(Ljava/lang/String;)V" } : Jvm.MethodName) prog_10_method_2_code (2 : Nat) (Option.none : Option Jvm.ClassFile.FieldType)) ∈ lw_g := lw_in 582 (by rfl) (by decide +kernel)
theorem wd_583 : (Jvm.Cond.methodLink "java/lang/IllegalArgumentException" (7 : Nat) ({ cls := "java/lang/RuntimeException", name := "<init>", desc := "(Ljava/lang/String;)V" } : Jvm.MethodName)) ∈ lw_g := lw_in 583 (by decide +kernel) (by decide +kernel)
theorem wd_584 : (Jvm.Cond.lays "java/lang/IllegalArgumentException" "java/lang/Throwable" "depth" "I") ∈ lw_g := lw_in 584 (by decide +kernel) (by decide +kernel)
theorem wd_585 : (Jvm.Cond.superclass "java/lang/IllegalArgumentException" "java/lang/RuntimeException") ∈ lw_g := lw_in 585 (by decide +kernel) (by decide +kernel)
theorem wd_586 : (Jvm.Cond.methodLink "PurseHouseLaw" (103 : Nat) ({ cls := "PurseHouseLaw", name := "piece", desc := "(LPurseHouse;IIII[J)I" } : Jvm.MethodName)) ∈ lw_g := lw_in 586 (by decide +kernel) (by decide +kernel)
theorem wd_587 : (Jvm.Cond.static ({ cls := "PurseHouseLaw", name := "piece", desc := "(LPurseHouse;IIII[J)I" } : Jvm.MethodName)) ∈ lw_g := lw_in 587 (by decide +kernel) (by decide +kernel)
set_option maxRecDepth 100000 in
theorem wd_588 : (Jvm.Cond.codeWith ({ cls := "PurseHouseLaw", name := "piece", desc := "(LPurseHouse;IIII[J)I" } : Jvm.MethodName) method_4_code (7 : Nat) (Option.some Jvm.ClassFile.FieldType.int) [((0 : Nat), (13 : Nat), (16 : Nat), (13 : Nat)), ((0 : Nat), (13 : Nat), (20 : Nat), (15 : Nat))]) ∈ lw_g := lw_in 588 (by rfl) (by decide +kernel)
theorem wd_589 : (Jvm.Cond.methodLink "PurseHouseLaw" (17 : Nat) ({ cls := "PurseHouse", name := "piece", desc := "(IIII)J" } : Jvm.MethodName)) ∈ lw_g := lw_in 589 (by decide +kernel) (by decide +kernel)
theorem wd_590 : (Jvm.Cond.instanceMethod ({ cls := "PurseHouse", name := "piece", desc := "(IIII)J" } : Jvm.MethodName)) ∈ lw_g := lw_in 590 (by decide +kernel) (by decide +kernel)
theorem wd_591 : (Jvm.Cond.selects "PurseHouse" ({ cls := "PurseHouse", name := "piece", desc := "(IIII)J" } : Jvm.MethodName) ({ cls := "PurseHouse", name := "piece", desc := "(IIII)J" } : Jvm.MethodName)) ∈ lw_g := lw_in 591 (by decide +kernel) (by decide +kernel)
set_option maxRecDepth 100000 in
theorem wd_592 : (Jvm.Cond.code ({ cls := "PurseHouse", name := "piece", desc := "(IIII)J" } : Jvm.MethodName) prog_1_method_16_code (5 : Nat) (Option.some Jvm.ClassFile.FieldType.long)) ∈ lw_g := lw_in 592 (by rfl) (by decide +kernel)
theorem wn_593 : (Jvm.Cond.stringRef "PurseHouse" (176 : Nat) "nothing such was recorded") ∈ lw_tbl := List.mem_of_getElem? (i := 593) (by decide +kernel)
theorem wn_594 : (Jvm.Cond.stringRef "PurseHouse" (185 : Nat) "what is 0 or 1") ∈ lw_tbl := List.mem_of_getElem? (i := 594) (by decide +kernel)
theorem wd_595 : (Jvm.Cond.methodLink "PurseHouseLaw" (112 : Nat) ({ cls := "PurseHouseLaw", name := "total", desc := "(LPurseHouse;II[J)I" } : Jvm.MethodName)) ∈ lw_g := lw_in 595 (by decide +kernel) (by decide +kernel)
theorem wd_596 : (Jvm.Cond.static ({ cls := "PurseHouseLaw", name := "total", desc := "(LPurseHouse;II[J)I" } : Jvm.MethodName)) ∈ lw_g := lw_in 596 (by decide +kernel) (by decide +kernel)
set_option maxRecDepth 100000 in
theorem wd_597 : (Jvm.Cond.codeWith ({ cls := "PurseHouseLaw", name := "total", desc := "(LPurseHouse;II[J)I" } : Jvm.MethodName) method_5_code (5 : Nat) (Option.some Jvm.ClassFile.FieldType.int) [((0 : Nat), (9 : Nat), (12 : Nat), (13 : Nat))]) ∈ lw_g := lw_in 597 (by rfl) (by decide +kernel)
theorem wd_598 : (Jvm.Cond.methodLink "PurseHouseLaw" (21 : Nat) ({ cls := "PurseHouse", name := "total", desc := "(II)J" } : Jvm.MethodName)) ∈ lw_g := lw_in 598 (by decide +kernel) (by decide +kernel)
theorem wd_599 : (Jvm.Cond.instanceMethod ({ cls := "PurseHouse", name := "total", desc := "(II)J" } : Jvm.MethodName)) ∈ lw_g := lw_in 599 (by decide +kernel) (by decide +kernel)
theorem wd_600 : (Jvm.Cond.selects "PurseHouse" ({ cls := "PurseHouse", name := "total", desc := "(II)J" } : Jvm.MethodName) ({ cls := "PurseHouse", name := "total", desc := "(II)J" } : Jvm.MethodName)) ∈ lw_g := lw_in 600 (by decide +kernel) (by decide +kernel)
set_option maxRecDepth 100000 in
theorem wd_601 : (Jvm.Cond.code ({ cls := "PurseHouse", name := "total", desc := "(II)J" } : Jvm.MethodName) prog_1_method_18_code (6 : Nat) (Option.some Jvm.ClassFile.FieldType.long)) ∈ lw_g := lw_in 601 (by rfl) (by decide +kernel)
theorem wd_602 : (Jvm.Cond.methodLink "PurseHouse" (190 : Nat) ({ cls := "PurseHouse", name := "finished", desc := "(I)Z" } : Jvm.MethodName)) ∈ lw_g := lw_in 602 (by decide +kernel) (by decide +kernel)
theorem wn_603 : (Jvm.Cond.stringRef "PurseHouse" (193 : Nat) "no such finished snapshot or currency") ∈ lw_tbl := List.mem_of_getElem? (i := 603) (by decide +kernel)
theorem wd_604 : (Jvm.Cond.classLink "PurseHouseLaw" (34 : Nat) "PurseHouseModel") ∈ lw_g := lw_in 604 (by decide +kernel) (by decide +kernel)
theorem wd_605 : (Jvm.Cond.instantiable "PurseHouseModel" (27 : Nat)) ∈ lw_g := lw_in 605 (by decide +kernel) (by decide +kernel)
theorem wd_606 : (Jvm.Cond.methodLink "PurseHouseLaw" (36 : Nat) ({ cls := "PurseHouseModel", name := "<init>", desc := "(I)V" } : Jvm.MethodName)) ∈ lw_g := lw_in 606 (by decide +kernel) (by decide +kernel)
theorem wd_607 : (Jvm.Cond.instanceMethod ({ cls := "PurseHouseModel", name := "<init>", desc := "(I)V" } : Jvm.MethodName)) ∈ lw_g := lw_in 607 (by decide +kernel) (by decide +kernel)
set_option maxRecDepth 100000 in
theorem wd_608 : (Jvm.Cond.code ({ cls := "PurseHouseModel", name := "<init>", desc := "(I)V" } : Jvm.MethodName) prog_6_method_1_code (2 : Nat) (Option.none : Option Jvm.ClassFile.FieldType)) ∈ lw_g := lw_in 608 (by rfl) (by decide +kernel)
theorem wd_609 : (Jvm.Cond.methodLink "PurseHouseModel" (1 : Nat) ({ cls := "java/lang/Object", name := "<init>", desc := "()V" } : Jvm.MethodName)) ∈ lw_g := lw_in 609 (by decide +kernel) (by decide +kernel)
theorem wd_610 : (Jvm.Cond.fieldLink "PurseHouseModel" (76 : Nat) "PurseHouseModel" "thrown" "I") ∈ lw_g := lw_in 610 (by decide +kernel) (by decide +kernel)
theorem wd_611 : (Jvm.Cond.fieldLink "PurseHouseModel" (72 : Nat) "PurseHouseModel" "kiosks" "I") ∈ lw_g := lw_in 611 (by decide +kernel) (by decide +kernel)
theorem wd_612 : (Jvm.Cond.fieldLink "PurseHouseModel" (94 : Nat) "PurseHouseModel" "time" "I") ∈ lw_g := lw_in 612 (by decide +kernel) (by decide +kernel)
theorem wd_613 : (Jvm.Cond.fieldLink "PurseHouseModel" (79 : Nat) "PurseHouseModel" "links" "I") ∈ lw_g := lw_in 613 (by decide +kernel) (by decide +kernel)
theorem wd_614 : (Jvm.Cond.fieldLink "PurseHouseModel" (7 : Nat) "PurseHouseModel" "from" "[I") ∈ lw_g := lw_in 614 (by decide +kernel) (by decide +kernel)
theorem wd_615 : (Jvm.Cond.fieldLink "PurseHouseModel" (13 : Nat) "PurseHouseModel" "to" "[I") ∈ lw_g := lw_in 615 (by decide +kernel) (by decide +kernel)
theorem wd_616 : (Jvm.Cond.fieldLink "PurseHouseModel" (16 : Nat) "PurseHouseModel" "ordered" "[Z") ∈ lw_g := lw_in 616 (by decide +kernel) (by decide +kernel)
theorem wd_617 : (Jvm.Cond.fieldLink "PurseHouseModel" (20 : Nat) "PurseHouseModel" "up" "[I") ∈ lw_g := lw_in 617 (by decide +kernel) (by decide +kernel)
theorem wd_618 : (Jvm.Cond.fieldLink "PurseHouseModel" (23 : Nat) "PurseHouseModel" "down" "[I") ∈ lw_g := lw_in 618 (by decide +kernel) (by decide +kernel)
theorem wd_619 : (Jvm.Cond.fieldLink "PurseHouseModel" (97 : Nat) "PurseHouseModel" "lines" "I") ∈ lw_g := lw_in 619 (by decide +kernel) (by decide +kernel)
theorem wd_620 : (Jvm.Cond.fieldLink "PurseHouseModel" (26 : Nat) "PurseHouseModel" "kioskOf" "[I") ∈ lw_g := lw_in 620 (by decide +kernel) (by decide +kernel)
theorem wd_621 : (Jvm.Cond.fieldLink "PurseHouseModel" (29 : Nat) "PurseHouseModel" "currencyOf" "[I") ∈ lw_g := lw_in 621 (by decide +kernel) (by decide +kernel)
theorem wd_622 : (Jvm.Cond.fieldLink "PurseHouseModel" (32 : Nat) "PurseHouseModel" "at" "[I") ∈ lw_g := lw_in 622 (by decide +kernel) (by decide +kernel)
theorem wd_623 : (Jvm.Cond.fieldLink "PurseHouseModel" (35 : Nat) "PurseHouseModel" "event" "[I") ∈ lw_g := lw_in 623 (by decide +kernel) (by decide +kernel)
theorem wd_624 : (Jvm.Cond.fieldLink "PurseHouseModel" (38 : Nat) "PurseHouseModel" "toStock" "[J") ∈ lw_g := lw_in 624 (by decide +kernel) (by decide +kernel)
theorem wd_625 : (Jvm.Cond.fieldLink "PurseHouseModel" (42 : Nat) "PurseHouseModel" "toTill" "[J") ∈ lw_g := lw_in 625 (by decide +kernel) (by decide +kernel)
theorem wd_626 : (Jvm.Cond.fieldLink "PurseHouseModel" (45 : Nat) "PurseHouseModel" "toMint" "[J") ∈ lw_g := lw_in 626 (by decide +kernel) (by decide +kernel)
theorem wd_627 : (Jvm.Cond.fieldLink "PurseHouseModel" (115 : Nat) "PurseHouseModel" "things" "I") ∈ lw_g := lw_in 627 (by decide +kernel) (by decide +kernel)
theorem wd_628 : (Jvm.Cond.fieldLink "PurseHouseModel" (48 : Nat) "PurseHouseModel" "kind" "[I") ∈ lw_g := lw_in 628 (by decide +kernel) (by decide +kernel)
theorem wd_629 : (Jvm.Cond.fieldLink "PurseHouseModel" (51 : Nat) "PurseHouseModel" "link" "[I") ∈ lw_g := lw_in 629 (by decide +kernel) (by decide +kernel)
theorem wd_630 : (Jvm.Cond.fieldLink "PurseHouseModel" (54 : Nat) "PurseHouseModel" "currency" "[I") ∈ lw_g := lw_in 630 (by decide +kernel) (by decide +kernel)
theorem wd_631 : (Jvm.Cond.fieldLink "PurseHouseModel" (57 : Nat) "PurseHouseModel" "amount" "[I") ∈ lw_g := lw_in 631 (by decide +kernel) (by decide +kernel)
theorem wd_632 : (Jvm.Cond.fieldLink "PurseHouseModel" (60 : Nat) "PurseHouseModel" "number" "[I") ∈ lw_g := lw_in 632 (by decide +kernel) (by decide +kernel)
theorem wd_633 : (Jvm.Cond.fieldLink "PurseHouseModel" (63 : Nat) "PurseHouseModel" "sentAt" "[I") ∈ lw_g := lw_in 633 (by decide +kernel) (by decide +kernel)
theorem wd_634 : (Jvm.Cond.fieldLink "PurseHouseModel" (66 : Nat) "PurseHouseModel" "takenAt" "[I") ∈ lw_g := lw_in 634 (by decide +kernel) (by decide +kernel)
theorem wd_635 : (Jvm.Cond.fieldLink "PurseHouseModel" (82 : Nat) "PurseHouseModel" "snapshots" "I") ∈ lw_g := lw_in 635 (by decide +kernel) (by decide +kernel)
theorem wd_636 : (Jvm.Cond.fieldLink "PurseHouseModel" (69 : Nat) "PurseHouseModel" "recordedAt" "[I") ∈ lw_g := lw_in 636 (by decide +kernel) (by decide +kernel)
theorem wd_637 : (Jvm.Cond.lays "PurseHouseModel" "PurseHouseModel" "thrown" "I") ∈ lw_g := lw_in 637 (by decide +kernel) (by decide +kernel)
theorem wd_638 : (Jvm.Cond.soleField "PurseHouseModel" "thrown") ∈ lw_g := lw_in 638 (by decide +kernel) (by decide +kernel)
theorem wd_639 : (Jvm.Cond.laysFinal "PurseHouseModel" "PurseHouseModel" "kiosks" "I") ∈ lw_g := lw_in 639 (by decide +kernel) (by decide +kernel)
theorem wd_640 : (Jvm.Cond.soleField "PurseHouseModel" "kiosks") ∈ lw_g := lw_in 640 (by decide +kernel) (by decide +kernel)
theorem wd_641 : (Jvm.Cond.lays "PurseHouseModel" "PurseHouseModel" "time" "I") ∈ lw_g := lw_in 641 (by decide +kernel) (by decide +kernel)
theorem wd_642 : (Jvm.Cond.soleField "PurseHouseModel" "time") ∈ lw_g := lw_in 642 (by decide +kernel) (by decide +kernel)
theorem wd_643 : (Jvm.Cond.lays "PurseHouseModel" "PurseHouseModel" "links" "I") ∈ lw_g := lw_in 643 (by decide +kernel) (by decide +kernel)
theorem wd_644 : (Jvm.Cond.soleField "PurseHouseModel" "links") ∈ lw_g := lw_in 644 (by decide +kernel) (by decide +kernel)
theorem wd_645 : (Jvm.Cond.laysFinal "PurseHouseModel" "PurseHouseModel" "from" "[I") ∈ lw_g := lw_in 645 (by decide +kernel) (by decide +kernel)
theorem wd_646 : (Jvm.Cond.soleField "PurseHouseModel" "from") ∈ lw_g := lw_in 646 (by decide +kernel) (by decide +kernel)
theorem wd_647 : (Jvm.Cond.laysFinal "PurseHouseModel" "PurseHouseModel" "to" "[I") ∈ lw_g := lw_in 647 (by decide +kernel) (by decide +kernel)
theorem wd_648 : (Jvm.Cond.soleField "PurseHouseModel" "to") ∈ lw_g := lw_in 648 (by decide +kernel) (by decide +kernel)
theorem wd_649 : (Jvm.Cond.laysFinal "PurseHouseModel" "PurseHouseModel" "ordered" "[Z") ∈ lw_g := lw_in 649 (by decide +kernel) (by decide +kernel)
theorem wd_650 : (Jvm.Cond.soleField "PurseHouseModel" "ordered") ∈ lw_g := lw_in 650 (by decide +kernel) (by decide +kernel)
theorem wd_651 : (Jvm.Cond.laysFinal "PurseHouseModel" "PurseHouseModel" "up" "[I") ∈ lw_g := lw_in 651 (by decide +kernel) (by decide +kernel)
theorem wd_652 : (Jvm.Cond.soleField "PurseHouseModel" "up") ∈ lw_g := lw_in 652 (by decide +kernel) (by decide +kernel)
theorem wd_653 : (Jvm.Cond.laysFinal "PurseHouseModel" "PurseHouseModel" "down" "[I") ∈ lw_g := lw_in 653 (by decide +kernel) (by decide +kernel)
theorem wd_654 : (Jvm.Cond.soleField "PurseHouseModel" "down") ∈ lw_g := lw_in 654 (by decide +kernel) (by decide +kernel)
theorem wd_655 : (Jvm.Cond.lays "PurseHouseModel" "PurseHouseModel" "lines" "I") ∈ lw_g := lw_in 655 (by decide +kernel) (by decide +kernel)
theorem wd_656 : (Jvm.Cond.soleField "PurseHouseModel" "lines") ∈ lw_g := lw_in 656 (by decide +kernel) (by decide +kernel)
theorem wd_657 : (Jvm.Cond.laysFinal "PurseHouseModel" "PurseHouseModel" "kioskOf" "[I") ∈ lw_g := lw_in 657 (by decide +kernel) (by decide +kernel)
theorem wd_658 : (Jvm.Cond.soleField "PurseHouseModel" "kioskOf") ∈ lw_g := lw_in 658 (by decide +kernel) (by decide +kernel)
theorem wd_659 : (Jvm.Cond.laysFinal "PurseHouseModel" "PurseHouseModel" "currencyOf" "[I") ∈ lw_g := lw_in 659 (by decide +kernel) (by decide +kernel)
theorem wd_660 : (Jvm.Cond.soleField "PurseHouseModel" "currencyOf") ∈ lw_g := lw_in 660 (by decide +kernel) (by decide +kernel)
theorem wd_661 : (Jvm.Cond.laysFinal "PurseHouseModel" "PurseHouseModel" "at" "[I") ∈ lw_g := lw_in 661 (by decide +kernel) (by decide +kernel)
theorem wd_662 : (Jvm.Cond.soleField "PurseHouseModel" "at") ∈ lw_g := lw_in 662 (by decide +kernel) (by decide +kernel)
theorem wd_663 : (Jvm.Cond.laysFinal "PurseHouseModel" "PurseHouseModel" "event" "[I") ∈ lw_g := lw_in 663 (by decide +kernel) (by decide +kernel)
theorem wd_664 : (Jvm.Cond.soleField "PurseHouseModel" "event") ∈ lw_g := lw_in 664 (by decide +kernel) (by decide +kernel)
theorem wd_665 : (Jvm.Cond.laysFinal "PurseHouseModel" "PurseHouseModel" "toStock" "[J") ∈ lw_g := lw_in 665 (by decide +kernel) (by decide +kernel)
theorem wd_666 : (Jvm.Cond.soleField "PurseHouseModel" "toStock") ∈ lw_g := lw_in 666 (by decide +kernel) (by decide +kernel)
theorem wd_667 : (Jvm.Cond.laysFinal "PurseHouseModel" "PurseHouseModel" "toTill" "[J") ∈ lw_g := lw_in 667 (by decide +kernel) (by decide +kernel)
theorem wd_668 : (Jvm.Cond.soleField "PurseHouseModel" "toTill") ∈ lw_g := lw_in 668 (by decide +kernel) (by decide +kernel)
theorem wd_669 : (Jvm.Cond.laysFinal "PurseHouseModel" "PurseHouseModel" "toMint" "[J") ∈ lw_g := lw_in 669 (by decide +kernel) (by decide +kernel)
theorem wd_670 : (Jvm.Cond.soleField "PurseHouseModel" "toMint") ∈ lw_g := lw_in 670 (by decide +kernel) (by decide +kernel)
theorem wd_671 : (Jvm.Cond.lays "PurseHouseModel" "PurseHouseModel" "things" "I") ∈ lw_g := lw_in 671 (by decide +kernel) (by decide +kernel)
theorem wd_672 : (Jvm.Cond.soleField "PurseHouseModel" "things") ∈ lw_g := lw_in 672 (by decide +kernel) (by decide +kernel)
theorem wd_673 : (Jvm.Cond.laysFinal "PurseHouseModel" "PurseHouseModel" "kind" "[I") ∈ lw_g := lw_in 673 (by decide +kernel) (by decide +kernel)
theorem wd_674 : (Jvm.Cond.soleField "PurseHouseModel" "kind") ∈ lw_g := lw_in 674 (by decide +kernel) (by decide +kernel)
theorem wd_675 : (Jvm.Cond.laysFinal "PurseHouseModel" "PurseHouseModel" "link" "[I") ∈ lw_g := lw_in 675 (by decide +kernel) (by decide +kernel)
theorem wd_676 : (Jvm.Cond.soleField "PurseHouseModel" "link") ∈ lw_g := lw_in 676 (by decide +kernel) (by decide +kernel)
theorem wd_677 : (Jvm.Cond.laysFinal "PurseHouseModel" "PurseHouseModel" "currency" "[I") ∈ lw_g := lw_in 677 (by decide +kernel) (by decide +kernel)
theorem wd_678 : (Jvm.Cond.soleField "PurseHouseModel" "currency") ∈ lw_g := lw_in 678 (by decide +kernel) (by decide +kernel)
theorem wd_679 : (Jvm.Cond.laysFinal "PurseHouseModel" "PurseHouseModel" "amount" "[I") ∈ lw_g := lw_in 679 (by decide +kernel) (by decide +kernel)
theorem wd_680 : (Jvm.Cond.soleField "PurseHouseModel" "amount") ∈ lw_g := lw_in 680 (by decide +kernel) (by decide +kernel)
theorem wd_681 : (Jvm.Cond.laysFinal "PurseHouseModel" "PurseHouseModel" "number" "[I") ∈ lw_g := lw_in 681 (by decide +kernel) (by decide +kernel)
theorem wd_682 : (Jvm.Cond.soleField "PurseHouseModel" "number") ∈ lw_g := lw_in 682 (by decide +kernel) (by decide +kernel)
theorem wd_683 : (Jvm.Cond.laysFinal "PurseHouseModel" "PurseHouseModel" "sentAt" "[I") ∈ lw_g := lw_in 683 (by decide +kernel) (by decide +kernel)
theorem wd_684 : (Jvm.Cond.soleField "PurseHouseModel" "sentAt") ∈ lw_g := lw_in 684 (by decide +kernel) (by decide +kernel)
theorem wd_685 : (Jvm.Cond.laysFinal "PurseHouseModel" "PurseHouseModel" "takenAt" "[I") ∈ lw_g := lw_in 685 (by decide +kernel) (by decide +kernel)
theorem wd_686 : (Jvm.Cond.soleField "PurseHouseModel" "takenAt") ∈ lw_g := lw_in 686 (by decide +kernel) (by decide +kernel)
theorem wd_687 : (Jvm.Cond.lays "PurseHouseModel" "PurseHouseModel" "snapshots" "I") ∈ lw_g := lw_in 687 (by decide +kernel) (by decide +kernel)
theorem wd_688 : (Jvm.Cond.soleField "PurseHouseModel" "snapshots") ∈ lw_g := lw_in 688 (by decide +kernel) (by decide +kernel)
theorem wd_689 : (Jvm.Cond.laysFinal "PurseHouseModel" "PurseHouseModel" "recordedAt" "[I") ∈ lw_g := lw_in 689 (by decide +kernel) (by decide +kernel)
theorem wd_690 : (Jvm.Cond.soleField "PurseHouseModel" "recordedAt") ∈ lw_g := lw_in 690 (by decide +kernel) (by decide +kernel)
theorem wd_691 : (Jvm.Cond.superclass "PurseHouseModel" "java/lang/Object") ∈ lw_g := lw_in 691 (by decide +kernel) (by decide +kernel)
theorem wd_692 : (Jvm.Cond.arrayClass Jvm.ClassFile.FieldType.boolean) ∈ lw_g := lw_in 692 (by decide +kernel) (by decide +kernel)
theorem wd_693 : (Jvm.Cond.methodLink "PurseHouseLaw" (90 : Nat) ({ cls := "PurseHouseModel", name := "thrown", desc := "()I" } : Jvm.MethodName)) ∈ lw_g := lw_in 693 (by decide +kernel) (by decide +kernel)
theorem wd_694 : (Jvm.Cond.instanceMethod ({ cls := "PurseHouseModel", name := "thrown", desc := "()I" } : Jvm.MethodName)) ∈ lw_g := lw_in 694 (by decide +kernel) (by decide +kernel)
theorem wd_695 : (Jvm.Cond.selects "PurseHouseModel" ({ cls := "PurseHouseModel", name := "thrown", desc := "()I" } : Jvm.MethodName) ({ cls := "PurseHouseModel", name := "thrown", desc := "()I" } : Jvm.MethodName)) ∈ lw_g := lw_in 695 (by decide +kernel) (by decide +kernel)
set_option maxRecDepth 100000 in
theorem wd_696 : (Jvm.Cond.code ({ cls := "PurseHouseModel", name := "thrown", desc := "()I" } : Jvm.MethodName) prog_6_method_2_code (1 : Nat) (Option.some Jvm.ClassFile.FieldType.int)) ∈ lw_g := lw_in 696 (by rfl) (by decide +kernel)
theorem wd_697 : (Jvm.Cond.methodLink "PurseHouseLaw" (41 : Nat) ({ cls := "PurseHouseModel", name := "link", desc := "(IIZ)I" } : Jvm.MethodName)) ∈ lw_g := lw_in 697 (by decide +kernel) (by decide +kernel)
theorem wd_698 : (Jvm.Cond.instanceMethod ({ cls := "PurseHouseModel", name := "link", desc := "(IIZ)I" } : Jvm.MethodName)) ∈ lw_g := lw_in 698 (by decide +kernel) (by decide +kernel)
theorem wd_699 : (Jvm.Cond.selects "PurseHouseModel" ({ cls := "PurseHouseModel", name := "link", desc := "(IIZ)I" } : Jvm.MethodName) ({ cls := "PurseHouseModel", name := "link", desc := "(IIZ)I" } : Jvm.MethodName)) ∈ lw_g := lw_in 699 (by decide +kernel) (by decide +kernel)
set_option maxRecDepth 100000 in
theorem wd_700 : (Jvm.Cond.code ({ cls := "PurseHouseModel", name := "link", desc := "(IIZ)I" } : Jvm.MethodName) prog_6_method_8_code (4 : Nat) (Option.some Jvm.ClassFile.FieldType.int)) ∈ lw_g := lw_in 700 (by rfl) (by decide +kernel)
theorem wd_701 : (Jvm.Cond.methodLink "PurseHouseModel" (86 : Nat) ({ cls := "PurseHouseModel", name := "isKiosk", desc := "(I)Z" } : Jvm.MethodName)) ∈ lw_g := lw_in 701 (by decide +kernel) (by decide +kernel)
theorem wn_702 : (Jvm.Cond.privateMethod ({ cls := "PurseHouseModel", name := "isKiosk", desc := "(I)Z" } : Jvm.MethodName)) ∈ lw_tbl := List.mem_of_getElem? (i := 702) (by decide +kernel)
theorem wd_703 : (Jvm.Cond.instanceMethod ({ cls := "PurseHouseModel", name := "isKiosk", desc := "(I)Z" } : Jvm.MethodName)) ∈ lw_g := lw_in 703 (by decide +kernel) (by decide +kernel)
set_option maxRecDepth 100000 in
theorem wd_704 : (Jvm.Cond.code ({ cls := "PurseHouseModel", name := "isKiosk", desc := "(I)Z" } : Jvm.MethodName) prog_6_method_3_code (2 : Nat) (Option.some Jvm.ClassFile.FieldType.boolean)) ∈ lw_g := lw_in 704 (by rfl) (by decide +kernel)
theorem wd_705 : (Jvm.Cond.methodLink "PurseHouseLaw" (46 : Nat) ({ cls := "PurseHouseModel", name := "rate", desc := "(IIII)Z" } : Jvm.MethodName)) ∈ lw_g := lw_in 705 (by decide +kernel) (by decide +kernel)
theorem wd_706 : (Jvm.Cond.instanceMethod ({ cls := "PurseHouseModel", name := "rate", desc := "(IIII)Z" } : Jvm.MethodName)) ∈ lw_g := lw_in 706 (by decide +kernel) (by decide +kernel)
theorem wd_707 : (Jvm.Cond.selects "PurseHouseModel" ({ cls := "PurseHouseModel", name := "rate", desc := "(IIII)Z" } : Jvm.MethodName) ({ cls := "PurseHouseModel", name := "rate", desc := "(IIII)Z" } : Jvm.MethodName)) ∈ lw_g := lw_in 707 (by decide +kernel) (by decide +kernel)
set_option maxRecDepth 100000 in
theorem wd_708 : (Jvm.Cond.code ({ cls := "PurseHouseModel", name := "rate", desc := "(IIII)Z" } : Jvm.MethodName) prog_6_method_9_code (5 : Nat) (Option.some Jvm.ClassFile.FieldType.boolean)) ∈ lw_g := lw_in 708 (by rfl) (by decide +kernel)
theorem wd_709 : (Jvm.Cond.methodLink "PurseHouseModel" (90 : Nat) ({ cls := "PurseHouseModel", name := "isCurrency", desc := "(I)Z" } : Jvm.MethodName)) ∈ lw_g := lw_in 709 (by decide +kernel) (by decide +kernel)
theorem wd_710 : (Jvm.Cond.static ({ cls := "PurseHouseModel", name := "isCurrency", desc := "(I)Z" } : Jvm.MethodName)) ∈ lw_g := lw_in 710 (by decide +kernel) (by decide +kernel)
set_option maxRecDepth 100000 in
theorem wd_711 : (Jvm.Cond.code ({ cls := "PurseHouseModel", name := "isCurrency", desc := "(I)Z" } : Jvm.MethodName) prog_6_method_4_code (1 : Nat) (Option.some Jvm.ClassFile.FieldType.boolean)) ∈ lw_g := lw_in 711 (by rfl) (by decide +kernel)
theorem wd_712 : (Jvm.Cond.constant "PurseHouseModel" (93 : Nat) (1000000 : Int32)) ∈ lw_g := lw_in 712 (by decide +kernel) (by decide +kernel)
theorem wd_713 : (Jvm.Cond.methodLink "PurseHouseLaw" (51 : Nat) ({ cls := "PurseHouseModel", name := "mint", desc := "(III)Z" } : Jvm.MethodName)) ∈ lw_g := lw_in 713 (by decide +kernel) (by decide +kernel)
theorem wd_714 : (Jvm.Cond.instanceMethod ({ cls := "PurseHouseModel", name := "mint", desc := "(III)Z" } : Jvm.MethodName)) ∈ lw_g := lw_in 714 (by decide +kernel) (by decide +kernel)
theorem wd_715 : (Jvm.Cond.selects "PurseHouseModel" ({ cls := "PurseHouseModel", name := "mint", desc := "(III)Z" } : Jvm.MethodName) ({ cls := "PurseHouseModel", name := "mint", desc := "(III)Z" } : Jvm.MethodName)) ∈ lw_g := lw_in 715 (by decide +kernel) (by decide +kernel)
set_option maxRecDepth 100000 in
theorem wd_716 : (Jvm.Cond.code ({ cls := "PurseHouseModel", name := "mint", desc := "(III)Z" } : Jvm.MethodName) prog_6_method_14_code (4 : Nat) (Option.some Jvm.ClassFile.FieldType.boolean)) ∈ lw_g := lw_in 716 (by rfl) (by decide +kernel)
theorem wd_717 : (Jvm.Cond.methodLink "PurseHouseModel" (100 : Nat) ({ cls := "PurseHouseModel", name := "isAmount", desc := "(I)Z" } : Jvm.MethodName)) ∈ lw_g := lw_in 717 (by decide +kernel) (by decide +kernel)
theorem wd_718 : (Jvm.Cond.static ({ cls := "PurseHouseModel", name := "isAmount", desc := "(I)Z" } : Jvm.MethodName)) ∈ lw_g := lw_in 718 (by decide +kernel) (by decide +kernel)
set_option maxRecDepth 100000 in
theorem wd_719 : (Jvm.Cond.code ({ cls := "PurseHouseModel", name := "isAmount", desc := "(I)Z" } : Jvm.MethodName) prog_6_method_7_code (1 : Nat) (Option.some Jvm.ClassFile.FieldType.boolean)) ∈ lw_g := lw_in 719 (by rfl) (by decide +kernel)
theorem wd_720 : (Jvm.Cond.constant "PurseHouseModel" (85 : Nat) (1000000000 : Int32)) ∈ lw_g := lw_in 720 (by decide +kernel) (by decide +kernel)
theorem wd_721 : (Jvm.Cond.methodLink "PurseHouseModel" (103 : Nat) ({ cls := "PurseHouseModel", name := "note", desc := "(IIJJJ)V" } : Jvm.MethodName)) ∈ lw_g := lw_in 721 (by decide +kernel) (by decide +kernel)
theorem wn_722 : (Jvm.Cond.privateMethod ({ cls := "PurseHouseModel", name := "note", desc := "(IIJJJ)V" } : Jvm.MethodName)) ∈ lw_tbl := List.mem_of_getElem? (i := 722) (by decide +kernel)
theorem wd_723 : (Jvm.Cond.instanceMethod ({ cls := "PurseHouseModel", name := "note", desc := "(IIJJJ)V" } : Jvm.MethodName)) ∈ lw_g := lw_in 723 (by decide +kernel) (by decide +kernel)
set_option maxRecDepth 100000 in
theorem wd_724 : (Jvm.Cond.code ({ cls := "PurseHouseModel", name := "note", desc := "(IIJJJ)V" } : Jvm.MethodName) prog_6_method_10_code (9 : Nat) (Option.none : Option Jvm.ClassFile.FieldType)) ∈ lw_g := lw_in 724 (by rfl) (by decide +kernel)
theorem wd_725 : (Jvm.Cond.methodLink "PurseHouseLaw" (55 : Nat) ({ cls := "PurseHouseModel", name := "melt", desc := "(III)Z" } : Jvm.MethodName)) ∈ lw_g := lw_in 725 (by decide +kernel) (by decide +kernel)
theorem wd_726 : (Jvm.Cond.instanceMethod ({ cls := "PurseHouseModel", name := "melt", desc := "(III)Z" } : Jvm.MethodName)) ∈ lw_g := lw_in 726 (by decide +kernel) (by decide +kernel)
theorem wd_727 : (Jvm.Cond.selects "PurseHouseModel" ({ cls := "PurseHouseModel", name := "melt", desc := "(III)Z" } : Jvm.MethodName) ({ cls := "PurseHouseModel", name := "melt", desc := "(III)Z" } : Jvm.MethodName)) ∈ lw_g := lw_in 727 (by decide +kernel) (by decide +kernel)
set_option maxRecDepth 100000 in
theorem wd_728 : (Jvm.Cond.code ({ cls := "PurseHouseModel", name := "melt", desc := "(III)Z" } : Jvm.MethodName) prog_6_method_16_code (4 : Nat) (Option.some Jvm.ClassFile.FieldType.boolean)) ∈ lw_g := lw_in 728 (by rfl) (by decide +kernel)
theorem wd_729 : (Jvm.Cond.methodLink "PurseHouseModel" (111 : Nat) ({ cls := "PurseHouseModel", name := "has", desc := "(III)Z" } : Jvm.MethodName)) ∈ lw_g := lw_in 729 (by decide +kernel) (by decide +kernel)
theorem wn_730 : (Jvm.Cond.privateMethod ({ cls := "PurseHouseModel", name := "has", desc := "(III)Z" } : Jvm.MethodName)) ∈ lw_tbl := List.mem_of_getElem? (i := 730) (by decide +kernel)
theorem wd_731 : (Jvm.Cond.instanceMethod ({ cls := "PurseHouseModel", name := "has", desc := "(III)Z" } : Jvm.MethodName)) ∈ lw_g := lw_in 731 (by decide +kernel) (by decide +kernel)
set_option maxRecDepth 100000 in
theorem wd_732 : (Jvm.Cond.code ({ cls := "PurseHouseModel", name := "has", desc := "(III)Z" } : Jvm.MethodName) prog_6_method_15_code (4 : Nat) (Option.some Jvm.ClassFile.FieldType.boolean)) ∈ lw_g := lw_in 732 (by rfl) (by decide +kernel)
theorem wd_733 : (Jvm.Cond.methodLink "PurseHouseModel" (107 : Nat) ({ cls := "PurseHouseModel", name := "stockAt", desc := "(III)J" } : Jvm.MethodName)) ∈ lw_g := lw_in 733 (by decide +kernel) (by decide +kernel)
theorem wn_734 : (Jvm.Cond.privateMethod ({ cls := "PurseHouseModel", name := "stockAt", desc := "(III)J" } : Jvm.MethodName)) ∈ lw_tbl := List.mem_of_getElem? (i := 734) (by decide +kernel)
theorem wd_735 : (Jvm.Cond.instanceMethod ({ cls := "PurseHouseModel", name := "stockAt", desc := "(III)J" } : Jvm.MethodName)) ∈ lw_g := lw_in 735 (by decide +kernel) (by decide +kernel)
set_option maxRecDepth 100000 in
theorem wd_736 : (Jvm.Cond.code ({ cls := "PurseHouseModel", name := "stockAt", desc := "(III)J" } : Jvm.MethodName) prog_6_method_11_code (7 : Nat) (Option.some Jvm.ClassFile.FieldType.long)) ∈ lw_g := lw_in 736 (by rfl) (by decide +kernel)
theorem wd_737 : (Jvm.Cond.methodLink "PurseHouseLaw" (59 : Nat) ({ cls := "PurseHouseModel", name := "exchange", desc := "(IIII)Z" } : Jvm.MethodName)) ∈ lw_g := lw_in 737 (by decide +kernel) (by decide +kernel)
theorem wd_738 : (Jvm.Cond.instanceMethod ({ cls := "PurseHouseModel", name := "exchange", desc := "(IIII)Z" } : Jvm.MethodName)) ∈ lw_g := lw_in 738 (by decide +kernel) (by decide +kernel)
theorem wd_739 : (Jvm.Cond.selects "PurseHouseModel" ({ cls := "PurseHouseModel", name := "exchange", desc := "(IIII)Z" } : Jvm.MethodName) ({ cls := "PurseHouseModel", name := "exchange", desc := "(IIII)Z" } : Jvm.MethodName)) ∈ lw_g := lw_in 739 (by decide +kernel) (by decide +kernel)
set_option maxRecDepth 100000 in
theorem wd_740 : (Jvm.Cond.code ({ cls := "PurseHouseModel", name := "exchange", desc := "(IIII)Z" } : Jvm.MethodName) prog_6_method_17_code (7 : Nat) (Option.some Jvm.ClassFile.FieldType.boolean)) ∈ lw_g := lw_in 740 (by rfl) (by decide +kernel)
theorem wd_741 : (Jvm.Cond.methodLink "PurseHouseLaw" (63 : Nat) ({ cls := "PurseHouseModel", name := "bag", desc := "(III)Z" } : Jvm.MethodName)) ∈ lw_g := lw_in 741 (by decide +kernel) (by decide +kernel)
theorem wd_742 : (Jvm.Cond.instanceMethod ({ cls := "PurseHouseModel", name := "bag", desc := "(III)Z" } : Jvm.MethodName)) ∈ lw_g := lw_in 742 (by decide +kernel) (by decide +kernel)
theorem wd_743 : (Jvm.Cond.selects "PurseHouseModel" ({ cls := "PurseHouseModel", name := "bag", desc := "(III)Z" } : Jvm.MethodName) ({ cls := "PurseHouseModel", name := "bag", desc := "(III)Z" } : Jvm.MethodName)) ∈ lw_g := lw_in 743 (by decide +kernel) (by decide +kernel)
set_option maxRecDepth 100000 in
theorem wd_744 : (Jvm.Cond.code ({ cls := "PurseHouseModel", name := "bag", desc := "(III)Z" } : Jvm.MethodName) prog_6_method_23_code (6 : Nat) (Option.some Jvm.ClassFile.FieldType.boolean)) ∈ lw_g := lw_in 744 (by rfl) (by decide +kernel)
theorem wd_745 : (Jvm.Cond.methodLink "PurseHouseModel" (126 : Nat) ({ cls := "PurseHouseModel", name := "isLink", desc := "(I)Z" } : Jvm.MethodName)) ∈ lw_g := lw_in 745 (by decide +kernel) (by decide +kernel)
theorem wn_746 : (Jvm.Cond.privateMethod ({ cls := "PurseHouseModel", name := "isLink", desc := "(I)Z" } : Jvm.MethodName)) ∈ lw_tbl := List.mem_of_getElem? (i := 746) (by decide +kernel)
theorem wd_747 : (Jvm.Cond.instanceMethod ({ cls := "PurseHouseModel", name := "isLink", desc := "(I)Z" } : Jvm.MethodName)) ∈ lw_g := lw_in 747 (by decide +kernel) (by decide +kernel)
set_option maxRecDepth 100000 in
theorem wd_748 : (Jvm.Cond.code ({ cls := "PurseHouseModel", name := "isLink", desc := "(I)Z" } : Jvm.MethodName) prog_6_method_5_code (2 : Nat) (Option.some Jvm.ClassFile.FieldType.boolean)) ∈ lw_g := lw_in 748 (by rfl) (by decide +kernel)
theorem wd_749 : (Jvm.Cond.methodLink "PurseHouseModel" (118 : Nat) ({ cls := "PurseHouseModel", name := "isThere", desc := "(II)Z" } : Jvm.MethodName)) ∈ lw_g := lw_in 749 (by decide +kernel) (by decide +kernel)
theorem wn_750 : (Jvm.Cond.privateMethod ({ cls := "PurseHouseModel", name := "isThere", desc := "(II)Z" } : Jvm.MethodName)) ∈ lw_tbl := List.mem_of_getElem? (i := 750) (by decide +kernel)
theorem wd_751 : (Jvm.Cond.instanceMethod ({ cls := "PurseHouseModel", name := "isThere", desc := "(II)Z" } : Jvm.MethodName)) ∈ lw_g := lw_in 751 (by decide +kernel) (by decide +kernel)
set_option maxRecDepth 100000 in
theorem wd_752 : (Jvm.Cond.code ({ cls := "PurseHouseModel", name := "isThere", desc := "(II)Z" } : Jvm.MethodName) prog_6_method_19_code (3 : Nat) (Option.some Jvm.ClassFile.FieldType.boolean)) ∈ lw_g := lw_in 752 (by rfl) (by decide +kernel)
theorem wd_753 : (Jvm.Cond.methodLink "PurseHouseModel" (129 : Nat) ({ cls := "PurseHouseModel", name := "send", desc := "(IIIII)V" } : Jvm.MethodName)) ∈ lw_g := lw_in 753 (by decide +kernel) (by decide +kernel)
theorem wn_754 : (Jvm.Cond.privateMethod ({ cls := "PurseHouseModel", name := "send", desc := "(IIIII)V" } : Jvm.MethodName)) ∈ lw_tbl := List.mem_of_getElem? (i := 754) (by decide +kernel)
theorem wd_755 : (Jvm.Cond.instanceMethod ({ cls := "PurseHouseModel", name := "send", desc := "(IIIII)V" } : Jvm.MethodName)) ∈ lw_g := lw_in 755 (by decide +kernel) (by decide +kernel)
set_option maxRecDepth 100000 in
theorem wd_756 : (Jvm.Cond.code ({ cls := "PurseHouseModel", name := "send", desc := "(IIIII)V" } : Jvm.MethodName) prog_6_method_18_code (6 : Nat) (Option.none : Option Jvm.ClassFile.FieldType)) ∈ lw_g := lw_in 756 (by rfl) (by decide +kernel)
theorem wd_757 : (Jvm.Cond.methodLink "PurseHouseLaw" (68 : Nat) ({ cls := "PurseHouseModel", name := "deliver", desc := "(II)Z" } : Jvm.MethodName)) ∈ lw_g := lw_in 757 (by decide +kernel) (by decide +kernel)
theorem wd_758 : (Jvm.Cond.instanceMethod ({ cls := "PurseHouseModel", name := "deliver", desc := "(II)Z" } : Jvm.MethodName)) ∈ lw_g := lw_in 758 (by decide +kernel) (by decide +kernel)
theorem wd_759 : (Jvm.Cond.selects "PurseHouseModel" ({ cls := "PurseHouseModel", name := "deliver", desc := "(II)Z" } : Jvm.MethodName) ({ cls := "PurseHouseModel", name := "deliver", desc := "(II)Z" } : Jvm.MethodName)) ∈ lw_g := lw_in 759 (by decide +kernel) (by decide +kernel)
set_option maxRecDepth 100000 in
theorem wd_760 : (Jvm.Cond.code ({ cls := "PurseHouseModel", name := "deliver", desc := "(II)Z" } : Jvm.MethodName) prog_6_method_25_code (5 : Nat) (Option.some Jvm.ClassFile.FieldType.boolean)) ∈ lw_g := lw_in 760 (by rfl) (by decide +kernel)
theorem wd_761 : (Jvm.Cond.methodLink "PurseHouseModel" (133 : Nat) ({ cls := "PurseHouseModel", name := "thingAt", desc := "(II)I" } : Jvm.MethodName)) ∈ lw_g := lw_in 761 (by decide +kernel) (by decide +kernel)
theorem wn_762 : (Jvm.Cond.privateMethod ({ cls := "PurseHouseModel", name := "thingAt", desc := "(II)I" } : Jvm.MethodName)) ∈ lw_tbl := List.mem_of_getElem? (i := 762) (by decide +kernel)
theorem wd_763 : (Jvm.Cond.instanceMethod ({ cls := "PurseHouseModel", name := "thingAt", desc := "(II)I" } : Jvm.MethodName)) ∈ lw_g := lw_in 763 (by decide +kernel) (by decide +kernel)
set_option maxRecDepth 100000 in
theorem wd_764 : (Jvm.Cond.code ({ cls := "PurseHouseModel", name := "thingAt", desc := "(II)I" } : Jvm.MethodName) prog_6_method_20_code (5 : Nat) (Option.some Jvm.ClassFile.FieldType.int)) ∈ lw_g := lw_in 764 (by rfl) (by decide +kernel)
theorem wd_765 : (Jvm.Cond.methodLink "PurseHouseModel" (136 : Nat) ({ cls := "PurseHouseModel", name := "record", desc := "(II)V" } : Jvm.MethodName)) ∈ lw_g := lw_in 765 (by decide +kernel) (by decide +kernel)
theorem wn_766 : (Jvm.Cond.privateMethod ({ cls := "PurseHouseModel", name := "record", desc := "(II)V" } : Jvm.MethodName)) ∈ lw_tbl := List.mem_of_getElem? (i := 766) (by decide +kernel)
theorem wd_767 : (Jvm.Cond.instanceMethod ({ cls := "PurseHouseModel", name := "record", desc := "(II)V" } : Jvm.MethodName)) ∈ lw_g := lw_in 767 (by decide +kernel) (by decide +kernel)
set_option maxRecDepth 100000 in
theorem wd_768 : (Jvm.Cond.code ({ cls := "PurseHouseModel", name := "record", desc := "(II)V" } : Jvm.MethodName) prog_6_method_24_code (4 : Nat) (Option.none : Option Jvm.ClassFile.FieldType)) ∈ lw_g := lw_in 768 (by rfl) (by decide +kernel)
theorem wd_769 : (Jvm.Cond.methodLink "PurseHouseModel" (122 : Nat) ({ cls := "PurseHouseModel", name := "recording", desc := "(II)I" } : Jvm.MethodName)) ∈ lw_g := lw_in 769 (by decide +kernel) (by decide +kernel)
theorem wn_770 : (Jvm.Cond.privateMethod ({ cls := "PurseHouseModel", name := "recording", desc := "(II)I" } : Jvm.MethodName)) ∈ lw_tbl := List.mem_of_getElem? (i := 770) (by decide +kernel)
theorem wd_771 : (Jvm.Cond.instanceMethod ({ cls := "PurseHouseModel", name := "recording", desc := "(II)I" } : Jvm.MethodName)) ∈ lw_g := lw_in 771 (by decide +kernel) (by decide +kernel)
set_option maxRecDepth 100000 in
theorem wd_772 : (Jvm.Cond.code ({ cls := "PurseHouseModel", name := "recording", desc := "(II)I" } : Jvm.MethodName) prog_6_method_21_code (3 : Nat) (Option.some Jvm.ClassFile.FieldType.int)) ∈ lw_g := lw_in 772 (by rfl) (by decide +kernel)
theorem wd_773 : (Jvm.Cond.methodLink "PurseHouseModel" (140 : Nat) ({ cls := "PurseHouseModel", name := "isMarked", desc := "(II)Z" } : Jvm.MethodName)) ∈ lw_g := lw_in 773 (by decide +kernel) (by decide +kernel)
theorem wn_774 : (Jvm.Cond.privateMethod ({ cls := "PurseHouseModel", name := "isMarked", desc := "(II)Z" } : Jvm.MethodName)) ∈ lw_tbl := List.mem_of_getElem? (i := 774) (by decide +kernel)
theorem wd_775 : (Jvm.Cond.instanceMethod ({ cls := "PurseHouseModel", name := "isMarked", desc := "(II)Z" } : Jvm.MethodName)) ∈ lw_g := lw_in 775 (by decide +kernel) (by decide +kernel)
set_option maxRecDepth 100000 in
theorem wd_776 : (Jvm.Cond.code ({ cls := "PurseHouseModel", name := "isMarked", desc := "(II)Z" } : Jvm.MethodName) prog_6_method_22_code (4 : Nat) (Option.some Jvm.ClassFile.FieldType.boolean)) ∈ lw_g := lw_in 776 (by rfl) (by decide +kernel)
theorem wd_777 : (Jvm.Cond.methodLink "PurseHouseLaw" (73 : Nat) ({ cls := "PurseHouseModel", name := "snap", desc := "(I)I" } : Jvm.MethodName)) ∈ lw_g := lw_in 777 (by decide +kernel) (by decide +kernel)
theorem wd_778 : (Jvm.Cond.instanceMethod ({ cls := "PurseHouseModel", name := "snap", desc := "(I)I" } : Jvm.MethodName)) ∈ lw_g := lw_in 778 (by decide +kernel) (by decide +kernel)
theorem wd_779 : (Jvm.Cond.selects "PurseHouseModel" ({ cls := "PurseHouseModel", name := "snap", desc := "(I)I" } : Jvm.MethodName) ({ cls := "PurseHouseModel", name := "snap", desc := "(I)I" } : Jvm.MethodName)) ∈ lw_g := lw_in 779 (by decide +kernel) (by decide +kernel)
set_option maxRecDepth 100000 in
theorem wd_780 : (Jvm.Cond.code ({ cls := "PurseHouseModel", name := "snap", desc := "(I)I" } : Jvm.MethodName) prog_6_method_26_code (2 : Nat) (Option.some Jvm.ClassFile.FieldType.int)) ∈ lw_g := lw_in 780 (by rfl) (by decide +kernel)
theorem wd_781 : (Jvm.Cond.methodLink "PurseHouseLaw" (77 : Nat) ({ cls := "PurseHouseModel", name := "stock", desc := "(II)J" } : Jvm.MethodName)) ∈ lw_g := lw_in 781 (by decide +kernel) (by decide +kernel)
theorem wd_782 : (Jvm.Cond.instanceMethod ({ cls := "PurseHouseModel", name := "stock", desc := "(II)J" } : Jvm.MethodName)) ∈ lw_g := lw_in 782 (by decide +kernel) (by decide +kernel)
theorem wd_783 : (Jvm.Cond.selects "PurseHouseModel" ({ cls := "PurseHouseModel", name := "stock", desc := "(II)J" } : Jvm.MethodName) ({ cls := "PurseHouseModel", name := "stock", desc := "(II)J" } : Jvm.MethodName)) ∈ lw_g := lw_in 783 (by decide +kernel) (by decide +kernel)
set_option maxRecDepth 100000 in
theorem wd_784 : (Jvm.Cond.code ({ cls := "PurseHouseModel", name := "stock", desc := "(II)J" } : Jvm.MethodName) prog_6_method_27_code (3 : Nat) (Option.some Jvm.ClassFile.FieldType.long)) ∈ lw_g := lw_in 784 (by rfl) (by decide +kernel)
theorem wd_785 : (Jvm.Cond.methodLink "PurseHouseLaw" (81 : Nat) ({ cls := "PurseHouseModel", name := "till", desc := "(II)J" } : Jvm.MethodName)) ∈ lw_g := lw_in 785 (by decide +kernel) (by decide +kernel)
theorem wd_786 : (Jvm.Cond.instanceMethod ({ cls := "PurseHouseModel", name := "till", desc := "(II)J" } : Jvm.MethodName)) ∈ lw_g := lw_in 786 (by decide +kernel) (by decide +kernel)
theorem wd_787 : (Jvm.Cond.selects "PurseHouseModel" ({ cls := "PurseHouseModel", name := "till", desc := "(II)J" } : Jvm.MethodName) ({ cls := "PurseHouseModel", name := "till", desc := "(II)J" } : Jvm.MethodName)) ∈ lw_g := lw_in 787 (by decide +kernel) (by decide +kernel)
set_option maxRecDepth 100000 in
theorem wd_788 : (Jvm.Cond.code ({ cls := "PurseHouseModel", name := "till", desc := "(II)J" } : Jvm.MethodName) prog_6_method_28_code (3 : Nat) (Option.some Jvm.ClassFile.FieldType.long)) ∈ lw_g := lw_in 788 (by rfl) (by decide +kernel)
theorem wd_789 : (Jvm.Cond.methodLink "PurseHouseModel" (143 : Nat) ({ cls := "PurseHouseModel", name := "tillAt", desc := "(III)J" } : Jvm.MethodName)) ∈ lw_g := lw_in 789 (by decide +kernel) (by decide +kernel)
theorem wn_790 : (Jvm.Cond.privateMethod ({ cls := "PurseHouseModel", name := "tillAt", desc := "(III)J" } : Jvm.MethodName)) ∈ lw_tbl := List.mem_of_getElem? (i := 790) (by decide +kernel)
theorem wd_791 : (Jvm.Cond.instanceMethod ({ cls := "PurseHouseModel", name := "tillAt", desc := "(III)J" } : Jvm.MethodName)) ∈ lw_g := lw_in 791 (by decide +kernel) (by decide +kernel)
set_option maxRecDepth 100000 in
theorem wd_792 : (Jvm.Cond.code ({ cls := "PurseHouseModel", name := "tillAt", desc := "(III)J" } : Jvm.MethodName) prog_6_method_12_code (7 : Nat) (Option.some Jvm.ClassFile.FieldType.long)) ∈ lw_g := lw_in 792 (by rfl) (by decide +kernel)
theorem wd_793 : (Jvm.Cond.methodLink "PurseHouseLaw" (85 : Nat) ({ cls := "PurseHouseModel", name := "onLink", desc := "(I)I" } : Jvm.MethodName)) ∈ lw_g := lw_in 793 (by decide +kernel) (by decide +kernel)
theorem wd_794 : (Jvm.Cond.instanceMethod ({ cls := "PurseHouseModel", name := "onLink", desc := "(I)I" } : Jvm.MethodName)) ∈ lw_g := lw_in 794 (by decide +kernel) (by decide +kernel)
theorem wd_795 : (Jvm.Cond.selects "PurseHouseModel" ({ cls := "PurseHouseModel", name := "onLink", desc := "(I)I" } : Jvm.MethodName) ({ cls := "PurseHouseModel", name := "onLink", desc := "(I)I" } : Jvm.MethodName)) ∈ lw_g := lw_in 795 (by decide +kernel) (by decide +kernel)
set_option maxRecDepth 100000 in
theorem wd_796 : (Jvm.Cond.code ({ cls := "PurseHouseModel", name := "onLink", desc := "(I)I" } : Jvm.MethodName) prog_6_method_29_code (4 : Nat) (Option.some Jvm.ClassFile.FieldType.int)) ∈ lw_g := lw_in 796 (by rfl) (by decide +kernel)
theorem wd_797 : (Jvm.Cond.methodLink "PurseHouseLaw" (89 : Nat) ({ cls := "PurseHouseModel", name := "thing", desc := "(III)I" } : Jvm.MethodName)) ∈ lw_g := lw_in 797 (by decide +kernel) (by decide +kernel)
theorem wd_798 : (Jvm.Cond.instanceMethod ({ cls := "PurseHouseModel", name := "thing", desc := "(III)I" } : Jvm.MethodName)) ∈ lw_g := lw_in 798 (by decide +kernel) (by decide +kernel)
theorem wd_799 : (Jvm.Cond.selects "PurseHouseModel" ({ cls := "PurseHouseModel", name := "thing", desc := "(III)I" } : Jvm.MethodName) ({ cls := "PurseHouseModel", name := "thing", desc := "(III)I" } : Jvm.MethodName)) ∈ lw_g := lw_in 799 (by decide +kernel) (by decide +kernel)
set_option maxRecDepth 100000 in
theorem wd_800 : (Jvm.Cond.code ({ cls := "PurseHouseModel", name := "thing", desc := "(III)I" } : Jvm.MethodName) prog_6_method_30_code (7 : Nat) (Option.some Jvm.ClassFile.FieldType.int)) ∈ lw_g := lw_in 800 (by rfl) (by decide +kernel)
theorem wd_801 : (Jvm.Cond.methodLink "PurseHouseLaw" (97 : Nat) ({ cls := "PurseHouseModel", name := "recorded", desc := "(II)Z" } : Jvm.MethodName)) ∈ lw_g := lw_in 801 (by decide +kernel) (by decide +kernel)
theorem wd_802 : (Jvm.Cond.instanceMethod ({ cls := "PurseHouseModel", name := "recorded", desc := "(II)Z" } : Jvm.MethodName)) ∈ lw_g := lw_in 802 (by decide +kernel) (by decide +kernel)
theorem wd_803 : (Jvm.Cond.selects "PurseHouseModel" ({ cls := "PurseHouseModel", name := "recorded", desc := "(II)Z" } : Jvm.MethodName) ({ cls := "PurseHouseModel", name := "recorded", desc := "(II)Z" } : Jvm.MethodName)) ∈ lw_g := lw_in 803 (by decide +kernel) (by decide +kernel)
set_option maxRecDepth 100000 in
theorem wd_804 : (Jvm.Cond.code ({ cls := "PurseHouseModel", name := "recorded", desc := "(II)Z" } : Jvm.MethodName) prog_6_method_31_code (3 : Nat) (Option.some Jvm.ClassFile.FieldType.boolean)) ∈ lw_g := lw_in 804 (by rfl) (by decide +kernel)
theorem wd_805 : (Jvm.Cond.methodLink "PurseHouseModel" (146 : Nat) ({ cls := "PurseHouseModel", name := "isNumber", desc := "(I)Z" } : Jvm.MethodName)) ∈ lw_g := lw_in 805 (by decide +kernel) (by decide +kernel)
theorem wn_806 : (Jvm.Cond.privateMethod ({ cls := "PurseHouseModel", name := "isNumber", desc := "(I)Z" } : Jvm.MethodName)) ∈ lw_tbl := List.mem_of_getElem? (i := 806) (by decide +kernel)
theorem wd_807 : (Jvm.Cond.instanceMethod ({ cls := "PurseHouseModel", name := "isNumber", desc := "(I)Z" } : Jvm.MethodName)) ∈ lw_g := lw_in 807 (by decide +kernel) (by decide +kernel)
set_option maxRecDepth 100000 in
theorem wd_808 : (Jvm.Cond.code ({ cls := "PurseHouseModel", name := "isNumber", desc := "(I)Z" } : Jvm.MethodName) prog_6_method_6_code (2 : Nat) (Option.some Jvm.ClassFile.FieldType.boolean)) ∈ lw_g := lw_in 808 (by rfl) (by decide +kernel)
theorem wd_809 : (Jvm.Cond.methodLink "PurseHouseLaw" (102 : Nat) ({ cls := "PurseHouseModel", name := "finished", desc := "(I)Z" } : Jvm.MethodName)) ∈ lw_g := lw_in 809 (by decide +kernel) (by decide +kernel)
theorem wd_810 : (Jvm.Cond.instanceMethod ({ cls := "PurseHouseModel", name := "finished", desc := "(I)Z" } : Jvm.MethodName)) ∈ lw_g := lw_in 810 (by decide +kernel) (by decide +kernel)
theorem wd_811 : (Jvm.Cond.selects "PurseHouseModel" ({ cls := "PurseHouseModel", name := "finished", desc := "(I)Z" } : Jvm.MethodName) ({ cls := "PurseHouseModel", name := "finished", desc := "(I)Z" } : Jvm.MethodName)) ∈ lw_g := lw_in 811 (by decide +kernel) (by decide +kernel)
set_option maxRecDepth 100000 in
theorem wd_812 : (Jvm.Cond.code ({ cls := "PurseHouseModel", name := "finished", desc := "(I)Z" } : Jvm.MethodName) prog_6_method_34_code (4 : Nat) (Option.some Jvm.ClassFile.FieldType.boolean)) ∈ lw_g := lw_in 812 (by rfl) (by decide +kernel)
theorem wd_813 : (Jvm.Cond.methodLink "PurseHouseModel" (152 : Nat) ({ cls := "PurseHouseModel", name := "isDone", desc := "(II)Z" } : Jvm.MethodName)) ∈ lw_g := lw_in 813 (by decide +kernel) (by decide +kernel)
theorem wn_814 : (Jvm.Cond.privateMethod ({ cls := "PurseHouseModel", name := "isDone", desc := "(II)Z" } : Jvm.MethodName)) ∈ lw_tbl := List.mem_of_getElem? (i := 814) (by decide +kernel)
theorem wd_815 : (Jvm.Cond.instanceMethod ({ cls := "PurseHouseModel", name := "isDone", desc := "(II)Z" } : Jvm.MethodName)) ∈ lw_g := lw_in 815 (by decide +kernel) (by decide +kernel)
set_option maxRecDepth 100000 in
theorem wd_816 : (Jvm.Cond.code ({ cls := "PurseHouseModel", name := "isDone", desc := "(II)Z" } : Jvm.MethodName) prog_6_method_33_code (5 : Nat) (Option.some Jvm.ClassFile.FieldType.boolean)) ∈ lw_g := lw_in 816 (by rfl) (by decide +kernel)
theorem wd_817 : (Jvm.Cond.methodLink "PurseHouseModel" (149 : Nat) ({ cls := "PurseHouseModel", name := "markerAt", desc := "(II)I" } : Jvm.MethodName)) ∈ lw_g := lw_in 817 (by decide +kernel) (by decide +kernel)
theorem wn_818 : (Jvm.Cond.privateMethod ({ cls := "PurseHouseModel", name := "markerAt", desc := "(II)I" } : Jvm.MethodName)) ∈ lw_tbl := List.mem_of_getElem? (i := 818) (by decide +kernel)
theorem wd_819 : (Jvm.Cond.instanceMethod ({ cls := "PurseHouseModel", name := "markerAt", desc := "(II)I" } : Jvm.MethodName)) ∈ lw_g := lw_in 819 (by decide +kernel) (by decide +kernel)
set_option maxRecDepth 100000 in
theorem wd_820 : (Jvm.Cond.code ({ cls := "PurseHouseModel", name := "markerAt", desc := "(II)I" } : Jvm.MethodName) prog_6_method_32_code (4 : Nat) (Option.some Jvm.ClassFile.FieldType.int)) ∈ lw_g := lw_in 820 (by rfl) (by decide +kernel)
theorem wd_821 : (Jvm.Cond.methodLink "PurseHouseLaw" (106 : Nat) ({ cls := "PurseHouseModel", name := "piece", desc := "(IIII)J" } : Jvm.MethodName)) ∈ lw_g := lw_in 821 (by decide +kernel) (by decide +kernel)
theorem wd_822 : (Jvm.Cond.instanceMethod ({ cls := "PurseHouseModel", name := "piece", desc := "(IIII)J" } : Jvm.MethodName)) ∈ lw_g := lw_in 822 (by decide +kernel) (by decide +kernel)
theorem wd_823 : (Jvm.Cond.selects "PurseHouseModel" ({ cls := "PurseHouseModel", name := "piece", desc := "(IIII)J" } : Jvm.MethodName) ({ cls := "PurseHouseModel", name := "piece", desc := "(IIII)J" } : Jvm.MethodName)) ∈ lw_g := lw_in 823 (by decide +kernel) (by decide +kernel)
set_option maxRecDepth 100000 in
theorem wd_824 : (Jvm.Cond.code ({ cls := "PurseHouseModel", name := "piece", desc := "(IIII)J" } : Jvm.MethodName) prog_6_method_35_code (6 : Nat) (Option.some Jvm.ClassFile.FieldType.long)) ∈ lw_g := lw_in 824 (by rfl) (by decide +kernel)
theorem wd_825 : (Jvm.Cond.methodLink "PurseHouseLaw" (111 : Nat) ({ cls := "PurseHouseModel", name := "road", desc := "(III)J" } : Jvm.MethodName)) ∈ lw_g := lw_in 825 (by decide +kernel) (by decide +kernel)
theorem wd_826 : (Jvm.Cond.instanceMethod ({ cls := "PurseHouseModel", name := "road", desc := "(III)J" } : Jvm.MethodName)) ∈ lw_g := lw_in 826 (by decide +kernel) (by decide +kernel)
theorem wd_827 : (Jvm.Cond.selects "PurseHouseModel" ({ cls := "PurseHouseModel", name := "road", desc := "(III)J" } : Jvm.MethodName) ({ cls := "PurseHouseModel", name := "road", desc := "(III)J" } : Jvm.MethodName)) ∈ lw_g := lw_in 827 (by decide +kernel) (by decide +kernel)
set_option maxRecDepth 100000 in
theorem wd_828 : (Jvm.Cond.code ({ cls := "PurseHouseModel", name := "road", desc := "(III)J" } : Jvm.MethodName) prog_6_method_37_code (4 : Nat) (Option.some Jvm.ClassFile.FieldType.long)) ∈ lw_g := lw_in 828 (by rfl) (by decide +kernel)
theorem wd_829 : (Jvm.Cond.methodLink "PurseHouseModel" (155 : Nat) ({ cls := "PurseHouseModel", name := "roadOf", desc := "(III)J" } : Jvm.MethodName)) ∈ lw_g := lw_in 829 (by decide +kernel) (by decide +kernel)
theorem wn_830 : (Jvm.Cond.privateMethod ({ cls := "PurseHouseModel", name := "roadOf", desc := "(III)J" } : Jvm.MethodName)) ∈ lw_tbl := List.mem_of_getElem? (i := 830) (by decide +kernel)
theorem wd_831 : (Jvm.Cond.instanceMethod ({ cls := "PurseHouseModel", name := "roadOf", desc := "(III)J" } : Jvm.MethodName)) ∈ lw_g := lw_in 831 (by decide +kernel) (by decide +kernel)
set_option maxRecDepth 100000 in
theorem wd_832 : (Jvm.Cond.code ({ cls := "PurseHouseModel", name := "roadOf", desc := "(III)J" } : Jvm.MethodName) prog_6_method_36_code (10 : Nat) (Option.some Jvm.ClassFile.FieldType.long)) ∈ lw_g := lw_in 832 (by rfl) (by decide +kernel)
theorem wd_833 : (Jvm.Cond.methodLink "PurseHouseLaw" (115 : Nat) ({ cls := "PurseHouseModel", name := "total", desc := "(II)J" } : Jvm.MethodName)) ∈ lw_g := lw_in 833 (by decide +kernel) (by decide +kernel)
theorem wd_834 : (Jvm.Cond.instanceMethod ({ cls := "PurseHouseModel", name := "total", desc := "(II)J" } : Jvm.MethodName)) ∈ lw_g := lw_in 834 (by decide +kernel) (by decide +kernel)
theorem wd_835 : (Jvm.Cond.selects "PurseHouseModel" ({ cls := "PurseHouseModel", name := "total", desc := "(II)J" } : Jvm.MethodName) ({ cls := "PurseHouseModel", name := "total", desc := "(II)J" } : Jvm.MethodName)) ∈ lw_g := lw_in 835 (by decide +kernel) (by decide +kernel)
set_option maxRecDepth 100000 in
theorem wd_836 : (Jvm.Cond.code ({ cls := "PurseHouseModel", name := "total", desc := "(II)J" } : Jvm.MethodName) prog_6_method_38_code (7 : Nat) (Option.some Jvm.ClassFile.FieldType.long)) ∈ lw_g := lw_in 836 (by rfl) (by decide +kernel)
theorem wd_837 : (Jvm.Cond.methodLink "PurseHouseModel" (158 : Nat) ({ cls := "PurseHouseModel", name := "finished", desc := "(I)Z" } : Jvm.MethodName)) ∈ lw_g := lw_in 837 (by decide +kernel) (by decide +kernel)
theorem wd_838 : (Jvm.Cond.methodLink "PurseHouseLaw" (119 : Nat) ({ cls := "PurseHouseModel", name := "minted", desc := "(II)J" } : Jvm.MethodName)) ∈ lw_g := lw_in 838 (by decide +kernel) (by decide +kernel)
theorem wd_839 : (Jvm.Cond.instanceMethod ({ cls := "PurseHouseModel", name := "minted", desc := "(II)J" } : Jvm.MethodName)) ∈ lw_g := lw_in 839 (by decide +kernel) (by decide +kernel)
theorem wd_840 : (Jvm.Cond.selects "PurseHouseModel" ({ cls := "PurseHouseModel", name := "minted", desc := "(II)J" } : Jvm.MethodName) ({ cls := "PurseHouseModel", name := "minted", desc := "(II)J" } : Jvm.MethodName)) ∈ lw_g := lw_in 840 (by decide +kernel) (by decide +kernel)
set_option maxRecDepth 100000 in
theorem wd_841 : (Jvm.Cond.code ({ cls := "PurseHouseModel", name := "minted", desc := "(II)J" } : Jvm.MethodName) prog_6_method_39_code (6 : Nat) (Option.some Jvm.ClassFile.FieldType.long)) ∈ lw_g := lw_in 841 (by rfl) (by decide +kernel)
theorem wd_842 : (Jvm.Cond.methodLink "PurseHouseModel" (161 : Nat) ({ cls := "PurseHouseModel", name := "mintedAt", desc := "(III)J" } : Jvm.MethodName)) ∈ lw_g := lw_in 842 (by decide +kernel) (by decide +kernel)
theorem wn_843 : (Jvm.Cond.privateMethod ({ cls := "PurseHouseModel", name := "mintedAt", desc := "(III)J" } : Jvm.MethodName)) ∈ lw_tbl := List.mem_of_getElem? (i := 843) (by decide +kernel)
theorem wd_844 : (Jvm.Cond.instanceMethod ({ cls := "PurseHouseModel", name := "mintedAt", desc := "(III)J" } : Jvm.MethodName)) ∈ lw_g := lw_in 844 (by decide +kernel) (by decide +kernel)
set_option maxRecDepth 100000 in
theorem wd_845 : (Jvm.Cond.code ({ cls := "PurseHouseModel", name := "mintedAt", desc := "(III)J" } : Jvm.MethodName) prog_6_method_13_code (7 : Nat) (Option.some Jvm.ClassFile.FieldType.long)) ∈ lw_g := lw_in 845 (by rfl) (by decide +kernel)
theorem wd_846 : (Jvm.Cond.methodLink "PurseHouseLaw" (124 : Nat) ({ cls := "PurseHouseModel", name := "trueTotal", desc := "(I)J" } : Jvm.MethodName)) ∈ lw_g := lw_in 846 (by decide +kernel) (by decide +kernel)
theorem wd_847 : (Jvm.Cond.instanceMethod ({ cls := "PurseHouseModel", name := "trueTotal", desc := "(I)J" } : Jvm.MethodName)) ∈ lw_g := lw_in 847 (by decide +kernel) (by decide +kernel)
theorem wd_848 : (Jvm.Cond.selects "PurseHouseModel" ({ cls := "PurseHouseModel", name := "trueTotal", desc := "(I)J" } : Jvm.MethodName) ({ cls := "PurseHouseModel", name := "trueTotal", desc := "(I)J" } : Jvm.MethodName)) ∈ lw_g := lw_in 848 (by decide +kernel) (by decide +kernel)
set_option maxRecDepth 100000 in
theorem wd_849 : (Jvm.Cond.code ({ cls := "PurseHouseModel", name := "trueTotal", desc := "(I)J" } : Jvm.MethodName) prog_6_method_40_code (5 : Nat) (Option.some Jvm.ClassFile.FieldType.long)) ∈ lw_g := lw_in 849 (by rfl) (by decide +kernel)
theorem wd_850 : (Jvm.Cond.methodLink "PurseHouseLaw" (131 : Nat) ({ cls := "PurseHouseModel", name := "below", desc := "(IIJ)I" } : Jvm.MethodName)) ∈ lw_g := lw_in 850 (by decide +kernel) (by decide +kernel)
theorem wd_851 : (Jvm.Cond.instanceMethod ({ cls := "PurseHouseModel", name := "below", desc := "(IIJ)I" } : Jvm.MethodName)) ∈ lw_g := lw_in 851 (by decide +kernel) (by decide +kernel)
theorem wd_852 : (Jvm.Cond.selects "PurseHouseModel" ({ cls := "PurseHouseModel", name := "below", desc := "(IIJ)I" } : Jvm.MethodName) ({ cls := "PurseHouseModel", name := "below", desc := "(IIJ)I" } : Jvm.MethodName)) ∈ lw_g := lw_in 852 (by decide +kernel) (by decide +kernel)
set_option maxRecDepth 100000 in
theorem wd_853 : (Jvm.Cond.code ({ cls := "PurseHouseModel", name := "below", desc := "(IIJ)I" } : Jvm.MethodName) prog_6_method_41_code (6 : Nat) (Option.some Jvm.ClassFile.FieldType.int)) ∈ lw_g := lw_in 853 (by rfl) (by decide +kernel)
theorem wd_854 : (Jvm.Cond.methodLink "PurseHouseLaw" (136 : Nat) ({ cls := "PurseHouseModel", name := "events", desc := "(II)I" } : Jvm.MethodName)) ∈ lw_g := lw_in 854 (by decide +kernel) (by decide +kernel)
theorem wd_855 : (Jvm.Cond.instanceMethod ({ cls := "PurseHouseModel", name := "events", desc := "(II)I" } : Jvm.MethodName)) ∈ lw_g := lw_in 855 (by decide +kernel) (by decide +kernel)
theorem wd_856 : (Jvm.Cond.selects "PurseHouseModel" ({ cls := "PurseHouseModel", name := "events", desc := "(II)I" } : Jvm.MethodName) ({ cls := "PurseHouseModel", name := "events", desc := "(II)I" } : Jvm.MethodName)) ∈ lw_g := lw_in 856 (by decide +kernel) (by decide +kernel)
set_option maxRecDepth 100000 in
theorem wd_857 : (Jvm.Cond.code ({ cls := "PurseHouseModel", name := "events", desc := "(II)I" } : Jvm.MethodName) prog_6_method_42_code (6 : Nat) (Option.some Jvm.ClassFile.FieldType.int)) ∈ lw_g := lw_in 857 (by rfl) (by decide +kernel)
theorem wd_858 : (Jvm.Cond.constantLong "PurseHouseLaw" (125 : Nat) (4294967295 : Int64)) ∈ lw_g := lw_in 858 (by decide +kernel) (by decide +kernel)
theorem wd_859 : (Jvm.Cond.sameMethod "java/lang/Throwable" "java/lang/Throwable" "fillInStackTrace" "(I)Ljava/lang/Throwable;") ∈ lw_g := lw_in 859 (by decide +kernel) (by decide +kernel)
theorem wn_860 : (Jvm.Cond.castable "PurseHouse$Link" "PurseHouse$Link") ∈ lw_tbl := List.mem_of_getElem? (i := 860) (by decide +kernel)
theorem wn_861 : (Jvm.Cond.castable "PurseHouse$Thing" "PurseHouse$Thing") ∈ lw_tbl := List.mem_of_getElem? (i := 861) (by decide +kernel)
theorem wd_862 : (Jvm.Cond.sameMethod "[Ljava/lang/Object;" "java/lang/Object" "getClass" "()Ljava/lang/Class;") ∈ lw_g := lw_in 862 (by decide +kernel) (by decide +kernel)
theorem wd_863 : (Jvm.Cond.selects "[Ljava/lang/Object;" ({ cls := "java/lang/Object", name := "getClass", desc := "()Ljava/lang/Class;" } : Jvm.MethodName) ({ cls := "java/lang/Object", name := "getClass", desc := "()Ljava/lang/Class;" } : Jvm.MethodName)) ∈ lw_g := lw_in 863 (by decide +kernel) (by decide +kernel)
theorem wn_864 : (Jvm.Cond.declares ({ cls := "java/lang/Object", name := "getClass", desc := "()Ljava/lang/Class;" } : Jvm.MethodName)) ∈ lw_tbl := List.mem_of_getElem? (i := 864) (by decide +kernel)
theorem wn_865 : (Jvm.Cond.castable "PurseHouse" "java/lang/Object") ∈ lw_tbl := List.mem_of_getElem? (i := 865) (by decide +kernel)
theorem wn_866 : (Jvm.Cond.castable "PurseHouse$Kiosk" "java/lang/Object") ∈ lw_tbl := List.mem_of_getElem? (i := 866) (by decide +kernel)
theorem wn_867 : (Jvm.Cond.castable "PurseHouseModel" "java/lang/Object") ∈ lw_tbl := List.mem_of_getElem? (i := 867) (by decide +kernel)
theorem wn_868 : (Jvm.Cond.castable "PurseHouse$Link" "java/lang/Object") ∈ lw_tbl := List.mem_of_getElem? (i := 868) (by decide +kernel)
theorem wn_869 : (Jvm.Cond.castable "PurseHouse$Thing" "java/lang/Object") ∈ lw_tbl := List.mem_of_getElem? (i := 869) (by decide +kernel)
theorem wn_870 : (Jvm.Cond.castable "java/lang/String" "java/lang/Object") ∈ lw_tbl := List.mem_of_getElem? (i := 870) (by decide +kernel)
end
section
/-! The map kit (mine): the memory that a walk may touch is a map from some addresses to contents (mo_M). All its cells lie at L0 or above; a contract speaks of ONE such map, so no call needs a frame. Over the kit's pools (va_pl). -/
abbrev mo_M : Type := Nat → Option va_E
def mo_in (L0 : Nat) (D : va_G) (cl : List vw_C) (M : mo_M) (H : Heap) : Prop := ∃ (L : List Nat) (f : Nat → va_E), (∀ a e, M a = some e → a ∈ L ∧ f a = e) ∧ va_P D cl (va_pl L f) H ∧ va_D (fun q => L0 ≤ q) (va_pl L f)
def mo_AA (ty : FieldType) (U : State) : Prop := (Cond.arrayOver (.array ty)).before #[] U = true
theorem mo_AAm {ty : FieldType} {u U : State} (hvm : u.vm.Alike U.vm) (h : mo_AA ty u) : mo_AA ty U := over_moved (a := #[]) (a' := #[]) hvm h
def mo_X (mi : Nat) (U : State) : Prop := (∀ w ∈ lw_tbl, lw_nk w = true → va_Nw w U) ∧ va_AO "PurseHouse$Kiosk" U ∧ va_AO "java/lang/Object" U ∧ va_Mi "[Ljava/lang/Object;" mi U ∧ mo_AA .int U ∧ mo_AA .long U
/-- what old cells and the tables say beside the words -/
def mo_E (L0 : Nat) (e0 : Nat → Nat) (U : State) (H : Heap) : Prop := mo_X (e0 1) U ∧ va_Z "java/util/ArrayList" "DEFAULTCAPACITY_EMPTY_ELEMENTDATA" "[Ljava/lang/Object;" (.ref (e0 0)) (fun q => L0 ≤ q) U H ∧ va_T (.object "java/lang/Object") (e0 0) 0 (fun _ => .null) (fun q => L0 ≤ q) U H
theorem mo_nkw {s U : State} (hW : s.WarmedH U.vm) {w : Cond} (hk : lw_nk w = true) (h : va_Nw w s) : va_Nw w U := by
  cases w <;> first | exact va_Nw.warmM hW h | exact va_Nw.warmF hW h | exact va_Nw.warmC hW h | exact va_Nw.warmD hW h | (exact absurd hk (by simp [lw_nk]))
theorem mo_nks {s U : State} (hW : s.vm = U.vm) {w : Cond} (hk : lw_nk w = true) (h : va_Nw w s) : va_Nw w U := by
  cases w <;> first | exact va_Nw.same rfl hW h | exact absurd hk (by simp [lw_nk])
theorem mo_Xw {mi : Nat} {s U : State} (hW : s.WarmedH U.vm) (h : mo_X mi s) : mo_X mi U := by
  obtain ⟨h1, h2, h3, h4, h5, h6⟩ := h
  exact ⟨fun w hw hk => mo_nkw hW hk (h1 w hw hk), h2.moved hW.alike, h3.moved hW.alike, h4.moved hW.alike, mo_AAm hW.alike h5, mo_AAm hW.alike h6⟩
theorem mo_Xs {mi : Nat} {s U : State} (hW : s.vm = U.vm) (h : mo_X mi s) : mo_X mi U := by
  obtain ⟨h1, h2, h3, h4, h5, h6⟩ := h
  have ha : s.vm.Alike U.vm := by rw [hW]; exact Vm.Alike.refl _
  exact ⟨fun w hw hk => mo_nks hW hk (h1 w hw hk), h2.moved ha, h3.moved ha, h4.moved ha, mo_AAm ha h5, mo_AAm ha h6⟩
theorem mo_Ew {L0 : Nat} {e0 : Nat → Nat} {s U : State} {H : Heap} {locs : List Loc} (hW : s.WarmedH U.vm) (hS : va_S (fun q => L0 ≤ q) s.heap H locs) (h : mo_E L0 e0 s s.heap) : mo_E L0 e0 U H := ⟨mo_Xw hW h.1, (h.2.1.moved hW.alike).kept hS.2.1, (h.2.2.moved hW.alike).kept hS.2.1⟩
theorem mo_Es {L0 : Nat} {e0 : Nat → Nat} {s U : State} {H : Heap} (hW : s.vm = U.vm) (h : mo_E L0 e0 s H) : mo_E L0 e0 U H := by
  have ha : s.vm.Alike U.vm := by rw [hW]; exact Vm.Alike.refl _
  exact ⟨mo_Xs hW h.1, h.2.1.moved ha, h.2.2.moved ha⟩
def mo_B (L0 : Nat) (e0 : Nat → Nat) (D : va_G) (cl : List vw_C) (tys : List (ClassId × FieldType)) (M : mo_M) (U : State) : Prop := L0 ≤ U.heap.size ∧ (va_K D cl tys U ∧ mo_E L0 e0 U U.heap) ∧ mo_in L0 D cl M U.heap
def mo_ok (L0 : Nat) (e0 : Nat → Nat) (D : va_G) (cl : List vw_C) (tys : List (ClassId × FieldType)) (s : State) (M : mo_M) (H : Heap) (locs : List Loc) : Prop := L0 ≤ s.heap.size ∧ (va_K D cl tys s ∧ mo_E L0 e0 s s.heap) ∧ mo_in L0 D cl M H ∧ va_S (fun q => L0 ≤ q) s.heap H locs
theorem mo_up {L : List Nat} {f : Nat → va_E} {M : mo_M} {a : Nat} {e' : va_E} (h : ∀ a e, M a = some e → a ∈ L ∧ f a = e) (ha : a ∈ L) : ∀ b e, va_up M a (some e') b = some e → b ∈ L ∧ va_up f a e' b = e := by
  intro b e hb
  by_cases q : b = a
  · subst q
    rw [va_up_self] at hb
    cases hb
    exact ⟨ha, va_up_self _ _ _⟩
  · rw [va_up_ne _ _ q] at hb
    obtain ⟨h1, h2⟩ := h b e hb
    exact ⟨h1, by rw [va_up_ne _ _ q]; exact h2⟩
theorem mo_nw {L : List Nat} {f : Nat → va_E} {M : mo_M} {a : Nat} {e' : va_E} (h : ∀ a e, M a = some e → a ∈ L ∧ f a = e) : ∀ b e, va_up M a (some e') b = some e → b ∈ L ++ [a] ∧ va_up f a e' b = e := by
  intro b e hb
  by_cases q : b = a
  · subst q
    rw [va_up_self] at hb
    cases hb
    exact ⟨List.mem_append_right _ List.mem_cons_self, va_up_self _ _ _⟩
  · rw [va_up_ne _ _ q] at hb
    obtain ⟨h1, h2⟩ := h b e hb
    exact ⟨List.mem_append_left _ h1, by rw [va_up_ne _ _ q]; exact h2⟩
theorem mo_at {D : va_G} {cl : List vw_C} {L : List Nat} {f : Nat → va_E} {a : Nat} {e : va_E} (h1 : a ∈ L) (h2 : f a = e) : ∃ k : Nat, (va_pl L f)[k]? = some (a, e) := by
  obtain ⟨k, hk⟩ := va_pl_get (X := []) (f := f) h1
  exact ⟨k, by rw [← h2]; exact hk⟩
theorem mo_setP {D : va_G} {cl : List vw_C} {A : Nat → Prop} {L : List Nat} {f : Nat → va_E} {a k : Nat} {e e' : va_E} {H1 : Heap} (hD : va_D A (va_pl L f)) (h1 : a ∈ L) (h2 : f a = e) (hk : (va_pl L f)[k]? = some (a, e)) (hP : va_P D cl ((va_pl L f).set k (a, e')) H1) : va_P D cl (va_pl L (va_up f a e')) H1 := by
  have := va_pl_set (X := []) (e := e') hD h1 (by rw [h2]; exact hk)
  rw [List.nil_append, List.nil_append] at this
  rw [← this]
  exact hP
theorem mo_setD {A : Nat → Prop} {L : List Nat} {f : Nat → va_E} {a k : Nat} {e e' : va_E} (hD : va_D A (va_pl L f)) (h1 : a ∈ L) (h2 : f a = e) (hk : (va_pl L f)[k]? = some (a, e)) : va_D A (va_pl L (va_up f a e')) := by
  have := va_pl_set (X := []) (e := e') hD h1 (by rw [h2]; exact hk)
  rw [List.nil_append, List.nil_append] at this
  rw [← this]
  exact hD.set hk
theorem mo_lt {L0 : Nat} {D : va_G} {cl : List vw_C} {M : mo_M} {H : Heap} (h : mo_in L0 D cl M H) {a : Nat} {e : va_E} (ha : M a = some e) : L0 ≤ a ∧ a < H.size := by
  obtain ⟨L, f, hM, hP, hD⟩ := h
  obtain ⟨h1, h2⟩ := hM a e ha
  obtain ⟨k, hk⟩ := mo_at (D := D) (cl := cl) h1 h2
  exact ⟨hD.2 k _ hk, (hP k _ hk).lt⟩
theorem mo_has {L0 : Nat} {D : va_G} {cl : List vw_C} {M : mo_M} {H : Heap} (h : mo_in L0 D cl M H) {a : Nat} {e : va_E} (ha : M a = some e) : va_at D cl (a, e) H := by
  obtain ⟨L, f, hM, hP, hD⟩ := h
  obtain ⟨h1, h2⟩ := hM a e ha
  obtain ⟨k, hk⟩ := mo_at (D := D) (cl := cl) h1 h2
  exact hP k _ hk
/-- one cell is written -/
theorem mo_wr {L0 : Nat} {D : va_G} {cl : List vw_C} {M : mo_M} {H H1 : Heap} {a : Nat} {e e' : va_E} (h : mo_in L0 D cl M H) (ha : M a = some e) (he : va_at D cl (a, e') H1) (oq : ∀ q : Nat, q ≠ a → H1[q]? = H[q]?) : mo_in L0 D cl (va_up M a (some e')) H1 := by
  obtain ⟨L, f, hM, hP, hD⟩ := h
  obtain ⟨h1, h2⟩ := hM a e ha
  obtain ⟨k, hk⟩ := mo_at (D := D) (cl := cl) h1 h2
  exact ⟨L, va_up f a e', mo_up hM h1, mo_setP hD h1 h2 hk (hP.set hD hk he oq), mo_setD hD h1 h2 hk⟩
/-- a cell is new -/
theorem mo_cr {L0 : Nat} {D : va_G} {cl : List vw_C} {M : mo_M} {H H1 : Heap} {e' : va_E} (h : mo_in L0 D cl M H) (h0 : L0 ≤ H.size) (he : va_at D cl (H.size, e') H1) (oq : ∀ q : Nat, q < H.size → H1[q]? = H[q]?) : mo_in L0 D cl (va_up M H.size (some e')) H1 := by
  obtain ⟨L, f, hM, hP, hD⟩ := h
  have hn : H.size ∉ L := va_pl_fresh (X := []) hP (Nat.le_refl _)
  refine ⟨L ++ [H.size], va_up f H.size e', mo_nw hM, ?_, ?_⟩
  · rw [← va_pl_push hn]
    refine va_P.app (hP.kept (fun k x hx => oq x.1 ((hP k x hx).lt))) (fun k x hx => ?_)
    have hz : k < 1 := (List.getElem?_eq_some_iff.mp hx).1
    rw [show k = 0 by omega] at hx
    cases hx
    exact he
  · rw [← va_pl_push hn]
    exact hD.push hP rfl h0
theorem mo_fresh {L0 : Nat} {D : va_G} {cl : List vw_C} {M : mo_M} {H : Heap} (h : mo_in L0 D cl M H) : M H.size = none := by
  cases q : M H.size with
  | none => rfl
  | some e => exact absurd (mo_lt h q).2 (Nat.lt_irrefl _)
theorem mo_crS {L0 : Nat} {H0 H H1 : Heap} {locs : List Loc} (hS : va_S (fun q => L0 ≤ q) H0 H locs) (z : H.size ≤ H1.size) (oq : ∀ q : Nat, q < H.size → H1[q]? = H[q]?) : va_S (fun q => L0 ≤ q) H0 H1 locs :=
  ⟨Nat.le_trans hS.1 z, fun x h1 h2 => (oq x (Nat.lt_of_lt_of_le h1 hS.1)).trans (hS.2.1 x h1 h2), hS.2.2⟩
section MOR
variable {p : Program} {l : Launch} {e : Env} {R : Room} {s : State} {m : MethodId} {args : Array Value} {below : List Frame} {meth : Method} {c : Code} {H : Heap} {locs : List Loc} {cells slots : Nat} {Q : State → Prop}
variable {cc : ByteArray} {pc : Nat} {ls : Array Slot} {rest : List Value} {L0 : Nat} {e0 : Nat → Nat} {D : va_G} {cl : List vw_C} {a : Nat} {tys : List (ClassId × FieldType)} {M : mo_M}
theorem mo_get (hexec : p.tables.exec = Jvm.exec) (hb : c.code = cc) {own ref C : String} {T : u_T} {N ci index : Nat} {Ts : List Cond} (hts : ∀ w ∈ Ts, w.before args s = true) (hin : ∀ w ∈ u_ws C T N, w ∈ Ts) (hown : s.vm.findClass own = some m.cls) (hok : mo_ok L0 e0 D cl tys s M H locs) {fs : List Value} (he : M a = some (.inr (ci, fs))) (hc : cl[ci]? = some (C, T, N)) (k : Nat) (hk : k < N) (hlink : (Cond.fieldLink own index ref (T k).2.1 (T k).2.2.1).before args s = true) (hsame : ∀ x, s.fieldFound? (T k).1 (T k).2.1 (T k).2.2.1 = some x → s.fieldFound? ref (T k).2.1 (T k).2.2.1 = some x) {v : Value} (hv : fs[k]? = some v) (hdg : decode cc pc = .ok (.getfield index, 3))
    (kk : W p l e R s m args below meth c H locs cells slots Q (F0 m (pc + 3) ls (v :: rest))) : W p l e R s m args below meth c H locs cells slots Q (F0 m pc ls (.ref a :: rest)) := by
  obtain ⟨-, ⟨hK, hE⟩, ⟨L, f, hM, hP, hD⟩, hS⟩ := hok
  obtain ⟨h1, h2⟩ := hM _ _ he
  obtain ⟨q0, hq⟩ := mo_at (D := D) (cl := cl) h1 h2
  exact va_get hexec hb hts hin hown hK hP q0 hq hc k hk hlink hsame hv hdg kk
theorem mo_getN (hexec : p.tables.exec = Jvm.exec) (hb : c.code = cc) {own ref C host : String} {T : u_T} {N ci index : Nat} {Ts : List Cond} (hts : ∀ w ∈ Ts, w.before args s = true) (hin : ∀ w ∈ u_ws C T N, w ∈ Ts) (hown : s.vm.findClass own = some m.cls) (hok : mo_ok L0 e0 D cl tys s M H locs) {fs : List Value} (he : M a = some (.inr (ci, fs))) (hc : cl[ci]? = some (C, T, N)) (k : Nat) (hk : k < N) (hlink : (Cond.fieldLinkNest own index ref (T k).2.1 (T k).2.2.1 host).before args s = true) (hsame : ∀ x, s.fieldFound? (T k).1 (T k).2.1 (T k).2.2.1 = some x → s.fieldFound? ref (T k).2.1 (T k).2.2.1 = some x) {v : Value} (hv : fs[k]? = some v) (hdg : decode cc pc = .ok (.getfield index, 3))
    (kk : W p l e R s m args below meth c H locs cells slots Q (F0 m (pc + 3) ls (v :: rest))) : W p l e R s m args below meth c H locs cells slots Q (F0 m pc ls (.ref a :: rest)) := by
  obtain ⟨-, ⟨hK, hE⟩, ⟨L, f, hM, hP, hD⟩, hS⟩ := hok
  obtain ⟨h1, h2⟩ := hM _ _ he
  obtain ⟨q0, hq⟩ := mo_at (D := D) (cl := cl) h1 h2
  exact va_getN hexec hb hts hin hown hK hP q0 hq hc k hk hlink hsame hv hdg kk
theorem mo_put (hexec : p.tables.exec = Jvm.exec) (hb : c.code = cc) {own ref C : String} {T : u_T} {N ci index : Nat} {Ts : List Cond} (hts : ∀ w ∈ Ts, w.before args s = true) (hin : ∀ w ∈ u_ws C T N, w ∈ Ts) (ty0 : Nat → FieldType) (hty : ∀ k, k < N → parseFieldDescriptor (T k).2.2.1 = some (ty0 k)) (hnm : ∀ a, a < N → ∀ b, b < N → a ≠ b → (T a).2.1 ≠ (T b).2.1) (hown : s.vm.findClass own = some m.cls) (hok : mo_ok L0 e0 D cl tys s M H locs) {fs : List Value} (he : M a = some (.inr (ci, fs))) (hc : cl[ci]? = some (C, T, N)) (k : Nat) (hk : k < N) (hlink : (Cond.fieldLink own index ref (T k).2.1 (T k).2.2.1).before args s = true) (hsame : ∀ x, s.fieldFound? (T k).1 (T k).2.1 (T k).2.2.1 = some x → s.fieldFound? ref (T k).2.1 (T k).2.2.1 = some x) (hfin : (T k).2.2.2 = false) {ty : FieldType} {v : Value} (hd : parseFieldDescriptor (T k).2.2.1 = some ty) (hn : narrow ty v = v) (hfit : fits ty v = true) (hl : k < fs.length)
    (hdg : decode cc pc = .ok (.putfield index, 3)) (kk : ∀ (H1 : Heap) (locs1 : List Loc), mo_ok L0 e0 D cl tys s (va_up M a (some (.inr (ci, fs.set k v)))) H1 locs1 → W p l e R s m args below meth c H1 locs1 cells slots Q (F0 m (pc + 3) ls rest)) : W p l e R s m args below meth c H locs cells slots Q (F0 m pc ls (v :: .ref a :: rest)) := by
  obtain ⟨h0, ⟨hK, hE⟩, ⟨L, f, hM, hP, hD⟩, hS⟩ := hok
  obtain ⟨h1, h2⟩ := hM _ _ he
  obtain ⟨q0, hq⟩ := mo_at (D := D) (cl := cl) h1 h2
  exact va_put hexec hb hts hin ty0 hty hnm hown hK hP hD hS q0 hq hc k hk hlink hsame hfin hd hn hfit hl hdg (fun H1 locs1 hP1 hD1 hS1 => kk H1 locs1 ⟨h0, ⟨hK, hE⟩, ⟨L, _, mo_up hM h1, mo_setP hD h1 h2 hq hP1, mo_setD hD h1 h2 hq⟩, hS1⟩)
theorem mo_putF (hexec : p.tables.exec = Jvm.exec) (hb : c.code = cc) {own ref C : String} {T : u_T} {N ci index : Nat} {Ts : List Cond} (hts : ∀ w ∈ Ts, w.before args s = true) (hin : ∀ w ∈ u_ws C T N, w ∈ Ts) (ty0 : Nat → FieldType) (hty : ∀ k, k < N → parseFieldDescriptor (T k).2.2.1 = some (ty0 k)) (hnm : ∀ a, a < N → ∀ b, b < N → a ≠ b → (T a).2.1 ≠ (T b).2.1) (hown : s.vm.findClass own = some m.cls) (hok : mo_ok L0 e0 D cl tys s M H locs) {fs : List Value} (he : M a = some (.inr (ci, fs))) (hc : cl[ci]? = some (C, T, N)) (k : Nat) (hk : k < N) (hlink : (Cond.fieldLink own index ref (T k).2.1 (T k).2.2.1).before args s = true) (hsame : ∀ x, s.fieldFound? (T k).1 (T k).2.1 (T k).2.2.1 = some x → s.fieldFound? ref (T k).2.1 (T k).2.2.1 = some x) (hfin : (T k).2.2.2 = true) (hin2 : meth.name = "<init>") (hdecl : (T k).1 = own) {ty : FieldType} {v : Value} (hd : parseFieldDescriptor (T k).2.2.1 = some ty) (hn : narrow ty v = v) (hfit : fits ty v = true) (hl : k < fs.length)
    (hdg : decode cc pc = .ok (.putfield index, 3)) (kk : ∀ (H1 : Heap) (locs1 : List Loc), mo_ok L0 e0 D cl tys s (va_up M a (some (.inr (ci, fs.set k v)))) H1 locs1 → W p l e R s m args below meth c H1 locs1 cells slots Q (F0 m (pc + 3) ls rest)) : W p l e R s m args below meth c H locs cells slots Q (F0 m pc ls (v :: .ref a :: rest)) := by
  obtain ⟨h0, ⟨hK, hE⟩, ⟨L, f, hM, hP, hD⟩, hS⟩ := hok
  obtain ⟨h1, h2⟩ := hM _ _ he
  obtain ⟨q0, hq⟩ := mo_at (D := D) (cl := cl) h1 h2
  exact va_putF hexec hb hts hin ty0 hty hnm hown hK hP hD hS q0 hq hc k hk hlink hsame hfin hin2 hdecl hd hn hfit hl hdg (fun H1 locs1 hP1 hD1 hS1 => kk H1 locs1 ⟨h0, ⟨hK, hE⟩, ⟨L, _, mo_up hM h1, mo_setP hD h1 h2 hq hP1, mo_setD hD h1 h2 hq⟩, hS1⟩)
theorem mo_iald (hexec : p.tables.exec = Jvm.exec) (hb : c.code = cc) (hok : mo_ok L0 e0 D cl tys s M H locs) (t0 : Nat) {cA : ClassId} {n : Nat} {f : Nat → Int32} (ha : M a = some (.inl (cA, n, .inl f))) (ht : tys[t0]? = some (cA, .int)) {i : Int32} (hin : vp_in i n) (hdg : decode cc pc = .ok (.iaload, 1))
    (kk : W p l e R s m args below meth c H locs cells slots Q (F0 m (pc + 1) ls (.int (f i.toNatClampNeg) :: rest))) : W p l e R s m args below meth c H locs cells slots Q (F0 m pc ls (.int i :: .ref a :: rest)) := by
  obtain ⟨h0, ⟨hK, hE⟩, ⟨L, f, hM, hP, hD⟩, hS⟩ := hok
  obtain ⟨h1, h2⟩ := hM _ _ ha
  obtain ⟨q0, hq⟩ := mo_at (D := D) (cl := cl) h1 h2
  exact va_iald hexec hb hK hP q0 t0 hq ht hin hdg kk
theorem mo_zald (hexec : p.tables.exec = Jvm.exec) (hb : c.code = cc) (hok : mo_ok L0 e0 D cl tys s M H locs) (t0 : Nat) {cA : ClassId} {n : Nat} {f : Nat → Int32} (ha : M a = some (.inl (cA, n, .inl f))) (ht : tys[t0]? = some (cA, .boolean)) {i : Int32} (hin : vp_in i n) (hdg : decode cc pc = .ok (.baload, 1))
    (kk : W p l e R s m args below meth c H locs cells slots Q (F0 m (pc + 1) ls (.int (f i.toNatClampNeg) :: rest))) : W p l e R s m args below meth c H locs cells slots Q (F0 m pc ls (.int i :: .ref a :: rest)) := by
  obtain ⟨h0, ⟨hK, hE⟩, ⟨L, f, hM, hP, hD⟩, hS⟩ := hok
  obtain ⟨h1, h2⟩ := hM _ _ ha
  obtain ⟨q0, hq⟩ := mo_at (D := D) (cl := cl) h1 h2
  exact va_zald hexec hb hK hP q0 t0 hq ht hin hdg kk
theorem mo_lald (hexec : p.tables.exec = Jvm.exec) (hb : c.code = cc) (hok : mo_ok L0 e0 D cl tys s M H locs) (t0 : Nat) {cA : ClassId} {n : Nat} {f : Nat → Int64} (ha : M a = some (.inl (cA, n, .inr (.inl f)))) (ht : tys[t0]? = some (cA, .long)) {i : Int32} (hin : vp_in i n) (hdg : decode cc pc = .ok (.laload, 1))
    (kk : W p l e R s m args below meth c H locs cells slots Q (F0 m (pc + 1) ls (.long (f i.toNatClampNeg) :: rest))) : W p l e R s m args below meth c H locs cells slots Q (F0 m pc ls (.int i :: .ref a :: rest)) := by
  obtain ⟨h0, ⟨hK, hE⟩, ⟨L, f, hM, hP, hD⟩, hS⟩ := hok
  obtain ⟨h1, h2⟩ := hM _ _ ha
  obtain ⟨q0, hq⟩ := mo_at (D := D) (cl := cl) h1 h2
  exact va_lald hexec hb hK hP q0 t0 hq ht hin hdg kk
/-- a reference out of an array of references of any kind -/
theorem mo_aald (hexec : p.tables.exec = Jvm.exec) (hb : c.code = cc) (hok : mo_ok L0 e0 D cl tys s M H locs) (t0 : Nat) {cA : ClassId} {ty : FieldType} (hty : ty.isReference = true) {n : Nat} {f : Nat → Option Nat} (ha : M a = some (.inl (cA, n, .inr (.inr (.inr (.inr f)))))) (ht : tys[t0]? = some (cA, ty)) {i : Int32} (hin : vp_in i n) (hdg : decode cc pc = .ok (.aaload, 1))
    (kk : W p l e R s m args below meth c H locs cells slots Q (F0 m (pc + 1) ls (va_rf (f i.toNatClampNeg) :: rest))) : W p l e R s m args below meth c H locs cells slots Q (F0 m pc ls (.int i :: .ref a :: rest)) := by
  obtain ⟨h0, ⟨hK, hE⟩, hI, hS⟩ := hok
  have hat := mo_has hI ha
  have hlt : i.toNatClampNeg < n := Nat.not_le.mp fun q => hin (Or.inr q)
  exact W.aald (v := va_rf (f i.toNatClampNeg)) (ty := ty) hexec hb hat ((hK.2 t0 _ ht).1 n (fun j => va_rf (f j))) hty (fun q => by cases q) (by show ¬ (i < 0 ∨ (arrV _ _ _).slots.size ≤ _); rw [arrV_size]; exact hin) (by show (arrV _ _ _).slots[_]? = _; rw [arrV_read _ _ hlt]) rfl rfl hdg kk
theorem mo_iast (hexec : p.tables.exec = Jvm.exec) (hb : c.code = cc) (hok : mo_ok L0 e0 D cl tys s M H locs) (t0 : Nat) {cA : ClassId} {n : Nat} {f : Nat → Int32} (ha : M a = some (.inl (cA, n, .inl f))) (ht : tys[t0]? = some (cA, .int)) {i : Int32} {x : Int32} (hin : vp_in i n) (hdg : decode cc pc = .ok (.iastore, 1))
    (kk : ∀ (H1 : Heap) (locs1 : List Loc), mo_ok L0 e0 D cl tys s (va_up M a (some (.inl (cA, n, .inl (upd f i.toNatClampNeg x))))) H1 locs1 → W p l e R s m args below meth c H1 locs1 cells slots Q (F0 m (pc + 1) ls rest)) : W p l e R s m args below meth c H locs cells slots Q (F0 m pc ls (.int x :: .int i :: .ref a :: rest)) := by
  obtain ⟨h0, ⟨hK, hE⟩, ⟨L, f, hM, hP, hD⟩, hS⟩ := hok
  obtain ⟨h1, h2⟩ := hM _ _ ha
  obtain ⟨q0, hq⟩ := mo_at (D := D) (cl := cl) h1 h2
  exact va_iast hexec hb hK hP hD hS q0 t0 hq ht hin hdg (fun H1 locs1 hP1 hD1 hS1 => kk H1 locs1 ⟨h0, ⟨hK, hE⟩, ⟨L, _, mo_up hM h1, mo_setP hD h1 h2 hq hP1, mo_setD hD h1 h2 hq⟩, hS1⟩)
theorem mo_zast (hexec : p.tables.exec = Jvm.exec) (hb : c.code = cc) (hok : mo_ok L0 e0 D cl tys s M H locs) (t0 : Nat) {cA : ClassId} {n : Nat} {f : Nat → Int32} (ha : M a = some (.inl (cA, n, .inl f))) (ht : tys[t0]? = some (cA, .boolean)) {i : Int32} {x : Int32} (hin : vp_in i n) (hdg : decode cc pc = .ok (.bastore, 1))
    (kk : ∀ (H1 : Heap) (locs1 : List Loc), mo_ok L0 e0 D cl tys s (va_up M a (some (.inl (cA, n, .inl (upd f i.toNatClampNeg (vp_nar .boolean x)))))) H1 locs1 → W p l e R s m args below meth c H1 locs1 cells slots Q (F0 m (pc + 1) ls rest)) : W p l e R s m args below meth c H locs cells slots Q (F0 m pc ls (.int x :: .int i :: .ref a :: rest)) := by
  obtain ⟨h0, ⟨hK, hE⟩, ⟨L, f, hM, hP, hD⟩, hS⟩ := hok
  obtain ⟨h1, h2⟩ := hM _ _ ha
  obtain ⟨q0, hq⟩ := mo_at (D := D) (cl := cl) h1 h2
  exact va_zast hexec hb hK hP hD hS q0 t0 hq ht hin hdg (fun H1 locs1 hP1 hD1 hS1 => kk H1 locs1 ⟨h0, ⟨hK, hE⟩, ⟨L, _, mo_up hM h1, mo_setP hD h1 h2 hq hP1, mo_setD hD h1 h2 hq⟩, hS1⟩)
theorem mo_last (hexec : p.tables.exec = Jvm.exec) (hb : c.code = cc) (hok : mo_ok L0 e0 D cl tys s M H locs) (t0 : Nat) {cA : ClassId} {n : Nat} {f : Nat → Int64} (ha : M a = some (.inl (cA, n, .inr (.inl f)))) (ht : tys[t0]? = some (cA, .long)) {i : Int32} {x : Int64} (hin : vp_in i n) (hdg : decode cc pc = .ok (.lastore, 1))
    (kk : ∀ (H1 : Heap) (locs1 : List Loc), mo_ok L0 e0 D cl tys s (va_up M a (some (.inl (cA, n, .inr (.inl (vp_updL f i.toNatClampNeg x)))))) H1 locs1 → W p l e R s m args below meth c H1 locs1 cells slots Q (F0 m (pc + 1) ls rest)) : W p l e R s m args below meth c H locs cells slots Q (F0 m pc ls (.long x :: .int i :: .ref a :: rest)) := by
  obtain ⟨h0, ⟨hK, hE⟩, ⟨L, f, hM, hP, hD⟩, hS⟩ := hok
  obtain ⟨h1, h2⟩ := hM _ _ ha
  obtain ⟨q0, hq⟩ := mo_at (D := D) (cl := cl) h1 h2
  exact va_last hexec hb hK hP hD hS q0 t0 hq ht hin hdg (fun H1 locs1 hP1 hD1 hS1 => kk H1 locs1 ⟨h0, ⟨hK, hE⟩, ⟨L, _, mo_up hM h1, mo_setP hD h1 h2 hq hP1, mo_setD hD h1 h2 hq⟩, hS1⟩)
theorem mo_alen (hexec : p.tables.exec = Jvm.exec) (hb : c.code = cc) (hok : mo_ok L0 e0 D cl tys s M H locs) (t0 : Nat) {cA : ClassId} {x : vp_A} (ha : M a = some (.inl (cA, x))) {ty : FieldType} (ht : tys[t0]? = some (cA, ty)) (hdg : decode cc pc = .ok (.arraylength, 1))
    (kk : W p l e R s m args below meth c H locs cells slots Q (F0 m (pc + 1) ls (.int (nI x.1) :: rest))) : W p l e R s m args below meth c H locs cells slots Q (F0 m pc ls (.ref a :: rest)) := by
  obtain ⟨h0, ⟨hK, hE⟩, ⟨L, f, hM, hP, hD⟩, hS⟩ := hok
  obtain ⟨h1, h2⟩ := hM _ _ ha
  obtain ⟨q0, hq⟩ := mo_at (D := D) (cl := cl) h1 h2
  exact va_alen hexec hb hK hP q0 t0 hq ht rfl hdg kk
theorem mo_new (hexec : p.tables.exec = Jvm.exec) (hb : c.code = cc) {own C : String} {T : u_T} {N ci index : Nat} {Ts : List Cond} (hts : ∀ w ∈ Ts, w.before args s = true) (hin : ∀ w ∈ u_ws C T N, w ∈ Ts) (ty : Nat → FieldType) (hty : ∀ k, k < N → parseFieldDescriptor (T k).2.2.1 = some (ty k)) (hown : s.vm.findClass own = some m.cls) (hcl : (Cond.classLink own index C).before args s = true) (hinst : (Cond.instantiable C N).before args s = true) (hini : (Cond.initialized C).before args s = true)
    (hok : mo_ok L0 e0 D cl tys s M H locs) (hc : cl[ci]? = some (C, T, N)) {fs : List Value} (hfs : ∀ j, j < N → defaultValue (ty j) = vp_V fs j) (hcells : cells + 1 ≤ R.cells) (hslots : slots + N ≤ R.slots) (hdg : decode cc pc = .ok (.new index, 3))
    (kk : ∀ (q : Nat) (H1 : Heap), M q = none → mo_ok L0 e0 D cl tys s (va_up M q (some (.inr (ci, fs)))) H1 locs →
      W p l e R s m args below meth c H1 locs (cells + 1) (slots + N) Q (F0 m (pc + 3) ls (.ref q :: rest))) : W p l e R s m args below meth c H locs cells slots Q (F0 m pc ls rest) := by
  obtain ⟨h0, ⟨hK, hE⟩, hI, hS⟩ := hok
  have hKn := hK.1 ci _ hc
  refine W.newcK hexec hb hown hcl hinst hini rfl hdg hcells hslots hKn.2.1 rfl fun H1 kC hkC e1 z1 o1 => ?_
  exact kk H.size H1 (mo_fresh hI) ⟨h0, ⟨hK, hE⟩, mo_cr hI (Nat.le_trans h0 hS.1) ⟨_, hc, (u_born ty hts hin hKn hkC e1 hty).to hfs⟩ o1, mo_crS hS (by omega) o1⟩
theorem mo_newa (hexec : p.tables.exec = Jvm.exec) (hb : c.code = cc) {atype : ArrayType} (harr : (Cond.arrayClass (newarray.typeOf atype)).before args s = true) {ty : FieldType} (hty : newarray.typeOf atype = ty) (hok : mo_ok L0 e0 D cl tys s M H locs) (t0 : Nat) {cA : ClassId} (ht : tys[t0]? = some (cA, ty)) (hpr : va_RA s cA ty → s.vm.findClass ("[" ++ ty.toString) = some cA)
    {n : Int32} {N' : Nat} {a0 : vp_A} (ha : vp_cell cA a0 = arrV cA N' (fun _ => defaultValue ty)) (hn : ¬ n < 0) (hN : n.toNatClampNeg = N') (hbytes : N' * componentBytes ty ≤ 536870912) (hcells : cells + 1 ≤ R.cells) (hslots : slots + N' ≤ R.slots) (hdg : decode cc pc = .ok (.newarray atype, 2))
    (kk : ∀ (q : Nat) (H1 : Heap), M q = none → mo_ok L0 e0 D cl tys s (va_up M q (some (.inl (cA, a0)))) H1 locs →
      W p l e R s m args below meth c H1 locs (cells + 1) (slots + N') Q (F0 m (pc + 2) ls (.ref q :: rest))) : W p l e R s m args below meth c H locs cells slots Q (F0 m pc ls (.int n :: rest)) := by
  subst hty
  obtain ⟨h0, ⟨hK, hE⟩, hI, hS⟩ := hok
  refine va_newaK hexec hb harr rfl hdg rfl hn hN hbytes hcells hslots rfl fun H1 cA' e1 z1 o1 hAr hNm => ?_
  have e2 : cA' = cA := Option.some.inj (hNm.symm.trans (hpr (hK.2 t0 _ ht).2))
  subst e2
  exact kk H.size H1 (mo_fresh hI) ⟨h0, ⟨hK, hE⟩, mo_cr hI (Nat.le_trans h0 hS.1) (show H1[H.size]? = some (vp_cell _ _) by rw [ha]; exact e1) o1, mo_crS hS (by omega) o1⟩
/-- behind a call: the callee's map comes back -/
theorem mo_calli {K : Int32 → mo_M → Prop} {pc : Nat} {st0 : List Value} {av : Array Value} {mc ms : Nat} (hok : mo_ok L0 e0 D cl tys s M H locs) (hr : va_Run p l e R s m args below meth c H locs cells slots mc ms (F0 m pc ls st0) rest (va_Qi K (fun M1 t => mo_B L0 e0 D cl tys M1 t) (fun q => L0 ≤ q) av) (fun q => L0 ≤ q))
    (kk : ∀ (r : Int32) (M1 : mo_M) (H1 : Heap) (locs1 : List Loc), K r M1 → mo_ok L0 e0 D cl tys s M1 H1 locs1 → W p l e R s m args below meth c H1 locs1 (cells + mc) (slots + ms) Q (F0 m (pc + 3) ls (.int r :: rest))) : W p l e R s m args below meth c H locs cells slots Q (F0 m pc ls st0) := by
  obtain ⟨h0, ⟨hK, hE⟩, hI, hS⟩ := hok
  refine va_calli hr hS (fun _ _ h => h) (fun _ h => h) (fun r u t H1 locs1 ht hvm hp hB hz hk hS1 => kk r u H1 locs1 hp ⟨h0, ⟨hK, hE⟩, ?_, hS1⟩)
  rw [← ht]
  exact hB.2.2
theorem mo_calll {K : Int64 → mo_M → Prop} {pc : Nat} {st0 : List Value} {av : Array Value} {mc ms : Nat} (hok : mo_ok L0 e0 D cl tys s M H locs) (hr : va_Run p l e R s m args below meth c H locs cells slots mc ms (F0 m pc ls st0) rest (va_Ql K (fun M1 t => mo_B L0 e0 D cl tys M1 t) (fun q => L0 ≤ q) av) (fun q => L0 ≤ q))
    (kk : ∀ (r : Int64) (M1 : mo_M) (H1 : Heap) (locs1 : List Loc), K r M1 → mo_ok L0 e0 D cl tys s M1 H1 locs1 → W p l e R s m args below meth c H1 locs1 (cells + mc) (slots + ms) Q (F0 m (pc + 3) ls (.long r :: rest))) : W p l e R s m args below meth c H locs cells slots Q (F0 m pc ls st0) := by
  obtain ⟨h0, ⟨hK, hE⟩, hI, hS⟩ := hok
  refine va_calll hr hS (fun _ _ h => h) (fun _ h => h) (fun r u t H1 locs1 ht hvm hp hB hz hk hS1 => kk r u H1 locs1 hp ⟨h0, ⟨hK, hE⟩, ?_, hS1⟩)
  rw [← ht]
  exact hB.2.2
theorem mo_callv {K : mo_M → Prop} {pc : Nat} {st0 : List Value} {av : Array Value} {mc ms : Nat} (hok : mo_ok L0 e0 D cl tys s M H locs) (hr : va_Run p l e R s m args below meth c H locs cells slots mc ms (F0 m pc ls st0) rest (va_Qv K (fun M1 t => mo_B L0 e0 D cl tys M1 t) (fun q => L0 ≤ q) av) (fun q => L0 ≤ q))
    (kk : ∀ (M1 : mo_M) (H1 : Heap) (locs1 : List Loc), K M1 → mo_ok L0 e0 D cl tys s M1 H1 locs1 → W p l e R s m args below meth c H1 locs1 (cells + mc) (slots + ms) Q (F0 m (pc + 3) ls rest)) : W p l e R s m args below meth c H locs cells slots Q (F0 m pc ls st0) := by
  obtain ⟨h0, ⟨hK, hE⟩, hI, hS⟩ := hok
  refine va_callv hr hS (fun _ _ h => h) (fun _ h => h) (fun u t H1 locs1 ht hvm hp hB hz hk hS1 => kk u H1 locs1 hp ⟨h0, ⟨hK, hE⟩, ?_, hS1⟩)
  rw [← ht]
  exact hB.2.2
/-- a reference comes back: the pair of its address and the map -/
theorem mo_callr {K : Nat → mo_M → Prop} {pc : Nat} {st0 : List Value} {av : Array Value} {mc ms : Nat} (hok : mo_ok L0 e0 D cl tys s M H locs) (hr : va_Run p l e R s m args below meth c H locs cells slots mc ms (F0 m pc ls st0) rest (va_Qr (fun _ : mo_M => True) (fun M1 ra t => K ra M1 ∧ mo_B L0 e0 D cl tys M1 t) (fun q => L0 ≤ q) av) (fun q => L0 ≤ q))
    (kk : ∀ (ra : Nat) (M1 : mo_M) (H1 : Heap) (locs1 : List Loc), K ra M1 → mo_ok L0 e0 D cl tys s M1 H1 locs1 → W p l e R s m args below meth c H1 locs1 (cells + mc) (slots + ms) Q (F0 m (pc + 3) ls (.ref ra :: rest))) : W p l e R s m args below meth c H locs cells slots Q (F0 m pc ls st0) := by
  obtain ⟨h0, ⟨hK, hE⟩, hI, hS⟩ := hok
  refine va_callr hr hS (fun _ _ h => h) (fun _ h => h) (fun u ra t H1 locs1 ht hvm hp hB hz hk hS1 => kk ra u H1 locs1 hB.1 ⟨h0, ⟨hK, hE⟩, ?_, hS1⟩)
  rw [← ht]
  exact hB.2.2.2
theorem mo_preS (hok : mo_ok L0 e0 D cl tys s M H locs) (As : List Value) : PreS s H (va_Pc As (fun U => mo_B L0 e0 D cl tys M U)) As := by
  obtain ⟨h0, ⟨hK, hE⟩, hI, hS⟩ := hok
  refine ⟨fun av U g mk q => ?_, fun U hU hW => ⟨rfl, by rw [hU]; exact Nat.le_trans h0 hS.1, ⟨va_K.moved hW.alike hK, by rw [hU]; exact mo_Ew hW hS hE⟩, by rw [hU]; exact hI⟩⟩
  obtain ⟨q0, q1, ⟨q2, q4⟩, q3⟩ := q
  exact ⟨q0, q1, ⟨va_K.moved (u := U) (U := U.calling g mk av) (Vm.Alike.refl U.vm) q2, (show mo_E L0 e0 (U.calling g mk av) U.heap from mo_Es (s := U) rfl q4)⟩, q3⟩
theorem mo_preV (hok : mo_ok L0 e0 D cl tys s M H locs) {b ci : Nat} {fs : List Value} {C : String} {T : u_T} {N : Nat} (he : M b = some (.inr (ci, fs))) (hc : cl[ci]? = some (C, T, N)) (As : List Value) : PreV s H C b (va_Pc (.ref b :: As) (fun U => mo_B L0 e0 D cl tys M U)) As := by
  obtain ⟨h1, h2⟩ := mo_preS hok (.ref b :: As)
  refine ⟨h1, ?_, h2⟩
  obtain ⟨h0, ⟨hK, hE⟩, hI, hS⟩ := hok
  obtain ⟨r, q1, cell, q2, q3, q4, -⟩ := mo_has hI he
  have hr : r = (C, T, N) := Option.some.inj (q1.symm.trans hc)
  subst hr
  exact ⟨cell, q2, by rw [q4]; rfl, by rw [q3]; exact (hK.1 ci _ hc).2.1⟩
end MOR
/-! ends of a method -/
abbrev mo_R (f mc ms w : Nat) : Room := { frames := f, cells := mc, slots := ms, locals := w }
abbrev mo_Qi (L0 : Nat) (e0 : Nat → Nat) (D : va_G) (cl : List vw_C) (tys : List (ClassId × FieldType)) (K : Int32 → mo_M → Prop) : Array Value → State → Outcome → State → Prop := va_Qi K (fun M1 t => mo_B L0 e0 D cl tys M1 t) (fun q => L0 ≤ q)
abbrev mo_Ql (L0 : Nat) (e0 : Nat → Nat) (D : va_G) (cl : List vw_C) (tys : List (ClassId × FieldType)) (K : Int64 → mo_M → Prop) : Array Value → State → Outcome → State → Prop := va_Ql K (fun M1 t => mo_B L0 e0 D cl tys M1 t) (fun q => L0 ≤ q)
abbrev mo_Qv (L0 : Nat) (e0 : Nat → Nat) (D : va_G) (cl : List vw_C) (tys : List (ClassId × FieldType)) (K : mo_M → Prop) : Array Value → State → Outcome → State → Prop := va_Qv K (fun M1 t => mo_B L0 e0 D cl tys M1 t) (fun q => L0 ≤ q)
abbrev mo_Qr (L0 : Nat) (e0 : Nat → Nat) (D : va_G) (cl : List vw_C) (tys : List (ClassId × FieldType)) (K : Nat → mo_M → Prop) : Array Value → State → Outcome → State → Prop := va_Qr (fun _ : mo_M => True) (fun M1 ra t => K ra M1 ∧ mo_B L0 e0 D cl tys M1 t) (fun q => L0 ≤ q)
abbrev mo_Z (below : List Frame) (Qc : Array Value → State → Outcome → State → Prop) (args : Array Value) (s : State) (mc ms L0 : Nat) : State → Prop := MQ below Qc args s mc ms (fun q => L0 ≤ q)
section MOE
variable {p : Program} {l : Launch} {e : Env} {R : Room} {s : State} {m : MethodId} {args : Array Value} {below : List Frame} {meth : Method} {c : Code} {H : Heap} {locs : List Loc} {cells slots : Nat}
variable {cc : ByteArray} {pc : Nat} {ls : Array Slot} {L0 : Nat} {e0 : Nat → Nat} {D : va_G} {cl : List vw_C} {tys : List (ClassId × FieldType)} {M : mo_M}
theorem mo_end (hok : mo_ok L0 e0 D cl tys s M H locs) (t : State) (ht : t.heap = H) (hW : s.WarmedH t.vm) : mo_B L0 e0 D cl tys M t := by
  obtain ⟨h0, ⟨hK, hE⟩, hI, hS⟩ := hok
  exact ⟨by rw [ht]; exact Nat.le_trans h0 hS.1, ⟨va_K.moved hW.alike hK, by rw [ht]; exact mo_Ew hW hS hE⟩, by rw [ht]; exact hI⟩
theorem mo_iret (hexec : p.tables.exec = Jvm.exec) (hb : c.code = cc) (hr : meth.sig.returnType = some .int) (hlocks : meth.locks = false) (hok : mo_ok L0 e0 D cl tys s M H locs) {K : Int32 → mo_M → Prop} {v : Int32} (hK : K v M) (hdg : decode cc pc = .ok (.ireturn, 1)) :
    W p l e R s m args below meth c H locs cells slots (mo_Z below (mo_Qi L0 e0 D cl tys K) args s cells slots L0) (F0 m pc ls [.int v]) :=
  W.iret hexec hb hr (fun t ht hW => ⟨⟨v, M, rfl, hK, mo_end hok t ht hW⟩, hok.2.2.2.F ht⟩) hok.2.2.2.2.2 hdg hlocks
theorem mo_zret (hexec : p.tables.exec = Jvm.exec) (hb : c.code = cc) (hr : meth.sig.returnType = some .boolean) (hlocks : meth.locks = false) (hok : mo_ok L0 e0 D cl tys s M H locs) {K : Int32 → mo_M → Prop} {v : Int32} (hK : narrow .boolean (.int v) = .int v ∧ K v M) (hdg : decode cc pc = .ok (.ireturn, 1)) :
    W p l e R s m args below meth c H locs cells slots (mo_Z below (mo_Qi L0 e0 D cl tys K) args s cells slots L0) (F0 m pc ls [.int v]) :=
  W.zret hexec hb hr hK.1 (fun t ht hW => ⟨⟨v, M, rfl, hK.2, mo_end hok t ht hW⟩, hok.2.2.2.F ht⟩) hok.2.2.2.2.2 hdg hlocks
theorem mo_lret (hexec : p.tables.exec = Jvm.exec) (hb : c.code = cc) (hr : meth.sig.returnType = some .long) (hlocks : meth.locks = false) (hok : mo_ok L0 e0 D cl tys s M H locs) {K : Int64 → mo_M → Prop} {v : Int64} (hK : K v M) (hdg : decode cc pc = .ok (.lreturn, 1)) :
    W p l e R s m args below meth c H locs cells slots (mo_Z below (mo_Ql L0 e0 D cl tys K) args s cells slots L0) (F0 m pc ls [.long v]) :=
  W.lret hexec hb hr (fun t ht hW => ⟨⟨v, M, rfl, hK, mo_end hok t ht hW⟩, hok.2.2.2.F ht⟩) hok.2.2.2.2.2 hdg hlocks
theorem mo_vret (hexec : p.tables.exec = Jvm.exec) (hb : c.code = cc) (hr : meth.sig.returnType = none) (hlocks : meth.locks = false) (hok : mo_ok L0 e0 D cl tys s M H locs) {K : mo_M → Prop} (hK : K M) (hdg : decode cc pc = .ok (.return_, 1)) :
    W p l e R s m args below meth c H locs cells slots (mo_Z below (mo_Qv L0 e0 D cl tys K) args s cells slots L0) (F0 m pc ls []) :=
  W.vret hexec hb hr (fun t ht hW => ⟨⟨M, rfl, hK, mo_end hok t ht hW⟩, hok.2.2.2.F ht⟩) hok.2.2.2.2.2 hdg hlocks
theorem mo_aret (hexec : p.tables.exec = Jvm.exec) (hb : c.code = cc) {rt : FieldType} (hr : meth.sig.returnType = some rt) (hrt : (∃ n, rt = .object n) ∨ ∃ t, rt = .array t) (hlocks : meth.locks = false) (hok : mo_ok L0 e0 D cl tys s M H locs) {K : Nat → mo_M → Prop} {v : Nat} (hK : K v M) (hdg : decode cc pc = .ok (.areturn, 1)) :
    W p l e R s m args below meth c H locs cells slots (mo_Z below (mo_Qr L0 e0 D cl tys K) args s cells slots L0) (F0 m pc ls [.ref v]) :=
  W.aret hexec hb hr hrt (Or.inr ⟨v, rfl⟩) (fun t ht hW => ⟨⟨M, v, rfl, trivial, hK, mo_end hok t ht hW⟩, hok.2.2.2.F ht⟩) hok.2.2.2.2.2 hdg hlocks
end MOE
/-! what an instruction asks of the map, and hands on (N) -/
def mo_fr (M : mo_M) (q : Nat) : Prop := ∀ b, q ≤ b → M b = none
def mp_gi (M : mo_M) (a ci k : Nat) (N : Int32 → Prop) : Prop := ∃ (fs : List Value) (x : Int32), M a = some (.inr (ci, fs)) ∧ fs[k]? = some (.int x) ∧ N x
def mp_gl (M : mo_M) (a ci k : Nat) (N : Int64 → Prop) : Prop := ∃ (fs : List Value) (x : Int64), M a = some (.inr (ci, fs)) ∧ fs[k]? = some (.long x) ∧ N x
def mp_gr (M : mo_M) (a ci k : Nat) (N : Nat → Prop) : Prop := ∃ (fs : List Value) (x : Nat), M a = some (.inr (ci, fs)) ∧ fs[k]? = some (.ref x) ∧ N x
def mp_pt (M : mo_M) (a ci k : Nat) (v : Value) (N : mo_M → Prop) : Prop := ∃ fs : List Value, M a = some (.inr (ci, fs)) ∧ k < fs.length ∧ N (va_up M a (some (.inr (ci, fs.set k v))))
def mp_ai (cA : ClassId) (M : mo_M) (a : Nat) (i : Int32) (N : Int32 → Prop) : Prop := ∃ (n : Nat) (f : Nat → Int32), M a = some (.inl (cA, n, .inl f)) ∧ vp_in i n ∧ N (f i.toNatClampNeg)
def mp_al (cA : ClassId) (M : mo_M) (a : Nat) (i : Int32) (N : Int64 → Prop) : Prop := ∃ (n : Nat) (f : Nat → Int64), M a = some (.inl (cA, n, .inr (.inl f))) ∧ vp_in i n ∧ N (f i.toNatClampNeg)
def mp_ar (cA : ClassId) (M : mo_M) (a : Nat) (i : Int32) (N : Nat → Prop) : Prop := ∃ (n : Nat) (f : Nat → Option Nat) (b : Nat), M a = some (.inl (cA, n, .inr (.inr (.inr (.inr f))))) ∧ vp_in i n ∧ f i.toNatClampNeg = some b ∧ N b
def mp_si (cA : ClassId) (M : mo_M) (a : Nat) (i x : Int32) (N : mo_M → Prop) : Prop := ∃ (n : Nat) (f : Nat → Int32), M a = some (.inl (cA, n, .inl f)) ∧ vp_in i n ∧ N (va_up M a (some (.inl (cA, n, .inl (upd f i.toNatClampNeg x)))))
def mp_sz (cA : ClassId) (M : mo_M) (a : Nat) (i x : Int32) (N : mo_M → Prop) : Prop := ∃ (n : Nat) (f : Nat → Int32), M a = some (.inl (cA, n, .inl f)) ∧ vp_in i n ∧ N (va_up M a (some (.inl (cA, n, .inl (upd f i.toNatClampNeg (vp_nar .boolean x))))))
def mp_sl (cA : ClassId) (M : mo_M) (a : Nat) (i : Int32) (x : Int64) (N : mo_M → Prop) : Prop := ∃ (n : Nat) (f : Nat → Int64), M a = some (.inl (cA, n, .inr (.inl f))) ∧ vp_in i n ∧ N (va_up M a (some (.inl (cA, n, .inr (.inl (vp_updL f i.toNatClampNeg x))))))
def mp_ln (cA : ClassId) (M : mo_M) (a : Nat) (N : Int32 → Prop) : Prop := ∃ x : vp_A, M a = some (.inl (cA, x)) ∧ N (nI x.1)
def mp_nw (M : mo_M) (ci : Nat) (fs : List Value) (N : Nat → mo_M → Prop) : Prop := ∀ q, mo_fr M q → N q (va_up M q (some (.inr (ci, fs))))
def mp_na (cA : ClassId) (M : mo_M) (n : Int32) (x : (Nat → Int32) ⊕ (Nat → Int64) ⊕ (Nat → UInt32) ⊕ (Nat → UInt64) ⊕ (Nat → Option Nat)) (N : Nat → mo_M → Prop) : Prop := ¬ n < 0 ∧ n.toNatClampNeg ≤ 1000000 ∧ ∀ q, mo_fr M q → N q (va_up M q (some (.inl (cA, n.toNatClampNeg, x))))
/-- the receiver is of that kind -/
def mp_is (M : mo_M) (a ci : Nat) : Prop := ∃ fs : List Value, M a = some (.inr (ci, fs))
theorem mo_frs {L0 : Nat} {D : va_G} {cl : List vw_C} {M : mo_M} {H : Heap} (h : mo_in L0 D cl M H) : mo_fr M H.size := by
  intro b hb
  cases q : M b with
  | none => rfl
  | some e => exact absurd (mo_lt h q).2 (Nat.not_lt.mpr hb)
section MRR
variable {p : Program} {l : Launch} {e : Env} {R : Room} {s : State} {m : MethodId} {args : Array Value} {below : List Frame} {meth : Method} {c : Code} {H : Heap} {locs : List Loc} {cells slots : Nat} {Q : State → Prop}
variable {cc : ByteArray} {pc : Nat} {ls : Array Slot} {rest : List Value} {L0 : Nat} {e0 : Nat → Nat} {D : va_G} {cl : List vw_C} {a : Nat} {tys : List (ClassId × FieldType)} {M : mo_M}
theorem mr_gi {own ref C : String} {T : u_T} {N ci index k : Nat} {Ts : List Cond} {P : Int32 → Prop} (hexec : p.tables.exec = Jvm.exec) (hb : c.code = cc) (hts : ∀ w ∈ Ts, w.before args s = true) (hown : s.vm.findClass own = some m.cls) (hok : mo_ok L0 e0 D cl tys s M H locs) (hP : mp_gi M a ci k P) (hin : ∀ w ∈ u_ws C T N, w ∈ Ts) (hc : cl[ci]? = some (C, T, N)) (hk : k < N) (hlink : (Cond.fieldLink own index ref (T k).2.1 (T k).2.2.1).before args s = true) (hsame : ∀ x, s.fieldFound? (T k).1 (T k).2.1 (T k).2.2.1 = some x → s.fieldFound? ref (T k).2.1 (T k).2.2.1 = some x) (hdg : decode cc pc = .ok (.getfield index, 3))
    (kk : ∀ x : Int32, P x → W p l e R s m args below meth c H locs cells slots Q (F0 m (pc + 3) ls (.int x :: rest))) : W p l e R s m args below meth c H locs cells slots Q (F0 m pc ls (.ref a :: rest)) := by
  obtain ⟨fs, x, he, hv, hN⟩ := hP
  exact mo_get hexec hb hts hin hown hok he hc k hk hlink hsame hv hdg (kk x hN)
theorem mr_giN {own ref C host : String} {T : u_T} {N ci index k : Nat} {Ts : List Cond} {P : Int32 → Prop} (hexec : p.tables.exec = Jvm.exec) (hb : c.code = cc) (hts : ∀ w ∈ Ts, w.before args s = true) (hown : s.vm.findClass own = some m.cls) (hok : mo_ok L0 e0 D cl tys s M H locs) (hP : mp_gi M a ci k P) (hin : ∀ w ∈ u_ws C T N, w ∈ Ts) (hc : cl[ci]? = some (C, T, N)) (hk : k < N) (hlink : (Cond.fieldLinkNest own index ref (T k).2.1 (T k).2.2.1 host).before args s = true) (hsame : ∀ x, s.fieldFound? (T k).1 (T k).2.1 (T k).2.2.1 = some x → s.fieldFound? ref (T k).2.1 (T k).2.2.1 = some x) (hdg : decode cc pc = .ok (.getfield index, 3))
    (kk : ∀ x : Int32, P x → W p l e R s m args below meth c H locs cells slots Q (F0 m (pc + 3) ls (.int x :: rest))) : W p l e R s m args below meth c H locs cells slots Q (F0 m pc ls (.ref a :: rest)) := by
  obtain ⟨fs, x, he, hv, hN⟩ := hP
  exact mo_getN hexec hb hts hin hown hok he hc k hk hlink hsame hv hdg (kk x hN)
theorem mr_gl {own ref C : String} {T : u_T} {N ci index k : Nat} {Ts : List Cond} {P : Int64 → Prop} (hexec : p.tables.exec = Jvm.exec) (hb : c.code = cc) (hts : ∀ w ∈ Ts, w.before args s = true) (hown : s.vm.findClass own = some m.cls) (hok : mo_ok L0 e0 D cl tys s M H locs) (hP : mp_gl M a ci k P) (hin : ∀ w ∈ u_ws C T N, w ∈ Ts) (hc : cl[ci]? = some (C, T, N)) (hk : k < N) (hlink : (Cond.fieldLink own index ref (T k).2.1 (T k).2.2.1).before args s = true) (hsame : ∀ x, s.fieldFound? (T k).1 (T k).2.1 (T k).2.2.1 = some x → s.fieldFound? ref (T k).2.1 (T k).2.2.1 = some x) (hdg : decode cc pc = .ok (.getfield index, 3))
    (kk : ∀ x : Int64, P x → W p l e R s m args below meth c H locs cells slots Q (F0 m (pc + 3) ls (.long x :: rest))) : W p l e R s m args below meth c H locs cells slots Q (F0 m pc ls (.ref a :: rest)) := by
  obtain ⟨fs, x, he, hv, hN⟩ := hP
  exact mo_get hexec hb hts hin hown hok he hc k hk hlink hsame hv hdg (kk x hN)
theorem mr_glN {own ref C host : String} {T : u_T} {N ci index k : Nat} {Ts : List Cond} {P : Int64 → Prop} (hexec : p.tables.exec = Jvm.exec) (hb : c.code = cc) (hts : ∀ w ∈ Ts, w.before args s = true) (hown : s.vm.findClass own = some m.cls) (hok : mo_ok L0 e0 D cl tys s M H locs) (hP : mp_gl M a ci k P) (hin : ∀ w ∈ u_ws C T N, w ∈ Ts) (hc : cl[ci]? = some (C, T, N)) (hk : k < N) (hlink : (Cond.fieldLinkNest own index ref (T k).2.1 (T k).2.2.1 host).before args s = true) (hsame : ∀ x, s.fieldFound? (T k).1 (T k).2.1 (T k).2.2.1 = some x → s.fieldFound? ref (T k).2.1 (T k).2.2.1 = some x) (hdg : decode cc pc = .ok (.getfield index, 3))
    (kk : ∀ x : Int64, P x → W p l e R s m args below meth c H locs cells slots Q (F0 m (pc + 3) ls (.long x :: rest))) : W p l e R s m args below meth c H locs cells slots Q (F0 m pc ls (.ref a :: rest)) := by
  obtain ⟨fs, x, he, hv, hN⟩ := hP
  exact mo_getN hexec hb hts hin hown hok he hc k hk hlink hsame hv hdg (kk x hN)
theorem mr_gr {own ref C : String} {T : u_T} {N ci index k : Nat} {Ts : List Cond} {P : Nat → Prop} (hexec : p.tables.exec = Jvm.exec) (hb : c.code = cc) (hts : ∀ w ∈ Ts, w.before args s = true) (hown : s.vm.findClass own = some m.cls) (hok : mo_ok L0 e0 D cl tys s M H locs) (hP : mp_gr M a ci k P) (hin : ∀ w ∈ u_ws C T N, w ∈ Ts) (hc : cl[ci]? = some (C, T, N)) (hk : k < N) (hlink : (Cond.fieldLink own index ref (T k).2.1 (T k).2.2.1).before args s = true) (hsame : ∀ x, s.fieldFound? (T k).1 (T k).2.1 (T k).2.2.1 = some x → s.fieldFound? ref (T k).2.1 (T k).2.2.1 = some x) (hdg : decode cc pc = .ok (.getfield index, 3))
    (kk : ∀ x : Nat, P x → W p l e R s m args below meth c H locs cells slots Q (F0 m (pc + 3) ls (.ref x :: rest))) : W p l e R s m args below meth c H locs cells slots Q (F0 m pc ls (.ref a :: rest)) := by
  obtain ⟨fs, x, he, hv, hN⟩ := hP
  exact mo_get hexec hb hts hin hown hok he hc k hk hlink hsame hv hdg (kk x hN)
theorem mr_grN {own ref C host : String} {T : u_T} {N ci index k : Nat} {Ts : List Cond} {P : Nat → Prop} (hexec : p.tables.exec = Jvm.exec) (hb : c.code = cc) (hts : ∀ w ∈ Ts, w.before args s = true) (hown : s.vm.findClass own = some m.cls) (hok : mo_ok L0 e0 D cl tys s M H locs) (hP : mp_gr M a ci k P) (hin : ∀ w ∈ u_ws C T N, w ∈ Ts) (hc : cl[ci]? = some (C, T, N)) (hk : k < N) (hlink : (Cond.fieldLinkNest own index ref (T k).2.1 (T k).2.2.1 host).before args s = true) (hsame : ∀ x, s.fieldFound? (T k).1 (T k).2.1 (T k).2.2.1 = some x → s.fieldFound? ref (T k).2.1 (T k).2.2.1 = some x) (hdg : decode cc pc = .ok (.getfield index, 3))
    (kk : ∀ x : Nat, P x → W p l e R s m args below meth c H locs cells slots Q (F0 m (pc + 3) ls (.ref x :: rest))) : W p l e R s m args below meth c H locs cells slots Q (F0 m pc ls (.ref a :: rest)) := by
  obtain ⟨fs, x, he, hv, hN⟩ := hP
  exact mo_getN hexec hb hts hin hown hok he hc k hk hlink hsame hv hdg (kk x hN)
theorem mr_pt {own ref C : String} {T : u_T} {N ci index k : Nat} {Ts : List Cond} {P : mo_M → Prop} {ty : FieldType} {v : Value} (hexec : p.tables.exec = Jvm.exec) (hb : c.code = cc) (hts : ∀ w ∈ Ts, w.before args s = true) (hown : s.vm.findClass own = some m.cls) (hok : mo_ok L0 e0 D cl tys s M H locs) (hP : mp_pt M a ci k v P) (hin : ∀ w ∈ u_ws C T N, w ∈ Ts) (ty0 : Nat → FieldType) (hty : ∀ k, k < N → parseFieldDescriptor (T k).2.2.1 = some (ty0 k)) (hnm : ∀ a, a < N → ∀ b, b < N → a ≠ b → (T a).2.1 ≠ (T b).2.1) (hc : cl[ci]? = some (C, T, N)) (hk : k < N) (hlink : (Cond.fieldLink own index ref (T k).2.1 (T k).2.2.1).before args s = true) (hsame : ∀ x, s.fieldFound? (T k).1 (T k).2.1 (T k).2.2.1 = some x → s.fieldFound? ref (T k).2.1 (T k).2.2.1 = some x) (hfin : (T k).2.2.2 = false) (hd : parseFieldDescriptor (T k).2.2.1 = some ty) (hn : narrow ty v = v) (hfit : fits ty v = true) (hdg : decode cc pc = .ok (.putfield index, 3))
    (kk : ∀ (M1 : mo_M) (H1 : Heap) (locs1 : List Loc), P M1 → mo_ok L0 e0 D cl tys s M1 H1 locs1 → W p l e R s m args below meth c H1 locs1 cells slots Q (F0 m (pc + 3) ls rest)) : W p l e R s m args below meth c H locs cells slots Q (F0 m pc ls (v :: .ref a :: rest)) := by
  obtain ⟨fs, he, hlt, hN⟩ := hP
  exact mo_put hexec hb hts hin ty0 hty hnm hown hok he hc k hk hlink hsame hfin hd hn hfit hlt hdg (fun H1 locs1 h1 => kk _ H1 locs1 hN h1)
theorem mr_ptF {own ref C : String} {T : u_T} {N ci index k : Nat} {Ts : List Cond} {P : mo_M → Prop} {ty : FieldType} {v : Value} (hexec : p.tables.exec = Jvm.exec) (hb : c.code = cc) (hts : ∀ w ∈ Ts, w.before args s = true) (hown : s.vm.findClass own = some m.cls) (hok : mo_ok L0 e0 D cl tys s M H locs) (hP : mp_pt M a ci k v P) (hin : ∀ w ∈ u_ws C T N, w ∈ Ts) (ty0 : Nat → FieldType) (hty : ∀ k, k < N → parseFieldDescriptor (T k).2.2.1 = some (ty0 k)) (hnm : ∀ a, a < N → ∀ b, b < N → a ≠ b → (T a).2.1 ≠ (T b).2.1) (hc : cl[ci]? = some (C, T, N)) (hk : k < N) (hlink : (Cond.fieldLink own index ref (T k).2.1 (T k).2.2.1).before args s = true) (hsame : ∀ x, s.fieldFound? (T k).1 (T k).2.1 (T k).2.2.1 = some x → s.fieldFound? ref (T k).2.1 (T k).2.2.1 = some x) (hfin : (T k).2.2.2 = true) (hin2 : meth.name = "<init>") (hdecl : (T k).1 = own) (hd : parseFieldDescriptor (T k).2.2.1 = some ty) (hn : narrow ty v = v) (hfit : fits ty v = true) (hdg : decode cc pc = .ok (.putfield index, 3))
    (kk : ∀ (M1 : mo_M) (H1 : Heap) (locs1 : List Loc), P M1 → mo_ok L0 e0 D cl tys s M1 H1 locs1 → W p l e R s m args below meth c H1 locs1 cells slots Q (F0 m (pc + 3) ls rest)) : W p l e R s m args below meth c H locs cells slots Q (F0 m pc ls (v :: .ref a :: rest)) := by
  obtain ⟨fs, he, hlt, hN⟩ := hP
  exact mo_putF hexec hb hts hin ty0 hty hnm hown hok he hc k hk hlink hsame hfin hin2 hdecl hd hn hfit hlt hdg (fun H1 locs1 h1 => kk _ H1 locs1 hN h1)
theorem mr_ai {cA : ClassId} {i : Int32} {P : Int32 → Prop} (hexec : p.tables.exec = Jvm.exec) (hb : c.code = cc) (hok : mo_ok L0 e0 D cl tys s M H locs) (hP : mp_ai cA M a i P) (t0 : Nat) (ht : tys[t0]? = some (cA, .int)) (hdg : decode cc pc = .ok (.iaload, 1))
    (kk : ∀ x : Int32, P x → W p l e R s m args below meth c H locs cells slots Q (F0 m (pc + 1) ls (.int x :: rest))) : W p l e R s m args below meth c H locs cells slots Q (F0 m pc ls (.int i :: .ref a :: rest)) := by
  obtain ⟨n, f, he, hi, hN⟩ := hP
  exact mo_iald hexec hb hok t0 he ht hi hdg (kk _ hN)
theorem mr_az {cA : ClassId} {i : Int32} {P : Int32 → Prop} (hexec : p.tables.exec = Jvm.exec) (hb : c.code = cc) (hok : mo_ok L0 e0 D cl tys s M H locs) (hP : mp_ai cA M a i P) (t0 : Nat) (ht : tys[t0]? = some (cA, .boolean)) (hdg : decode cc pc = .ok (.baload, 1))
    (kk : ∀ x : Int32, P x → W p l e R s m args below meth c H locs cells slots Q (F0 m (pc + 1) ls (.int x :: rest))) : W p l e R s m args below meth c H locs cells slots Q (F0 m pc ls (.int i :: .ref a :: rest)) := by
  obtain ⟨n, f, he, hi, hN⟩ := hP
  exact mo_zald hexec hb hok t0 he ht hi hdg (kk _ hN)
theorem mr_al {cA : ClassId} {i : Int32} {P : Int64 → Prop} (hexec : p.tables.exec = Jvm.exec) (hb : c.code = cc) (hok : mo_ok L0 e0 D cl tys s M H locs) (hP : mp_al cA M a i P) (t0 : Nat) (ht : tys[t0]? = some (cA, .long)) (hdg : decode cc pc = .ok (.laload, 1))
    (kk : ∀ x : Int64, P x → W p l e R s m args below meth c H locs cells slots Q (F0 m (pc + 1) ls (.long x :: rest))) : W p l e R s m args below meth c H locs cells slots Q (F0 m pc ls (.int i :: .ref a :: rest)) := by
  obtain ⟨n, f, he, hi, hN⟩ := hP
  exact mo_lald hexec hb hok t0 he ht hi hdg (kk _ hN)
theorem mr_ar {cA : ClassId} {i : Int32} {P : Nat → Prop} {ty : FieldType} (hexec : p.tables.exec = Jvm.exec) (hb : c.code = cc) (hok : mo_ok L0 e0 D cl tys s M H locs) (hP : mp_ar cA M a i P) (t0 : Nat) (ht : tys[t0]? = some (cA, ty)) (hty : ty.isReference = true) (hdg : decode cc pc = .ok (.aaload, 1))
    (kk : ∀ x : Nat, P x → W p l e R s m args below meth c H locs cells slots Q (F0 m (pc + 1) ls (.ref x :: rest))) : W p l e R s m args below meth c H locs cells slots Q (F0 m pc ls (.int i :: .ref a :: rest)) := by
  obtain ⟨n, f, b, he, hi, hf, hN⟩ := hP
  refine mo_aald hexec hb hok t0 hty he ht hi hdg ?_
  rw [hf]
  exact kk b hN
theorem mr_si {cA : ClassId} {i : Int32} {x : Int32} {P : mo_M → Prop} (hexec : p.tables.exec = Jvm.exec) (hb : c.code = cc) (hok : mo_ok L0 e0 D cl tys s M H locs) (hP : mp_si cA M a i x P) (t0 : Nat) (ht : tys[t0]? = some (cA, .int)) (hdg : decode cc pc = .ok (.iastore, 1))
    (kk : ∀ (M1 : mo_M) (H1 : Heap) (locs1 : List Loc), P M1 → mo_ok L0 e0 D cl tys s M1 H1 locs1 → W p l e R s m args below meth c H1 locs1 cells slots Q (F0 m (pc + 1) ls rest)) : W p l e R s m args below meth c H locs cells slots Q (F0 m pc ls (.int x :: .int i :: .ref a :: rest)) := by
  obtain ⟨n, f, he, hi, hN⟩ := hP
  exact mo_iast hexec hb hok t0 he ht hi hdg (fun H1 locs1 h1 => kk _ H1 locs1 hN h1)
theorem mr_sz {cA : ClassId} {i : Int32} {x : Int32} {P : mo_M → Prop} (hexec : p.tables.exec = Jvm.exec) (hb : c.code = cc) (hok : mo_ok L0 e0 D cl tys s M H locs) (hP : mp_sz cA M a i x P) (t0 : Nat) (ht : tys[t0]? = some (cA, .boolean)) (hdg : decode cc pc = .ok (.bastore, 1))
    (kk : ∀ (M1 : mo_M) (H1 : Heap) (locs1 : List Loc), P M1 → mo_ok L0 e0 D cl tys s M1 H1 locs1 → W p l e R s m args below meth c H1 locs1 cells slots Q (F0 m (pc + 1) ls rest)) : W p l e R s m args below meth c H locs cells slots Q (F0 m pc ls (.int x :: .int i :: .ref a :: rest)) := by
  obtain ⟨n, f, he, hi, hN⟩ := hP
  exact mo_zast hexec hb hok t0 he ht hi hdg (fun H1 locs1 h1 => kk _ H1 locs1 hN h1)
theorem mr_sl {cA : ClassId} {i : Int32} {x : Int64} {P : mo_M → Prop} (hexec : p.tables.exec = Jvm.exec) (hb : c.code = cc) (hok : mo_ok L0 e0 D cl tys s M H locs) (hP : mp_sl cA M a i x P) (t0 : Nat) (ht : tys[t0]? = some (cA, .long)) (hdg : decode cc pc = .ok (.lastore, 1))
    (kk : ∀ (M1 : mo_M) (H1 : Heap) (locs1 : List Loc), P M1 → mo_ok L0 e0 D cl tys s M1 H1 locs1 → W p l e R s m args below meth c H1 locs1 cells slots Q (F0 m (pc + 1) ls rest)) : W p l e R s m args below meth c H locs cells slots Q (F0 m pc ls (.long x :: .int i :: .ref a :: rest)) := by
  obtain ⟨n, f, he, hi, hN⟩ := hP
  exact mo_last hexec hb hok t0 he ht hi hdg (fun H1 locs1 h1 => kk _ H1 locs1 hN h1)
theorem mr_ln {cA : ClassId} {P : Int32 → Prop} {ty : FieldType} (hexec : p.tables.exec = Jvm.exec) (hb : c.code = cc) (hok : mo_ok L0 e0 D cl tys s M H locs) (hP : mp_ln cA M a P) (t0 : Nat) (ht : tys[t0]? = some (cA, ty)) (hdg : decode cc pc = .ok (.arraylength, 1))
    (kk : ∀ x : Int32, P x → W p l e R s m args below meth c H locs cells slots Q (F0 m (pc + 1) ls (.int x :: rest))) : W p l e R s m args below meth c H locs cells slots Q (F0 m pc ls (.ref a :: rest)) := by
  obtain ⟨x, he, hN⟩ := hP
  exact mo_alen hexec hb hok t0 he ht hdg (kk _ hN)
theorem mr_nw {own C : String} {T : u_T} {N ci index : Nat} {Ts : List Cond} {fs : List Value} {P : Nat → mo_M → Prop} (hexec : p.tables.exec = Jvm.exec) (hb : c.code = cc) (hts : ∀ w ∈ Ts, w.before args s = true) (hown : s.vm.findClass own = some m.cls) (hok : mo_ok L0 e0 D cl tys s M H locs) (hP : mp_nw M ci fs P) (hin : ∀ w ∈ u_ws C T N, w ∈ Ts) (ty : Nat → FieldType) (hty : ∀ k, k < N → parseFieldDescriptor (T k).2.2.1 = some (ty k)) (hc : cl[ci]? = some (C, T, N)) (hfs : ∀ j, j < N → defaultValue (ty j) = vp_V fs j) (hcl : (Cond.classLink own index C).before args s = true) (hinst : (Cond.instantiable C N).before args s = true) (hini : (Cond.initialized C).before args s = true) (hcells : cells + 1 ≤ R.cells) (hslots : slots + N ≤ R.slots) (hdg : decode cc pc = .ok (.new index, 3))
    (kk : ∀ (q : Nat) (M1 : mo_M) (H1 : Heap), P q M1 → mo_ok L0 e0 D cl tys s M1 H1 locs → W p l e R s m args below meth c H1 locs (cells + 1) (slots + N) Q (F0 m (pc + 3) ls (.ref q :: rest))) : W p l e R s m args below meth c H locs cells slots Q (F0 m pc ls rest) := by
  obtain ⟨h0, ⟨hK, hE⟩, hI, hS⟩ := hok
  have hKn := hK.1 ci _ hc
  refine W.newcK hexec hb hown hcl hinst hini rfl hdg hcells hslots hKn.2.1 rfl fun H1 kC hkC e1 z1 o1 => ?_
  exact kk H.size _ H1 (hP _ (mo_frs hI)) ⟨h0, ⟨hK, hE⟩, mo_cr hI (Nat.le_trans h0 hS.1) ⟨_, hc, (u_born ty hts hin hKn hkC e1 hty).to hfs⟩ o1, mo_crS hS (by omega) o1⟩
theorem mr_na {atype : ArrayType} {cA : ClassId} {ty : FieldType} {n : Int32} {x : (Nat → Int32) ⊕ (Nat → Int64) ⊕ (Nat → UInt32) ⊕ (Nat → UInt64) ⊕ (Nat → Option Nat)} {P : Nat → mo_M → Prop} (hexec : p.tables.exec = Jvm.exec) (hb : c.code = cc) (hok : mo_ok L0 e0 D cl tys s M H locs) (hP : mp_na cA M n x P) (harr : (Cond.arrayClass (newarray.typeOf atype)).before args s = true) (hty : newarray.typeOf atype = ty) (t0 : Nat) (ht : tys[t0]? = some (cA, ty)) (hpr : va_RA s cA ty → s.vm.findClass ("[" ++ ty.toString) = some cA)
    (ha : ∀ N', vp_cell cA (N', x) = arrV cA N' (fun _ => defaultValue ty)) (hby : componentBytes ty ≤ 8) (hcells : cells + 1 ≤ R.cells) (hslots : slots + n.toNatClampNeg ≤ R.slots) (hdg : decode cc pc = .ok (.newarray atype, 2))
    (kk : ∀ (q : Nat) (M1 : mo_M) (H1 : Heap), P q M1 → mo_ok L0 e0 D cl tys s M1 H1 locs → W p l e R s m args below meth c H1 locs (cells + 1) (slots + n.toNatClampNeg) Q (F0 m (pc + 2) ls (.ref q :: rest))) : W p l e R s m args below meth c H locs cells slots Q (F0 m pc ls (.int n :: rest)) := by
  subst hty
  obtain ⟨h0, ⟨hK, hE⟩, hI, hS⟩ := hok
  obtain ⟨hn, hle, hP⟩ := hP
  have hbytes : n.toNatClampNeg * componentBytes (newarray.typeOf atype) ≤ 536870912 := Nat.le_trans (Nat.mul_le_mul hle hby) (by decide)
  refine va_newaK hexec hb harr rfl hdg rfl hn rfl hbytes hcells hslots rfl fun H1 cA' e1 z1 o1 hAr hNm => ?_
  have e2 : cA' = cA := Option.some.inj (hNm.symm.trans (hpr (hK.2 t0 _ ht).2))
  subst e2
  exact kk H.size _ H1 (hP _ (mo_frs hI)) ⟨h0, ⟨hK, hE⟩, mo_cr hI (Nat.le_trans h0 hS.1) (show H1[H.size]? = some (vp_cell _ _) by rw [ha]; exact e1) o1, mo_crS hS (by omega) o1⟩
end MRR
section MRX
variable {p : Program} {l : Launch} {e : Env} {R : Room} {s : State} {m : MethodId} {args : Array Value} {below : List Frame} {meth : Method} {c : Code} {H : Heap} {locs : List Loc} {cells slots : Nat} {Q : State → Prop}
variable {cc : ByteArray} {pc : Nat} {ls : Array Slot} {rest : List Value} {L0 : Nat} {e0 : Nat → Nat} {D : va_G} {cl : List vw_C} {a : Nat} {tys : List (ClassId × FieldType)} {M : mo_M}
theorem mo_nw_of (hok : mo_ok L0 e0 D cl tys s M H locs) {w : Cond} (hw : w ∈ lw_tbl) (hk : lw_nk w = true) : va_Nw w s := hok.2.1.2.1.1 w hw hk
theorem mr_cast {own C : String} {T : u_T} {N ci index : Nat} (hexec : p.tables.exec = Jvm.exec) (hb : c.code = cc) (hown : s.vm.findClass own = some m.cls) (hok : mo_ok L0 e0 D cl tys s M H locs) (his : mp_is M a ci) (hc : cl[ci]? = some (C, T, N)) (hlink : (Cond.classLink own index C).before args s = true) (hdg : decode cc pc = .ok (.checkcast index, 3))
    (k : W p l e R s m args below meth c H locs cells slots Q (F0 m (pc + 3) ls (.ref a :: rest))) : W p l e R s m args below meth c H locs cells slots Q (F0 m pc ls (.ref a :: rest)) := by
  obtain ⟨fs, he⟩ := his
  have hp := (mo_preV hok he hc []).2.1
  exact va_castS hexec hb hown hlink (hok.2.1.1.1 ci _ hc).2 hp hdg k
/-- the empty array that lists begin with -/
theorem mr_gst {own : String} {index : Nat} (hexec : p.tables.exec = Jvm.exec) (hb : c.code = cc) (hown : s.vm.findClass own = some m.cls) (hok : mo_ok L0 e0 D cl tys s M H locs) (hlink : (Cond.fieldLink own index "java/util/ArrayList" "DEFAULTCAPACITY_EMPTY_ELEMENTDATA" "[Ljava/lang/Object;").before args s = true) (hdg : decode cc pc = .ok (.getstatic index, 3))
    (kk : W p l e R s m args below meth c H locs cells slots Q (F0 m (pc + 3) ls (.ref (e0 0) :: rest))) : W p l e R s m args below meth c H locs cells slots Q (F0 m pc ls rest) :=
  va_gets hexec hb hok.2.1.2.2.1 hok.2.2.2 hown hlink (fun _ h => h) hdg kk
/-- the length of a list's array: one of the map, or the empty one -/
def mp_lq (cA : ClassId) (e0 : Nat → Nat) (M : mo_M) (a : Nat) (N : Int32 → Prop) : Prop := (∃ x : vp_A, M a = some (.inl (cA, x)) ∧ N (nI x.1)) ∨ (a = e0 0 ∧ N 0)
theorem mr_lq {cA : ClassId} {P : Int32 → Prop} {ty : FieldType} (hexec : p.tables.exec = Jvm.exec) (hb : c.code = cc) (hok : mo_ok L0 e0 D cl tys s M H locs) (hP : mp_lq cA e0 M a P) (t0 : Nat) (ht : tys[t0]? = some (cA, ty)) (hdg : decode cc pc = .ok (.arraylength, 1))
    (kk : ∀ x : Int32, P x → W p l e R s m args below meth c H locs cells slots Q (F0 m (pc + 1) ls (.int x :: rest))) : W p l e R s m args below meth c H locs cells slots Q (F0 m pc ls (.ref a :: rest)) := by
  rcases hP with ⟨x, he, hN⟩ | ⟨rfl, hN⟩
  · exact mo_alen hexec hb hok t0 he ht hdg (kk _ hN)
  · exact va_tlen hexec hb hok.2.1.2.2.2 hok.2.2.2 rfl hdg (kk _ hN)
theorem mr_acmp_eq {rx ry : Nat} {off : Int} {tgt : Nat} (hexec : p.tables.exec = Jvm.exec) (hb : c.code = cc) (hdg : decode cc pc = .ok (.if_acmp .eq off, 3)) (ht : (pc : Int) + off = (tgt : Int))
    (kt : rx = ry → W p l e R s m args below meth c H locs cells slots Q (F0 m tgt ls rest)) (kf : ¬ rx = ry → W p l e R s m args below meth c H locs cells slots Q (F0 m (pc + 3) ls rest)) : W p l e R s m args below meth c H locs cells slots Q (F0 m pc ls (.ref ry :: .ref rx :: rest)) :=
  lv_acmp_eq (rx := some rx) (ry := some ry) hexec hb hdg ht (fun h => kt (Option.some.inj h)) (fun h => kf (fun q => h (by rw [q])))
theorem mr_acmp_ne {rx ry : Nat} {off : Int} {tgt : Nat} (hexec : p.tables.exec = Jvm.exec) (hb : c.code = cc) (hdg : decode cc pc = .ok (.if_acmp .ne off, 3)) (ht : (pc : Int) + off = (tgt : Int))
    (kt : ¬ rx = ry → W p l e R s m args below meth c H locs cells slots Q (F0 m tgt ls rest)) (kf : rx = ry → W p l e R s m args below meth c H locs cells slots Q (F0 m (pc + 3) ls rest)) : W p l e R s m args below meth c H locs cells slots Q (F0 m pc ls (.ref ry :: .ref rx :: rest)) :=
  lv_acmp_ne (rx := some rx) (ry := some ry) hexec hb hdg ht (fun h => kt (fun q => h (by rw [q]))) (fun h => kf (Option.some.inj h))
end MRX
/-! how what an instruction asks is met, when the map is known at the address -/
section MQ2
variable {M : mo_M} {a ci k : Nat} {cA : ClassId}
theorem mq_gi {fs : List Value} {x : Int32} {N : Int32 → Prop} (h : M a = some (.inr (ci, fs))) (hk : fs[k]? = some (.int x)) (hN : N x) : mp_gi M a ci k N := ⟨fs, x, h, hk, hN⟩
theorem mq_gl {fs : List Value} {x : Int64} {N : Int64 → Prop} (h : M a = some (.inr (ci, fs))) (hk : fs[k]? = some (.long x)) (hN : N x) : mp_gl M a ci k N := ⟨fs, x, h, hk, hN⟩
theorem mq_gr {fs : List Value} {x : Nat} {N : Nat → Prop} (h : M a = some (.inr (ci, fs))) (hk : fs[k]? = some (.ref x)) (hN : N x) : mp_gr M a ci k N := ⟨fs, x, h, hk, hN⟩
theorem mq_pt {fs : List Value} {v : Value} {N : mo_M → Prop} (h : M a = some (.inr (ci, fs))) (hk : k < fs.length) (hN : N (va_up M a (some (.inr (ci, fs.set k v))))) : mp_pt M a ci k v N := ⟨fs, h, hk, hN⟩
theorem mq_ai {n j : Nat} {f : Nat → Int32} {i : Int32} {N : Int32 → Prop} (h : M a = some (.inl (cA, n, .inl f))) (hi : i = nI j) (hj : j < n) (hn : n < 2 ^ 31) (hN : N (f j)) : mp_ai cA M a i N := by
  subst hi
  exact ⟨n, f, h, vp_in_nI hj hn, by rw [nI_clamp (Nat.lt_trans hj hn)]; exact hN⟩
theorem mq_al {n j : Nat} {f : Nat → Int64} {i : Int32} {N : Int64 → Prop} (h : M a = some (.inl (cA, n, .inr (.inl f)))) (hi : i = nI j) (hj : j < n) (hn : n < 2 ^ 31) (hN : N (f j)) : mp_al cA M a i N := by
  subst hi
  exact ⟨n, f, h, vp_in_nI hj hn, by rw [nI_clamp (Nat.lt_trans hj hn)]; exact hN⟩
theorem mq_ar {n j b : Nat} {f : Nat → Option Nat} {i : Int32} {N : Nat → Prop} (h : M a = some (.inl (cA, n, .inr (.inr (.inr (.inr f)))))) (hi : i = nI j) (hj : j < n) (hn : n < 2 ^ 31) (hb : f j = some b) (hN : N b) : mp_ar cA M a i N := by
  subst hi
  exact ⟨n, f, b, h, vp_in_nI hj hn, by rw [nI_clamp (Nat.lt_trans hj hn)]; exact hb, hN⟩
theorem mq_si {n j : Nat} {f : Nat → Int32} {i x : Int32} {N : mo_M → Prop} (h : M a = some (.inl (cA, n, .inl f))) (hi : i = nI j) (hj : j < n) (hn : n < 2 ^ 31) (hN : N (va_up M a (some (.inl (cA, n, .inl (upd f j x)))))) : mp_si cA M a i x N := by
  subst hi
  exact ⟨n, f, h, vp_in_nI hj hn, by rw [nI_clamp (Nat.lt_trans hj hn)]; exact hN⟩
theorem mq_sz {n j : Nat} {f : Nat → Int32} {i x : Int32} {N : mo_M → Prop} (h : M a = some (.inl (cA, n, .inl f))) (hi : i = nI j) (hj : j < n) (hn : n < 2 ^ 31) (hN : N (va_up M a (some (.inl (cA, n, .inl (upd f j (vp_nar .boolean x))))))) : mp_sz cA M a i x N := by
  subst hi
  exact ⟨n, f, h, vp_in_nI hj hn, by rw [nI_clamp (Nat.lt_trans hj hn)]; exact hN⟩
theorem mq_sl {n j : Nat} {f : Nat → Int64} {i : Int32} {x : Int64} {N : mo_M → Prop} (h : M a = some (.inl (cA, n, .inr (.inl f)))) (hi : i = nI j) (hj : j < n) (hn : n < 2 ^ 31) (hN : N (va_up M a (some (.inl (cA, n, .inr (.inl (vp_updL f j x))))))) : mp_sl cA M a i x N := by
  subst hi
  exact ⟨n, f, h, vp_in_nI hj hn, by rw [nI_clamp (Nat.lt_trans hj hn)]; exact hN⟩
theorem mq_ln {x : vp_A} {N : Int32 → Prop} (h : M a = some (.inl (cA, x))) (hN : N (nI x.1)) : mp_ln cA M a N := ⟨x, h, hN⟩
end MQ2
/-- a truth value as the machine has it -/
def zb_i (b : Bool) : Int32 := if b = true then 1 else 0
theorem zb_nar (b : Bool) : narrow .boolean (.int (zb_i b)) = .int (zb_i b) := by cases b <;> rfl
theorem zb_t : zb_i true = 1 := rfl
theorem zb_f : zb_i false = 0 := rfl
theorem zb_0 (b : Bool) : zb_i b = 0 ↔ b = false := by cases b <;> decide
end
section
def F_0 : u_T := fun k => match k with
  | 0 => ("PurseHouse", "kiosks", "[LPurseHouse$Kiosk;", true)
  | 1 => ("PurseHouse", "links", "Ljava/util/ArrayList;", true)
  | 2 => ("PurseHouse", "rateTops", "[[I", true)
  | 3 => ("PurseHouse", "rateBottoms", "[[I", true)
  | _ => ("PurseHouse", "numbers", "I", false)
def ty_0 : Nat → FieldType := fun k => match k with
  | 0 => (.array (.object "PurseHouse$Kiosk"))
  | 1 => (.object "java/util/ArrayList")
  | 2 => (.array (.array .int))
  | 3 => (.array (.array .int))
  | _ => .int
theorem th_0 : ∀ k, k < 5 → parseFieldDescriptor (F_0 k).2.2.1 = some (ty_0 k) := by decide +kernel
theorem tn_0 : ∀ a, a < 5 → ∀ b, b < 5 → a ≠ b → (F_0 a).2.1 ≠ (F_0 b).2.1 := by decide +kernel
theorem tf_0 : ∀ j, j < 5 → defaultValue (ty_0 j) = vp_V [.null, .null, .null, .null, .int 0] j := by decide +kernel
theorem ui_0 : ∀ w ∈ u_ws "PurseHouse" F_0 5, w ∈ lw_g := by decide +kernel
def F_1 : u_T := fun k => match k with
  | 0 => ("PurseHouse$Kiosk", "stocks", "[J", true)
  | 1 => ("PurseHouse$Kiosk", "tills", "[J", true)
  | 2 => ("PurseHouse$Kiosk", "made", "[J", true)
  | 3 => ("PurseHouse$Kiosk", "eventCount", "I", false)
  | 4 => ("PurseHouse$Kiosk", "marks", "I", false)
  | 5 => ("PurseHouse$Kiosk", "stocksAt", "[[J", true)
  | 6 => ("PurseHouse$Kiosk", "tillsAt", "[[J", true)
  | 7 => ("PurseHouse$Kiosk", "madeAt", "[[J", true)
  | _ => ("PurseHouse$Kiosk", "eventsAt", "[I", true)
def ty_1 : Nat → FieldType := fun k => match k with
  | 0 => (.array .long)
  | 1 => (.array .long)
  | 2 => (.array .long)
  | 3 => .int
  | 4 => .int
  | 5 => (.array (.array .long))
  | 6 => (.array (.array .long))
  | 7 => (.array (.array .long))
  | _ => (.array .int)
theorem th_1 : ∀ k, k < 9 → parseFieldDescriptor (F_1 k).2.2.1 = some (ty_1 k) := by decide +kernel
theorem tn_1 : ∀ a, a < 9 → ∀ b, b < 9 → a ≠ b → (F_1 a).2.1 ≠ (F_1 b).2.1 := by decide +kernel
theorem tf_1 : ∀ j, j < 9 → defaultValue (ty_1 j) = vp_V [.null, .null, .null, .int 0, .int 0, .null, .null, .null, .null] j := by decide +kernel
theorem ui_1 : ∀ w ∈ u_ws "PurseHouse$Kiosk" F_1 9, w ∈ lw_g := by decide +kernel
def F_2 : u_T := fun k => match k with
  | 0 => ("PurseHouse$Link", "from", "LPurseHouse$Kiosk;", true)
  | 1 => ("PurseHouse$Link", "to", "LPurseHouse$Kiosk;", true)
  | 2 => ("PurseHouse$Link", "ordered", "Z", true)
  | 3 => ("PurseHouse$Link", "things", "Ljava/util/ArrayList;", true)
  | 4 => ("PurseHouse$Link", "roads", "[[J", true)
  | _ => ("PurseHouse$Link", "markersTaken", "I", false)
def ty_2 : Nat → FieldType := fun k => match k with
  | 0 => (.object "PurseHouse$Kiosk")
  | 1 => (.object "PurseHouse$Kiosk")
  | 2 => .boolean
  | 3 => (.object "java/util/ArrayList")
  | 4 => (.array (.array .long))
  | _ => .int
theorem th_2 : ∀ k, k < 6 → parseFieldDescriptor (F_2 k).2.2.1 = some (ty_2 k) := by decide +kernel
theorem tn_2 : ∀ a, a < 6 → ∀ b, b < 6 → a ≠ b → (F_2 a).2.1 ≠ (F_2 b).2.1 := by decide +kernel
theorem tf_2 : ∀ j, j < 6 → defaultValue (ty_2 j) = vp_V [.null, .null, .int 0, .null, .null, .int 0] j := by decide +kernel
theorem ui_2 : ∀ w ∈ u_ws "PurseHouse$Link" F_2 6, w ∈ lw_g := by decide +kernel
def F_3 : u_T := fun k => match k with
  | 0 => ("PurseHouse$Thing", "kind", "I", true)
  | 1 => ("PurseHouse$Thing", "currency", "I", true)
  | 2 => ("PurseHouse$Thing", "figure", "I", true)
  | _ => ("PurseHouse$Thing", "marks", "I", true)
def ty_3 : Nat → FieldType := fun k => match k with
  | 0 => .int
  | 1 => .int
  | 2 => .int
  | _ => .int
theorem th_3 : ∀ k, k < 4 → parseFieldDescriptor (F_3 k).2.2.1 = some (ty_3 k) := by decide +kernel
theorem tn_3 : ∀ a, a < 4 → ∀ b, b < 4 → a ≠ b → (F_3 a).2.1 ≠ (F_3 b).2.1 := by decide +kernel
theorem tf_3 : ∀ j, j < 4 → defaultValue (ty_3 j) = vp_V [.int 0, .int 0, .int 0, .int 0] j := by decide +kernel
theorem ui_3 : ∀ w ∈ u_ws "PurseHouse$Thing" F_3 4, w ∈ lw_g := by decide +kernel
def F_4 : u_T := fun k => match k with
  | 0 => ("PurseHouseModel", "thrown", "I", false)
  | 1 => ("PurseHouseModel", "kiosks", "I", true)
  | 2 => ("PurseHouseModel", "time", "I", false)
  | 3 => ("PurseHouseModel", "links", "I", false)
  | 4 => ("PurseHouseModel", "from", "[I", true)
  | 5 => ("PurseHouseModel", "to", "[I", true)
  | 6 => ("PurseHouseModel", "ordered", "[Z", true)
  | 7 => ("PurseHouseModel", "up", "[I", true)
  | 8 => ("PurseHouseModel", "down", "[I", true)
  | 9 => ("PurseHouseModel", "lines", "I", false)
  | 10 => ("PurseHouseModel", "kioskOf", "[I", true)
  | 11 => ("PurseHouseModel", "currencyOf", "[I", true)
  | 12 => ("PurseHouseModel", "at", "[I", true)
  | 13 => ("PurseHouseModel", "event", "[I", true)
  | 14 => ("PurseHouseModel", "toStock", "[J", true)
  | 15 => ("PurseHouseModel", "toTill", "[J", true)
  | 16 => ("PurseHouseModel", "toMint", "[J", true)
  | 17 => ("PurseHouseModel", "things", "I", false)
  | 18 => ("PurseHouseModel", "kind", "[I", true)
  | 19 => ("PurseHouseModel", "link", "[I", true)
  | 20 => ("PurseHouseModel", "currency", "[I", true)
  | 21 => ("PurseHouseModel", "amount", "[I", true)
  | 22 => ("PurseHouseModel", "number", "[I", true)
  | 23 => ("PurseHouseModel", "sentAt", "[I", true)
  | 24 => ("PurseHouseModel", "takenAt", "[I", true)
  | 25 => ("PurseHouseModel", "snapshots", "I", false)
  | _ => ("PurseHouseModel", "recordedAt", "[I", true)
def ty_4 : Nat → FieldType := fun k => match k with
  | 0 => .int
  | 1 => .int
  | 2 => .int
  | 3 => .int
  | 4 => (.array .int)
  | 5 => (.array .int)
  | 6 => (.array .boolean)
  | 7 => (.array .int)
  | 8 => (.array .int)
  | 9 => .int
  | 10 => (.array .int)
  | 11 => (.array .int)
  | 12 => (.array .int)
  | 13 => (.array .int)
  | 14 => (.array .long)
  | 15 => (.array .long)
  | 16 => (.array .long)
  | 17 => .int
  | 18 => (.array .int)
  | 19 => (.array .int)
  | 20 => (.array .int)
  | 21 => (.array .int)
  | 22 => (.array .int)
  | 23 => (.array .int)
  | 24 => (.array .int)
  | 25 => .int
  | _ => (.array .int)
theorem th_4 : ∀ k, k < 27 → parseFieldDescriptor (F_4 k).2.2.1 = some (ty_4 k) := by decide +kernel
theorem tn_4 : ∀ a, a < 27 → ∀ b, b < 27 → a ≠ b → (F_4 a).2.1 ≠ (F_4 b).2.1 := by decide +kernel
theorem tf_4 : ∀ j, j < 27 → defaultValue (ty_4 j) = vp_V [.int 0, .int 0, .int 0, .int 0, .null, .null, .null, .null, .null, .int 0, .null, .null, .null, .null, .null, .null, .null, .int 0, .null, .null, .null, .null, .null, .null, .null, .int 0, .null] j := by decide +kernel
theorem ui_4 : ∀ w ∈ u_ws "PurseHouseModel" F_4 27, w ∈ lw_g := by decide +kernel
def F_5 : u_T := fun k => match k with
  | 0 => ("java/util/AbstractList", "modCount", "I", false)
  | 1 => ("java/util/ArrayList", "elementData", "[Ljava/lang/Object;", false)
  | _ => ("java/util/ArrayList", "size", "I", false)
def ty_5 : Nat → FieldType := fun k => match k with
  | 0 => .int
  | 1 => (.array (.object "java/lang/Object"))
  | _ => .int
theorem th_5 : ∀ k, k < 3 → parseFieldDescriptor (F_5 k).2.2.1 = some (ty_5 k) := by decide +kernel
theorem tn_5 : ∀ a, a < 3 → ∀ b, b < 3 → a ≠ b → (F_5 a).2.1 ≠ (F_5 b).2.1 := by decide +kernel
theorem tf_5 : ∀ j, j < 3 → defaultValue (ty_5 j) = vp_V [.int 0, .null, .int 0] j := by decide +kernel
theorem ui_5 : ∀ w ∈ u_ws "java/util/ArrayList" F_5 3, w ∈ lw_g := by decide +kernel
abbrev vwCl : List vw_C := [("PurseHouse", F_0, 5), ("PurseHouse$Kiosk", F_1, 9), ("PurseHouse$Link", F_2, 6), ("PurseHouse$Thing", F_3, 4), ("PurseHouseModel", F_4, 27), ("java/util/ArrayList", F_5, 3)]
abbrev mo_T (g : Nat → ClassId) : List (ClassId × FieldType) := [(g 0, .int), (g 1, .long), (g 2, .boolean), (g 3, .object "PurseHouse$Kiosk"), (g 4, .array .long), (g 5, .array .int), (g 6, .object "java/lang/Object")]
end
section
/-! more of the map kit: arrays of references, copies, a grid at one stroke -/
def mp_so (cA : ClassId) (M : mo_M) (a : Nat) (i : Int32) (v : Nat) (N : mo_M → Prop) : Prop := ∃ (n : Nat) (f : Nat → Option Nat), M a = some (.inl (cA, n, .inr (.inr (.inr (.inr f))))) ∧ vp_in i n ∧ (mp_is M v 2 ∨ mp_is M v 3) ∧ N (va_up M a (some (.inl (cA, n, .inr (.inr (.inr (.inr (va_up f i.toNatClampNeg (some v)))))))))
def mp_sk (cA : ClassId) (M : mo_M) (a : Nat) (i : Int32) (v : Nat) (N : mo_M → Prop) : Prop := ∃ (n : Nat) (f : Nat → Option Nat), M a = some (.inl (cA, n, .inr (.inr (.inr (.inr f))))) ∧ vp_in i n ∧ mp_is M v 1 ∧ N (va_up M a (some (.inl (cA, n, .inr (.inr (.inr (.inr (va_up f i.toNatClampNeg (some v)))))))))
def mp_sn (cA : ClassId) (M : mo_M) (a : Nat) (i : Int32) (N : mo_M → Prop) : Prop := ∃ (n : Nat) (f : Nat → Option Nat), M a = some (.inl (cA, n, .inr (.inr (.inr (.inr f))))) ∧ vp_in i n ∧ N (va_up M a (some (.inl (cA, n, .inr (.inr (.inr (.inr (va_up f i.toNatClampNeg none))))))))
def mp_cl (cA : ClassId) (M : mo_M) (a0 : Nat) (sp : Int32) (a : Nat) (dp n : Int32) (N : mo_M → Prop) : Prop := ∃ (n0 n1 : Nat) (f h : Nat → Int64), M a0 = some (.inl (cA, n0, .inr (.inl f))) ∧ M a = some (.inl (cA, n1, .inr (.inl h))) ∧ (¬ sp < 0 ∧ ¬ dp < 0 ∧ ¬ n < 0) ∧ sp.toNatClampNeg + n.toNatClampNeg ≤ n0 ∧ dp.toNatClampNeg + n.toNatClampNeg ≤ n1 ∧ N (va_up M a (some (.inl (cA, n1, .inr (.inl (va_cpy f h sp.toNatClampNeg dp.toNatClampNeg n.toNatClampNeg))))))
def mp_cq (cA : ClassId) (M : mo_M) (a0 : Nat) (sp : Int32) (a : Nat) (dp n : Int32) (N : mo_M → Prop) : Prop := ∃ (n0 n1 : Nat) (f h : Nat → Option Nat), M a0 = some (.inl (cA, n0, .inr (.inr (.inr (.inr f))))) ∧ M a = some (.inl (cA, n1, .inr (.inr (.inr (.inr h))))) ∧ (¬ sp < 0 ∧ ¬ dp < 0 ∧ ¬ n < 0) ∧ sp.toNatClampNeg + n.toNatClampNeg ≤ n0 ∧ dp.toNatClampNeg + n.toNatClampNeg ≤ n1 ∧ (∀ i, i < n.toNatClampNeg → ∀ y, f (sp.toNatClampNeg + i) = some y → mp_is M y 2 ∨ mp_is M y 3) ∧ N (va_up M a (some (.inl (cA, n1, .inr (.inr (.inr (.inr (va_cpy f h sp.toNatClampNeg dp.toNatClampNeg n.toNatClampNeg))))))))
/-- q holds n rows of k, at the next n addresses -/
def mo_mn (M : mo_M) (q n k : Nat) (cO cI : ClassId) (x : (Nat → Int32) ⊕ (Nat → Int64) ⊕ (Nat → UInt32) ⊕ (Nat → UInt64) ⊕ (Nat → Option Nat)) : mo_M := fun b => if b = q then some (.inl (cO, n, .inr (.inr (.inr (.inr (fun i => if i < n then some (q + 1 + i) else none)))))) else if q < b ∧ b ≤ q + n then some (.inl (cI, k, x)) else M b
def mp_mn (cO cI : ClassId) (M : mo_M) (n k : Int32) (x : (Nat → Int32) ⊕ (Nat → Int64) ⊕ (Nat → UInt32) ⊕ (Nat → UInt64) ⊕ (Nat → Option Nat)) (N : Nat → mo_M → Prop) : Prop := ¬ n < 0 ∧ ¬ k < 0 ∧ n.toNatClampNeg ≤ 1000000 ∧ k.toNatClampNeg ≤ 1000000 ∧ ∀ q, mo_fr M q → N q (mo_mn M q n.toNatClampNeg k.toNatClampNeg cO cI x)
/-- cells after the old ones: a row of them -/
theorem mo_crN {L0 : Nat} {D : va_G} {cl : List vw_C} {M : mo_M} {H H1 : Heap} (h : mo_in L0 D cl M H) (h0 : L0 ≤ H.size) (oq : ∀ q : Nat, q < H.size → H1[q]? = H[q]?) (e : Nat → va_E) : ∀ n : Nat, (∀ j, j < n → va_at D cl (H.size + j, e j) H1) → mo_in L0 D cl (fun b => if H.size ≤ b ∧ b < H.size + n then some (e (b - H.size)) else M b) H1
  | 0, _ => by
    obtain ⟨L, f, hM, hP, hD⟩ := h
    refine ⟨L, f, fun a e' ha => hM a e' ?_, hP.kept (fun k x hx => oq x.1 ((hP k x hx).lt)), hD⟩
    dsimp only at ha
    rw [if_neg (by omega)] at ha
    exact ha
  | n + 1, he => by
    obtain ⟨L, f, hM, hP, hD⟩ := mo_crN h h0 oq e n (fun j hj => he j (by omega))
    have hlt : ∀ a, a ∈ L → ∃ e', (va_pl L f)[e']? = some (a, f a) := fun a ha => by
      obtain ⟨k, hk⟩ := va_pl_get (X := []) (f := f) ha
      exact ⟨k, hk⟩
    by_cases hin : H.size + n ∈ L
    · obtain ⟨k, hk⟩ := hlt _ hin
      refine ⟨L, va_up f (H.size + n) (e n), fun a e' ha => ?_, ?_, ?_⟩
      · dsimp only at ha
        by_cases q : a = H.size + n
        · subst q
          rw [if_pos (by omega), show H.size + n - H.size = n by omega] at ha
          cases ha
          exact ⟨hin, va_up_self _ _ _⟩
        · have ha' : (if H.size ≤ a ∧ a < H.size + n then some (e (a - H.size)) else M a) = some e' := by
            by_cases c : H.size ≤ a ∧ a < H.size + n
            · rw [if_pos c]; rw [if_pos (by omega)] at ha; exact ha
            · rw [if_neg c]; rw [if_neg (by omega)] at ha; exact ha
          obtain ⟨g1, g2⟩ := hM a e' ha'
          exact ⟨g1, by rw [va_up_ne _ _ q]; exact g2⟩
      · exact mo_setP hD hin rfl hk (hP.set hD hk (he n (by omega)) (fun _ _ => rfl))
      · exact mo_setD hD hin rfl hk
    · refine ⟨L ++ [H.size + n], va_up f (H.size + n) (e n), fun a e' ha => ?_, ?_, ?_⟩
      · dsimp only at ha
        by_cases q : a = H.size + n
        · subst q
          rw [if_pos (by omega), show H.size + n - H.size = n by omega] at ha
          cases ha
          exact ⟨List.mem_append_right _ List.mem_cons_self, va_up_self _ _ _⟩
        · have ha' : (if H.size ≤ a ∧ a < H.size + n then some (e (a - H.size)) else M a) = some e' := by
            by_cases c : H.size ≤ a ∧ a < H.size + n
            · rw [if_pos c]; rw [if_pos (by omega)] at ha; exact ha
            · rw [if_neg c]; rw [if_neg (by omega)] at ha; exact ha
          obtain ⟨g1, g2⟩ := hM a e' ha'
          exact ⟨List.mem_append_left _ g1, by rw [va_up_ne _ _ q]; exact g2⟩
      · rw [← va_pl_push hin]
        refine va_P.app hP (fun k x hx => ?_)
        have hz : k < 1 := (List.getElem?_eq_some_iff.mp hx).1
        rw [show k = 0 by omega] at hx
        cases hx
        exact he n (by omega)
      · rw [← va_pl_push hin]
        refine va_D.app hD ⟨fun i j x y hx hy _ => ?_, fun k x hx => ?_⟩ (fun i j x y hx hy hxy => ?_)
        · have h1 : i < 1 := (List.getElem?_eq_some_iff.mp hx).1
          have h2 : j < 1 := (List.getElem?_eq_some_iff.mp hy).1
          omega
        · have hz : k < 1 := (List.getElem?_eq_some_iff.mp hx).1
          rw [show k = 0 by omega] at hx
          cases hx
          show L0 ≤ H.size + n
          omega
        · have hz : j < 1 := (List.getElem?_eq_some_iff.mp hy).1
          rw [show j = 0 by omega] at hy
          cases hy
          obtain ⟨a, ha, rfl⟩ := List.mem_map.mp (List.mem_of_getElem? hx)
          exact hin ((show a = H.size + n from hxy) ▸ ha)
/-! a grid at one stroke -/
/-- the row of rows, i of them laid -/
def mn_O (cO : ClassId) (N q i : Nat) : Cell := arrV cO N (fun j => va_rf (if j < i then some (q + 1 + j) else none))
def mn_I (cI : ClassId) (K : Nat) (dv : Value) : Cell := { cls := cI, slots := Array.replicate K dv, vm := .none }
def mn_st (U : State) (cO cI : ClassId) (N K : Nat) (dv : Value) : Nat → State
  | 0 => U.pushCell (mn_O cO N U.heap.size 0)
  | i + 1 => ((mn_st U cO cI N K dv i).pushCell (mn_I cI K dv)).setCell U.heap.size (mn_O cO N U.heap.size (i + 1))
theorem mn_O0 (cO : ClassId) (N q : Nat) : ({ cls := cO, slots := Array.replicate N .null, vm := .none } : Cell) = mn_O cO N q 0 := by
  rw [arrV_new]
  exact congrArg (arrV cO N) (funext fun j => by simp [va_rf])
theorem mn_Os (cO : ClassId) (N q i : Nat) : (mn_O cO N q i).setSlot i (.ref (q + 1 + i)) = mn_O cO N q (i + 1) := by
  unfold mn_O
  rw [arrV_store]
  refine congrArg (arrV cO N) (funext fun j => ?_)
  rcases Nat.lt_trichotomy j i with h | h | h
  · simp [updV, Nat.ne_of_lt h, h, Nat.lt_succ_of_lt h]
  · subst h
    simp [updV, va_rf]
  · simp [updV, Nat.ne_of_gt h, Nat.not_lt_of_gt h, show ¬ j < i + 1 by omega]
theorem mn_ft (U : State) (cO cI : ClassId) (N K : Nat) (dv : Value) : ∀ i, (mn_st U cO cI N K dv i).heap.size = U.heap.size + 1 + i ∧ (mn_st U cO cI N K dv i).heap[U.heap.size]? = some (mn_O cO N U.heap.size i) ∧ (mn_st U cO cI N K dv i).vm = U.vm ∧ (mn_st U cO cI N K dv i).slotsUsed = U.slotsUsed + N + i * K ∧
    (∀ a : Nat, a < U.heap.size → (mn_st U cO cI N K dv i).heap[a]? = U.heap[a]?) ∧ (∀ j : Nat, j < i → (mn_st U cO cI N K dv i).heap[U.heap.size + 1 + j]? = some (mn_I cI K dv))
  | 0 => by
    refine ⟨by simp [mn_st], by simp [mn_st], rfl, ?_, fun a ha => State.heap_pushCell_of_lt _ _ ha, fun j hj => absurd hj (Nat.not_lt_zero _)⟩
    simp [mn_st, mn_O, arrV_size]
  | i + 1 => by
    obtain ⟨h1, h2, h3, h4, h5, h6⟩ := mn_ft U cO cI N K dv i
    have low : ∀ a : Nat, a < U.heap.size + 1 + i → ((mn_st U cO cI N K dv i).pushCell (mn_I cI K dv)).heap[a]? = (mn_st U cO cI N K dv i).heap[a]? := fun a ha => State.heap_pushCell_of_lt _ _ (by rw [h1]; exact ha)
    have off : ∀ a : Nat, a ≠ U.heap.size → (mn_st U cO cI N K dv (i + 1)).heap[a]? = ((mn_st U cO cI N K dv i).pushCell (mn_I cI K dv)).heap[a]? := fun a ha => State.heap_setCell_other (Ne.symm ha)
    refine ⟨?_, State.heap_setCell_self (c := mn_O cO N U.heap.size i) (by rw [low _ (by omega)]; exact h2), by simp [mn_st, h3], ?_, fun a ha => ?_, fun j hj => ?_⟩
    · simp [mn_st, State.setCell, h1]
      omega
    · simp [mn_st, h4, mn_I, Nat.succ_mul]
      omega
    · rw [off a (by omega), low a (by omega)]
      exact h5 a ha
    · rw [off _ (by omega)]
      by_cases q : j = i
      · rw [q, ← h1]
        exact State.heap_pushCell_size _ _
      · rw [low _ (by omega)]
        exact h6 j (by omega)
theorem mn_top (U : State) (f : JFrame) (cO cI : ClassId) (N K : Nat) (dv : Value) : ∀ i, mn_st (U.setTop f) cO cI N K dv i = (mn_st U cO cI N K dv i).setTop f
  | 0 => rfl
  | i + 1 => by
    simp only [mn_st, mn_top U f cO cI N K dv i, State.heap_setTop, State.pushCell_setTop, State.setCell_setTop]
section MNW
variable {E : CtlPost} {e : Env} {d : Bool} {acts : List Action} {U : State}
theorem mn_new {cc comp : ClassId} {kl : Class} {ty : FieldType} {n : Nat} {v : Value} (hk : U.vm.classes[cc]? = some kl) (hkd : kl.kind = .array comp ty) (h1 : n ≤ e.platform.arrayLengthLimit) (h2 : n * componentBytes ty ≤ e.platform.maxHeapBytes) (hf : fits ty v = true) (hd : v.isDefault = true) {Q : Addr → Pre}
    (h3 : U.heap.size < e.platform.maxCells) (h4 : U.slotsUsed + n ≤ e.platform.maxSlots) (hq : Q U.heap.size d acts (U.pushCell { cls := cc, slots := Array.replicate n v, vm := .none })) : wp (Jvm.newArray cc n v) Q E e d acts U := by
  have ha : allocActs (Array.replicate n v) U.heap.size acts = acts := by
    unfold allocActs
    refine if_pos ?_
    rw [Array.all_replicate]
    split
    · rfl
    · exact hd
  have hs : ∀ i w, (Array.replicate n v)[i]? = some w → U.fitsSlot cc .none i w = true := fun i w hw => by
    rw [Array.getElem?_replicate] at hw
    by_cases q : i < n
    · rw [if_pos q] at hw
      cases hw
      simp [State.fitsSlot, State.slotType?, hk, hkd, hf]
    · rw [if_neg q] at hw
      cases hw
  simp only [Jvm.newArray, Jvm.arrayFits, wp_bind', W.ask, W.ite, Nat.not_lt.mpr h1, gt_iff_lt, if_false, wp_pure', W.theClass, hk, hkd, Nat.not_lt.mpr h2, W.alloc, W.stop, Option.some.injEq, exists_eq_left', Array.size_replicate, ha]
  rw [if_neg (by omega)]
  exact ⟨h3, h4, hs, hq⟩
theorem mn_make {cO cI cE : ClassId} {kO kI : Class} {ty : FieldType} {n k : Int32} (hO : U.vm.classes[cO]? = some kO) (hOk : kO.kind = .array cI (.array ty)) (hI : U.vm.classes[cI]? = some kI) (hIk : kI.kind = .array cE ty) (hn : ¬ n < 0) (hk : ¬ k < 0)
    (h1 : n.toNatClampNeg ≤ e.platform.arrayLengthLimit) (h2 : n.toNatClampNeg * componentBytes (.array ty) ≤ e.platform.maxHeapBytes) (h3 : k.toNatClampNeg ≤ e.platform.arrayLengthLimit) (h4 : k.toNatClampNeg * componentBytes ty ≤ e.platform.maxHeapBytes) (hdf : fits ty (defaultValue ty) = true) (hdd : (defaultValue ty).isDefault = true)
    (h5 : U.heap.size + 1 + n.toNatClampNeg ≤ e.platform.maxCells) (h6 : U.slotsUsed + n.toNatClampNeg + n.toNatClampNeg * k.toNatClampNeg ≤ e.platform.maxSlots) {Q : Addr → Pre}
    (hq : ∀ d' acts', Q U.heap.size d' acts' (mn_st U cO cI n.toNatClampNeg k.toNatClampNeg (defaultValue ty) n.toNatClampNeg)) : wp (multianewarray.make cO [n, k]) Q E e d acts U := by
  have hz : ([k].find? (· < 0)) = none := by simp [hk]
  rw [multianewarray.make]
  simp only [wp_bind', W.ite, hn, if_false, wp_pure', W.theClass, hO, hOk, Option.some.injEq, exists_eq_left', hz, ite_self]
  refine mn_new hO hOk h1 h2 rfl rfl (by omega) (by have := Nat.zero_le (n.toNatClampNeg * k.toNatClampNeg); omega) ?_
  rw [mn_O0 cO n.toNatClampNeg U.heap.size, wp_bind', Std.Legacy.Range.forIn_eq_forIn_range', show ([:n.toNatClampNeg] : Std.Legacy.Range).size = n.toNatClampNeg by simp [Std.Legacy.Range.size]]
  refine wp_forIn_inv (fun r V => r.length ≤ n.toNatClampNeg ∧ r = List.range' (n.toNatClampNeg - r.length) r.length ∧ V = mn_st U cO cI n.toNatClampNeg k.toNatClampNeg (defaultValue ty) (n.toNatClampNeg - r.length)) _ _ ?_ ?_ ?_
  · rw [List.length_range']
    exact ⟨Nat.le_refl _, by rw [Nat.sub_self], by rw [Nat.sub_self]; rfl⟩
  · rintro x r V d' acts' Q' ⟨hl, hr, rfl⟩ hnext
    rw [List.length_cons] at hl hr
    rw [List.range'_succ] at hr
    obtain ⟨hx, hr⟩ := List.cons.inj hr
    rw [List.length_cons, ← hx]
    have hx1 : n.toNatClampNeg - r.length = x + 1 := by omega
    obtain ⟨f1, f2, f3, f4, -, -⟩ := mn_ft U cO cI n.toNatClampNeg k.toNatClampNeg (defaultValue ty) x
    have hm : x * k.toNatClampNeg + k.toNatClampNeg ≤ n.toNatClampNeg * k.toNatClampNeg := by
      rw [← Nat.succ_mul]
      exact Nat.mul_le_mul_right _ (by omega)
    rw [wp_bind', multianewarray.make]
    simp only [wp_bind', W.ite, hk, if_false, wp_pure', W.theClass, f3, hI, hIk, Option.some.injEq, exists_eq_left']
    refine mn_new (by rw [f3]; exact hI) hIk h3 h4 hdf hdd (by rw [f1]; omega) (by rw [f4]; omega) ?_
    simp only [wp_bind', W.writeLoc, wp_pure']
    have lt : U.heap.size < (mn_st U cO cI n.toNatClampNeg k.toNatClampNeg (defaultValue ty) x).heap.size := by rw [f1]; omega
    refine ⟨mn_O cO n.toNatClampNeg U.heap.size x, (State.heap_pushCell_of_lt _ _ lt).trans f2, (fun q => by cases q), (by unfold mn_O; rw [arrV_size]; omega), ?_, hnext _ _ _ ⟨by omega, ?_, ?_⟩⟩
    · show State.fitsSlot _ cO .none x _ = true
      simp [State.fitsSlot, State.slotType?, f3, hO, hOk, fits]
    · rw [hx1, hx]
      exact hr
    · rw [hx1, f1, mn_Os]
      rfl
  · rintro V d' acts' ⟨-, -, rfl⟩
    exact hq _ _
end MNW
section MNS
variable {p : Program} {l : Launch} {e : Env} {R : Room} {s : State} {m : MethodId} {args : Array Value} {below : List Frame} {meth : Method} {c : Code} {T : State} {locs : List Loc} {cells slots : Nat}
theorem mn_X (X : Stand p l e R s m args below meth c T locs cells slots) (cO cI : ClassId) (N K : Nat) (dv : Value) : ∀ i, Stand p l e R s m args below meth c (mn_st T cO cI N K dv i) locs (cells + 1 + i) (slots + N + i * K)
  | 0 => by
    have h := X.pushed (mn_O cO N T.heap.size 0)
    rw [show (mn_O cO N T.heap.size 0).slots.size = N from arrV_size _ _ _] at h
    rw [Nat.zero_mul]
    exact h
  | i + 1 => by
    obtain ⟨f1, f2, -⟩ := mn_ft T cO cI N K dv i
    have lt : T.heap.size < (mn_st T cO cI N K dv i).heap.size := by rw [f1]; omega
    have h := ((mn_X X cO cI N K dv i).pushed (mn_I cI K dv)).stored ((State.heap_pushCell_of_lt _ _ lt).trans f2) i (.ref (T.heap.size + 1 + i))
    rw [mn_Os, show (mn_I cI K dv).slots.size = K by simp [mn_I]] at h
    rw [Nat.succ_mul, ← Nat.add_assoc (slots + N)]
    exact h.dropFresh (fun x hx => by rw [List.mem_singleton.mp hx]; exact X.heapGrown)
theorem mn_step (X : Stand p l e R s m args below meth c T locs cells slots) (hexec : p.tables.exec = Jvm.exec) {own : String} {index : Nat} {ty : FieldType} (hown : s.vm.findClass own = some m.cls) (hlink : (Cond.classLink own index ("[" ++ (FieldType.array ty).toString)).before args s = true)
    {cO cI : ClassId} (hO : s.vm.findClass ("[" ++ (FieldType.array ty).toString) = some cO) (hOk : ∃ kO, s.vm.classes[cO]? = some kO ∧ kO.kind = .array cI (.array ty)) (hIk : ∃ kI cE, s.vm.classes[cI]? = some kI ∧ kI.kind = .array cE ty)
    {g : JFrame} (hg : g.method = m) (hdg : decode c.code g.pc = .ok (.multianewarray index 2, 4)) {n k : Int32} {rest : List Value} (hst : g.stack = .int k :: .int n :: rest) (hn : ¬ n < 0) (hk : ¬ k < 0) (hb1 : n.toNatClampNeg * 4 ≤ 536870912) (hb2 : k.toNatClampNeg * componentBytes ty ≤ 536870912) (hb3 : k.toNatClampNeg ≤ 536870912)
    (hdf : fits ty (defaultValue ty) = true) (hdd : (defaultValue ty).isDefault = true) (hcells : cells + (1 + n.toNatClampNeg) ≤ R.cells) (hslots : slots + (n.toNatClampNeg + n.toNatClampNeg * k.toNatClampNeg) ≤ R.slots) :
    ∃ vm₁ : Vm, Stand p l e R s m args below meth c (mn_st (T.setVm vm₁) cO cI n.toNatClampNeg k.toNatClampNeg (defaultValue ty) n.toNatClampNeg) locs (cells + 1 + n.toNatClampNeg) (slots + n.toNatClampNeg + n.toNatClampNeg * k.toNatClampNeg) ∧
      ∀ target, Steps p.tables e below ((mn_st (T.setVm vm₁) cO cI n.toNatClampNeg k.toNatClampNeg (defaultValue ty) n.toNatClampNeg).setTop { g with pc := g.pc + 4, stack := .ref T.heap.size :: rest }) target → Steps p.tables e below (T.setTop g) target := by
  subst hg
  obtain ⟨c1, hc1, hl1⟩ := Cond.classLink_spec hown hlink e.platform (by rw [X.admits.platform])
  cases Option.some.inj (hc1.symm.trans hO)
  obtain ⟨kO, hOc, hOk⟩ := hOk
  obtain ⟨kI, cE, hIc, hIk⟩ := hIk
  obtain ⟨hgv, hW, -⟩ := State.classEntry (e := e) X.warmed hl1
  refine ⟨T.vm.noted g.method.cls index (.cls cO), ?_⟩
  generalize T.vm.noted g.method.cls index (.cls cO) = vm₁ at hgv hW
  obtain ⟨kO', hOc', eO⟩ := hW.alike.2.2 _ _ hOc
  obtain ⟨kI', hIc', eI⟩ := hW.alike.2.2 _ _ hIc
  have XF := mn_X (X.noted hW) cO cI n.toNatClampNeg k.toNatClampNeg (defaultValue ty) n.toNatClampNeg
  obtain ⟨r1, r2⟩ := X.roomAbove hcells hslots
  refine ⟨XF, fun target hrest => ?_⟩
  jvm_step X.here [hexec, hdg]
  simp only [multianewarray.sem, wp_bind', W.resolveClassAt_links (State.method?_setTop g X.here.top) hgv]
  rw [W.popN, if_neg (by decide)]
  refine ⟨g, State.topJava?_setTop' (s := T.setVm vm₁) g X.here.top, [.int n, .int k], rest, rfl, hst, ?_⟩
  simp only [List.mapM_cons, List.mapM_nil, wp_bind', wp_pure']
  have eS : ((T.setTop g).setVm vm₁).setTop { g with stack := rest } = (T.setVm vm₁).setTop { g with stack := rest } := State.setTop_setTop (s := T.setVm vm₁) (f := g) (g := { g with stack := rest })
  rw [eS]
  refine mn_make (kO := kO') (kI := kI') (cE := cE) hOc' (by rw [eO]; exact hOk) hIc' (by rw [eI]; exact hIk) hn hk (by rw [Launch.admits_arrayLengthLimit X.admits]; omega) (by rw [Launch.admits_maxHeapBytes X.admits]; exact hb1) (by rw [Launch.admits_arrayLengthLimit X.admits]; omega) (by rw [Launch.admits_maxHeapBytes X.admits]; exact hb2) hdf hdd
    (by show T.heap.size + 1 + _ ≤ _; omega) (by show T.slotsUsed + _ + _ ≤ _; omega) (fun d' acts' => ?_)
  rw [mn_top]
  simp only [wp_bind', W.mark, W.pushRef, State.topJava?_setTop' _ XF.here.top, Option.some.injEq, exists_eq_left', State.setTop_setTop, State.heap_setTop]
  intro acts
  simp [jvm, XF.here.top]
  exact hrest
/-- the class of rows of rows, as the word tells it -/
theorem mn_cls {ty : FieldType} (hover : (Cond.arrayOver (.array ty)).before args s = true) : ∃ comp c k, s.vm.findClass (FieldType.array ty).toString = some comp ∧ s.vm.classes[c]? = some k ∧ k.kind = .array comp (.array ty) ∧ s.vm.findClass ("[" ++ (FieldType.array ty).toString) = some c := by
  have h' := hover
  simp only [Cond.before, Cond.holds, Cond.value, beq_iff_eq, Option.bind_eq_some_iff, Option.map_eq_some_iff] at h'
  obtain ⟨comp, h1, c, h2, k, h3, h4⟩ := h'
  obtain ⟨hlt, hp, -⟩ := Array.findIdx?_eq_some_iff_getElem.mp h2
  rw [(Array.getElem?_eq_some_iff.mp h3).2] at hp
  cases hk : k.kind with
  | array z ty' =>
    rw [hk] at h4 hp
    simp at h4 hp
    exact ⟨comp, c, k, h1, h3, by rw [hk, hp, h4.1], h4.2⟩
  | _ =>
    rw [hk] at h4
    simp at h4
end MNS
section MR2
variable {p : Program} {l : Launch} {e : Env} {R : Room} {s : State} {m : MethodId} {args : Array Value} {below : List Frame} {meth : Method} {c : Code} {H : Heap} {locs : List Loc} {cells slots : Nat} {Q : State → Prop}
variable {cc : ByteArray} {pc : Nat} {ls : Array Slot} {rest : List Value} {L0 : Nat} {e0 : Nat → Nat} {D : va_G} {a : Nat} {tys : List (ClassId × FieldType)} {M : mo_M}
theorem mo_any (hok : mo_ok L0 e0 D vwCl tys s M H locs) {y : Nat} (h : mp_is M y 2 ∨ mp_is M y 3) : va_Any "java/lang/Object" s H y := by
  obtain ⟨h0, ⟨hK, hE⟩, hI, hS⟩ := hok
  obtain ⟨L, f, hM, hP, hD⟩ := hI
  rcases h with ⟨fs, he⟩ | ⟨fs, he⟩
  · obtain ⟨h1, h2⟩ := hM _ _ he
    obtain ⟨q0, hq⟩ := mo_at (D := D) (cl := vwCl) h1 h2
    refine va_rAny hK hP hq rfl (fun comp c0 g1 g2 => ?_)
    obtain ⟨c1, t1, f1, f2, f3⟩ := Cond.castable_spec (va_Nw.use (A := #[]) rfl (hE.1.1 _ wn_868 rfl))
    cases g2.symm.trans f1
    cases g1.symm.trans f2
    exact f3
  · obtain ⟨h1, h2⟩ := hM _ _ he
    obtain ⟨q0, hq⟩ := mo_at (D := D) (cl := vwCl) h1 h2
    refine va_rAny hK hP hq rfl (fun comp c0 g1 g2 => ?_)
    obtain ⟨c1, t1, f1, f2, f3⟩ := Cond.castable_spec (va_Nw.use (A := #[]) rfl (hE.1.1 _ wn_869 rfl))
    cases g2.symm.trans f1
    cases g1.symm.trans f2
    exact f3
theorem mr_so {cA : ClassId} {i : Int32} {v : Nat} {P : mo_M → Prop} (hexec : p.tables.exec = Jvm.exec) (hb : c.code = cc) (hok : mo_ok L0 e0 D vwCl tys s M H locs) (hP : mp_so cA M a i v P) (t0 : Nat) (ht : tys[t0]? = some (cA, .object "java/lang/Object")) (hdg : decode cc pc = .ok (.aastore, 1))
    (kk : ∀ (M1 : mo_M) (H1 : Heap) (locs1 : List Loc), P M1 → mo_ok L0 e0 D vwCl tys s M1 H1 locs1 → W p l e R s m args below meth c H1 locs1 cells slots Q (F0 m (pc + 1) ls rest)) : W p l e R s m args below meth c H locs cells slots Q (F0 m pc ls (.ref v :: .int i :: .ref a :: rest)) := by
  obtain ⟨n, f, he, hi, his, hN⟩ := hP
  have hany := mo_any hok his
  obtain ⟨h0, ⟨hK, hE⟩, ⟨L, f9, hM, hP, hD⟩, hS⟩ := hok
  obtain ⟨h1, h2⟩ := hM _ _ he
  obtain ⟨q0, hq⟩ := mo_at (D := D) (cl := vwCl) h1 h2
  exact va_astqM hexec hb hK hP hD hS q0 t0 hq ht hany hi hdg (fun H1 locs1 hP1 hD1 hS1 => kk _ H1 locs1 hN ⟨h0, ⟨hK, hE⟩, ⟨L, _, mo_up hM h1, mo_setP hD h1 h2 hq hP1, mo_setD hD h1 h2 hq⟩, hS1⟩)
theorem mr_sk {cA : ClassId} {i : Int32} {v : Nat} {P : mo_M → Prop} (hexec : p.tables.exec = Jvm.exec) (hb : c.code = cc) (hok : mo_ok L0 e0 D vwCl tys s M H locs) (hP : mp_sk cA M a i v P) (t0 : Nat) (ht : tys[t0]? = some (cA, .object "PurseHouse$Kiosk")) (hdg : decode cc pc = .ok (.aastore, 1))
    (kk : ∀ (M1 : mo_M) (H1 : Heap) (locs1 : List Loc), P M1 → mo_ok L0 e0 D vwCl tys s M1 H1 locs1 → W p l e R s m args below meth c H1 locs1 cells slots Q (F0 m (pc + 1) ls rest)) : W p l e R s m args below meth c H locs cells slots Q (F0 m pc ls (.ref v :: .int i :: .ref a :: rest)) := by
  obtain ⟨n, f, he, hi, ⟨vs, hv⟩, hN⟩ := hP
  obtain ⟨h0, ⟨hK, hE⟩, ⟨L, f9, hM, hP, hD⟩, hS⟩ := hok
  obtain ⟨h1, h2⟩ := hM _ _ he
  obtain ⟨g1, g2⟩ := hM _ _ hv
  obtain ⟨q0, hq⟩ := mo_at (D := D) (cl := vwCl) h1 h2
  obtain ⟨qk, hqk⟩ := mo_at (D := D) (cl := vwCl) g1 g2
  exact va_astq (r := ("PurseHouse$Kiosk", F_1, 9)) hexec hb hK hP hD hS q0 t0 qk 1 hq ht hqk rfl hi hdg (fun H1 locs1 hP1 hD1 hS1 => kk _ H1 locs1 hN ⟨h0, ⟨hK, hE⟩, ⟨L, _, mo_up hM h1, mo_setP hD h1 h2 hq hP1, mo_setD hD h1 h2 hq⟩, hS1⟩)
theorem mr_sn {cA : ClassId} {C : String} {i : Int32} {P : mo_M → Prop} (hexec : p.tables.exec = Jvm.exec) (hb : c.code = cc) (hok : mo_ok L0 e0 D vwCl tys s M H locs) (hP : mp_sn cA M a i P) (t0 : Nat) (ht : tys[t0]? = some (cA, .object C)) (hdg : decode cc pc = .ok (.aastore, 1))
    (kk : ∀ (M1 : mo_M) (H1 : Heap) (locs1 : List Loc), P M1 → mo_ok L0 e0 D vwCl tys s M1 H1 locs1 → W p l e R s m args below meth c H1 locs1 cells slots Q (F0 m (pc + 1) ls rest)) : W p l e R s m args below meth c H locs cells slots Q (F0 m pc ls (.null :: .int i :: .ref a :: rest)) := by
  obtain ⟨n, f, he, hi, hN⟩ := hP
  obtain ⟨h0, ⟨hK, hE⟩, ⟨L, f9, hM, hP, hD⟩, hS⟩ := hok
  obtain ⟨h1, h2⟩ := hM _ _ he
  obtain ⟨q0, hq⟩ := mo_at (D := D) (cl := vwCl) h1 h2
  exact va_astqN hexec hb hK hP hD hS q0 t0 hq ht hi hdg (fun H1 locs1 hP1 hD1 hS1 => kk _ H1 locs1 hN ⟨h0, ⟨hK, hE⟩, ⟨L, _, mo_up hM h1, mo_setP hD h1 h2 hq hP1, mo_setD hD h1 h2 hq⟩, hS1⟩)
theorem mr_nq {own C : String} {index : Nat} {cA : ClassId} {n : Int32} {P : Nat → mo_M → Prop} (hexec : p.tables.exec = Jvm.exec) (hb : c.code = cc) (hown : s.vm.findClass own = some m.cls) (hok : mo_ok L0 e0 D vwCl tys s M H locs) (hP : mp_na cA M n (.inr (.inr (.inr (.inr (fun _ => none))))) P) (hclink : (Cond.classLink own index C).before args s = true) (hover : va_AO C s) (t0 : Nat) (ht : tys[t0]? = some (cA, .object C)) (hcells : cells + 1 ≤ R.cells) (hslots : slots + n.toNatClampNeg ≤ R.slots) (hdg : decode cc pc = .ok (.anewarray index, 3))
    (kk : ∀ (q : Nat) (M1 : mo_M) (H1 : Heap), P q M1 → mo_ok L0 e0 D vwCl tys s M1 H1 locs → W p l e R s m args below meth c H1 locs (cells + 1) (slots + n.toNatClampNeg) Q (F0 m (pc + 3) ls (.ref q :: rest))) : W p l e R s m args below meth c H locs cells slots Q (F0 m pc ls (.int n :: rest)) := by
  obtain ⟨h0, ⟨hK, hE⟩, hI, hS⟩ := hok
  obtain ⟨hn, hle, hP⟩ := hP
  refine W.anew hexec hb hown hclink (va_AO.use hover) rfl hdg rfl hn (by omega) hcells hslots fun cA' kA comp f1 f2 f3 f4 => ?_
  have e2 : cA' = cA := Option.some.inj (f1.symm.trans (va_nmO (hK.2 t0 _ ht).2 rfl))
  subst e2
  generalize hH1 : H.push ({ cls := cA', slots := Array.replicate n.toNatClampNeg .null, vm := .none } : Cell) = H1
  have z1 : H1.size = H.size + 1 := by rw [← hH1, Array.size_push]
  have e1 : H1[H.size]? = some (arrV cA' n.toNatClampNeg (fun _ => .null)) := by rw [← hH1, Array.getElem?_push_size, ← arrV_new]
  have o1 : ∀ q : Nat, q < H.size → H1[q]? = H[q]? := fun q hq => by rw [← hH1, Array.getElem?_push, if_neg (Nat.ne_of_lt hq)]
  exact kk H.size _ H1 (hP _ (mo_frs hI)) ⟨h0, ⟨hK, hE⟩, mo_cr hI (Nat.le_trans h0 hS.1) (show H1[H.size]? = some (vp_cell _ _) by rw [vp_cell_q]; exact e1) o1, mo_crS hS (by omega) o1⟩
theorem mr_cl {own : String} {index a0 : Nat} {cA : ClassId} {sp dp n : Int32} {P : mo_M → Prop} (hexec : p.tables.exec = Jvm.exec) (hb : c.code = cc) (hml : c.maxLocals = ls.size) (hown : s.vm.findClass own = some m.cls) (hok : mo_ok L0 e0 D vwCl tys s M H locs) (hP : mp_cl cA M a0 sp a dp n P) (hlink : (Cond.methodLink own index arraycopyName).before args s = true) (hnat : (Cond.native arraycopyName).before args s = true) (hstat : (Cond.static arraycopyName).before args s = true) (hini : (Cond.initialized "java/lang/System").before args s = true) (t0 : Nat) (ht : tys[t0]? = some (cA, .long)) (hframes : 1 ≤ R.frames) (hlocals : (rest.map fun v => v.category).sum + (nativeFrameWords "java/lang/System" "arraycopy" 5 + 11) ≤ R.locals) (hdg : decode cc pc = .ok (.invokestatic index, 3))
    (kk : ∀ (M1 : mo_M) (H1 : Heap) (locs1 : List Loc), P M1 → mo_ok L0 e0 D vwCl tys s M1 H1 locs1 → W p l e R s m args below meth c H1 locs1 cells slots Q (F0 m (pc + 3) ls rest)) : W p l e R s m args below meth c H locs cells slots Q (F0 m pc ls (.int n :: .int dp :: .ref a :: .int sp :: .ref a0 :: rest)) := by
  obtain ⟨n0, n1, f, h, he0, he, ⟨g1, g2, g3⟩, g4, g5, hN⟩ := hP
  obtain ⟨h0, ⟨hK, hE⟩, ⟨L, f9, hM, hP, hD⟩, hS⟩ := hok
  obtain ⟨h1, h2⟩ := hM _ _ he
  obtain ⟨k1, k2⟩ := hM _ _ he0
  obtain ⟨q1, hq1⟩ := mo_at (D := D) (cl := vwCl) h1 h2
  obtain ⟨q0, hq0⟩ := mo_at (D := D) (cl := vwCl) k1 k2
  exact va_copyl hexec hb hml hown hlink hnat hstat hini hK hP hD hS q0 q1 t0 t0 hq0 hq1 ht ht rfl g1 g2 g3 g4 g5 (fun _ _ => rfl) hframes hlocals hdg (fun H1 locs1 hP1 hD1 hS1 => kk _ H1 locs1 hN ⟨h0, ⟨hK, hE⟩, ⟨L, _, mo_up hM h1, mo_setP hD h1 h2 hq1 hP1, mo_setD hD h1 h2 hq1⟩, hS1⟩)
theorem mr_cq {own : String} {index a0 : Nat} {cA : ClassId} {sp dp n : Int32} {P : mo_M → Prop} (hexec : p.tables.exec = Jvm.exec) (hb : c.code = cc) (hml : c.maxLocals = ls.size) (hown : s.vm.findClass own = some m.cls) (hok : mo_ok L0 e0 D vwCl tys s M H locs) (hP : mp_cq cA M a0 sp a dp n P) (hlink : (Cond.methodLink own index arraycopyName).before args s = true) (hnat : (Cond.native arraycopyName).before args s = true) (hstat : (Cond.static arraycopyName).before args s = true) (hini : (Cond.initialized "java/lang/System").before args s = true) (t0 : Nat) (ht : tys[t0]? = some (cA, .object "java/lang/Object")) (hframes : 1 ≤ R.frames) (hlocals : (rest.map fun v => v.category).sum + (nativeFrameWords "java/lang/System" "arraycopy" 5 + 11) ≤ R.locals) (hdg : decode cc pc = .ok (.invokestatic index, 3))
    (kk : ∀ (M1 : mo_M) (H1 : Heap) (locs1 : List Loc), P M1 → mo_ok L0 e0 D vwCl tys s M1 H1 locs1 → W p l e R s m args below meth c H1 locs1 cells slots Q (F0 m (pc + 3) ls rest)) : W p l e R s m args below meth c H locs cells slots Q (F0 m pc ls (.int n :: .int dp :: .ref a :: .int sp :: .ref a0 :: rest)) := by
  obtain ⟨n0, n1, f, h, he0, he, ⟨g1, g2, g3⟩, g4, g5, hel, hN⟩ := hP
  have hany : ∀ i : Nat, i < n.toNatClampNeg → ∀ y : Nat, f (sp.toNatClampNeg + i) = some y → va_Any "java/lang/Object" s H y := fun i hi y hy => mo_any hok (hel i hi y hy)
  obtain ⟨h0, ⟨hK, hE⟩, ⟨L, f9, hM, hP, hD⟩, hS⟩ := hok
  obtain ⟨h1, h2⟩ := hM _ _ he
  obtain ⟨k1, k2⟩ := hM _ _ he0
  obtain ⟨q1, hq1⟩ := mo_at (D := D) (cl := vwCl) h1 h2
  obtain ⟨q0, hq0⟩ := mo_at (D := D) (cl := vwCl) k1 k2
  exact va_copyM hexec hb hml hown hlink hnat hstat hini hK hP hD hS q0 q1 t0 t0 hq0 hq1 ht ht g1 g2 g3 g4 g5 hany hframes hlocals hdg (fun H1 locs1 hP1 hD1 hS1 => kk _ H1 locs1 hN ⟨h0, ⟨hK, hE⟩, ⟨L, _, mo_up hM h1, mo_setP hD h1 h2 hq1 hP1, mo_setD hD h1 h2 hq1⟩, hS1⟩)
theorem mr_ldm {own : String} {index : Nat} (hexec : p.tables.exec = Jvm.exec) (hb : c.code = cc) (hown : s.vm.findClass own = some m.cls) (hok : mo_ok L0 e0 D vwCl tys s M H locs) (hlink : (Cond.classLink own index "[Ljava/lang/Object;").before args s = true) (hdg : decode cc pc = .ok (.ldc index, 2))
    (k : W p l e R s m args below meth c H locs cells slots Q (F0 m (pc + 2) ls (.ref (e0 1) :: rest))) : W p l e R s m args below meth c H locs cells slots Q (F0 m pc ls rest) :=
  va_ldcM hexec hb hown hlink hok.2.1.2.1.2.2.2.1 hdg k
/-- getClass of a list's array -/
def mp_gc (cA : ClassId) (M : mo_M) (a : Nat) (N : Prop) : Prop := (∃ x : vp_A, M a = some (.inl (cA, x))) ∧ N
theorem mr_gc {own : String} {index : Nat} {cA : ClassId} {P : Prop} (hexec : p.tables.exec = Jvm.exec) (hb : c.code = cc) (hml : c.maxLocals = ls.size) (hown : s.vm.findClass own = some m.cls) (hok : mo_ok L0 e0 D vwCl tys s M H locs) (hP : mp_gc cA M a P) (t0 : Nat) (ht : tys[t0]? = some (cA, .object "java/lang/Object")) (hlink : (Cond.methodLink own index ⟨"java/lang/Object", "getClass", "()Ljava/lang/Class;"⟩).before args s = true) (hdecl : va_Nw (.declares ⟨"java/lang/Object", "getClass", "()Ljava/lang/Class;"⟩) s)
    (hsel : (Cond.selects "[Ljava/lang/Object;" ⟨"java/lang/Object", "getClass", "()Ljava/lang/Class;"⟩ ⟨"java/lang/Object", "getClass", "()Ljava/lang/Class;"⟩).before args s = true) (hinst : (Cond.instanceMethod ⟨"java/lang/Object", "getClass", "()Ljava/lang/Class;"⟩).before args s = true) (hnat : (Cond.native ⟨"java/lang/Object", "getClass", "()Ljava/lang/Class;"⟩).before args s = true)
    (hframes : 1 ≤ R.frames) (hlocals : (rest.map fun v => v.category).sum + 14 ≤ R.locals) (hdg : decode cc pc = .ok (.invokevirtual index, 3))
    (kk : P → W p l e R s m args below meth c H locs cells slots Q (F0 m (pc + 3) ls (.ref (e0 1) :: rest))) : W p l e R s m args below meth c H locs cells slots Q (F0 m pc ls (.ref a :: rest)) := by
  obtain ⟨⟨x, he⟩, hN⟩ := hP
  obtain ⟨h0, ⟨hK, hE⟩, hI, hS⟩ := hok
  have hat : H[a]? = some (vp_cell cA x) := mo_has hI he
  have hvm0 : (vp_cell cA x).vm = .none := by
    obtain ⟨n, f | f | f | f | f⟩ := x <;> rfl
  have hcl0 : (vp_cell cA x).cls = cA := by
    obtain ⟨n, f | f | f | f | f⟩ := x <;> rfl
  exact va_getC hexec hb hml hown hlink (va_Nw.use rfl hdecl) hsel hinst hnat hE.1.2.2.2.1 ⟨_, hat, by rw [hvm0]; rfl, by rw [hcl0]; exact va_nmO (hK.2 t0 _ ht).2 rfl⟩ hframes hlocals hdg (kk hN)
theorem mr_mn {own nm : String} {index : Nat} {ty : FieldType} {cO cI : ClassId} {n k : Int32} {x : (Nat → Int32) ⊕ (Nat → Int64) ⊕ (Nat → UInt32) ⊕ (Nat → UInt64) ⊕ (Nat → Option Nat)} {P : Nat → mo_M → Prop} (hexec : p.tables.exec = Jvm.exec) (hb : c.code = cc) (hown : s.vm.findClass own = some m.cls) (hok : mo_ok L0 e0 D vwCl tys s M H locs) (hP : mp_mn cO cI M n k x P) (hnm : "[" ++ (FieldType.array ty).toString = nm) (hclink : (Cond.classLink own index nm).before args s = true) (hover : mo_AA ty s) (harr : (Cond.arrayClass ty).before args s = true) (tO tI : Nat) (htO : tys[tO]? = some (cO, .array ty)) (htI : tys[tI]? = some (cI, ty)) (hnI : va_RA s cI ty → s.vm.findClass (FieldType.array ty).toString = some cI) (hby : componentBytes ty ≤ 8) (hdf : fits ty (defaultValue ty) = true) (hdd : (defaultValue ty).isDefault = true) (hx : ∀ K' : Nat, vp_cell cI (K', x) = arrV cI K' (fun _ => defaultValue ty)) (hcells : cells + (1 + n.toNatClampNeg) ≤ R.cells) (hslots : slots + (n.toNatClampNeg + n.toNatClampNeg * k.toNatClampNeg) ≤ R.slots) (hdg : decode cc pc = .ok (.multianewarray index 2, 4))
    (kk : ∀ (q : Nat) (M1 : mo_M) (H1 : Heap), P q M1 → mo_ok L0 e0 D vwCl tys s M1 H1 locs → W p l e R s m args below meth c H1 locs (cells + 1 + n.toNatClampNeg) (slots + n.toNatClampNeg + n.toNatClampNeg * k.toNatClampNeg) Q (F0 m (pc + 4) ls (.ref q :: rest))) : W p l e R s m args below meth c H locs cells slots Q (F0 m pc ls (.int k :: .int n :: rest)) := by
  subst hnm
  obtain ⟨h0, ⟨hK, hE⟩, hI, hS⟩ := hok
  obtain ⟨hn, hk, hle1, hle2, hP⟩ := hP
  intro T hT X
  obtain ⟨comp, cA, kA, fC, fk, fkd, fA⟩ := mn_cls (args := #[]) hover
  obtain ⟨comp', kC, cE, g1, g2, g3⟩ := Cond.arrayClass_spec harr
  cases Option.some.inj (g1.symm.trans fC)
  obtain ⟨vm₁, X', step⟩ := mn_step X hexec hown hclink fA ⟨kA, fk, fkd⟩ ⟨kC, cE, g2, g3⟩ (g := F0 m pc ls (.int k :: .int n :: rest)) rfl (by rw [hb]; exact hdg) rfl hn hk (by omega) (Nat.le_trans (Nat.mul_le_mul hle2 hby) (by decide)) (by omega) hdf hdd hcells hslots
  have e1 : cA = cO := Option.some.inj (fA.symm.trans (hK.2 tO _ htO).2)
  have e2 : comp = cI := Option.some.inj (fC.symm.trans (hnI (hK.2 tI _ htI).2))
  subst e1
  subst e2
  have hTh : (T.setVm vm₁).heap = H := hT
  obtain ⟨f1, f2, -, -, f3, f4⟩ := mn_ft (T.setVm vm₁) cA comp n.toNatClampNeg k.toNatClampNeg (defaultValue ty) n.toNatClampNeg
  generalize hF : mn_st (T.setVm vm₁) cA comp n.toNatClampNeg k.toNatClampNeg (defaultValue ty) n.toNatClampNeg = F at X' step f1 f2 f3 f4
  rw [hTh] at f1 f2 f3 f4
  have hO : mn_O cA n.toNatClampNeg H.size n.toNatClampNeg = vp_cell cA (n.toNatClampNeg, .inr (.inr (.inr (.inr (fun i => if i < n.toNatClampNeg then some (H.size + 1 + i) else none))))) := by
    rw [vp_cell_q]
    rfl
  rw [hO] at f2
  have hin := mo_crN (H1 := F.heap) hI (Nat.le_trans h0 hS.1) f3 (fun j => if j = 0 then .inl (cA, n.toNatClampNeg, .inr (.inr (.inr (.inr (fun i => if i < n.toNatClampNeg then some (H.size + 1 + i) else none))))) else .inl (comp, k.toNatClampNeg, x)) (n.toNatClampNeg + 1) (fun j hj => by
    by_cases hj0 : j = 0
    · subst hj0
      simp only [if_true]
      exact f2
    · simp only [if_neg hj0]
      have h9 := f4 (j - 1) (by omega)
      rw [show H.size + 1 + (j - 1) = H.size + j by omega] at h9
      show F.heap[H.size + j]? = some (vp_cell _ _)
      rw [h9, hx, ← arrV_new]
      rfl)
  have hmem : (fun b => if H.size ≤ b ∧ b < H.size + (n.toNatClampNeg + 1) then some ((fun j => if j = 0 then (.inl (cA, n.toNatClampNeg, .inr (.inr (.inr (.inr (fun i => if i < n.toNatClampNeg then some (H.size + 1 + i) else none))))) : va_E) else .inl (comp, k.toNatClampNeg, x)) (b - H.size)) else M b) = mo_mn M H.size n.toNatClampNeg k.toNatClampNeg cA comp x := by
    funext b
    unfold mo_mn
    by_cases hb0 : b = H.size
    · subst hb0
      simp
    · by_cases hb1 : H.size < b ∧ b ≤ H.size + n.toNatClampNeg
      · rw [if_pos (by omega), if_neg hb0, if_pos hb1]
        simp only [if_neg (show ¬ b - H.size = 0 by omega)]
      · rw [if_neg (by omega), if_neg hb0, if_neg hb1]
  rw [hmem] at hin
  obtain ⟨t, a1, b1⟩ := kk H.size _ F.heap (hP _ (mo_frs hI)) ⟨h0, ⟨hK, hE⟩, hin, mo_crS hS (by omega) f3⟩ F rfl X'
  exact ⟨t, step t (by rw [hT]; exact a1), b1⟩
end MR2
end
