section
-- ===== PART A: goes FIRST, ahead of the names: the tables' words, and 'selects' of the private methods out of them =====
/-- a private method of a class that the tables say can be made, by its rows of tables_1 -/
def lw_okq (q : MethodName × Nat) : Prop := (q.1.cls ≠ "java/lang/invoke/MethodHandle" ∧ q.1.cls ≠ "java/lang/invoke/VarHandle") ∧ Cond.instantiable q.1.cls q.2 ∈ tables_1 ∧ Cond.privateMethod q.1 ∈ tables_1 ∧ Cond.instanceMethod q.1 ∈ tables_1
theorem lw_p0 : lw_okq (⟨"CutStore", "isPlace", "(II)Z"⟩, 10) := ⟨⟨by decide +kernel, by decide +kernel⟩, List.mem_of_getElem? (i := 15) (by decide +kernel), List.mem_of_getElem? (i := 347) (by decide +kernel), List.mem_of_getElem? (i := 348) (by decide +kernel)⟩
theorem lw_p1 : lw_okq (⟨"CutStore", "isSetRule", "(I)Z"⟩, 10) := ⟨⟨by decide +kernel, by decide +kernel⟩, List.mem_of_getElem? (i := 15) (by decide +kernel), List.mem_of_getElem? (i := 385) (by decide +kernel), List.mem_of_getElem? (i := 386) (by decide +kernel)⟩
theorem lw_p2 : lw_okq (⟨"CutStore$Cutter", "endOfPiece", "(LCutStore$Rule;I)I"⟩, 5) := ⟨⟨by decide +kernel, by decide +kernel⟩, List.mem_of_getElem? (i := 90) (by decide +kernel), List.mem_of_getElem? (i := 409) (by decide +kernel), List.mem_of_getElem? (i := 410) (by decide +kernel)⟩
theorem lw_p3 : lw_okq (⟨"CutStore$Rule", "hasSign", "(II)Z"⟩, 6) := ⟨⟨by decide +kernel, by decide +kernel⟩, List.mem_of_getElem? (i := 61) (by decide +kernel), List.mem_of_getElem? (i := 420) (by decide +kernel), List.mem_of_getElem? (i := 421) (by decide +kernel)⟩
theorem lw_p4 : lw_okq (⟨"CutStore", "agreesFromEnd", "(I)Z"⟩, 10) := ⟨⟨by decide +kernel, by decide +kernel⟩, List.mem_of_getElem? (i := 15) (by decide +kernel), List.mem_of_getElem? (i := 440) (by decide +kernel), List.mem_of_getElem? (i := 441) (by decide +kernel)⟩
theorem lw_p5 : lw_okq (⟨"CutStore$Distinct", "addPiece", "(II)Z"⟩, 4) := ⟨⟨by decide +kernel, by decide +kernel⟩, List.mem_of_getElem? (i := 117) (by decide +kernel), List.mem_of_getElem? (i := 471) (by decide +kernel), List.mem_of_getElem? (i := 472) (by decide +kernel)⟩
theorem lw_p6 : lw_okq (⟨"CutStore$Distinct", "homeOf", "(II)I"⟩, 4) := ⟨⟨by decide +kernel, by decide +kernel⟩, List.mem_of_getElem? (i := 117) (by decide +kernel), List.mem_of_getElem? (i := 475) (by decide +kernel), List.mem_of_getElem? (i := 476) (by decide +kernel)⟩
theorem lw_p7 : lw_okq (⟨"CutStore", "roomByRule", "(LCutStore$Rule;I)I"⟩, 10) := ⟨⟨by decide +kernel, by decide +kernel⟩, List.mem_of_getElem? (i := 15) (by decide +kernel), List.mem_of_getElem? (i := 488) (by decide +kernel), List.mem_of_getElem? (i := 489) (by decide +kernel)⟩
theorem lw_p8 : lw_okq (⟨"CutStore", "roomOf", "(III)I"⟩, 10) := ⟨⟨by decide +kernel, by decide +kernel⟩, List.mem_of_getElem? (i := 15) (by decide +kernel), List.mem_of_getElem? (i := 492) (by decide +kernel), List.mem_of_getElem? (i := 493) (by decide +kernel)⟩
theorem lw_p9 : lw_okq (⟨"CutStore$Store", "share", "(II)I"⟩, 12) := ⟨⟨by decide +kernel, by decide +kernel⟩, List.mem_of_getElem? (i := 137) (by decide +kernel), List.mem_of_getElem? (i := 510) (by decide +kernel), List.mem_of_getElem? (i := 511) (by decide +kernel)⟩
theorem lw_p10 : lw_okq (⟨"CutStore$Store", "printOf", "(II)I"⟩, 12) := ⟨⟨by decide +kernel, by decide +kernel⟩, List.mem_of_getElem? (i := 137) (by decide +kernel), List.mem_of_getElem? (i := 514) (by decide +kernel), List.mem_of_getElem? (i := 515) (by decide +kernel)⟩
theorem lw_p11 : lw_okq (⟨"CutStore$Store", "findAlike", "(III)I"⟩, 12) := ⟨⟨by decide +kernel, by decide +kernel⟩, List.mem_of_getElem? (i := 137) (by decide +kernel), List.mem_of_getElem? (i := 518) (by decide +kernel), List.mem_of_getElem? (i := 519) (by decide +kernel)⟩
theorem lw_p12 : lw_okq (⟨"CutStore$Store", "leastFree", "()I"⟩, 12) := ⟨⟨by decide +kernel, by decide +kernel⟩, List.mem_of_getElem? (i := 137) (by decide +kernel), List.mem_of_getElem? (i := 523) (by decide +kernel), List.mem_of_getElem? (i := 524) (by decide +kernel)⟩
theorem lw_p13 : lw_okq (⟨"CutStore$Store", "addPiece", "(IIII)V"⟩, 12) := ⟨⟨by decide +kernel, by decide +kernel⟩, List.mem_of_getElem? (i := 137) (by decide +kernel), List.mem_of_getElem? (i := 527) (by decide +kernel), List.mem_of_getElem? (i := 528) (by decide +kernel)⟩
theorem lw_p14 : lw_okq (⟨"CutStore$Store", "release", "([II)V"⟩, 12) := ⟨⟨by decide +kernel, by decide +kernel⟩, List.mem_of_getElem? (i := 137) (by decide +kernel), List.mem_of_getElem? (i := 532) (by decide +kernel), List.mem_of_getElem? (i := 533) (by decide +kernel)⟩
theorem lw_p15 : lw_okq (⟨"CutStore$Store", "removePiece", "(I)V"⟩, 12) := ⟨⟨by decide +kernel, by decide +kernel⟩, List.mem_of_getElem? (i := 137) (by decide +kernel), List.mem_of_getElem? (i := 536) (by decide +kernel), List.mem_of_getElem? (i := 537) (by decide +kernel)⟩
def lw_privs_1 : List (MethodName × Nat) := [(⟨"CutStore", "isPlace", "(II)Z"⟩, 10), (⟨"CutStore", "isSetRule", "(I)Z"⟩, 10), (⟨"CutStore$Cutter", "endOfPiece", "(LCutStore$Rule;I)I"⟩, 5), (⟨"CutStore$Rule", "hasSign", "(II)Z"⟩, 6), (⟨"CutStore", "agreesFromEnd", "(I)Z"⟩, 10), (⟨"CutStore$Distinct", "addPiece", "(II)Z"⟩, 4), (⟨"CutStore$Distinct", "homeOf", "(II)I"⟩, 4), (⟨"CutStore", "roomByRule", "(LCutStore$Rule;I)I"⟩, 10), (⟨"CutStore", "roomOf", "(III)I"⟩, 10), (⟨"CutStore$Store", "share", "(II)I"⟩, 12), (⟨"CutStore$Store", "printOf", "(II)I"⟩, 12), (⟨"CutStore$Store", "findAlike", "(III)I"⟩, 12), (⟨"CutStore$Store", "leastFree", "()I"⟩, 12), (⟨"CutStore$Store", "addPiece", "(IIII)V"⟩, 12), (⟨"CutStore$Store", "release", "([II)V"⟩, 12), (⟨"CutStore$Store", "removePiece", "(I)V"⟩, 12)]
theorem lw_r1 : ∀ q ∈ lw_privs_1, lw_okq q := List.forall_mem_cons.mpr ⟨lw_p0, List.forall_mem_cons.mpr ⟨lw_p1, List.forall_mem_cons.mpr ⟨lw_p2, List.forall_mem_cons.mpr ⟨lw_p3, List.forall_mem_cons.mpr ⟨lw_p4, List.forall_mem_cons.mpr ⟨lw_p5, List.forall_mem_cons.mpr ⟨lw_p6, List.forall_mem_cons.mpr ⟨lw_p7, List.forall_mem_cons.mpr ⟨lw_p8, List.forall_mem_cons.mpr ⟨lw_p9, List.forall_mem_cons.mpr ⟨lw_p10, List.forall_mem_cons.mpr ⟨lw_p11, List.forall_mem_cons.mpr ⟨lw_p12, List.forall_mem_cons.mpr ⟨lw_p13, List.forall_mem_cons.mpr ⟨lw_p14, List.forall_mem_cons.mpr ⟨lw_p15, fun _ h => absurd h List.not_mem_nil⟩⟩⟩⟩⟩⟩⟩⟩⟩⟩⟩⟩⟩⟩⟩⟩
theorem lw_p16 : lw_okq (⟨"CutStore", "isKept", "(I)Z"⟩, 10) := ⟨⟨by decide +kernel, by decide +kernel⟩, List.mem_of_getElem? (i := 15) (by decide +kernel), List.mem_of_getElem? (i := 544) (by decide +kernel), List.mem_of_getElem? (i := 545) (by decide +kernel)⟩
theorem lw_p17 : lw_okq (⟨"CutStore$Supers", "countPairs", "()V"⟩, 8) := ⟨⟨by decide +kernel, by decide +kernel⟩, List.mem_of_getElem? (i := 193) (by decide +kernel), List.mem_of_getElem? (i := 614) (by decide +kernel), List.mem_of_getElem? (i := 615) (by decide +kernel)⟩
theorem lw_p18 : lw_okq (⟨"CutStore$PairTable", "countOnceMore", "(I)I"⟩, 8) := ⟨⟨by decide +kernel, by decide +kernel⟩, List.mem_of_getElem? (i := 199) (by decide +kernel), List.mem_of_getElem? (i := 626) (by decide +kernel), List.mem_of_getElem? (i := 627) (by decide +kernel)⟩
theorem lw_p19 : lw_okq (⟨"CutStore$Supers", "putInPlace", "(III)I"⟩, 8) := ⟨⟨by decide +kernel, by decide +kernel⟩, List.mem_of_getElem? (i := 193) (by decide +kernel), List.mem_of_getElem? (i := 631) (by decide +kernel), List.mem_of_getElem? (i := 632) (by decide +kernel)⟩
theorem lw_p20 : lw_okq (⟨"CutStoreModel", "rules", "(IIIIIII)Z"⟩, 37) := ⟨⟨by decide +kernel, by decide +kernel⟩, List.mem_of_getElem? (i := 643) (by decide +kernel), List.mem_of_getElem? (i := 799) (by decide +kernel), List.mem_of_getElem? (i := 800) (by decide +kernel)⟩
theorem lw_p21 : lw_okq (⟨"CutStoreModel", "isRule", "(I)Z"⟩, 37) := ⟨⟨by decide +kernel, by decide +kernel⟩, List.mem_of_getElem? (i := 643) (by decide +kernel), List.mem_of_getElem? (i := 815) (by decide +kernel), List.mem_of_getElem? (i := 816) (by decide +kernel)⟩
theorem lw_p22 : lw_okq (⟨"CutStoreModel", "isRolling", "(I)Z"⟩, 37) := ⟨⟨by decide +kernel, by decide +kernel⟩, List.mem_of_getElem? (i := 643) (by decide +kernel), List.mem_of_getElem? (i := 819) (by decide +kernel), List.mem_of_getElem? (i := 820) (by decide +kernel)⟩
theorem lw_p23 : lw_okq (⟨"CutStoreModel", "sumAt", "(III)I"⟩, 37) := ⟨⟨by decide +kernel, by decide +kernel⟩, List.mem_of_getElem? (i := 643) (by decide +kernel), List.mem_of_getElem? (i := 823) (by decide +kernel), List.mem_of_getElem? (i := 824) (by decide +kernel)⟩
theorem lw_p24 : lw_okq (⟨"CutStoreModel", "cutsOf", "(II)V"⟩, 37) := ⟨⟨by decide +kernel, by decide +kernel⟩, List.mem_of_getElem? (i := 643) (by decide +kernel), List.mem_of_getElem? (i := 832) (by decide +kernel), List.mem_of_getElem? (i := 833) (by decide +kernel)⟩
theorem lw_p25 : lw_okq (⟨"CutStoreModel", "endOf", "(III)I"⟩, 37) := ⟨⟨by decide +kernel, by decide +kernel⟩, List.mem_of_getElem? (i := 643) (by decide +kernel), List.mem_of_getElem? (i := 836) (by decide +kernel), List.mem_of_getElem? (i := 837) (by decide +kernel)⟩
theorem lw_p26 : lw_okq (⟨"CutStoreModel", "isSign", "(III)Z"⟩, 37) := ⟨⟨by decide +kernel, by decide +kernel⟩, List.mem_of_getElem? (i := 643) (by decide +kernel), List.mem_of_getElem? (i := 840) (by decide +kernel), List.mem_of_getElem? (i := 841) (by decide +kernel)⟩
theorem lw_p27 : lw_okq (⟨"CutStoreModel", "othersOf", "(II)V"⟩, 37) := ⟨⟨by decide +kernel, by decide +kernel⟩, List.mem_of_getElem? (i := 643) (by decide +kernel), List.mem_of_getElem? (i := 852) (by decide +kernel), List.mem_of_getElem? (i := 853) (by decide +kernel)⟩
theorem lw_p28 : lw_okq (⟨"CutStoreModel", "isAlike", "(IIIIII)Z"⟩, 37) := ⟨⟨by decide +kernel, by decide +kernel⟩, List.mem_of_getElem? (i := 643) (by decide +kernel), List.mem_of_getElem? (i := 856) (by decide +kernel), List.mem_of_getElem? (i := 857) (by decide +kernel)⟩
theorem lw_p29 : lw_okq (⟨"CutStoreModel", "printOf", "(III)I"⟩, 37) := ⟨⟨by decide +kernel, by decide +kernel⟩, List.mem_of_getElem? (i := 643) (by decide +kernel), List.mem_of_getElem? (i := 868) (by decide +kernel), List.mem_of_getElem? (i := 869) (by decide +kernel)⟩
theorem lw_p30 : lw_okq (⟨"CutStoreModel", "lacks", "(I)I"⟩, 37) := ⟨⟨by decide +kernel, by decide +kernel⟩, List.mem_of_getElem? (i := 643) (by decide +kernel), List.mem_of_getElem? (i := 881) (by decide +kernel), List.mem_of_getElem? (i := 882) (by decide +kernel)⟩
theorem lw_p31 : lw_okq (⟨"CutStoreModel", "isPiece", "(I)Z"⟩, 37) := ⟨⟨by decide +kernel, by decide +kernel⟩, List.mem_of_getElem? (i := 643) (by decide +kernel), List.mem_of_getElem? (i := 885) (by decide +kernel), List.mem_of_getElem? (i := 886) (by decide +kernel)⟩
def lw_privs_2 : List (MethodName × Nat) := [(⟨"CutStore", "isKept", "(I)Z"⟩, 10), (⟨"CutStore$Supers", "countPairs", "()V"⟩, 8), (⟨"CutStore$PairTable", "countOnceMore", "(I)I"⟩, 8), (⟨"CutStore$Supers", "putInPlace", "(III)I"⟩, 8), (⟨"CutStoreModel", "rules", "(IIIIIII)Z"⟩, 37), (⟨"CutStoreModel", "isRule", "(I)Z"⟩, 37), (⟨"CutStoreModel", "isRolling", "(I)Z"⟩, 37), (⟨"CutStoreModel", "sumAt", "(III)I"⟩, 37), (⟨"CutStoreModel", "cutsOf", "(II)V"⟩, 37), (⟨"CutStoreModel", "endOf", "(III)I"⟩, 37), (⟨"CutStoreModel", "isSign", "(III)Z"⟩, 37), (⟨"CutStoreModel", "othersOf", "(II)V"⟩, 37), (⟨"CutStoreModel", "isAlike", "(IIIIII)Z"⟩, 37), (⟨"CutStoreModel", "printOf", "(III)I"⟩, 37), (⟨"CutStoreModel", "lacks", "(I)I"⟩, 37), (⟨"CutStoreModel", "isPiece", "(I)Z"⟩, 37)]
theorem lw_r2 : ∀ q ∈ lw_privs_2, lw_okq q := List.forall_mem_cons.mpr ⟨lw_p16, List.forall_mem_cons.mpr ⟨lw_p17, List.forall_mem_cons.mpr ⟨lw_p18, List.forall_mem_cons.mpr ⟨lw_p19, List.forall_mem_cons.mpr ⟨lw_p20, List.forall_mem_cons.mpr ⟨lw_p21, List.forall_mem_cons.mpr ⟨lw_p22, List.forall_mem_cons.mpr ⟨lw_p23, List.forall_mem_cons.mpr ⟨lw_p24, List.forall_mem_cons.mpr ⟨lw_p25, List.forall_mem_cons.mpr ⟨lw_p26, List.forall_mem_cons.mpr ⟨lw_p27, List.forall_mem_cons.mpr ⟨lw_p28, List.forall_mem_cons.mpr ⟨lw_p29, List.forall_mem_cons.mpr ⟨lw_p30, List.forall_mem_cons.mpr ⟨lw_p31, fun _ h => absurd h List.not_mem_nil⟩⟩⟩⟩⟩⟩⟩⟩⟩⟩⟩⟩⟩⟩⟩⟩
theorem lw_p32 : lw_okq (⟨"CutStoreModel", "isThat", "(IIII)Z"⟩, 37) := ⟨⟨by decide +kernel, by decide +kernel⟩, List.mem_of_getElem? (i := 643) (by decide +kernel), List.mem_of_getElem? (i := 889) (by decide +kernel), List.mem_of_getElem? (i := 890) (by decide +kernel)⟩
theorem lw_p33 : lw_okq (⟨"CutStoreModel", "there", "()I"⟩, 37) := ⟨⟨by decide +kernel, by decide +kernel⟩, List.mem_of_getElem? (i := 643) (by decide +kernel), List.mem_of_getElem? (i := 893) (by decide +kernel), List.mem_of_getElem? (i := 894) (by decide +kernel)⟩
theorem lw_p34 : lw_okq (⟨"CutStoreModel", "comes", "(III)I"⟩, 37) := ⟨⟨by decide +kernel, by decide +kernel⟩, List.mem_of_getElem? (i := 643) (by decide +kernel), List.mem_of_getElem? (i := 897) (by decide +kernel), List.mem_of_getElem? (i := 898) (by decide +kernel)⟩
theorem lw_p35 : lw_okq (⟨"CutStoreModel", "goes", "([III)I"⟩, 37) := ⟨⟨by decide +kernel, by decide +kernel⟩, List.mem_of_getElem? (i := 643) (by decide +kernel), List.mem_of_getElem? (i := 901) (by decide +kernel), List.mem_of_getElem? (i := 902) (by decide +kernel)⟩
theorem lw_p36 : lw_okq (⟨"CutStoreModel", "mostOften", "()I"⟩, 37) := ⟨⟨by decide +kernel, by decide +kernel⟩, List.mem_of_getElem? (i := 643) (by decide +kernel), List.mem_of_getElem? (i := 937) (by decide +kernel), List.mem_of_getElem? (i := 938) (by decide +kernel)⟩
theorem lw_p37 : lw_okq (⟨"CutStoreModel", "gives", "(II)I"⟩, 37) := ⟨⟨by decide +kernel, by decide +kernel⟩, List.mem_of_getElem? (i := 643) (by decide +kernel), List.mem_of_getElem? (i := 947) (by decide +kernel), List.mem_of_getElem? (i := 948) (by decide +kernel)⟩
def lw_privs_3 : List (MethodName × Nat) := [(⟨"CutStoreModel", "isThat", "(IIII)Z"⟩, 37), (⟨"CutStoreModel", "there", "()I"⟩, 37), (⟨"CutStoreModel", "comes", "(III)I"⟩, 37), (⟨"CutStoreModel", "goes", "([III)I"⟩, 37), (⟨"CutStoreModel", "mostOften", "()I"⟩, 37), (⟨"CutStoreModel", "gives", "(II)I"⟩, 37)]
theorem lw_r3 : ∀ q ∈ lw_privs_3, lw_okq q := List.forall_mem_cons.mpr ⟨lw_p32, List.forall_mem_cons.mpr ⟨lw_p33, List.forall_mem_cons.mpr ⟨lw_p34, List.forall_mem_cons.mpr ⟨lw_p35, List.forall_mem_cons.mpr ⟨lw_p36, List.forall_mem_cons.mpr ⟨lw_p37, fun _ h => absurd h List.not_mem_nil⟩⟩⟩⟩⟩⟩
def lw_privs : List (MethodName × Nat) := lw_privs_1 ++ (lw_privs_2 ++ (lw_privs_3))
def lw_tbl : List Cond := k2_sels lw_privs ++ tables_1
theorem lw_privs_ok : ∀ q ∈ lw_privs, lw_okq q := by
  show ∀ q ∈ lw_privs_1 ++ (lw_privs_2 ++ (lw_privs_3)), lw_okq q
  exact List.forall_mem_append.mpr ⟨lw_r1, List.forall_mem_append.mpr ⟨lw_r2, lw_r3⟩⟩
end
section
/-! ===== BEGIN words of one list among another's, by their places ===== -/
theorem goodIn_r {big : List Cond} (ws : List Cond) (ps : List Nat) (hp : ws = ps.filterMap (fun i => big[i]?)) (h : ws.all goodWord = true) : GoodIn big ws := by
  intro w hw
  have h1 := List.all_eq_true.mp h w hw
  rw [hp] at hw
  obtain ⟨i, -, hi⟩ := List.mem_filterMap.mp hw
  have hm : w ∈ big := by first | exact List.mem_of_getElem? hi | exact List.getElem?_mem hi
  exact ⟨hm, good_of_word h1⟩
theorem goodIn_app {big a b : List Cond} (ha : GoodIn big a) (hb : GoodIn big b) : GoodIn big (a ++ b) := fun w h => (List.mem_append.mp h).elim (ha w) (hb w)
theorem goodIn_ca {big a b : List Cond} {c : Cond} (ha : GoodIn big (c :: a)) (hb : GoodIn big b) : GoodIn big (c :: (a ++ b)) := fun w h => (List.mem_cons.mp h).elim (fun e => ha w (List.mem_cons.mpr (Or.inl e))) (fun h => (List.mem_append.mp h).elim (fun h => ha w (List.mem_cons.mpr (Or.inr h))) (hb w))
theorem goodIn_sub {big ws : List Cond} (hm : ∀ w ∈ ws, w ∈ big) (h : ws.all goodWord = true) : GoodIn big ws := fun w hw => ⟨hm w hw, good_of_word (List.all_eq_true.mp h w hw)⟩
/-! ===== END ===== -/
def RX0 : String := "CutStore$Cutter"
def TX0 : u_T := fun k => match k with
  | 0 => ("CutStore$Cutter", "files", "LCutStore$Files;", true)
  | 1 => ("CutStore$Cutter", "sums", "[I", true)
  | 2 => ("CutStore$Cutter", "begins", "[I", true)
  | 3 => ("CutStore$Cutter", "pieces", "I", false)
  | _ => ("CutStore$Cutter", "file", "I", false)
def tyX0 : Nat → FieldType := fun k => match k with
  | 0 => .object "CutStore$Files"
  | 1 => .array .int
  | 2 => .array .int
  | 3 => .int
  | _ => .int
abbrev wsX00 : List Cond := u_ws RX0 TX0 5
theorem nmX0 : ∀ a, a < 5 → ∀ b, b < 5 → a ≠ b → (TX0 a).2.1 ≠ (TX0 b).2.1 := by decide +kernel
theorem tyX0_ok : ∀ k, k < 5 → parseFieldDescriptor (TX0 k).2.2.1 = some (tyX0 k) := by decide +kernel
abbrev cX0_init : ByteArray := prog_2_method_1_code
def yX0_init : MethodName := ⟨RX0, "<init>", "(LCutStore$Files;)V"⟩
abbrev cX0_startOf : ByteArray := prog_2_method_2_code
def yX0_startOf : MethodName := ⟨RX0, "startOf", "(I)I"⟩
abbrev cX0_lengthOf : ByteArray := prog_2_method_3_code
def yX0_lengthOf : MethodName := ⟨RX0, "lengthOf", "(I)I"⟩
abbrev cX0_addUp : ByteArray := prog_2_method_4_code
def yX0_addUp : MethodName := ⟨RX0, "addUp", "(LCutStore$Rule;I)V"⟩
abbrev cX0_divide : ByteArray := prog_2_method_5_code
def yX0_divide : MethodName := ⟨RX0, "divide", "(LCutStore$Rule;I)V"⟩
abbrev cX0_endOfPiece : ByteArray := prog_2_method_6_code
def yX0_endOfPiece : MethodName := ⟨RX0, "endOfPiece", "(LCutStore$Rule;I)I"⟩
def RX1 : String := "CutStore$Distinct"
def TX1 : u_T := fun k => match k with
  | 0 => ("CutStore$Distinct", "files", "LCutStore$Files;", true)
  | 1 => ("CutStore$Distinct", "starts", "[I", true)
  | 2 => ("CutStore$Distinct", "lengths", "[I", true)
  | _ => ("CutStore$Distinct", "size", "I", false)
def tyX1 : Nat → FieldType := fun k => match k with
  | 0 => .object "CutStore$Files"
  | 1 => .array .int
  | 2 => .array .int
  | _ => .int
abbrev wsX10 : List Cond := u_ws RX1 TX1 4
theorem nmX1 : ∀ a, a < 4 → ∀ b, b < 4 → a ≠ b → (TX1 a).2.1 ≠ (TX1 b).2.1 := by decide +kernel
theorem tyX1_ok : ∀ k, k < 4 → parseFieldDescriptor (TX1 k).2.2.1 = some (tyX1 k) := by decide +kernel
abbrev cX1_init : ByteArray := prog_3_method_1_code
def yX1_init : MethodName := ⟨RX1, "<init>", "(LCutStore$Files;)V"⟩
abbrev cX1_clear : ByteArray := prog_3_method_2_code
def yX1_clear : MethodName := ⟨RX1, "clear", "()V"⟩
abbrev cX1_addPieces : ByteArray := prog_3_method_3_code
def yX1_addPieces : MethodName := ⟨RX1, "addPieces", "(LCutStore$Cutter;)I"⟩
abbrev cX1_addPiece : ByteArray := prog_3_method_4_code
def yX1_addPiece : MethodName := ⟨RX1, "addPiece", "(II)Z"⟩
abbrev cX1_homeOf : ByteArray := prog_3_method_5_code
def yX1_homeOf : MethodName := ⟨RX1, "homeOf", "(II)I"⟩
def RX2 : String := "CutStore$Files"
def TX2 : u_T := fun k => match k with
  | 0 => ("CutStore$Files", "bytes", "[B", true)
  | _ => ("CutStore$Files", "lengths", "[I", true)
def tyX2 : Nat → FieldType := fun k => match k with
  | 0 => .array .byte
  | _ => .array .int
abbrev wsX20 : List Cond := u_ws RX2 TX2 2
theorem nmX2 : ∀ a, a < 2 → ∀ b, b < 2 → a ≠ b → (TX2 a).2.1 ≠ (TX2 b).2.1 := by decide +kernel
theorem tyX2_ok : ∀ k, k < 2 → parseFieldDescriptor (TX2 k).2.2.1 = some (tyX2 k) := by decide +kernel
abbrev cX2_init : ByteArray := prog_4_method_1_code
def yX2_init : MethodName := ⟨RX2, "<init>", "()V"⟩
abbrev cX2_startOf : ByteArray := prog_4_method_2_code
def yX2_startOf : MethodName := ⟨RX2, "startOf", "(I)I"⟩
abbrev cX2_byteAt : ByteArray := prog_4_method_3_code
def yX2_byteAt : MethodName := ⟨RX2, "byteAt", "(II)I"⟩
abbrev cX2_addByte : ByteArray := prog_4_method_4_code
def yX2_addByte : MethodName := ⟨RX2, "addByte", "(II)V"⟩
abbrev cX2_addBytes : ByteArray := prog_4_method_5_code
def yX2_addBytes : MethodName := ⟨RX2, "addBytes", "(I[BII)V"⟩
abbrev cX2_duplicate : ByteArray := prog_4_method_6_code
def yX2_duplicate : MethodName := ⟨RX2, "duplicate", "(II)V"⟩
abbrev cX2_replace : ByteArray := prog_4_method_7_code
def yX2_replace : MethodName := ⟨RX2, "replace", "(IIILCutStore$Tape;)V"⟩
def RX3 : String := "CutStore$PairTable"
def TX3 : u_T := fun k => match k with
  | 0 => ("CutStore$PairTable", "keys", "[I", true)
  | 1 => ("CutStore$PairTable", "counts", "[I", true)
  | 2 => ("CutStore$PairTable", "rounds", "[I", true)
  | 3 => ("CutStore$PairTable", "round", "I", false)
  | 4 => ("CutStore$PairTable", "mostKey", "I", false)
  | 5 => ("CutStore$PairTable", "most", "I", false)
  | 6 => ("CutStore$PairTable", "mostFirst", "I", false)
  | _ => ("CutStore$PairTable", "mostSecond", "I", false)
def tyX3 : Nat → FieldType := fun k => match k with
  | 0 => .array .int
  | 1 => .array .int
  | 2 => .array .int
  | 3 => .int
  | 4 => .int
  | 5 => .int
  | 6 => .int
  | _ => .int
abbrev wsX30 : List Cond := u_ws RX3 TX3 8
theorem nmX3 : ∀ a, a < 8 → ∀ b, b < 8 → a ≠ b → (TX3 a).2.1 ≠ (TX3 b).2.1 := by decide +kernel
theorem tyX3_ok : ∀ k, k < 8 → parseFieldDescriptor (TX3 k).2.2.1 = some (tyX3 k) := by decide +kernel
abbrev cX3_init : ByteArray := prog_5_method_1_code
def yX3_init : MethodName := ⟨RX3, "<init>", "()V"⟩
abbrev cX3_clear : ByteArray := prog_5_method_2_code
def yX3_clear : MethodName := ⟨RX3, "clear", "()V"⟩
abbrev cX3_addPair : ByteArray := prog_5_method_3_code
def yX3_addPair : MethodName := ⟨RX3, "addPair", "(II)V"⟩
abbrev cX3_countOnceMore : ByteArray := prog_5_method_4_code
def yX3_countOnceMore : MethodName := ⟨RX3, "countOnceMore", "(I)I"⟩
def RX4 : String := "CutStore$Rule"
def TX4 : u_T := fun k => match k with
  | 0 => ("CutStore$Rule", "kind", "I", false)
  | 1 => ("CutStore$Rule", "least", "I", false)
  | 2 => ("CutStore$Rule", "most", "I", false)
  | 3 => ("CutStore$Rule", "window", "I", false)
  | 4 => ("CutStore$Rule", "bits", "I", false)
  | _ => ("CutStore$Rule", "mark", "I", false)
def tyX4 : Nat → FieldType := fun k => match k with
  | 0 => .int
  | 1 => .int
  | 2 => .int
  | 3 => .int
  | 4 => .int
  | _ => .int
abbrev wsX40 : List Cond := u_ws RX4 TX4 6
theorem nmX4 : ∀ a, a < 6 → ∀ b, b < 6 → a ≠ b → (TX4 a).2.1 ≠ (TX4 b).2.1 := by decide +kernel
theorem tyX4_ok : ∀ k, k < 6 → parseFieldDescriptor (TX4 k).2.2.1 = some (tyX4 k) := by decide +kernel
abbrev cX4_init : ByteArray := prog_6_method_1_code
def yX4_init : MethodName := ⟨RX4, "<init>", "()V"⟩
abbrev cX4_become : ByteArray := prog_6_method_2_code
def yX4_become : MethodName := ⟨RX4, "become", "(IIII)V"⟩
abbrev cX4_roll : ByteArray := prog_6_method_3_code
def yX4_roll : MethodName := ⟨RX4, "roll", "(II)V"⟩
abbrev cX4_hasWindow : ByteArray := prog_6_method_4_code
def yX4_hasWindow : MethodName := ⟨RX4, "hasWindow", "()Z"⟩
abbrev cX4_endsBehind : ByteArray := prog_6_method_5_code
def yX4_endsBehind : MethodName := ⟨RX4, "endsBehind", "(II)Z"⟩
abbrev cX4_mayEndBehind : ByteArray := prog_6_method_6_code
def yX4_mayEndBehind : MethodName := ⟨RX4, "mayEndBehind", "(I)Z"⟩
abbrev cX4_hasSign : ByteArray := prog_6_method_7_code
def yX4_hasSign : MethodName := ⟨RX4, "hasSign", "(II)Z"⟩
def RX5 : String := "CutStore$Store"
def TX5 : u_T := fun k => match k with
  | 0 => ("CutStore$Store", "files", "LCutStore$Files;", true)
  | 1 => ("CutStore$Store", "bytes", "[B", true)
  | 2 => ("CutStore$Store", "starts", "[I", true)
  | 3 => ("CutStore$Store", "lengths", "[I", true)
  | 4 => ("CutStore$Store", "prints", "[I", true)
  | 5 => ("CutStore$Store", "holds", "[I", true)
  | 6 => ("CutStore$Store", "kept", "[[I", true)
  | 7 => ("CutStore$Store", "keptLengths", "[I", true)
  | 8 => ("CutStore$Store", "coming", "[I", true)
  | 9 => ("CutStore$Store", "pieces", "I", false)
  | 10 => ("CutStore$Store", "used", "I", false)
  | _ => ("CutStore$Store", "meetings", "I", false)
def tyX5 : Nat → FieldType := fun k => match k with
  | 0 => .object "CutStore$Files"
  | 1 => .array .byte
  | 2 => .array .int
  | 3 => .array .int
  | 4 => .array .int
  | 5 => .array .int
  | 6 => .array (.array .int)
  | 7 => .array .int
  | 8 => .array .int
  | 9 => .int
  | 10 => .int
  | _ => .int
abbrev wsX50 : List Cond := u_ws RX5 TX5 12
theorem nmX5 : ∀ a, a < 12 → ∀ b, b < 12 → a ≠ b → (TX5 a).2.1 ≠ (TX5 b).2.1 := by decide +kernel
theorem tyX5_ok : ∀ k, k < 12 → parseFieldDescriptor (TX5 k).2.2.1 = some (tyX5 k) := by decide +kernel
abbrev cX5_init : ByteArray := prog_7_method_1_code
def yX5_init : MethodName := ⟨RX5, "<init>", "(LCutStore$Files;)V"⟩
abbrev cX5_take : ByteArray := prog_7_method_2_code
def yX5_take : MethodName := ⟨RX5, "take", "(LCutStore$Cutter;I)I"⟩
abbrev cX5_letGo : ByteArray := prog_7_method_3_code
def yX5_letGo : MethodName := ⟨RX5, "letGo", "(I)I"⟩
abbrev cX5_restore : ByteArray := prog_7_method_4_code
def yX5_restore : MethodName := ⟨RX5, "restore", "(I)V"⟩
abbrev cX5_countJumps : ByteArray := prog_7_method_5_code
def yX5_countJumps : MethodName := ⟨RX5, "countJumps", "(I)I"⟩
abbrev cX5_countNumbers : ByteArray := prog_7_method_6_code
def yX5_countNumbers : MethodName := ⟨RX5, "countNumbers", "()I"⟩
abbrev cX5_countKeptFiles : ByteArray := prog_7_method_7_code
def yX5_countKeptFiles : MethodName := ⟨RX5, "countKeptFiles", "()I"⟩
abbrev cX5_share : ByteArray := prog_7_method_8_code
def yX5_share : MethodName := ⟨RX5, "share", "(II)I"⟩
abbrev cX5_findAlike : ByteArray := prog_7_method_9_code
def yX5_findAlike : MethodName := ⟨RX5, "findAlike", "(III)I"⟩
abbrev cX5_leastFree : ByteArray := prog_7_method_10_code
def yX5_leastFree : MethodName := ⟨RX5, "leastFree", "()I"⟩
abbrev cX5_printOf : ByteArray := prog_7_method_11_code
def yX5_printOf : MethodName := ⟨RX5, "printOf", "(II)I"⟩
abbrev cX5_addPiece : ByteArray := prog_7_method_12_code
def yX5_addPiece : MethodName := ⟨RX5, "addPiece", "(IIII)V"⟩
abbrev cX5_release : ByteArray := prog_7_method_13_code
def yX5_release : MethodName := ⟨RX5, "release", "([II)V"⟩
abbrev cX5_removePiece : ByteArray := prog_7_method_14_code
def yX5_removePiece : MethodName := ⟨RX5, "removePiece", "(I)V"⟩
def RX6 : String := "CutStore$Supers"
def TX6 : u_T := fun k => match k with
  | 0 => ("CutStore$Supers", "line", "[I", true)
  | 1 => ("CutStore$Supers", "length", "I", false)
  | 2 => ("CutStore$Supers", "rows", "I", false)
  | 3 => ("CutStore$Supers", "table", "LCutStore$PairTable;", true)
  | 4 => ("CutStore$Supers", "firsts", "[I", true)
  | 5 => ("CutStore$Supers", "seconds", "[I", true)
  | 6 => ("CutStore$Supers", "takes", "[I", true)
  | _ => ("CutStore$Supers", "made", "I", false)
def tyX6 : Nat → FieldType := fun k => match k with
  | 0 => .array .int
  | 1 => .int
  | 2 => .int
  | 3 => .object "CutStore$PairTable"
  | 4 => .array .int
  | 5 => .array .int
  | 6 => .array .int
  | _ => .int
abbrev wsX60 : List Cond := u_ws RX6 TX6 8
theorem nmX6 : ∀ a, a < 8 → ∀ b, b < 8 → a ≠ b → (TX6 a).2.1 ≠ (TX6 b).2.1 := by decide +kernel
theorem tyX6_ok : ∀ k, k < 8 → parseFieldDescriptor (TX6 k).2.2.1 = some (tyX6 k) := by decide +kernel
abbrev cX6_init : ByteArray := prog_8_method_1_code
def yX6_init : MethodName := ⟨RX6, "<init>", "()V"⟩
abbrev cX6_clear : ByteArray := prog_8_method_2_code
def yX6_clear : MethodName := ⟨RX6, "clear", "()V"⟩
abbrev cX6_addRow : ByteArray := prog_8_method_3_code
def yX6_addRow : MethodName := ⟨RX6, "addRow", "([II)V"⟩
abbrev cX6_make : ByteArray := prog_8_method_4_code
def yX6_make : MethodName := ⟨RX6, "make", "()V"⟩
abbrev cX6_countLeft : ByteArray := prog_8_method_5_code
def yX6_countLeft : MethodName := ⟨RX6, "countLeft", "()I"⟩
abbrev cX6_countPairs : ByteArray := prog_8_method_6_code
def yX6_countPairs : MethodName := ⟨RX6, "countPairs", "()V"⟩
abbrev cX6_putInPlace : ByteArray := prog_8_method_7_code
def yX6_putInPlace : MethodName := ⟨RX6, "putInPlace", "(III)I"⟩
def RX7 : String := "CutStore$Tape"
def TX7 : u_T := fun k => match k with
  | 0 => ("CutStore$Tape", "bytes", "[B", true)
  | _ => ("CutStore$Tape", "length", "I", false)
def tyX7 : Nat → FieldType := fun k => match k with
  | 0 => .array .byte
  | _ => .int
abbrev wsX70 : List Cond := u_ws RX7 TX7 2
theorem nmX7 : ∀ a, a < 2 → ∀ b, b < 2 → a ≠ b → (TX7 a).2.1 ≠ (TX7 b).2.1 := by decide +kernel
theorem tyX7_ok : ∀ k, k < 2 → parseFieldDescriptor (TX7 k).2.2.1 = some (tyX7 k) := by decide +kernel
abbrev cX7_init : ByteArray := prog_9_method_1_code
def yX7_init : MethodName := ⟨RX7, "<init>", "()V"⟩
abbrev cX7_addNumber : ByteArray := prog_9_method_2_code
def yX7_addNumber : MethodName := ⟨RX7, "addNumber", "(I)V"⟩
def RX8 : String := "CutStore"
def TX8 : u_T := fun k => match k with
  | 0 => ("CutStore", "files", "LCutStore$Files;", true)
  | 1 => ("CutStore", "tape", "LCutStore$Tape;", true)
  | 2 => ("CutStore", "rules", "[LCutStore$Rule;", true)
  | 3 => ("CutStore", "cutter", "LCutStore$Cutter;", true)
  | 4 => ("CutStore", "otherCutter", "LCutStore$Cutter;", true)
  | 5 => ("CutStore", "distinct", "LCutStore$Distinct;", true)
  | 6 => ("CutStore", "store", "LCutStore$Store;", true)
  | 7 => ("CutStore", "latest", "LCutStore$Supers;", true)
  | 8 => ("CutStore", "entry", "I", false)
  | _ => ("CutStore", "pointer", "I", false)
def tyX8 : Nat → FieldType := fun k => match k with
  | 0 => .object "CutStore$Files"
  | 1 => .object "CutStore$Tape"
  | 2 => .array (.object "CutStore$Rule")
  | 3 => .object "CutStore$Cutter"
  | 4 => .object "CutStore$Cutter"
  | 5 => .object "CutStore$Distinct"
  | 6 => .object "CutStore$Store"
  | 7 => .object "CutStore$Supers"
  | 8 => .int
  | _ => .int
abbrev wsX80 : List Cond := u_ws RX8 TX8 10
theorem nmX8 : ∀ a, a < 10 → ∀ b, b < 10 → a ≠ b → (TX8 a).2.1 ≠ (TX8 b).2.1 := by decide +kernel
theorem tyX8_ok : ∀ k, k < 10 → parseFieldDescriptor (TX8 k).2.2.1 = some (tyX8 k) := by decide +kernel
abbrev cX8_init : ByteArray := prog_1_method_1_code
def yX8_init : MethodName := ⟨RX8, "<init>", "()V"⟩
abbrev cX8_feed : ByteArray := prog_1_method_2_code
def yX8_feed : MethodName := ⟨RX8, "feed", "(IIIII)I"⟩
abbrev cX8_end : ByteArray := prog_1_method_3_code
def yX8_end : MethodName := ⟨RX8, "end", "(I)Z"⟩
abbrev cX8_edit : ByteArray := prog_1_method_4_code
def yX8_edit : MethodName := ⟨RX8, "edit", "(III)I"⟩
abbrev cX8_sow : ByteArray := prog_1_method_5_code
def yX8_sow : MethodName := ⟨RX8, "sow", "(IIII)I"⟩
abbrev cX8_copy : ByteArray := prog_1_method_6_code
def yX8_copy : MethodName := ⟨RX8, "copy", "(II)I"⟩
abbrev cX8_at : ByteArray := prog_1_method_7_code
def yX8_at : MethodName := ⟨RX8, "at", "(II)I"⟩
abbrev cX8_fixed : ByteArray := prog_1_method_8_code
def yX8_fixed : MethodName := ⟨RX8, "fixed", "(II)Z"⟩
abbrev cX8_rolling : ByteArray := prog_1_method_9_code
def yX8_rolling : MethodName := ⟨RX8, "rolling", "(IZIIIII)Z"⟩
abbrev cX8_told : ByteArray := prog_1_method_10_code
def yX8_told : MethodName := ⟨RX8, "told", "(IIII)Z"⟩
abbrev cX8_sum : ByteArray := prog_1_method_11_code
def yX8_sum : MethodName := ⟨RX8, "sum", "(III)I"⟩
abbrev cX8_cuts : ByteArray := prog_1_method_12_code
def yX8_cuts : MethodName := ⟨RX8, "cuts", "(II)I"⟩
abbrev cX8_cut : ByteArray := prog_1_method_13_code
def yX8_cut : MethodName := ⟨RX8, "cut", "(III)I"⟩
abbrev cX8_agree : ByteArray := prog_1_method_14_code
def yX8_agree : MethodName := ⟨RX8, "agree", "(III)I"⟩
abbrev cX8_sent : ByteArray := prog_1_method_15_code
def yX8_sent : MethodName := ⟨RX8, "sent", "(III)I"⟩
abbrev cX8_cost : ByteArray := prog_1_method_16_code
def yX8_cost : MethodName := ⟨RX8, "cost", "(II)I"⟩
abbrev cX8_best : ByteArray := prog_1_method_17_code
def yX8_best : MethodName := ⟨RX8, "best", "(I)I"⟩
abbrev cX8_keep : ByteArray := prog_1_method_18_code
def yX8_keep : MethodName := ⟨RX8, "keep", "(II)I"⟩
abbrev cX8_drop : ByteArray := prog_1_method_19_code
def yX8_drop : MethodName := ⟨RX8, "drop", "(I)I"⟩
abbrev cX8_bring : ByteArray := prog_1_method_20_code
def yX8_bring : MethodName := ⟨RX8, "bring", "(I)I"⟩
abbrev cX8_jumps : ByteArray := prog_1_method_21_code
def yX8_jumps : MethodName := ⟨RX8, "jumps", "(I)I"⟩
abbrev cX8_number : ByteArray := prog_1_method_22_code
def yX8_number : MethodName := ⟨RX8, "number", "(II)I"⟩
abbrev cX8_piece : ByteArray := prog_1_method_23_code
def yX8_piece : MethodName := ⟨RX8, "piece", "(II)I"⟩
abbrev cX8_count : ByteArray := prog_1_method_24_code
def yX8_count : MethodName := ⟨RX8, "count", "(I)I"⟩
abbrev cX8_prices : ByteArray := prog_1_method_25_code
def yX8_prices : MethodName := ⟨RX8, "prices", "(II)Z"⟩
abbrev cX8_supers : ByteArray := prog_1_method_26_code
def yX8_supers : MethodName := ⟨RX8, "supers", "()I"⟩
abbrev cX8_pair : ByteArray := prog_1_method_27_code
def yX8_pair : MethodName := ⟨RX8, "pair", "(II)I"⟩
abbrev cX8_isWithin : ByteArray := prog_1_method_28_code
def yX8_isWithin : MethodName := ⟨RX8, "isWithin", "(III)Z"⟩
abbrev cX8_isFile : ByteArray := prog_1_method_29_code
def yX8_isFile : MethodName := ⟨RX8, "isFile", "(I)Z"⟩
abbrev cX8_isRule : ByteArray := prog_1_method_30_code
def yX8_isRule : MethodName := ⟨RX8, "isRule", "(I)Z"⟩
abbrev cX8_isMarkRule : ByteArray := prog_1_method_31_code
def yX8_isMarkRule : MethodName := ⟨RX8, "isMarkRule", "(III)Z"⟩
abbrev cX8_isSetRule : ByteArray := prog_1_method_32_code
def yX8_isSetRule : MethodName := ⟨RX8, "isSetRule", "(I)Z"⟩
abbrev cX8_isPlace : ByteArray := prog_1_method_33_code
def yX8_isPlace : MethodName := ⟨RX8, "isPlace", "(II)Z"⟩
abbrev cX8_isKept : ByteArray := prog_1_method_34_code
def yX8_isKept : MethodName := ⟨RX8, "isKept", "(I)Z"⟩
abbrev cX8_agreesFromEnd : ByteArray := prog_1_method_35_code
def yX8_agreesFromEnd : MethodName := ⟨RX8, "agreesFromEnd", "(I)Z"⟩
abbrev cX8_roomByRule : ByteArray := prog_1_method_36_code
def yX8_roomByRule : MethodName := ⟨RX8, "roomByRule", "(LCutStore$Rule;I)I"⟩
abbrev cX8_roomOf : ByteArray := prog_1_method_37_code
def yX8_roomOf : MethodName := ⟨RX8, "roomOf", "(III)I"⟩
abbrev cX8_areAlike : ByteArray := prog_1_method_38_code
def yX8_areAlike : MethodName := ⟨RX8, "areAlike", "([BI[BII)Z"⟩
abbrev cX8_spread : ByteArray := prog_1_method_39_code
def yX8_spread : MethodName := ⟨RX8, "spread", "(I)I"⟩
def RX9 : String := "CutStoreModel"
def TX9 : u_T := fun k => match k with
  | 0 => ("CutStoreModel", "size", "[I", true)
  | 1 => ("CutStoreModel", "bytes", "[I", true)
  | 2 => ("CutStoreModel", "tape", "[I", true)
  | 3 => ("CutStoreModel", "taped", "I", false)
  | 4 => ("CutStoreModel", "kind", "[I", true)
  | 5 => ("CutStoreModel", "least", "[I", true)
  | 6 => ("CutStoreModel", "most", "[I", true)
  | 7 => ("CutStoreModel", "window", "[I", true)
  | 8 => ("CutStoreModel", "bits", "[I", true)
  | 9 => ("CutStoreModel", "mark", "[I", true)
  | 10 => ("CutStoreModel", "cuts", "I", false)
  | 11 => ("CutStoreModel", "cut", "[I", true)
  | 12 => ("CutStoreModel", "other", "[I", true)
  | 13 => ("CutStoreModel", "others", "I", false)
  | 14 => ("CutStoreModel", "entry", "I", false)
  | 15 => ("CutStoreModel", "pointer", "I", false)
  | 16 => ("CutStoreModel", "noteFile", "[I", true)
  | 17 => ("CutStoreModel", "noteFrom", "[I", true)
  | 18 => ("CutStoreModel", "noteEnd", "[I", true)
  | 19 => ("CutStoreModel", "notePrint", "[I", true)
  | 20 => ("CutStoreModel", "pieceSize", "[I", true)
  | 21 => ("CutStoreModel", "pieceByte", "[I", true)
  | 22 => ("CutStoreModel", "print", "[I", true)
  | 23 => ("CutStoreModel", "holds", "[I", true)
  | 24 => ("CutStoreModel", "isKept", "[Z", true)
  | 25 => ("CutStoreModel", "keptMany", "[I", true)
  | 26 => ("CutStoreModel", "kept", "[I", true)
  | 27 => ("CutStoreModel", "meetings", "I", false)
  | 28 => ("CutStoreModel", "was", "[I", true)
  | 29 => ("CutStoreModel", "row", "[I", true)
  | 30 => ("CutStoreModel", "rowEnd", "[I", true)
  | 31 => ("CutStoreModel", "times", "[I", true)
  | 32 => ("CutStoreModel", "lastAt", "[I", true)
  | 33 => ("CutStoreModel", "supers", "I", false)
  | 34 => ("CutStoreModel", "superFirst", "[I", true)
  | 35 => ("CutStoreModel", "superSecond", "[I", true)
  | _ => ("CutStoreModel", "superTimes", "[I", true)
def tyX9 : Nat → FieldType := fun k => match k with
  | 0 => .array .int
  | 1 => .array .int
  | 2 => .array .int
  | 3 => .int
  | 4 => .array .int
  | 5 => .array .int
  | 6 => .array .int
  | 7 => .array .int
  | 8 => .array .int
  | 9 => .array .int
  | 10 => .int
  | 11 => .array .int
  | 12 => .array .int
  | 13 => .int
  | 14 => .int
  | 15 => .int
  | 16 => .array .int
  | 17 => .array .int
  | 18 => .array .int
  | 19 => .array .int
  | 20 => .array .int
  | 21 => .array .int
  | 22 => .array .int
  | 23 => .array .int
  | 24 => .array .boolean
  | 25 => .array .int
  | 26 => .array .int
  | 27 => .int
  | 28 => .array .int
  | 29 => .array .int
  | 30 => .array .int
  | 31 => .array .int
  | 32 => .array .int
  | 33 => .int
  | 34 => .array .int
  | 35 => .array .int
  | _ => .array .int
abbrev wsX90 : List Cond := u_ws RX9 TX9 37
theorem nmX9 : ∀ a, a < 37 → ∀ b, b < 37 → a ≠ b → (TX9 a).2.1 ≠ (TX9 b).2.1 := by decide +kernel
theorem tyX9_ok : ∀ k, k < 37 → parseFieldDescriptor (TX9 k).2.2.1 = some (tyX9 k) := by decide +kernel
abbrev cX9_init : ByteArray := prog_11_method_1_code
def yX9_init : MethodName := ⟨RX9, "<init>", "()V"⟩
abbrev cX9_feed : ByteArray := prog_11_method_2_code
def yX9_feed : MethodName := ⟨RX9, "feed", "(IIIII)I"⟩
abbrev cX9_end : ByteArray := prog_11_method_3_code
def yX9_end : MethodName := ⟨RX9, "end", "(I)Z"⟩
abbrev cX9_isFile : ByteArray := prog_11_method_4_code
def yX9_isFile : MethodName := ⟨RX9, "isFile", "(I)Z"⟩
abbrev cX9_isIn : ByteArray := prog_11_method_5_code
def yX9_isIn : MethodName := ⟨RX9, "isIn", "(III)Z"⟩
abbrev cX9_edit : ByteArray := prog_11_method_6_code
def yX9_edit : MethodName := ⟨RX9, "edit", "(III)I"⟩
abbrev cX9_sow : ByteArray := prog_11_method_7_code
def yX9_sow : MethodName := ⟨RX9, "sow", "(IIII)I"⟩
abbrev cX9_copy : ByteArray := prog_11_method_8_code
def yX9_copy : MethodName := ⟨RX9, "copy", "(II)I"⟩
abbrev cX9_at : ByteArray := prog_11_method_9_code
def yX9_at : MethodName := ⟨RX9, "at", "(II)I"⟩
abbrev cX9_isRule : ByteArray := prog_11_method_10_code
def yX9_isRule : MethodName := ⟨RX9, "isRule", "(I)Z"⟩
abbrev cX9_rules : ByteArray := prog_11_method_11_code
def yX9_rules : MethodName := ⟨RX9, "rules", "(IIIIIII)Z"⟩
abbrev cX9_fixed : ByteArray := prog_11_method_12_code
def yX9_fixed : MethodName := ⟨RX9, "fixed", "(II)Z"⟩
abbrev cX9_rolling : ByteArray := prog_11_method_13_code
def yX9_rolling : MethodName := ⟨RX9, "rolling", "(IZIIIII)Z"⟩
abbrev cX9_told : ByteArray := prog_11_method_14_code
def yX9_told : MethodName := ⟨RX9, "told", "(IIII)Z"⟩
abbrev cX9_isRolling : ByteArray := prog_11_method_15_code
def yX9_isRolling : MethodName := ⟨RX9, "isRolling", "(I)Z"⟩
abbrev cX9_sumAt : ByteArray := prog_11_method_16_code
def yX9_sumAt : MethodName := ⟨RX9, "sumAt", "(III)I"⟩
abbrev cX9_isSign : ByteArray := prog_11_method_17_code
def yX9_isSign : MethodName := ⟨RX9, "isSign", "(III)Z"⟩
abbrev cX9_sum : ByteArray := prog_11_method_18_code
def yX9_sum : MethodName := ⟨RX9, "sum", "(III)I"⟩
abbrev cX9_endOf : ByteArray := prog_11_method_19_code
def yX9_endOf : MethodName := ⟨RX9, "endOf", "(III)I"⟩
abbrev cX9_cutsOf : ByteArray := prog_11_method_20_code
def yX9_cutsOf : MethodName := ⟨RX9, "cutsOf", "(II)V"⟩
abbrev cX9_cuts : ByteArray := prog_11_method_21_code
def yX9_cuts : MethodName := ⟨RX9, "cuts", "(II)I"⟩
abbrev cX9_cut : ByteArray := prog_11_method_22_code
def yX9_cut : MethodName := ⟨RX9, "cut", "(III)I"⟩
abbrev cX9_isAlike : ByteArray := prog_11_method_23_code
def yX9_isAlike : MethodName := ⟨RX9, "isAlike", "(IIIIII)Z"⟩
abbrev cX9_othersOf : ByteArray := prog_11_method_24_code
def yX9_othersOf : MethodName := ⟨RX9, "othersOf", "(II)V"⟩
abbrev cX9_agree : ByteArray := prog_11_method_25_code
def yX9_agree : MethodName := ⟨RX9, "agree", "(III)I"⟩
abbrev cX9_sent : ByteArray := prog_11_method_26_code
def yX9_sent : MethodName := ⟨RX9, "sent", "(III)I"⟩
abbrev cX9_printOf : ByteArray := prog_11_method_27_code
def yX9_printOf : MethodName := ⟨RX9, "printOf", "(III)I"⟩
abbrev cX9_cost : ByteArray := prog_11_method_28_code
def yX9_cost : MethodName := ⟨RX9, "cost", "(II)I"⟩
abbrev cX9_best : ByteArray := prog_11_method_29_code
def yX9_best : MethodName := ⟨RX9, "best", "(I)I"⟩
abbrev cX9_isPiece : ByteArray := prog_11_method_30_code
def yX9_isPiece : MethodName := ⟨RX9, "isPiece", "(I)Z"⟩
abbrev cX9_isThat : ByteArray := prog_11_method_31_code
def yX9_isThat : MethodName := ⟨RX9, "isThat", "(IIII)Z"⟩
abbrev cX9_there : ByteArray := prog_11_method_32_code
def yX9_there : MethodName := ⟨RX9, "there", "()I"⟩
abbrev cX9_lacks : ByteArray := prog_11_method_33_code
def yX9_lacks : MethodName := ⟨RX9, "lacks", "(I)I"⟩
abbrev cX9_comes : ByteArray := prog_11_method_34_code
def yX9_comes : MethodName := ⟨RX9, "comes", "(III)I"⟩
abbrev cX9_goes : ByteArray := prog_11_method_35_code
def yX9_goes : MethodName := ⟨RX9, "goes", "([III)I"⟩
abbrev cX9_keep : ByteArray := prog_11_method_36_code
def yX9_keep : MethodName := ⟨RX9, "keep", "(II)I"⟩
abbrev cX9_drop : ByteArray := prog_11_method_37_code
def yX9_drop : MethodName := ⟨RX9, "drop", "(I)I"⟩
abbrev cX9_bring : ByteArray := prog_11_method_38_code
def yX9_bring : MethodName := ⟨RX9, "bring", "(I)I"⟩
abbrev cX9_jumps : ByteArray := prog_11_method_39_code
def yX9_jumps : MethodName := ⟨RX9, "jumps", "(I)I"⟩
abbrev cX9_number : ByteArray := prog_11_method_40_code
def yX9_number : MethodName := ⟨RX9, "number", "(II)I"⟩
abbrev cX9_piece : ByteArray := prog_11_method_41_code
def yX9_piece : MethodName := ⟨RX9, "piece", "(II)I"⟩
abbrev cX9_count : ByteArray := prog_11_method_42_code
def yX9_count : MethodName := ⟨RX9, "count", "(I)I"⟩
abbrev cX9_prices : ByteArray := prog_11_method_43_code
def yX9_prices : MethodName := ⟨RX9, "prices", "(II)Z"⟩
abbrev cX9_pairAt : ByteArray := prog_11_method_44_code
def yX9_pairAt : MethodName := ⟨RX9, "pairAt", "(II)I"⟩
abbrev cX9_mostOften : ByteArray := prog_11_method_45_code
def yX9_mostOften : MethodName := ⟨RX9, "mostOften", "()I"⟩
abbrev cX9_gives : ByteArray := prog_11_method_46_code
def yX9_gives : MethodName := ⟨RX9, "gives", "(II)I"⟩
abbrev cX9_told_ : ByteArray := prog_11_method_47_code
def yX9_told_ : MethodName := ⟨RX9, "told", "(I)I"⟩
abbrev cX9_supers : ByteArray := prog_11_method_48_code
def yX9_supers : MethodName := ⟨RX9, "supers", "()I"⟩
abbrev cX9_pair : ByteArray := prog_11_method_49_code
def yX9_pair : MethodName := ⟨RX9, "pair", "(II)I"⟩
def RJ9 : String := "java/lang/Math"
def TJ9 : u_T := fun k => match k with
  | _ => ("", "", "", false)
def tyJ9 : Nat → FieldType := fun k => match k with
  | _ => .int
abbrev wsJ90 : List Cond := u_ws RJ9 TJ9 0
theorem nmJ9 : ∀ a, a < 0 → ∀ b, b < 0 → a ≠ b → (TJ9 a).2.1 ≠ (TJ9 b).2.1 := by decide +kernel
theorem tyJ9_ok : ∀ k, k < 0 → parseFieldDescriptor (TJ9 k).2.2.1 = some (tyJ9 k) := by decide +kernel
abbrev cJ9_max_7cf53 : ByteArray := prog_12_method_65_code
def yJ9_max_7cf53 : MethodName := ⟨RJ9, "max", "(II)I"⟩
abbrev cJ9_min_7cf53 : ByteArray := prog_12_method_69_code
def yJ9_min_7cf53 : MethodName := ⟨RJ9, "min", "(II)I"⟩
def RJ10 : String := "java/lang/System"
def TJ10 : u_T := fun k => match k with
  | _ => ("", "", "", false)
def tyJ10 : Nat → FieldType := fun k => match k with
  | _ => .int
abbrev wsJ100 : List Cond := u_ws RJ10 TJ10 0
theorem nmJ10 : ∀ a, a < 0 → ∀ b, b < 0 → a ≠ b → (TJ10 a).2.1 ≠ (TJ10 b).2.1 := by decide +kernel
theorem tyJ10_ok : ∀ k, k < 0 → parseFieldDescriptor (TJ10 k).2.2.1 = some (tyJ10 k) := by decide +kernel
def RJ7 : String := "java/util/Arrays"
def TJ7 : u_T := fun k => match k with
  | _ => ("", "", "", false)
def tyJ7 : Nat → FieldType := fun k => match k with
  | _ => .int
abbrev wsJ70 : List Cond := u_ws RJ7 TJ7 0
theorem nmJ7 : ∀ a, a < 0 → ∀ b, b < 0 → a ≠ b → (TJ7 a).2.1 ≠ (TJ7 b).2.1 := by decide +kernel
theorem tyJ7_ok : ∀ k, k < 0 → parseFieldDescriptor (TJ7 k).2.2.1 = some (tyJ7 k) := by decide +kernel
abbrev cJ7_fill_53178 : ByteArray := prog_14_method_103_code
def yJ7_fill_53178 : MethodName := ⟨RJ7, "fill", "([II)V"⟩
def RL : String := "CutStoreLaw"
abbrev cL_law : ByteArray := code
def yL_law : MethodName := ⟨RL, "law", "([I)Z"⟩
abbrev vwCl : List vw_C := [(RX0, TX0, 5), (RX1, TX1, 4), (RX2, TX2, 2), (RX3, TX3, 8), (RX4, TX4, 6), (RX5, TX5, 12), (RX6, TX6, 8), (RX7, TX7, 2), (RX8, TX8, 10), (RX9, TX9, 37)]
end
section
def gTs : List Cond := lw_tbl.filter goodWord
theorem gTs_mem {w : Cond} {i : Nat} (h : lw_tbl[i]? = some w) (hg : goodWord w = true) : w ∈ gTs := List.mem_filter.mpr ⟨List.mem_of_getElem? h, hg⟩
theorem gTs_good {big : List Cond} (h : ∀ w ∈ gTs, w ∈ big) : GoodIn big gTs := fun w hw => ⟨h w hw, good_of_word (List.mem_filter.mp hw).2⟩
theorem wd_0 : (Jvm.Cond.selects "CutStore" ⟨"CutStore", "isPlace", "(II)Z"⟩ ⟨"CutStore", "isPlace", "(II)Z"⟩) ∈ gTs := gTs_mem (i := 0) (by decide +kernel) rfl
theorem wd_1 : (Jvm.Cond.selects "CutStore" ⟨"CutStore", "isSetRule", "(I)Z"⟩ ⟨"CutStore", "isSetRule", "(I)Z"⟩) ∈ gTs := gTs_mem (i := 1) (by decide +kernel) rfl
theorem wd_2 : (Jvm.Cond.selects "CutStore$Cutter" ⟨"CutStore$Cutter", "endOfPiece", "(LCutStore$Rule;I)I"⟩ ⟨"CutStore$Cutter", "endOfPiece", "(LCutStore$Rule;I)I"⟩) ∈ gTs := gTs_mem (i := 2) (by decide +kernel) rfl
theorem wd_3 : (Jvm.Cond.selects "CutStore$Rule" ⟨"CutStore$Rule", "hasSign", "(II)Z"⟩ ⟨"CutStore$Rule", "hasSign", "(II)Z"⟩) ∈ gTs := gTs_mem (i := 3) (by decide +kernel) rfl
theorem wd_4 : (Jvm.Cond.selects "CutStore" ⟨"CutStore", "agreesFromEnd", "(I)Z"⟩ ⟨"CutStore", "agreesFromEnd", "(I)Z"⟩) ∈ gTs := gTs_mem (i := 4) (by decide +kernel) rfl
theorem wd_5 : (Jvm.Cond.selects "CutStore$Distinct" ⟨"CutStore$Distinct", "addPiece", "(II)Z"⟩ ⟨"CutStore$Distinct", "addPiece", "(II)Z"⟩) ∈ gTs := gTs_mem (i := 5) (by decide +kernel) rfl
theorem wd_6 : (Jvm.Cond.selects "CutStore$Distinct" ⟨"CutStore$Distinct", "homeOf", "(II)I"⟩ ⟨"CutStore$Distinct", "homeOf", "(II)I"⟩) ∈ gTs := gTs_mem (i := 6) (by decide +kernel) rfl
theorem wd_7 : (Jvm.Cond.selects "CutStore" ⟨"CutStore", "roomByRule", "(LCutStore$Rule;I)I"⟩ ⟨"CutStore", "roomByRule", "(LCutStore$Rule;I)I"⟩) ∈ gTs := gTs_mem (i := 7) (by decide +kernel) rfl
theorem wd_8 : (Jvm.Cond.selects "CutStore" ⟨"CutStore", "roomOf", "(III)I"⟩ ⟨"CutStore", "roomOf", "(III)I"⟩) ∈ gTs := gTs_mem (i := 8) (by decide +kernel) rfl
theorem wd_9 : (Jvm.Cond.selects "CutStore$Store" ⟨"CutStore$Store", "share", "(II)I"⟩ ⟨"CutStore$Store", "share", "(II)I"⟩) ∈ gTs := gTs_mem (i := 9) (by decide +kernel) rfl
theorem wd_10 : (Jvm.Cond.selects "CutStore$Store" ⟨"CutStore$Store", "printOf", "(II)I"⟩ ⟨"CutStore$Store", "printOf", "(II)I"⟩) ∈ gTs := gTs_mem (i := 10) (by decide +kernel) rfl
theorem wd_11 : (Jvm.Cond.selects "CutStore$Store" ⟨"CutStore$Store", "findAlike", "(III)I"⟩ ⟨"CutStore$Store", "findAlike", "(III)I"⟩) ∈ gTs := gTs_mem (i := 11) (by decide +kernel) rfl
theorem wd_12 : (Jvm.Cond.selects "CutStore$Store" ⟨"CutStore$Store", "leastFree", "()I"⟩ ⟨"CutStore$Store", "leastFree", "()I"⟩) ∈ gTs := gTs_mem (i := 12) (by decide +kernel) rfl
theorem wd_13 : (Jvm.Cond.selects "CutStore$Store" ⟨"CutStore$Store", "addPiece", "(IIII)V"⟩ ⟨"CutStore$Store", "addPiece", "(IIII)V"⟩) ∈ gTs := gTs_mem (i := 13) (by decide +kernel) rfl
theorem wd_14 : (Jvm.Cond.selects "CutStore$Store" ⟨"CutStore$Store", "release", "([II)V"⟩ ⟨"CutStore$Store", "release", "([II)V"⟩) ∈ gTs := gTs_mem (i := 14) (by decide +kernel) rfl
theorem wd_15 : (Jvm.Cond.selects "CutStore$Store" ⟨"CutStore$Store", "removePiece", "(I)V"⟩ ⟨"CutStore$Store", "removePiece", "(I)V"⟩) ∈ gTs := gTs_mem (i := 15) (by decide +kernel) rfl
theorem wd_16 : (Jvm.Cond.selects "CutStore" ⟨"CutStore", "isKept", "(I)Z"⟩ ⟨"CutStore", "isKept", "(I)Z"⟩) ∈ gTs := gTs_mem (i := 16) (by decide +kernel) rfl
theorem wd_17 : (Jvm.Cond.selects "CutStore$Supers" ⟨"CutStore$Supers", "countPairs", "()V"⟩ ⟨"CutStore$Supers", "countPairs", "()V"⟩) ∈ gTs := gTs_mem (i := 17) (by decide +kernel) rfl
theorem wd_18 : (Jvm.Cond.selects "CutStore$PairTable" ⟨"CutStore$PairTable", "countOnceMore", "(I)I"⟩ ⟨"CutStore$PairTable", "countOnceMore", "(I)I"⟩) ∈ gTs := gTs_mem (i := 18) (by decide +kernel) rfl
theorem wd_19 : (Jvm.Cond.selects "CutStore$Supers" ⟨"CutStore$Supers", "putInPlace", "(III)I"⟩ ⟨"CutStore$Supers", "putInPlace", "(III)I"⟩) ∈ gTs := gTs_mem (i := 19) (by decide +kernel) rfl
theorem wd_20 : (Jvm.Cond.selects "CutStoreModel" ⟨"CutStoreModel", "rules", "(IIIIIII)Z"⟩ ⟨"CutStoreModel", "rules", "(IIIIIII)Z"⟩) ∈ gTs := gTs_mem (i := 20) (by decide +kernel) rfl
theorem wd_21 : (Jvm.Cond.selects "CutStoreModel" ⟨"CutStoreModel", "isRule", "(I)Z"⟩ ⟨"CutStoreModel", "isRule", "(I)Z"⟩) ∈ gTs := gTs_mem (i := 21) (by decide +kernel) rfl
theorem wd_22 : (Jvm.Cond.selects "CutStoreModel" ⟨"CutStoreModel", "isRolling", "(I)Z"⟩ ⟨"CutStoreModel", "isRolling", "(I)Z"⟩) ∈ gTs := gTs_mem (i := 22) (by decide +kernel) rfl
theorem wd_23 : (Jvm.Cond.selects "CutStoreModel" ⟨"CutStoreModel", "sumAt", "(III)I"⟩ ⟨"CutStoreModel", "sumAt", "(III)I"⟩) ∈ gTs := gTs_mem (i := 23) (by decide +kernel) rfl
theorem wd_24 : (Jvm.Cond.selects "CutStoreModel" ⟨"CutStoreModel", "cutsOf", "(II)V"⟩ ⟨"CutStoreModel", "cutsOf", "(II)V"⟩) ∈ gTs := gTs_mem (i := 24) (by decide +kernel) rfl
theorem wd_25 : (Jvm.Cond.selects "CutStoreModel" ⟨"CutStoreModel", "endOf", "(III)I"⟩ ⟨"CutStoreModel", "endOf", "(III)I"⟩) ∈ gTs := gTs_mem (i := 25) (by decide +kernel) rfl
theorem wd_26 : (Jvm.Cond.selects "CutStoreModel" ⟨"CutStoreModel", "isSign", "(III)Z"⟩ ⟨"CutStoreModel", "isSign", "(III)Z"⟩) ∈ gTs := gTs_mem (i := 26) (by decide +kernel) rfl
theorem wd_27 : (Jvm.Cond.selects "CutStoreModel" ⟨"CutStoreModel", "othersOf", "(II)V"⟩ ⟨"CutStoreModel", "othersOf", "(II)V"⟩) ∈ gTs := gTs_mem (i := 27) (by decide +kernel) rfl
theorem wd_28 : (Jvm.Cond.selects "CutStoreModel" ⟨"CutStoreModel", "isAlike", "(IIIIII)Z"⟩ ⟨"CutStoreModel", "isAlike", "(IIIIII)Z"⟩) ∈ gTs := gTs_mem (i := 28) (by decide +kernel) rfl
theorem wd_29 : (Jvm.Cond.selects "CutStoreModel" ⟨"CutStoreModel", "printOf", "(III)I"⟩ ⟨"CutStoreModel", "printOf", "(III)I"⟩) ∈ gTs := gTs_mem (i := 29) (by decide +kernel) rfl
theorem wd_30 : (Jvm.Cond.selects "CutStoreModel" ⟨"CutStoreModel", "lacks", "(I)I"⟩ ⟨"CutStoreModel", "lacks", "(I)I"⟩) ∈ gTs := gTs_mem (i := 30) (by decide +kernel) rfl
theorem wd_31 : (Jvm.Cond.selects "CutStoreModel" ⟨"CutStoreModel", "isPiece", "(I)Z"⟩ ⟨"CutStoreModel", "isPiece", "(I)Z"⟩) ∈ gTs := gTs_mem (i := 31) (by decide +kernel) rfl
theorem wd_32 : (Jvm.Cond.selects "CutStoreModel" ⟨"CutStoreModel", "isThat", "(IIII)Z"⟩ ⟨"CutStoreModel", "isThat", "(IIII)Z"⟩) ∈ gTs := gTs_mem (i := 32) (by decide +kernel) rfl
theorem wd_33 : (Jvm.Cond.selects "CutStoreModel" ⟨"CutStoreModel", "there", "()I"⟩ ⟨"CutStoreModel", "there", "()I"⟩) ∈ gTs := gTs_mem (i := 33) (by decide +kernel) rfl
theorem wd_34 : (Jvm.Cond.selects "CutStoreModel" ⟨"CutStoreModel", "comes", "(III)I"⟩ ⟨"CutStoreModel", "comes", "(III)I"⟩) ∈ gTs := gTs_mem (i := 34) (by decide +kernel) rfl
theorem wd_35 : (Jvm.Cond.selects "CutStoreModel" ⟨"CutStoreModel", "goes", "([III)I"⟩ ⟨"CutStoreModel", "goes", "([III)I"⟩) ∈ gTs := gTs_mem (i := 35) (by decide +kernel) rfl
theorem wd_36 : (Jvm.Cond.selects "CutStoreModel" ⟨"CutStoreModel", "mostOften", "()I"⟩ ⟨"CutStoreModel", "mostOften", "()I"⟩) ∈ gTs := gTs_mem (i := 36) (by decide +kernel) rfl
theorem wd_37 : (Jvm.Cond.selects "CutStoreModel" ⟨"CutStoreModel", "gives", "(II)I"⟩ ⟨"CutStoreModel", "gives", "(II)I"⟩) ∈ gTs := gTs_mem (i := 37) (by decide +kernel) rfl
theorem wd_38 : (Jvm.Cond.initialized "CutStoreLaw") ∈ gTs := gTs_mem (i := 38) (by decide +kernel) rfl
theorem wd_39 : (Jvm.Cond.initialized "CutStore") ∈ gTs := gTs_mem (i := 39) (by decide +kernel) rfl
theorem wd_40 : (Jvm.Cond.initialized "CutStore$Files") ∈ gTs := gTs_mem (i := 40) (by decide +kernel) rfl
theorem wd_41 : (Jvm.Cond.initialized "CutStore$Tape") ∈ gTs := gTs_mem (i := 41) (by decide +kernel) rfl
theorem wd_42 : (Jvm.Cond.initialized "CutStore$Rule") ∈ gTs := gTs_mem (i := 42) (by decide +kernel) rfl
theorem wd_43 : (Jvm.Cond.initialized "CutStore$Cutter") ∈ gTs := gTs_mem (i := 43) (by decide +kernel) rfl
theorem wd_44 : (Jvm.Cond.initialized "CutStore$Distinct") ∈ gTs := gTs_mem (i := 44) (by decide +kernel) rfl
theorem wd_45 : (Jvm.Cond.initialized "CutStore$Store") ∈ gTs := gTs_mem (i := 45) (by decide +kernel) rfl
theorem wd_46 : (Jvm.Cond.initialized "java/util/Arrays") ∈ gTs := gTs_mem (i := 46) (by decide +kernel) rfl
theorem wd_47 : (Jvm.Cond.initialized "CutStore$Supers") ∈ gTs := gTs_mem (i := 47) (by decide +kernel) rfl
theorem wd_48 : (Jvm.Cond.initialized "CutStore$PairTable") ∈ gTs := gTs_mem (i := 48) (by decide +kernel) rfl
theorem wd_49 : (Jvm.Cond.initialized "CutStoreModel") ∈ gTs := gTs_mem (i := 49) (by decide +kernel) rfl
theorem wd_50 : (Jvm.Cond.initialized "java/lang/System") ∈ gTs := gTs_mem (i := 50) (by decide +kernel) rfl
theorem wd_51 : (Jvm.Cond.initialized "java/lang/Math") ∈ gTs := gTs_mem (i := 51) (by decide +kernel) rfl
theorem wd_52 : (Jvm.Cond.classLink "CutStoreLaw" (7 : Nat) "CutStore") ∈ gTs := gTs_mem (i := 52) (by decide +kernel) rfl
theorem wd_53 : (Jvm.Cond.instantiable "CutStore" (10 : Nat)) ∈ gTs := gTs_mem (i := 53) (by decide +kernel) rfl
theorem wd_54 : (Jvm.Cond.methodLink "CutStoreLaw" (9 : Nat) ({ cls := "CutStore", name := "<init>", desc := "()V" } : Jvm.MethodName)) ∈ gTs := gTs_mem (i := 54) (by decide +kernel) rfl
theorem wd_55 : (Jvm.Cond.instanceMethod ({ cls := "CutStore", name := "<init>", desc := "()V" } : Jvm.MethodName)) ∈ gTs := gTs_mem (i := 55) (by decide +kernel) rfl
theorem wd_56 : (Jvm.Cond.code ({ cls := "CutStore", name := "<init>", desc := "()V" } : Jvm.MethodName) prog_1_method_1_code (2 : Nat) (Option.none : Option Jvm.ClassFile.FieldType)) ∈ gTs := gTs_mem (i := 56) (by decide +kernel) rfl
theorem wd_57 : (Jvm.Cond.methodLink "CutStore" (3 : Nat) ({ cls := "java/lang/Object", name := "<init>", desc := "()V" } : Jvm.MethodName)) ∈ gTs := gTs_mem (i := 57) (by decide +kernel) rfl
theorem wd_58 : (Jvm.Cond.instanceMethod ({ cls := "java/lang/Object", name := "<init>", desc := "()V" } : Jvm.MethodName)) ∈ gTs := gTs_mem (i := 58) (by decide +kernel) rfl
theorem wd_59 : (Jvm.Cond.code ({ cls := "java/lang/Object", name := "<init>", desc := "()V" } : Jvm.MethodName) object_method_1_code (1 : Nat) (Option.none : Option Jvm.ClassFile.FieldType)) ∈ gTs := gTs_mem (i := 59) (by decide +kernel) rfl
theorem wd_60 : (Jvm.Cond.classLink "CutStore" (9 : Nat) "CutStore$Files") ∈ gTs := gTs_mem (i := 60) (by decide +kernel) rfl
theorem wd_61 : (Jvm.Cond.instantiable "CutStore$Files" (2 : Nat)) ∈ gTs := gTs_mem (i := 61) (by decide +kernel) rfl
theorem wn_62 : (Jvm.Cond.methodLinkNest "CutStore" (11 : Nat) ({ cls := "CutStore$Files", name := "<init>", desc := "()V" } : Jvm.MethodName) "CutStore") ∈ lw_tbl := List.mem_of_getElem? (i := 62) (by decide +kernel)
theorem wd_63 : (Jvm.Cond.instanceMethod ({ cls := "CutStore$Files", name := "<init>", desc := "()V" } : Jvm.MethodName)) ∈ gTs := gTs_mem (i := 63) (by decide +kernel) rfl
theorem wd_64 : (Jvm.Cond.code ({ cls := "CutStore$Files", name := "<init>", desc := "()V" } : Jvm.MethodName) prog_4_method_1_code (1 : Nat) (Option.none : Option Jvm.ClassFile.FieldType)) ∈ gTs := gTs_mem (i := 64) (by decide +kernel) rfl
theorem wd_65 : (Jvm.Cond.methodLink "CutStore$Files" (3 : Nat) ({ cls := "java/lang/Object", name := "<init>", desc := "()V" } : Jvm.MethodName)) ∈ gTs := gTs_mem (i := 65) (by decide +kernel) rfl
theorem wd_66 : (Jvm.Cond.fieldLink "CutStore$Files" (9 : Nat) "CutStore$Files" "bytes" "[B") ∈ gTs := gTs_mem (i := 66) (by decide +kernel) rfl
theorem wd_67 : (Jvm.Cond.fieldLink "CutStore$Distinct" (52 : Nat) "CutStore$Files" "bytes" "[B") ∈ gTs := gTs_mem (i := 67) (by decide +kernel) rfl
theorem wd_68 : (Jvm.Cond.fieldLink "CutStore$Store" (106 : Nat) "CutStore$Files" "bytes" "[B") ∈ gTs := gTs_mem (i := 68) (by decide +kernel) rfl
theorem wd_69 : (Jvm.Cond.fieldLink "CutStore" (242 : Nat) "CutStore$Files" "bytes" "[B") ∈ gTs := gTs_mem (i := 69) (by decide +kernel) rfl
theorem wd_70 : (Jvm.Cond.fieldLink "CutStore$Files" (15 : Nat) "CutStore$Files" "lengths" "[I") ∈ gTs := gTs_mem (i := 70) (by decide +kernel) rfl
theorem wd_71 : (Jvm.Cond.fieldLink "CutStore$Store" (79 : Nat) "CutStore$Files" "lengths" "[I") ∈ gTs := gTs_mem (i := 71) (by decide +kernel) rfl
theorem wd_72 : (Jvm.Cond.fieldLink "CutStore" (81 : Nat) "CutStore$Files" "lengths" "[I") ∈ gTs := gTs_mem (i := 72) (by decide +kernel) rfl
theorem wd_73 : (Jvm.Cond.fieldLink "CutStore$Cutter" (37 : Nat) "CutStore$Files" "lengths" "[I") ∈ gTs := gTs_mem (i := 73) (by decide +kernel) rfl
theorem wd_74 : (Jvm.Cond.laysFinal "CutStore$Files" "CutStore$Files" "bytes" "[B") ∈ gTs := gTs_mem (i := 74) (by decide +kernel) rfl
theorem wd_76 : (Jvm.Cond.laysFinal "CutStore$Files" "CutStore$Files" "lengths" "[I") ∈ gTs := gTs_mem (i := 76) (by decide +kernel) rfl
theorem wd_79 : (Jvm.Cond.arrayClass Jvm.ClassFile.FieldType.byte) ∈ gTs := gTs_mem (i := 79) (by decide +kernel) rfl
theorem wd_80 : (Jvm.Cond.arrayClass Jvm.ClassFile.FieldType.int) ∈ gTs := gTs_mem (i := 80) (by decide +kernel) rfl
theorem wd_81 : (Jvm.Cond.classLink "CutStore" (16 : Nat) "CutStore$Tape") ∈ gTs := gTs_mem (i := 81) (by decide +kernel) rfl
theorem wd_82 : (Jvm.Cond.instantiable "CutStore$Tape" (2 : Nat)) ∈ gTs := gTs_mem (i := 82) (by decide +kernel) rfl
theorem wn_83 : (Jvm.Cond.methodLinkNest "CutStore" (18 : Nat) ({ cls := "CutStore$Tape", name := "<init>", desc := "()V" } : Jvm.MethodName) "CutStore") ∈ lw_tbl := List.mem_of_getElem? (i := 83) (by decide +kernel)
theorem wd_84 : (Jvm.Cond.instanceMethod ({ cls := "CutStore$Tape", name := "<init>", desc := "()V" } : Jvm.MethodName)) ∈ gTs := gTs_mem (i := 84) (by decide +kernel) rfl
theorem wd_85 : (Jvm.Cond.code ({ cls := "CutStore$Tape", name := "<init>", desc := "()V" } : Jvm.MethodName) prog_9_method_1_code (1 : Nat) (Option.none : Option Jvm.ClassFile.FieldType)) ∈ gTs := gTs_mem (i := 85) (by decide +kernel) rfl
theorem wd_86 : (Jvm.Cond.methodLink "CutStore$Tape" (3 : Nat) ({ cls := "java/lang/Object", name := "<init>", desc := "()V" } : Jvm.MethodName)) ∈ gTs := gTs_mem (i := 86) (by decide +kernel) rfl
theorem wd_87 : (Jvm.Cond.fieldLink "CutStore$Tape" (9 : Nat) "CutStore$Tape" "bytes" "[B") ∈ gTs := gTs_mem (i := 87) (by decide +kernel) rfl
theorem wd_88 : (Jvm.Cond.fieldLink "CutStore$Files" (35 : Nat) "CutStore$Tape" "bytes" "[B") ∈ gTs := gTs_mem (i := 88) (by decide +kernel) rfl
theorem wd_89 : (Jvm.Cond.fieldLink "CutStore" (70 : Nat) "CutStore$Tape" "length" "I") ∈ gTs := gTs_mem (i := 89) (by decide +kernel) rfl
theorem wd_90 : (Jvm.Cond.fieldLink "CutStore$Tape" (15 : Nat) "CutStore$Tape" "length" "I") ∈ gTs := gTs_mem (i := 90) (by decide +kernel) rfl
theorem wd_91 : (Jvm.Cond.fieldLink "CutStore$Files" (29 : Nat) "CutStore$Tape" "length" "I") ∈ gTs := gTs_mem (i := 91) (by decide +kernel) rfl
theorem wd_92 : (Jvm.Cond.laysFinal "CutStore$Tape" "CutStore$Tape" "bytes" "[B") ∈ gTs := gTs_mem (i := 92) (by decide +kernel) rfl
theorem wd_94 : (Jvm.Cond.lays "CutStore$Tape" "CutStore$Tape" "length" "I") ∈ gTs := gTs_mem (i := 94) (by decide +kernel) rfl
theorem wd_97 : (Jvm.Cond.classLink "CutStore" (23 : Nat) "CutStore$Rule") ∈ gTs := gTs_mem (i := 97) (by decide +kernel) rfl
theorem wn_98 : (Jvm.Cond.arrayOver (Jvm.ClassFile.FieldType.object "CutStore$Rule")) ∈ lw_tbl := List.mem_of_getElem? (i := 98) (by decide +kernel)
theorem wd_99 : (Jvm.Cond.instantiable "CutStore$Rule" (6 : Nat)) ∈ gTs := gTs_mem (i := 99) (by decide +kernel) rfl
theorem wn_100 : (Jvm.Cond.methodLinkNest "CutStore" (29 : Nat) ({ cls := "CutStore$Rule", name := "<init>", desc := "()V" } : Jvm.MethodName) "CutStore") ∈ lw_tbl := List.mem_of_getElem? (i := 100) (by decide +kernel)
theorem wd_101 : (Jvm.Cond.instanceMethod ({ cls := "CutStore$Rule", name := "<init>", desc := "()V" } : Jvm.MethodName)) ∈ gTs := gTs_mem (i := 101) (by decide +kernel) rfl
theorem wd_102 : (Jvm.Cond.code ({ cls := "CutStore$Rule", name := "<init>", desc := "()V" } : Jvm.MethodName) prog_6_method_1_code (1 : Nat) (Option.none : Option Jvm.ClassFile.FieldType)) ∈ gTs := gTs_mem (i := 102) (by decide +kernel) rfl
theorem wd_103 : (Jvm.Cond.methodLink "CutStore$Rule" (1 : Nat) ({ cls := "java/lang/Object", name := "<init>", desc := "()V" } : Jvm.MethodName)) ∈ gTs := gTs_mem (i := 103) (by decide +kernel) rfl
theorem wd_104 : (Jvm.Cond.fieldLink "CutStore$Rule" (9 : Nat) "CutStore$Rule" "kind" "I") ∈ gTs := gTs_mem (i := 104) (by decide +kernel) rfl
theorem wd_105 : (Jvm.Cond.fieldLink "CutStore" (236 : Nat) "CutStore$Rule" "kind" "I") ∈ gTs := gTs_mem (i := 105) (by decide +kernel) rfl
theorem wd_106 : (Jvm.Cond.fieldLink "CutStore$Rule" (13 : Nat) "CutStore$Rule" "least" "I") ∈ gTs := gTs_mem (i := 106) (by decide +kernel) rfl
theorem wd_107 : (Jvm.Cond.fieldLink "CutStore$Cutter" (68 : Nat) "CutStore$Rule" "least" "I") ∈ gTs := gTs_mem (i := 107) (by decide +kernel) rfl
theorem wd_108 : (Jvm.Cond.fieldLink "CutStore$Rule" (16 : Nat) "CutStore$Rule" "most" "I") ∈ gTs := gTs_mem (i := 108) (by decide +kernel) rfl
theorem wd_109 : (Jvm.Cond.fieldLink "CutStore$Cutter" (60 : Nat) "CutStore$Rule" "most" "I") ∈ gTs := gTs_mem (i := 109) (by decide +kernel) rfl
theorem wd_110 : (Jvm.Cond.fieldLink "CutStore$Rule" (22 : Nat) "CutStore$Rule" "window" "I") ∈ gTs := gTs_mem (i := 110) (by decide +kernel) rfl
theorem wd_111 : (Jvm.Cond.fieldLink "CutStore$Cutter" (32 : Nat) "CutStore$Rule" "window" "I") ∈ gTs := gTs_mem (i := 111) (by decide +kernel) rfl
theorem wd_112 : (Jvm.Cond.fieldLink "CutStore$Rule" (25 : Nat) "CutStore$Rule" "bits" "I") ∈ gTs := gTs_mem (i := 112) (by decide +kernel) rfl
theorem wd_113 : (Jvm.Cond.fieldLink "CutStore$Rule" (19 : Nat) "CutStore$Rule" "mark" "I") ∈ gTs := gTs_mem (i := 113) (by decide +kernel) rfl
theorem wd_114 : (Jvm.Cond.lays "CutStore$Rule" "CutStore$Rule" "kind" "I") ∈ gTs := gTs_mem (i := 114) (by decide +kernel) rfl
theorem wd_116 : (Jvm.Cond.lays "CutStore$Rule" "CutStore$Rule" "least" "I") ∈ gTs := gTs_mem (i := 116) (by decide +kernel) rfl
theorem wd_118 : (Jvm.Cond.lays "CutStore$Rule" "CutStore$Rule" "most" "I") ∈ gTs := gTs_mem (i := 118) (by decide +kernel) rfl
theorem wd_120 : (Jvm.Cond.lays "CutStore$Rule" "CutStore$Rule" "window" "I") ∈ gTs := gTs_mem (i := 120) (by decide +kernel) rfl
theorem wd_122 : (Jvm.Cond.lays "CutStore$Rule" "CutStore$Rule" "bits" "I") ∈ gTs := gTs_mem (i := 122) (by decide +kernel) rfl
theorem wd_124 : (Jvm.Cond.lays "CutStore$Rule" "CutStore$Rule" "mark" "I") ∈ gTs := gTs_mem (i := 124) (by decide +kernel) rfl
theorem wd_127 : (Jvm.Cond.classLink "CutStore" (30 : Nat) "CutStore$Cutter") ∈ gTs := gTs_mem (i := 127) (by decide +kernel) rfl
theorem wd_128 : (Jvm.Cond.instantiable "CutStore$Cutter" (5 : Nat)) ∈ gTs := gTs_mem (i := 128) (by decide +kernel) rfl
theorem wd_129 : (Jvm.Cond.methodLink "CutStore" (32 : Nat) ({ cls := "CutStore$Cutter", name := "<init>", desc := "(LCutStore$Files;)V" } : Jvm.MethodName)) ∈ gTs := gTs_mem (i := 129) (by decide +kernel) rfl
theorem wd_130 : (Jvm.Cond.instanceMethod ({ cls := "CutStore$Cutter", name := "<init>", desc := "(LCutStore$Files;)V" } : Jvm.MethodName)) ∈ gTs := gTs_mem (i := 130) (by decide +kernel) rfl
theorem wd_131 : (Jvm.Cond.code ({ cls := "CutStore$Cutter", name := "<init>", desc := "(LCutStore$Files;)V" } : Jvm.MethodName) prog_2_method_1_code (2 : Nat) (Option.none : Option Jvm.ClassFile.FieldType)) ∈ gTs := gTs_mem (i := 131) (by decide +kernel) rfl
theorem wd_132 : (Jvm.Cond.methodLink "CutStore$Cutter" (3 : Nat) ({ cls := "java/lang/Object", name := "<init>", desc := "()V" } : Jvm.MethodName)) ∈ gTs := gTs_mem (i := 132) (by decide +kernel) rfl
theorem wd_133 : (Jvm.Cond.fieldLink "CutStore$Cutter" (18 : Nat) "CutStore$Cutter" "files" "LCutStore$Files;") ∈ gTs := gTs_mem (i := 133) (by decide +kernel) rfl
theorem wd_134 : (Jvm.Cond.fieldLink "CutStore$Cutter" (9 : Nat) "CutStore$Cutter" "sums" "[I") ∈ gTs := gTs_mem (i := 134) (by decide +kernel) rfl
theorem wd_135 : (Jvm.Cond.fieldLink "CutStore" (133 : Nat) "CutStore$Cutter" "sums" "[I") ∈ gTs := gTs_mem (i := 135) (by decide +kernel) rfl
theorem wd_136 : (Jvm.Cond.fieldLink "CutStore$Cutter" (15 : Nat) "CutStore$Cutter" "begins" "[I") ∈ gTs := gTs_mem (i := 136) (by decide +kernel) rfl
theorem wd_137 : (Jvm.Cond.fieldLink "CutStore" (142 : Nat) "CutStore$Cutter" "begins" "[I") ∈ gTs := gTs_mem (i := 137) (by decide +kernel) rfl
theorem wd_138 : (Jvm.Cond.fieldLink "CutStore$Store" (56 : Nat) "CutStore$Cutter" "pieces" "I") ∈ gTs := gTs_mem (i := 138) (by decide +kernel) rfl
theorem wd_139 : (Jvm.Cond.fieldLink "CutStore$Distinct" (32 : Nat) "CutStore$Cutter" "pieces" "I") ∈ gTs := gTs_mem (i := 139) (by decide +kernel) rfl
theorem wd_140 : (Jvm.Cond.fieldLink "CutStore$Cutter" (53 : Nat) "CutStore$Cutter" "pieces" "I") ∈ gTs := gTs_mem (i := 140) (by decide +kernel) rfl
theorem wd_141 : (Jvm.Cond.fieldLink "CutStore" (139 : Nat) "CutStore$Cutter" "pieces" "I") ∈ gTs := gTs_mem (i := 141) (by decide +kernel) rfl
theorem wd_142 : (Jvm.Cond.fieldLink "CutStore$Cutter" (22 : Nat) "CutStore$Cutter" "file" "I") ∈ gTs := gTs_mem (i := 142) (by decide +kernel) rfl
theorem wd_143 : (Jvm.Cond.laysFinal "CutStore$Cutter" "CutStore$Cutter" "files" "LCutStore$Files;") ∈ gTs := gTs_mem (i := 143) (by decide +kernel) rfl
theorem wd_145 : (Jvm.Cond.laysFinal "CutStore$Cutter" "CutStore$Cutter" "sums" "[I") ∈ gTs := gTs_mem (i := 145) (by decide +kernel) rfl
theorem wd_147 : (Jvm.Cond.laysFinal "CutStore$Cutter" "CutStore$Cutter" "begins" "[I") ∈ gTs := gTs_mem (i := 147) (by decide +kernel) rfl
theorem wd_149 : (Jvm.Cond.lays "CutStore$Cutter" "CutStore$Cutter" "pieces" "I") ∈ gTs := gTs_mem (i := 149) (by decide +kernel) rfl
theorem wd_151 : (Jvm.Cond.lays "CutStore$Cutter" "CutStore$Cutter" "file" "I") ∈ gTs := gTs_mem (i := 151) (by decide +kernel) rfl
theorem wd_154 : (Jvm.Cond.classLink "CutStore" (42 : Nat) "CutStore$Distinct") ∈ gTs := gTs_mem (i := 154) (by decide +kernel) rfl
theorem wd_155 : (Jvm.Cond.instantiable "CutStore$Distinct" (4 : Nat)) ∈ gTs := gTs_mem (i := 155) (by decide +kernel) rfl
theorem wd_156 : (Jvm.Cond.methodLink "CutStore" (44 : Nat) ({ cls := "CutStore$Distinct", name := "<init>", desc := "(LCutStore$Files;)V" } : Jvm.MethodName)) ∈ gTs := gTs_mem (i := 156) (by decide +kernel) rfl
theorem wd_157 : (Jvm.Cond.instanceMethod ({ cls := "CutStore$Distinct", name := "<init>", desc := "(LCutStore$Files;)V" } : Jvm.MethodName)) ∈ gTs := gTs_mem (i := 157) (by decide +kernel) rfl
theorem wd_158 : (Jvm.Cond.code ({ cls := "CutStore$Distinct", name := "<init>", desc := "(LCutStore$Files;)V" } : Jvm.MethodName) prog_3_method_1_code (2 : Nat) (Option.none : Option Jvm.ClassFile.FieldType)) ∈ gTs := gTs_mem (i := 158) (by decide +kernel) rfl
theorem wd_159 : (Jvm.Cond.methodLink "CutStore$Distinct" (3 : Nat) ({ cls := "java/lang/Object", name := "<init>", desc := "()V" } : Jvm.MethodName)) ∈ gTs := gTs_mem (i := 159) (by decide +kernel) rfl
theorem wd_160 : (Jvm.Cond.fieldLink "CutStore$Distinct" (18 : Nat) "CutStore$Distinct" "files" "LCutStore$Files;") ∈ gTs := gTs_mem (i := 160) (by decide +kernel) rfl
theorem wd_161 : (Jvm.Cond.fieldLink "CutStore$Distinct" (9 : Nat) "CutStore$Distinct" "starts" "[I") ∈ gTs := gTs_mem (i := 161) (by decide +kernel) rfl
theorem wd_162 : (Jvm.Cond.fieldLink "CutStore$Distinct" (15 : Nat) "CutStore$Distinct" "lengths" "[I") ∈ gTs := gTs_mem (i := 162) (by decide +kernel) rfl
theorem wd_163 : (Jvm.Cond.fieldLink "CutStore$Distinct" (28 : Nat) "CutStore$Distinct" "size" "I") ∈ gTs := gTs_mem (i := 163) (by decide +kernel) rfl
theorem wd_164 : (Jvm.Cond.fieldLink "CutStore" (253 : Nat) "CutStore$Distinct" "size" "I") ∈ gTs := gTs_mem (i := 164) (by decide +kernel) rfl
theorem wd_165 : (Jvm.Cond.laysFinal "CutStore$Distinct" "CutStore$Distinct" "files" "LCutStore$Files;") ∈ gTs := gTs_mem (i := 165) (by decide +kernel) rfl
theorem wd_167 : (Jvm.Cond.laysFinal "CutStore$Distinct" "CutStore$Distinct" "starts" "[I") ∈ gTs := gTs_mem (i := 167) (by decide +kernel) rfl
theorem wd_169 : (Jvm.Cond.laysFinal "CutStore$Distinct" "CutStore$Distinct" "lengths" "[I") ∈ gTs := gTs_mem (i := 169) (by decide +kernel) rfl
theorem wd_171 : (Jvm.Cond.lays "CutStore$Distinct" "CutStore$Distinct" "size" "I") ∈ gTs := gTs_mem (i := 171) (by decide +kernel) rfl
theorem wd_174 : (Jvm.Cond.classLink "CutStore" (49 : Nat) "CutStore$Store") ∈ gTs := gTs_mem (i := 174) (by decide +kernel) rfl
theorem wd_175 : (Jvm.Cond.instantiable "CutStore$Store" (12 : Nat)) ∈ gTs := gTs_mem (i := 175) (by decide +kernel) rfl
theorem wd_176 : (Jvm.Cond.methodLink "CutStore" (51 : Nat) ({ cls := "CutStore$Store", name := "<init>", desc := "(LCutStore$Files;)V" } : Jvm.MethodName)) ∈ gTs := gTs_mem (i := 176) (by decide +kernel) rfl
theorem wd_177 : (Jvm.Cond.instanceMethod ({ cls := "CutStore$Store", name := "<init>", desc := "(LCutStore$Files;)V" } : Jvm.MethodName)) ∈ gTs := gTs_mem (i := 177) (by decide +kernel) rfl
theorem wd_178 : (Jvm.Cond.code ({ cls := "CutStore$Store", name := "<init>", desc := "(LCutStore$Files;)V" } : Jvm.MethodName) prog_7_method_1_code (2 : Nat) (Option.none : Option Jvm.ClassFile.FieldType)) ∈ gTs := gTs_mem (i := 178) (by decide +kernel) rfl
theorem wd_179 : (Jvm.Cond.methodLink "CutStore$Store" (3 : Nat) ({ cls := "java/lang/Object", name := "<init>", desc := "()V" } : Jvm.MethodName)) ∈ gTs := gTs_mem (i := 179) (by decide +kernel) rfl
theorem wd_180 : (Jvm.Cond.classLink "CutStore$Store" (28 : Nat) "[[I") ∈ gTs := gTs_mem (i := 180) (by decide +kernel) rfl
theorem wn_181 : (Jvm.Cond.arrayOver (Jvm.ClassFile.FieldType.array Jvm.ClassFile.FieldType.int)) ∈ lw_tbl := List.mem_of_getElem? (i := 181) (by decide +kernel)
theorem wd_182 : (Jvm.Cond.methodLink "CutStore$Store" (43 : Nat) ({ cls := "java/util/Arrays", name := "fill", desc := "([II)V" } : Jvm.MethodName)) ∈ gTs := gTs_mem (i := 182) (by decide +kernel) rfl
theorem wd_183 : (Jvm.Cond.static ({ cls := "java/util/Arrays", name := "fill", desc := "([II)V" } : Jvm.MethodName)) ∈ gTs := gTs_mem (i := 183) (by decide +kernel) rfl
theorem wd_184 : (Jvm.Cond.code ({ cls := "java/util/Arrays", name := "fill", desc := "([II)V" } : Jvm.MethodName) prog_14_method_103_code (4 : Nat) (Option.none : Option Jvm.ClassFile.FieldType)) ∈ gTs := gTs_mem (i := 184) (by decide +kernel) rfl
theorem wd_185 : (Jvm.Cond.fieldLink "CutStore$Store" (39 : Nat) "CutStore$Store" "files" "LCutStore$Files;") ∈ gTs := gTs_mem (i := 185) (by decide +kernel) rfl
theorem wd_186 : (Jvm.Cond.fieldLink "CutStore$Store" (9 : Nat) "CutStore$Store" "bytes" "[B") ∈ gTs := gTs_mem (i := 186) (by decide +kernel) rfl
theorem wd_187 : (Jvm.Cond.fieldLink "CutStore$Store" (15 : Nat) "CutStore$Store" "starts" "[I") ∈ gTs := gTs_mem (i := 187) (by decide +kernel) rfl
theorem wd_188 : (Jvm.Cond.fieldLink "CutStore$Store" (19 : Nat) "CutStore$Store" "lengths" "[I") ∈ gTs := gTs_mem (i := 188) (by decide +kernel) rfl
theorem wd_189 : (Jvm.Cond.fieldLink "CutStore" (191 : Nat) "CutStore$Store" "lengths" "[I") ∈ gTs := gTs_mem (i := 189) (by decide +kernel) rfl
theorem wd_190 : (Jvm.Cond.fieldLink "CutStore$Store" (22 : Nat) "CutStore$Store" "prints" "[I") ∈ gTs := gTs_mem (i := 190) (by decide +kernel) rfl
theorem wd_191 : (Jvm.Cond.fieldLink "CutStore" (192 : Nat) "CutStore$Store" "prints" "[I") ∈ gTs := gTs_mem (i := 191) (by decide +kernel) rfl
theorem wd_192 : (Jvm.Cond.fieldLink "CutStore$Store" (25 : Nat) "CutStore$Store" "holds" "[I") ∈ gTs := gTs_mem (i := 192) (by decide +kernel) rfl
theorem wd_193 : (Jvm.Cond.fieldLink "CutStore" (188 : Nat) "CutStore$Store" "holds" "[I") ∈ gTs := gTs_mem (i := 193) (by decide +kernel) rfl
theorem wd_194 : (Jvm.Cond.fieldLink "CutStore$Store" (30 : Nat) "CutStore$Store" "kept" "[[I") ∈ gTs := gTs_mem (i := 194) (by decide +kernel) rfl
theorem wd_195 : (Jvm.Cond.fieldLink "CutStore" (184 : Nat) "CutStore$Store" "kept" "[[I") ∈ gTs := gTs_mem (i := 195) (by decide +kernel) rfl
theorem wd_196 : (Jvm.Cond.fieldLink "CutStore$Store" (33 : Nat) "CutStore$Store" "keptLengths" "[I") ∈ gTs := gTs_mem (i := 196) (by decide +kernel) rfl
theorem wd_197 : (Jvm.Cond.fieldLink "CutStore" (181 : Nat) "CutStore$Store" "keptLengths" "[I") ∈ gTs := gTs_mem (i := 197) (by decide +kernel) rfl
theorem wd_198 : (Jvm.Cond.fieldLink "CutStore$Store" (36 : Nat) "CutStore$Store" "coming" "[I") ∈ gTs := gTs_mem (i := 198) (by decide +kernel) rfl
theorem wd_199 : (Jvm.Cond.fieldLink "CutStore$Store" (49 : Nat) "CutStore$Store" "pieces" "I") ∈ gTs := gTs_mem (i := 199) (by decide +kernel) rfl
theorem wd_200 : (Jvm.Cond.fieldLink "CutStore" (195 : Nat) "CutStore$Store" "pieces" "I") ∈ gTs := gTs_mem (i := 200) (by decide +kernel) rfl
theorem wd_201 : (Jvm.Cond.fieldLink "CutStore$Store" (111 : Nat) "CutStore$Store" "used" "I") ∈ gTs := gTs_mem (i := 201) (by decide +kernel) rfl
theorem wd_202 : (Jvm.Cond.fieldLink "CutStore" (196 : Nat) "CutStore$Store" "used" "I") ∈ gTs := gTs_mem (i := 202) (by decide +kernel) rfl
theorem wd_203 : (Jvm.Cond.fieldLink "CutStore$Store" (53 : Nat) "CutStore$Store" "meetings" "I") ∈ gTs := gTs_mem (i := 203) (by decide +kernel) rfl
theorem wd_204 : (Jvm.Cond.fieldLink "CutStore" (207 : Nat) "CutStore$Store" "meetings" "I") ∈ gTs := gTs_mem (i := 204) (by decide +kernel) rfl
theorem wd_205 : (Jvm.Cond.laysFinal "CutStore$Store" "CutStore$Store" "files" "LCutStore$Files;") ∈ gTs := gTs_mem (i := 205) (by decide +kernel) rfl
theorem wd_207 : (Jvm.Cond.laysFinal "CutStore$Store" "CutStore$Store" "bytes" "[B") ∈ gTs := gTs_mem (i := 207) (by decide +kernel) rfl
theorem wd_209 : (Jvm.Cond.laysFinal "CutStore$Store" "CutStore$Store" "starts" "[I") ∈ gTs := gTs_mem (i := 209) (by decide +kernel) rfl
theorem wd_211 : (Jvm.Cond.laysFinal "CutStore$Store" "CutStore$Store" "lengths" "[I") ∈ gTs := gTs_mem (i := 211) (by decide +kernel) rfl
theorem wd_213 : (Jvm.Cond.laysFinal "CutStore$Store" "CutStore$Store" "prints" "[I") ∈ gTs := gTs_mem (i := 213) (by decide +kernel) rfl
theorem wd_215 : (Jvm.Cond.laysFinal "CutStore$Store" "CutStore$Store" "holds" "[I") ∈ gTs := gTs_mem (i := 215) (by decide +kernel) rfl
theorem wd_217 : (Jvm.Cond.laysFinal "CutStore$Store" "CutStore$Store" "kept" "[[I") ∈ gTs := gTs_mem (i := 217) (by decide +kernel) rfl
theorem wd_219 : (Jvm.Cond.laysFinal "CutStore$Store" "CutStore$Store" "keptLengths" "[I") ∈ gTs := gTs_mem (i := 219) (by decide +kernel) rfl
theorem wd_221 : (Jvm.Cond.laysFinal "CutStore$Store" "CutStore$Store" "coming" "[I") ∈ gTs := gTs_mem (i := 221) (by decide +kernel) rfl
theorem wd_223 : (Jvm.Cond.lays "CutStore$Store" "CutStore$Store" "pieces" "I") ∈ gTs := gTs_mem (i := 223) (by decide +kernel) rfl
theorem wd_225 : (Jvm.Cond.lays "CutStore$Store" "CutStore$Store" "used" "I") ∈ gTs := gTs_mem (i := 225) (by decide +kernel) rfl
theorem wd_227 : (Jvm.Cond.lays "CutStore$Store" "CutStore$Store" "meetings" "I") ∈ gTs := gTs_mem (i := 227) (by decide +kernel) rfl
theorem wd_230 : (Jvm.Cond.classLink "CutStore" (56 : Nat) "CutStore$Supers") ∈ gTs := gTs_mem (i := 230) (by decide +kernel) rfl
theorem wd_231 : (Jvm.Cond.instantiable "CutStore$Supers" (8 : Nat)) ∈ gTs := gTs_mem (i := 231) (by decide +kernel) rfl
theorem wn_232 : (Jvm.Cond.methodLinkNest "CutStore" (58 : Nat) ({ cls := "CutStore$Supers", name := "<init>", desc := "()V" } : Jvm.MethodName) "CutStore") ∈ lw_tbl := List.mem_of_getElem? (i := 232) (by decide +kernel)
theorem wd_233 : (Jvm.Cond.instanceMethod ({ cls := "CutStore$Supers", name := "<init>", desc := "()V" } : Jvm.MethodName)) ∈ gTs := gTs_mem (i := 233) (by decide +kernel) rfl
theorem wd_234 : (Jvm.Cond.code ({ cls := "CutStore$Supers", name := "<init>", desc := "()V" } : Jvm.MethodName) prog_8_method_1_code (1 : Nat) (Option.none : Option Jvm.ClassFile.FieldType)) ∈ gTs := gTs_mem (i := 234) (by decide +kernel) rfl
theorem wd_235 : (Jvm.Cond.methodLink "CutStore$Supers" (3 : Nat) ({ cls := "java/lang/Object", name := "<init>", desc := "()V" } : Jvm.MethodName)) ∈ gTs := gTs_mem (i := 235) (by decide +kernel) rfl
theorem wd_236 : (Jvm.Cond.classLink "CutStore$Supers" (15 : Nat) "CutStore$PairTable") ∈ gTs := gTs_mem (i := 236) (by decide +kernel) rfl
theorem wd_237 : (Jvm.Cond.instantiable "CutStore$PairTable" (8 : Nat)) ∈ gTs := gTs_mem (i := 237) (by decide +kernel) rfl
theorem wn_238 : (Jvm.Cond.methodLinkNest "CutStore$Supers" (17 : Nat) ({ cls := "CutStore$PairTable", name := "<init>", desc := "()V" } : Jvm.MethodName) "CutStore") ∈ lw_tbl := List.mem_of_getElem? (i := 238) (by decide +kernel)
theorem wd_239 : (Jvm.Cond.instanceMethod ({ cls := "CutStore$PairTable", name := "<init>", desc := "()V" } : Jvm.MethodName)) ∈ gTs := gTs_mem (i := 239) (by decide +kernel) rfl
theorem wd_240 : (Jvm.Cond.code ({ cls := "CutStore$PairTable", name := "<init>", desc := "()V" } : Jvm.MethodName) prog_5_method_1_code (1 : Nat) (Option.none : Option Jvm.ClassFile.FieldType)) ∈ gTs := gTs_mem (i := 240) (by decide +kernel) rfl
theorem wd_241 : (Jvm.Cond.methodLink "CutStore$PairTable" (3 : Nat) ({ cls := "java/lang/Object", name := "<init>", desc := "()V" } : Jvm.MethodName)) ∈ gTs := gTs_mem (i := 241) (by decide +kernel) rfl
theorem wd_242 : (Jvm.Cond.fieldLink "CutStore$PairTable" (9 : Nat) "CutStore$PairTable" "keys" "[I") ∈ gTs := gTs_mem (i := 242) (by decide +kernel) rfl
theorem wd_243 : (Jvm.Cond.fieldLink "CutStore$PairTable" (15 : Nat) "CutStore$PairTable" "counts" "[I") ∈ gTs := gTs_mem (i := 243) (by decide +kernel) rfl
theorem wd_244 : (Jvm.Cond.fieldLink "CutStore$PairTable" (18 : Nat) "CutStore$PairTable" "rounds" "[I") ∈ gTs := gTs_mem (i := 244) (by decide +kernel) rfl
theorem wd_245 : (Jvm.Cond.fieldLink "CutStore$PairTable" (21 : Nat) "CutStore$PairTable" "round" "I") ∈ gTs := gTs_mem (i := 245) (by decide +kernel) rfl
theorem wd_246 : (Jvm.Cond.fieldLink "CutStore$PairTable" (32 : Nat) "CutStore$PairTable" "mostKey" "I") ∈ gTs := gTs_mem (i := 246) (by decide +kernel) rfl
theorem wd_247 : (Jvm.Cond.fieldLink "CutStore$PairTable" (25 : Nat) "CutStore$PairTable" "most" "I") ∈ gTs := gTs_mem (i := 247) (by decide +kernel) rfl
theorem wd_248 : (Jvm.Cond.fieldLink "CutStore$Supers" (50 : Nat) "CutStore$PairTable" "most" "I") ∈ gTs := gTs_mem (i := 248) (by decide +kernel) rfl
theorem wd_249 : (Jvm.Cond.fieldLink "CutStore$PairTable" (35 : Nat) "CutStore$PairTable" "mostFirst" "I") ∈ gTs := gTs_mem (i := 249) (by decide +kernel) rfl
theorem wd_250 : (Jvm.Cond.fieldLink "CutStore$Supers" (53 : Nat) "CutStore$PairTable" "mostFirst" "I") ∈ gTs := gTs_mem (i := 250) (by decide +kernel) rfl
theorem wd_251 : (Jvm.Cond.fieldLink "CutStore$PairTable" (38 : Nat) "CutStore$PairTable" "mostSecond" "I") ∈ gTs := gTs_mem (i := 251) (by decide +kernel) rfl
theorem wd_252 : (Jvm.Cond.fieldLink "CutStore$Supers" (56 : Nat) "CutStore$PairTable" "mostSecond" "I") ∈ gTs := gTs_mem (i := 252) (by decide +kernel) rfl
theorem wd_253 : (Jvm.Cond.laysFinal "CutStore$PairTable" "CutStore$PairTable" "keys" "[I") ∈ gTs := gTs_mem (i := 253) (by decide +kernel) rfl
theorem wd_255 : (Jvm.Cond.laysFinal "CutStore$PairTable" "CutStore$PairTable" "counts" "[I") ∈ gTs := gTs_mem (i := 255) (by decide +kernel) rfl
theorem wd_257 : (Jvm.Cond.laysFinal "CutStore$PairTable" "CutStore$PairTable" "rounds" "[I") ∈ gTs := gTs_mem (i := 257) (by decide +kernel) rfl
theorem wd_259 : (Jvm.Cond.lays "CutStore$PairTable" "CutStore$PairTable" "round" "I") ∈ gTs := gTs_mem (i := 259) (by decide +kernel) rfl
theorem wd_261 : (Jvm.Cond.lays "CutStore$PairTable" "CutStore$PairTable" "mostKey" "I") ∈ gTs := gTs_mem (i := 261) (by decide +kernel) rfl
theorem wd_263 : (Jvm.Cond.lays "CutStore$PairTable" "CutStore$PairTable" "most" "I") ∈ gTs := gTs_mem (i := 263) (by decide +kernel) rfl
theorem wd_265 : (Jvm.Cond.lays "CutStore$PairTable" "CutStore$PairTable" "mostFirst" "I") ∈ gTs := gTs_mem (i := 265) (by decide +kernel) rfl
theorem wd_267 : (Jvm.Cond.lays "CutStore$PairTable" "CutStore$PairTable" "mostSecond" "I") ∈ gTs := gTs_mem (i := 267) (by decide +kernel) rfl
theorem wd_270 : (Jvm.Cond.fieldLink "CutStore$Supers" (9 : Nat) "CutStore$Supers" "line" "[I") ∈ gTs := gTs_mem (i := 270) (by decide +kernel) rfl
theorem wd_271 : (Jvm.Cond.fieldLink "CutStore$Supers" (31 : Nat) "CutStore$Supers" "length" "I") ∈ gTs := gTs_mem (i := 271) (by decide +kernel) rfl
theorem wd_272 : (Jvm.Cond.fieldLink "CutStore$Supers" (35 : Nat) "CutStore$Supers" "rows" "I") ∈ gTs := gTs_mem (i := 272) (by decide +kernel) rfl
theorem wd_273 : (Jvm.Cond.fieldLink "CutStore$Supers" (18 : Nat) "CutStore$Supers" "table" "LCutStore$PairTable;") ∈ gTs := gTs_mem (i := 273) (by decide +kernel) rfl
theorem wd_274 : (Jvm.Cond.fieldLink "CutStore$Supers" (22 : Nat) "CutStore$Supers" "firsts" "[I") ∈ gTs := gTs_mem (i := 274) (by decide +kernel) rfl
theorem wd_275 : (Jvm.Cond.fieldLink "CutStore" (227 : Nat) "CutStore$Supers" "firsts" "[I") ∈ gTs := gTs_mem (i := 275) (by decide +kernel) rfl
theorem wd_276 : (Jvm.Cond.fieldLink "CutStore$Supers" (25 : Nat) "CutStore$Supers" "seconds" "[I") ∈ gTs := gTs_mem (i := 276) (by decide +kernel) rfl
theorem wd_277 : (Jvm.Cond.fieldLink "CutStore" (230 : Nat) "CutStore$Supers" "seconds" "[I") ∈ gTs := gTs_mem (i := 277) (by decide +kernel) rfl
theorem wd_278 : (Jvm.Cond.fieldLink "CutStore$Supers" (28 : Nat) "CutStore$Supers" "takes" "[I") ∈ gTs := gTs_mem (i := 278) (by decide +kernel) rfl
theorem wd_279 : (Jvm.Cond.fieldLink "CutStore" (233 : Nat) "CutStore$Supers" "takes" "[I") ∈ gTs := gTs_mem (i := 279) (by decide +kernel) rfl
theorem wd_280 : (Jvm.Cond.fieldLink "CutStore$Supers" (38 : Nat) "CutStore$Supers" "made" "I") ∈ gTs := gTs_mem (i := 280) (by decide +kernel) rfl
theorem wd_281 : (Jvm.Cond.fieldLink "CutStore" (224 : Nat) "CutStore$Supers" "made" "I") ∈ gTs := gTs_mem (i := 281) (by decide +kernel) rfl
theorem wd_282 : (Jvm.Cond.laysFinal "CutStore$Supers" "CutStore$Supers" "line" "[I") ∈ gTs := gTs_mem (i := 282) (by decide +kernel) rfl
theorem wd_284 : (Jvm.Cond.lays "CutStore$Supers" "CutStore$Supers" "length" "I") ∈ gTs := gTs_mem (i := 284) (by decide +kernel) rfl
theorem wd_286 : (Jvm.Cond.lays "CutStore$Supers" "CutStore$Supers" "rows" "I") ∈ gTs := gTs_mem (i := 286) (by decide +kernel) rfl
theorem wd_288 : (Jvm.Cond.laysFinal "CutStore$Supers" "CutStore$Supers" "table" "LCutStore$PairTable;") ∈ gTs := gTs_mem (i := 288) (by decide +kernel) rfl
theorem wd_290 : (Jvm.Cond.laysFinal "CutStore$Supers" "CutStore$Supers" "firsts" "[I") ∈ gTs := gTs_mem (i := 290) (by decide +kernel) rfl
theorem wd_292 : (Jvm.Cond.laysFinal "CutStore$Supers" "CutStore$Supers" "seconds" "[I") ∈ gTs := gTs_mem (i := 292) (by decide +kernel) rfl
theorem wd_294 : (Jvm.Cond.laysFinal "CutStore$Supers" "CutStore$Supers" "takes" "[I") ∈ gTs := gTs_mem (i := 294) (by decide +kernel) rfl
theorem wd_296 : (Jvm.Cond.lays "CutStore$Supers" "CutStore$Supers" "made" "I") ∈ gTs := gTs_mem (i := 296) (by decide +kernel) rfl
theorem wd_299 : (Jvm.Cond.fieldLink "CutStore" (12 : Nat) "CutStore" "files" "LCutStore$Files;") ∈ gTs := gTs_mem (i := 299) (by decide +kernel) rfl
theorem wd_300 : (Jvm.Cond.fieldLink "CutStore" (19 : Nat) "CutStore" "tape" "LCutStore$Tape;") ∈ gTs := gTs_mem (i := 300) (by decide +kernel) rfl
theorem wd_301 : (Jvm.Cond.fieldLink "CutStore" (25 : Nat) "CutStore" "rules" "[LCutStore$Rule;") ∈ gTs := gTs_mem (i := 301) (by decide +kernel) rfl
theorem wd_302 : (Jvm.Cond.fieldLink "CutStore" (35 : Nat) "CutStore" "cutter" "LCutStore$Cutter;") ∈ gTs := gTs_mem (i := 302) (by decide +kernel) rfl
theorem wd_303 : (Jvm.Cond.fieldLink "CutStore" (39 : Nat) "CutStore" "otherCutter" "LCutStore$Cutter;") ∈ gTs := gTs_mem (i := 303) (by decide +kernel) rfl
theorem wd_304 : (Jvm.Cond.fieldLink "CutStore" (45 : Nat) "CutStore" "distinct" "LCutStore$Distinct;") ∈ gTs := gTs_mem (i := 304) (by decide +kernel) rfl
theorem wd_305 : (Jvm.Cond.fieldLink "CutStore" (52 : Nat) "CutStore" "store" "LCutStore$Store;") ∈ gTs := gTs_mem (i := 305) (by decide +kernel) rfl
theorem wd_306 : (Jvm.Cond.fieldLink "CutStore" (59 : Nat) "CutStore" "latest" "LCutStore$Supers;") ∈ gTs := gTs_mem (i := 306) (by decide +kernel) rfl
theorem wd_307 : (Jvm.Cond.fieldLink "CutStore" (63 : Nat) "CutStore" "entry" "I") ∈ gTs := gTs_mem (i := 307) (by decide +kernel) rfl
theorem wd_308 : (Jvm.Cond.fieldLink "CutStore" (67 : Nat) "CutStore" "pointer" "I") ∈ gTs := gTs_mem (i := 308) (by decide +kernel) rfl
theorem wd_309 : (Jvm.Cond.laysFinal "CutStore" "CutStore" "files" "LCutStore$Files;") ∈ gTs := gTs_mem (i := 309) (by decide +kernel) rfl
theorem wd_311 : (Jvm.Cond.laysFinal "CutStore" "CutStore" "tape" "LCutStore$Tape;") ∈ gTs := gTs_mem (i := 311) (by decide +kernel) rfl
theorem wd_313 : (Jvm.Cond.laysFinal "CutStore" "CutStore" "rules" "[LCutStore$Rule;") ∈ gTs := gTs_mem (i := 313) (by decide +kernel) rfl
theorem wd_315 : (Jvm.Cond.laysFinal "CutStore" "CutStore" "cutter" "LCutStore$Cutter;") ∈ gTs := gTs_mem (i := 315) (by decide +kernel) rfl
theorem wd_317 : (Jvm.Cond.laysFinal "CutStore" "CutStore" "otherCutter" "LCutStore$Cutter;") ∈ gTs := gTs_mem (i := 317) (by decide +kernel) rfl
theorem wd_319 : (Jvm.Cond.laysFinal "CutStore" "CutStore" "distinct" "LCutStore$Distinct;") ∈ gTs := gTs_mem (i := 319) (by decide +kernel) rfl
theorem wd_321 : (Jvm.Cond.laysFinal "CutStore" "CutStore" "store" "LCutStore$Store;") ∈ gTs := gTs_mem (i := 321) (by decide +kernel) rfl
theorem wd_323 : (Jvm.Cond.laysFinal "CutStore" "CutStore" "latest" "LCutStore$Supers;") ∈ gTs := gTs_mem (i := 323) (by decide +kernel) rfl
theorem wd_325 : (Jvm.Cond.lays "CutStore" "CutStore" "entry" "I") ∈ gTs := gTs_mem (i := 325) (by decide +kernel) rfl
theorem wd_327 : (Jvm.Cond.lays "CutStore" "CutStore" "pointer" "I") ∈ gTs := gTs_mem (i := 327) (by decide +kernel) rfl
theorem wd_330 : (Jvm.Cond.methodLink "CutStoreLaw" (13 : Nat) ({ cls := "CutStore", name := "feed", desc := "(IIIII)I" } : Jvm.MethodName)) ∈ gTs := gTs_mem (i := 330) (by decide +kernel) rfl
theorem wd_331 : (Jvm.Cond.instanceMethod ({ cls := "CutStore", name := "feed", desc := "(IIIII)I" } : Jvm.MethodName)) ∈ gTs := gTs_mem (i := 331) (by decide +kernel) rfl
theorem wd_332 : (Jvm.Cond.selects "CutStore" ({ cls := "CutStore", name := "feed", desc := "(IIIII)I" } : Jvm.MethodName) ({ cls := "CutStore", name := "feed", desc := "(IIIII)I" } : Jvm.MethodName)) ∈ gTs := gTs_mem (i := 332) (by decide +kernel) rfl
theorem wd_333 : (Jvm.Cond.code ({ cls := "CutStore", name := "feed", desc := "(IIIII)I" } : Jvm.MethodName) prog_1_method_2_code (6 : Nat) (Option.some Jvm.ClassFile.FieldType.int)) ∈ gTs := gTs_mem (i := 333) (by decide +kernel) rfl
theorem wd_334 : (Jvm.Cond.methodLink "CutStore" (73 : Nat) ({ cls := "CutStore$Tape", name := "addNumber", desc := "(I)V" } : Jvm.MethodName)) ∈ gTs := gTs_mem (i := 334) (by decide +kernel) rfl
theorem wd_335 : (Jvm.Cond.instanceMethod ({ cls := "CutStore$Tape", name := "addNumber", desc := "(I)V" } : Jvm.MethodName)) ∈ gTs := gTs_mem (i := 335) (by decide +kernel) rfl
theorem wd_336 : (Jvm.Cond.selects "CutStore$Tape" ({ cls := "CutStore$Tape", name := "addNumber", desc := "(I)V" } : Jvm.MethodName) ({ cls := "CutStore$Tape", name := "addNumber", desc := "(I)V" } : Jvm.MethodName)) ∈ gTs := gTs_mem (i := 336) (by decide +kernel) rfl
theorem wd_337 : (Jvm.Cond.code ({ cls := "CutStore$Tape", name := "addNumber", desc := "(I)V" } : Jvm.MethodName) prog_9_method_2_code (3 : Nat) (Option.none : Option Jvm.ClassFile.FieldType)) ∈ gTs := gTs_mem (i := 337) (by decide +kernel) rfl
theorem wd_338 : (Jvm.Cond.methodLink "CutStoreLaw" (18 : Nat) ({ cls := "CutStore", name := "end", desc := "(I)Z" } : Jvm.MethodName)) ∈ gTs := gTs_mem (i := 338) (by decide +kernel) rfl
theorem wd_339 : (Jvm.Cond.instanceMethod ({ cls := "CutStore", name := "end", desc := "(I)Z" } : Jvm.MethodName)) ∈ gTs := gTs_mem (i := 339) (by decide +kernel) rfl
theorem wd_340 : (Jvm.Cond.selects "CutStore" ({ cls := "CutStore", name := "end", desc := "(I)Z" } : Jvm.MethodName) ({ cls := "CutStore", name := "end", desc := "(I)Z" } : Jvm.MethodName)) ∈ gTs := gTs_mem (i := 340) (by decide +kernel) rfl
theorem wd_341 : (Jvm.Cond.code ({ cls := "CutStore", name := "end", desc := "(I)Z" } : Jvm.MethodName) prog_1_method_3_code (2 : Nat) (Option.some Jvm.ClassFile.FieldType.boolean)) ∈ gTs := gTs_mem (i := 341) (by decide +kernel) rfl
theorem wd_342 : (Jvm.Cond.methodLink "CutStoreLaw" (23 : Nat) ({ cls := "CutStore", name := "edit", desc := "(III)I" } : Jvm.MethodName)) ∈ gTs := gTs_mem (i := 342) (by decide +kernel) rfl
theorem wd_343 : (Jvm.Cond.instanceMethod ({ cls := "CutStore", name := "edit", desc := "(III)I" } : Jvm.MethodName)) ∈ gTs := gTs_mem (i := 343) (by decide +kernel) rfl
theorem wd_344 : (Jvm.Cond.selects "CutStore" ({ cls := "CutStore", name := "edit", desc := "(III)I" } : Jvm.MethodName) ({ cls := "CutStore", name := "edit", desc := "(III)I" } : Jvm.MethodName)) ∈ gTs := gTs_mem (i := 344) (by decide +kernel) rfl
theorem wd_345 : (Jvm.Cond.code ({ cls := "CutStore", name := "edit", desc := "(III)I" } : Jvm.MethodName) prog_1_method_4_code (4 : Nat) (Option.some Jvm.ClassFile.FieldType.int)) ∈ gTs := gTs_mem (i := 345) (by decide +kernel) rfl
theorem wd_346 : (Jvm.Cond.methodLink "CutStore" (77 : Nat) ({ cls := "CutStore", name := "isFile", desc := "(I)Z" } : Jvm.MethodName)) ∈ gTs := gTs_mem (i := 346) (by decide +kernel) rfl
theorem wd_347 : (Jvm.Cond.static ({ cls := "CutStore", name := "isFile", desc := "(I)Z" } : Jvm.MethodName)) ∈ gTs := gTs_mem (i := 347) (by decide +kernel) rfl
theorem wd_348 : (Jvm.Cond.code ({ cls := "CutStore", name := "isFile", desc := "(I)Z" } : Jvm.MethodName) prog_1_method_29_code (1 : Nat) (Option.some Jvm.ClassFile.FieldType.boolean)) ∈ gTs := gTs_mem (i := 348) (by decide +kernel) rfl
theorem wd_349 : (Jvm.Cond.methodLink "CutStore" (85 : Nat) ({ cls := "CutStore", name := "isWithin", desc := "(III)Z" } : Jvm.MethodName)) ∈ gTs := gTs_mem (i := 349) (by decide +kernel) rfl
theorem wd_350 : (Jvm.Cond.static ({ cls := "CutStore", name := "isWithin", desc := "(III)Z" } : Jvm.MethodName)) ∈ gTs := gTs_mem (i := 350) (by decide +kernel) rfl
theorem wd_351 : (Jvm.Cond.code ({ cls := "CutStore", name := "isWithin", desc := "(III)Z" } : Jvm.MethodName) prog_1_method_28_code (3 : Nat) (Option.some Jvm.ClassFile.FieldType.boolean)) ∈ gTs := gTs_mem (i := 351) (by decide +kernel) rfl
theorem wd_352 : (Jvm.Cond.methodLink "CutStore" (89 : Nat) ({ cls := "CutStore$Files", name := "replace", desc := "(IIILCutStore$Tape;)V" } : Jvm.MethodName)) ∈ gTs := gTs_mem (i := 352) (by decide +kernel) rfl
theorem wd_353 : (Jvm.Cond.instanceMethod ({ cls := "CutStore$Files", name := "replace", desc := "(IIILCutStore$Tape;)V" } : Jvm.MethodName)) ∈ gTs := gTs_mem (i := 353) (by decide +kernel) rfl
theorem wd_354 : (Jvm.Cond.selects "CutStore$Files" ({ cls := "CutStore$Files", name := "replace", desc := "(IIILCutStore$Tape;)V" } : Jvm.MethodName) ({ cls := "CutStore$Files", name := "replace", desc := "(IIILCutStore$Tape;)V" } : Jvm.MethodName)) ∈ gTs := gTs_mem (i := 354) (by decide +kernel) rfl
theorem wd_355 : (Jvm.Cond.code ({ cls := "CutStore$Files", name := "replace", desc := "(IIILCutStore$Tape;)V" } : Jvm.MethodName) prog_4_method_7_code (7 : Nat) (Option.none : Option Jvm.ClassFile.FieldType)) ∈ gTs := gTs_mem (i := 355) (by decide +kernel) rfl
theorem wd_356 : (Jvm.Cond.methodLink "CutStore$Files" (19 : Nat) ({ cls := "CutStore$Files", name := "startOf", desc := "(I)I" } : Jvm.MethodName)) ∈ gTs := gTs_mem (i := 356) (by decide +kernel) rfl
theorem wd_357 : (Jvm.Cond.instanceMethod ({ cls := "CutStore$Files", name := "startOf", desc := "(I)I" } : Jvm.MethodName)) ∈ gTs := gTs_mem (i := 357) (by decide +kernel) rfl
theorem wd_358 : (Jvm.Cond.selects "CutStore$Files" ({ cls := "CutStore$Files", name := "startOf", desc := "(I)I" } : Jvm.MethodName) ({ cls := "CutStore$Files", name := "startOf", desc := "(I)I" } : Jvm.MethodName)) ∈ gTs := gTs_mem (i := 358) (by decide +kernel) rfl
theorem wd_359 : (Jvm.Cond.code ({ cls := "CutStore$Files", name := "startOf", desc := "(I)I" } : Jvm.MethodName) prog_4_method_2_code (2 : Nat) (Option.some Jvm.ClassFile.FieldType.int)) ∈ gTs := gTs_mem (i := 359) (by decide +kernel) rfl
theorem wd_360 : (Jvm.Cond.methodLink "CutStore$Files" (23 : Nat) ({ cls := "java/lang/System", name := "arraycopy", desc := "(Ljava/lang/Object;ILjava/lang/Object;II)V" } : Jvm.MethodName)) ∈ gTs := gTs_mem (i := 360) (by decide +kernel) rfl
theorem wd_361 : (Jvm.Cond.static ({ cls := "java/lang/System", name := "arraycopy", desc := "(Ljava/lang/Object;ILjava/lang/Object;II)V" } : Jvm.MethodName)) ∈ gTs := gTs_mem (i := 361) (by decide +kernel) rfl
theorem wd_362 : (Jvm.Cond.native ({ cls := "java/lang/System", name := "arraycopy", desc := "(Ljava/lang/Object;ILjava/lang/Object;II)V" } : Jvm.MethodName)) ∈ gTs := gTs_mem (i := 362) (by decide +kernel) rfl
theorem wd_363 : (Jvm.Cond.methodLink "CutStoreLaw" (28 : Nat) ({ cls := "CutStore", name := "sow", desc := "(IIII)I" } : Jvm.MethodName)) ∈ gTs := gTs_mem (i := 363) (by decide +kernel) rfl
theorem wd_364 : (Jvm.Cond.instanceMethod ({ cls := "CutStore", name := "sow", desc := "(IIII)I" } : Jvm.MethodName)) ∈ gTs := gTs_mem (i := 364) (by decide +kernel) rfl
theorem wd_365 : (Jvm.Cond.selects "CutStore" ({ cls := "CutStore", name := "sow", desc := "(IIII)I" } : Jvm.MethodName) ({ cls := "CutStore", name := "sow", desc := "(IIII)I" } : Jvm.MethodName)) ∈ gTs := gTs_mem (i := 365) (by decide +kernel) rfl
theorem wd_366 : (Jvm.Cond.code ({ cls := "CutStore", name := "sow", desc := "(IIII)I" } : Jvm.MethodName) prog_1_method_5_code (7 : Nat) (Option.some Jvm.ClassFile.FieldType.int)) ∈ gTs := gTs_mem (i := 366) (by decide +kernel) rfl
theorem wd_367 : (Jvm.Cond.constant "CutStore" (93 : Nat) (1103515245 : Int32)) ∈ gTs := gTs_mem (i := 367) (by decide +kernel) rfl
theorem wd_368 : (Jvm.Cond.methodLink "CutStore" (94 : Nat) ({ cls := "CutStore$Files", name := "addByte", desc := "(II)V" } : Jvm.MethodName)) ∈ gTs := gTs_mem (i := 368) (by decide +kernel) rfl
theorem wd_369 : (Jvm.Cond.instanceMethod ({ cls := "CutStore$Files", name := "addByte", desc := "(II)V" } : Jvm.MethodName)) ∈ gTs := gTs_mem (i := 369) (by decide +kernel) rfl
theorem wd_370 : (Jvm.Cond.selects "CutStore$Files" ({ cls := "CutStore$Files", name := "addByte", desc := "(II)V" } : Jvm.MethodName) ({ cls := "CutStore$Files", name := "addByte", desc := "(II)V" } : Jvm.MethodName)) ∈ gTs := gTs_mem (i := 370) (by decide +kernel) rfl
theorem wd_371 : (Jvm.Cond.code ({ cls := "CutStore$Files", name := "addByte", desc := "(II)V" } : Jvm.MethodName) prog_4_method_4_code (3 : Nat) (Option.none : Option Jvm.ClassFile.FieldType)) ∈ gTs := gTs_mem (i := 371) (by decide +kernel) rfl
theorem wd_372 : (Jvm.Cond.methodLink "CutStoreLaw" (33 : Nat) ({ cls := "CutStore", name := "copy", desc := "(II)I" } : Jvm.MethodName)) ∈ gTs := gTs_mem (i := 372) (by decide +kernel) rfl
theorem wd_373 : (Jvm.Cond.instanceMethod ({ cls := "CutStore", name := "copy", desc := "(II)I" } : Jvm.MethodName)) ∈ gTs := gTs_mem (i := 373) (by decide +kernel) rfl
theorem wd_374 : (Jvm.Cond.selects "CutStore" ({ cls := "CutStore", name := "copy", desc := "(II)I" } : Jvm.MethodName) ({ cls := "CutStore", name := "copy", desc := "(II)I" } : Jvm.MethodName)) ∈ gTs := gTs_mem (i := 374) (by decide +kernel) rfl
theorem wd_375 : (Jvm.Cond.code ({ cls := "CutStore", name := "copy", desc := "(II)I" } : Jvm.MethodName) prog_1_method_6_code (3 : Nat) (Option.some Jvm.ClassFile.FieldType.int)) ∈ gTs := gTs_mem (i := 375) (by decide +kernel) rfl
theorem wd_376 : (Jvm.Cond.methodLink "CutStore" (98 : Nat) ({ cls := "CutStore$Files", name := "duplicate", desc := "(II)V" } : Jvm.MethodName)) ∈ gTs := gTs_mem (i := 376) (by decide +kernel) rfl
theorem wd_377 : (Jvm.Cond.instanceMethod ({ cls := "CutStore$Files", name := "duplicate", desc := "(II)V" } : Jvm.MethodName)) ∈ gTs := gTs_mem (i := 377) (by decide +kernel) rfl
theorem wd_378 : (Jvm.Cond.selects "CutStore$Files" ({ cls := "CutStore$Files", name := "duplicate", desc := "(II)V" } : Jvm.MethodName) ({ cls := "CutStore$Files", name := "duplicate", desc := "(II)V" } : Jvm.MethodName)) ∈ gTs := gTs_mem (i := 378) (by decide +kernel) rfl
theorem wd_379 : (Jvm.Cond.code ({ cls := "CutStore$Files", name := "duplicate", desc := "(II)V" } : Jvm.MethodName) prog_4_method_6_code (3 : Nat) (Option.none : Option Jvm.ClassFile.FieldType)) ∈ gTs := gTs_mem (i := 379) (by decide +kernel) rfl
theorem wd_380 : (Jvm.Cond.methodLink "CutStoreLaw" (38 : Nat) ({ cls := "CutStore", name := "at", desc := "(II)I" } : Jvm.MethodName)) ∈ gTs := gTs_mem (i := 380) (by decide +kernel) rfl
theorem wd_381 : (Jvm.Cond.instanceMethod ({ cls := "CutStore", name := "at", desc := "(II)I" } : Jvm.MethodName)) ∈ gTs := gTs_mem (i := 381) (by decide +kernel) rfl
theorem wd_382 : (Jvm.Cond.selects "CutStore" ({ cls := "CutStore", name := "at", desc := "(II)I" } : Jvm.MethodName) ({ cls := "CutStore", name := "at", desc := "(II)I" } : Jvm.MethodName)) ∈ gTs := gTs_mem (i := 382) (by decide +kernel) rfl
theorem wd_383 : (Jvm.Cond.code ({ cls := "CutStore", name := "at", desc := "(II)I" } : Jvm.MethodName) prog_1_method_7_code (3 : Nat) (Option.some Jvm.ClassFile.FieldType.int)) ∈ gTs := gTs_mem (i := 383) (by decide +kernel) rfl
theorem wd_384 : (Jvm.Cond.methodLink "CutStore" (101 : Nat) ({ cls := "CutStore", name := "isPlace", desc := "(II)Z" } : Jvm.MethodName)) ∈ gTs := gTs_mem (i := 384) (by decide +kernel) rfl
theorem wd_386 : (Jvm.Cond.instanceMethod ({ cls := "CutStore", name := "isPlace", desc := "(II)Z" } : Jvm.MethodName)) ∈ gTs := gTs_mem (i := 386) (by decide +kernel) rfl
theorem wd_387 : (Jvm.Cond.code ({ cls := "CutStore", name := "isPlace", desc := "(II)Z" } : Jvm.MethodName) prog_1_method_33_code (3 : Nat) (Option.some Jvm.ClassFile.FieldType.boolean)) ∈ gTs := gTs_mem (i := 387) (by decide +kernel) rfl
theorem wd_388 : (Jvm.Cond.methodLink "CutStore" (105 : Nat) ({ cls := "CutStore$Files", name := "byteAt", desc := "(II)I" } : Jvm.MethodName)) ∈ gTs := gTs_mem (i := 388) (by decide +kernel) rfl
theorem wd_389 : (Jvm.Cond.instanceMethod ({ cls := "CutStore$Files", name := "byteAt", desc := "(II)I" } : Jvm.MethodName)) ∈ gTs := gTs_mem (i := 389) (by decide +kernel) rfl
theorem wd_390 : (Jvm.Cond.selects "CutStore$Files" ({ cls := "CutStore$Files", name := "byteAt", desc := "(II)I" } : Jvm.MethodName) ({ cls := "CutStore$Files", name := "byteAt", desc := "(II)I" } : Jvm.MethodName)) ∈ gTs := gTs_mem (i := 390) (by decide +kernel) rfl
theorem wd_391 : (Jvm.Cond.code ({ cls := "CutStore$Files", name := "byteAt", desc := "(II)I" } : Jvm.MethodName) prog_4_method_3_code (3 : Nat) (Option.some Jvm.ClassFile.FieldType.int)) ∈ gTs := gTs_mem (i := 391) (by decide +kernel) rfl
theorem wd_392 : (Jvm.Cond.methodLink "CutStoreLaw" (42 : Nat) ({ cls := "CutStore", name := "fixed", desc := "(II)Z" } : Jvm.MethodName)) ∈ gTs := gTs_mem (i := 392) (by decide +kernel) rfl
theorem wd_393 : (Jvm.Cond.instanceMethod ({ cls := "CutStore", name := "fixed", desc := "(II)Z" } : Jvm.MethodName)) ∈ gTs := gTs_mem (i := 393) (by decide +kernel) rfl
theorem wd_394 : (Jvm.Cond.selects "CutStore" ({ cls := "CutStore", name := "fixed", desc := "(II)Z" } : Jvm.MethodName) ({ cls := "CutStore", name := "fixed", desc := "(II)Z" } : Jvm.MethodName)) ∈ gTs := gTs_mem (i := 394) (by decide +kernel) rfl
theorem wd_395 : (Jvm.Cond.code ({ cls := "CutStore", name := "fixed", desc := "(II)Z" } : Jvm.MethodName) prog_1_method_8_code (3 : Nat) (Option.some Jvm.ClassFile.FieldType.boolean)) ∈ gTs := gTs_mem (i := 395) (by decide +kernel) rfl
theorem wd_396 : (Jvm.Cond.methodLink "CutStore" (109 : Nat) ({ cls := "CutStore", name := "isRule", desc := "(I)Z" } : Jvm.MethodName)) ∈ gTs := gTs_mem (i := 396) (by decide +kernel) rfl
theorem wd_397 : (Jvm.Cond.static ({ cls := "CutStore", name := "isRule", desc := "(I)Z" } : Jvm.MethodName)) ∈ gTs := gTs_mem (i := 397) (by decide +kernel) rfl
theorem wd_398 : (Jvm.Cond.code ({ cls := "CutStore", name := "isRule", desc := "(I)Z" } : Jvm.MethodName) prog_1_method_30_code (1 : Nat) (Option.some Jvm.ClassFile.FieldType.boolean)) ∈ gTs := gTs_mem (i := 398) (by decide +kernel) rfl
theorem wd_399 : (Jvm.Cond.methodLink "CutStore" (112 : Nat) ({ cls := "CutStore$Rule", name := "become", desc := "(IIII)V" } : Jvm.MethodName)) ∈ gTs := gTs_mem (i := 399) (by decide +kernel) rfl
theorem wd_400 : (Jvm.Cond.instanceMethod ({ cls := "CutStore$Rule", name := "become", desc := "(IIII)V" } : Jvm.MethodName)) ∈ gTs := gTs_mem (i := 400) (by decide +kernel) rfl
theorem wd_401 : (Jvm.Cond.selects "CutStore$Rule" ({ cls := "CutStore$Rule", name := "become", desc := "(IIII)V" } : Jvm.MethodName) ({ cls := "CutStore$Rule", name := "become", desc := "(IIII)V" } : Jvm.MethodName)) ∈ gTs := gTs_mem (i := 401) (by decide +kernel) rfl
theorem wd_402 : (Jvm.Cond.code ({ cls := "CutStore$Rule", name := "become", desc := "(IIII)V" } : Jvm.MethodName) prog_6_method_2_code (5 : Nat) (Option.none : Option Jvm.ClassFile.FieldType)) ∈ gTs := gTs_mem (i := 402) (by decide +kernel) rfl
theorem wd_403 : (Jvm.Cond.methodLink "CutStoreLaw" (47 : Nat) ({ cls := "CutStore", name := "rolling", desc := "(IZIIIII)Z" } : Jvm.MethodName)) ∈ gTs := gTs_mem (i := 403) (by decide +kernel) rfl
theorem wd_404 : (Jvm.Cond.instanceMethod ({ cls := "CutStore", name := "rolling", desc := "(IZIIIII)Z" } : Jvm.MethodName)) ∈ gTs := gTs_mem (i := 404) (by decide +kernel) rfl
theorem wd_405 : (Jvm.Cond.selects "CutStore" ({ cls := "CutStore", name := "rolling", desc := "(IZIIIII)Z" } : Jvm.MethodName) ({ cls := "CutStore", name := "rolling", desc := "(IZIIIII)Z" } : Jvm.MethodName)) ∈ gTs := gTs_mem (i := 405) (by decide +kernel) rfl
theorem wd_406 : (Jvm.Cond.code ({ cls := "CutStore", name := "rolling", desc := "(IZIIIII)Z" } : Jvm.MethodName) prog_1_method_9_code (8 : Nat) (Option.some Jvm.ClassFile.FieldType.boolean)) ∈ gTs := gTs_mem (i := 406) (by decide +kernel) rfl
theorem wd_407 : (Jvm.Cond.methodLink "CutStore" (116 : Nat) ({ cls := "CutStore", name := "isMarkRule", desc := "(III)Z" } : Jvm.MethodName)) ∈ gTs := gTs_mem (i := 407) (by decide +kernel) rfl
theorem wd_408 : (Jvm.Cond.static ({ cls := "CutStore", name := "isMarkRule", desc := "(III)Z" } : Jvm.MethodName)) ∈ gTs := gTs_mem (i := 408) (by decide +kernel) rfl
theorem wd_409 : (Jvm.Cond.code ({ cls := "CutStore", name := "isMarkRule", desc := "(III)Z" } : Jvm.MethodName) prog_1_method_31_code (3 : Nat) (Option.some Jvm.ClassFile.FieldType.boolean)) ∈ gTs := gTs_mem (i := 409) (by decide +kernel) rfl
theorem wd_410 : (Jvm.Cond.methodLink "CutStore" (119 : Nat) ({ cls := "CutStore$Rule", name := "roll", desc := "(II)V" } : Jvm.MethodName)) ∈ gTs := gTs_mem (i := 410) (by decide +kernel) rfl
theorem wd_411 : (Jvm.Cond.instanceMethod ({ cls := "CutStore$Rule", name := "roll", desc := "(II)V" } : Jvm.MethodName)) ∈ gTs := gTs_mem (i := 411) (by decide +kernel) rfl
theorem wd_412 : (Jvm.Cond.selects "CutStore$Rule" ({ cls := "CutStore$Rule", name := "roll", desc := "(II)V" } : Jvm.MethodName) ({ cls := "CutStore$Rule", name := "roll", desc := "(II)V" } : Jvm.MethodName)) ∈ gTs := gTs_mem (i := 412) (by decide +kernel) rfl
theorem wd_413 : (Jvm.Cond.code ({ cls := "CutStore$Rule", name := "roll", desc := "(II)V" } : Jvm.MethodName) prog_6_method_3_code (3 : Nat) (Option.none : Option Jvm.ClassFile.FieldType)) ∈ gTs := gTs_mem (i := 413) (by decide +kernel) rfl
theorem wd_414 : (Jvm.Cond.methodLink "CutStoreLaw" (52 : Nat) ({ cls := "CutStore", name := "told", desc := "(IIII)Z" } : Jvm.MethodName)) ∈ gTs := gTs_mem (i := 414) (by decide +kernel) rfl
theorem wd_415 : (Jvm.Cond.instanceMethod ({ cls := "CutStore", name := "told", desc := "(IIII)Z" } : Jvm.MethodName)) ∈ gTs := gTs_mem (i := 415) (by decide +kernel) rfl
theorem wd_416 : (Jvm.Cond.selects "CutStore" ({ cls := "CutStore", name := "told", desc := "(IIII)Z" } : Jvm.MethodName) ({ cls := "CutStore", name := "told", desc := "(IIII)Z" } : Jvm.MethodName)) ∈ gTs := gTs_mem (i := 416) (by decide +kernel) rfl
theorem wd_417 : (Jvm.Cond.code ({ cls := "CutStore", name := "told", desc := "(IIII)Z" } : Jvm.MethodName) prog_1_method_10_code (5 : Nat) (Option.some Jvm.ClassFile.FieldType.boolean)) ∈ gTs := gTs_mem (i := 417) (by decide +kernel) rfl
theorem wd_418 : (Jvm.Cond.methodLink "CutStoreLaw" (57 : Nat) ({ cls := "CutStore", name := "sum", desc := "(III)I" } : Jvm.MethodName)) ∈ gTs := gTs_mem (i := 418) (by decide +kernel) rfl
theorem wd_419 : (Jvm.Cond.instanceMethod ({ cls := "CutStore", name := "sum", desc := "(III)I" } : Jvm.MethodName)) ∈ gTs := gTs_mem (i := 419) (by decide +kernel) rfl
theorem wd_420 : (Jvm.Cond.selects "CutStore" ({ cls := "CutStore", name := "sum", desc := "(III)I" } : Jvm.MethodName) ({ cls := "CutStore", name := "sum", desc := "(III)I" } : Jvm.MethodName)) ∈ gTs := gTs_mem (i := 420) (by decide +kernel) rfl
theorem wd_421 : (Jvm.Cond.code ({ cls := "CutStore", name := "sum", desc := "(III)I" } : Jvm.MethodName) prog_1_method_11_code (4 : Nat) (Option.some Jvm.ClassFile.FieldType.int)) ∈ gTs := gTs_mem (i := 421) (by decide +kernel) rfl
theorem wd_422 : (Jvm.Cond.methodLink "CutStore" (122 : Nat) ({ cls := "CutStore", name := "isSetRule", desc := "(I)Z" } : Jvm.MethodName)) ∈ gTs := gTs_mem (i := 422) (by decide +kernel) rfl
theorem wd_424 : (Jvm.Cond.instanceMethod ({ cls := "CutStore", name := "isSetRule", desc := "(I)Z" } : Jvm.MethodName)) ∈ gTs := gTs_mem (i := 424) (by decide +kernel) rfl
theorem wd_425 : (Jvm.Cond.code ({ cls := "CutStore", name := "isSetRule", desc := "(I)Z" } : Jvm.MethodName) prog_1_method_32_code (2 : Nat) (Option.some Jvm.ClassFile.FieldType.boolean)) ∈ gTs := gTs_mem (i := 425) (by decide +kernel) rfl
theorem wd_426 : (Jvm.Cond.methodLink "CutStore" (125 : Nat) ({ cls := "CutStore$Rule", name := "hasWindow", desc := "()Z" } : Jvm.MethodName)) ∈ gTs := gTs_mem (i := 426) (by decide +kernel) rfl
theorem wd_427 : (Jvm.Cond.instanceMethod ({ cls := "CutStore$Rule", name := "hasWindow", desc := "()Z" } : Jvm.MethodName)) ∈ gTs := gTs_mem (i := 427) (by decide +kernel) rfl
theorem wd_428 : (Jvm.Cond.selects "CutStore$Rule" ({ cls := "CutStore$Rule", name := "hasWindow", desc := "()Z" } : Jvm.MethodName) ({ cls := "CutStore$Rule", name := "hasWindow", desc := "()Z" } : Jvm.MethodName)) ∈ gTs := gTs_mem (i := 428) (by decide +kernel) rfl
theorem wd_429 : (Jvm.Cond.code ({ cls := "CutStore$Rule", name := "hasWindow", desc := "()Z" } : Jvm.MethodName) prog_6_method_4_code (1 : Nat) (Option.some Jvm.ClassFile.FieldType.boolean)) ∈ gTs := gTs_mem (i := 429) (by decide +kernel) rfl
theorem wd_430 : (Jvm.Cond.methodLink "CutStore" (129 : Nat) ({ cls := "CutStore$Cutter", name := "addUp", desc := "(LCutStore$Rule;I)V" } : Jvm.MethodName)) ∈ gTs := gTs_mem (i := 430) (by decide +kernel) rfl
theorem wd_431 : (Jvm.Cond.instanceMethod ({ cls := "CutStore$Cutter", name := "addUp", desc := "(LCutStore$Rule;I)V" } : Jvm.MethodName)) ∈ gTs := gTs_mem (i := 431) (by decide +kernel) rfl
theorem wd_432 : (Jvm.Cond.selects "CutStore$Cutter" ({ cls := "CutStore$Cutter", name := "addUp", desc := "(LCutStore$Rule;I)V" } : Jvm.MethodName) ({ cls := "CutStore$Cutter", name := "addUp", desc := "(LCutStore$Rule;I)V" } : Jvm.MethodName)) ∈ gTs := gTs_mem (i := 432) (by decide +kernel) rfl
theorem wd_433 : (Jvm.Cond.code ({ cls := "CutStore$Cutter", name := "addUp", desc := "(LCutStore$Rule;I)V" } : Jvm.MethodName) prog_2_method_4_code (6 : Nat) (Option.none : Option Jvm.ClassFile.FieldType)) ∈ gTs := gTs_mem (i := 433) (by decide +kernel) rfl
theorem wd_434 : (Jvm.Cond.methodLink "CutStore$Cutter" (40 : Nat) ({ cls := "CutStore$Files", name := "byteAt", desc := "(II)I" } : Jvm.MethodName)) ∈ gTs := gTs_mem (i := 434) (by decide +kernel) rfl
theorem wd_435 : (Jvm.Cond.constant "CutStore$Cutter" (44 : Nat) (65535 : Int32)) ∈ gTs := gTs_mem (i := 435) (by decide +kernel) rfl
theorem wd_436 : (Jvm.Cond.methodLink "CutStoreLaw" (61 : Nat) ({ cls := "CutStore", name := "cuts", desc := "(II)I" } : Jvm.MethodName)) ∈ gTs := gTs_mem (i := 436) (by decide +kernel) rfl
theorem wd_437 : (Jvm.Cond.instanceMethod ({ cls := "CutStore", name := "cuts", desc := "(II)I" } : Jvm.MethodName)) ∈ gTs := gTs_mem (i := 437) (by decide +kernel) rfl
theorem wd_438 : (Jvm.Cond.selects "CutStore" ({ cls := "CutStore", name := "cuts", desc := "(II)I" } : Jvm.MethodName) ({ cls := "CutStore", name := "cuts", desc := "(II)I" } : Jvm.MethodName)) ∈ gTs := gTs_mem (i := 438) (by decide +kernel) rfl
theorem wd_439 : (Jvm.Cond.code ({ cls := "CutStore", name := "cuts", desc := "(II)I" } : Jvm.MethodName) prog_1_method_12_code (3 : Nat) (Option.some Jvm.ClassFile.FieldType.int)) ∈ gTs := gTs_mem (i := 439) (by decide +kernel) rfl
theorem wd_440 : (Jvm.Cond.methodLink "CutStore" (136 : Nat) ({ cls := "CutStore$Cutter", name := "divide", desc := "(LCutStore$Rule;I)V" } : Jvm.MethodName)) ∈ gTs := gTs_mem (i := 440) (by decide +kernel) rfl
theorem wd_441 : (Jvm.Cond.instanceMethod ({ cls := "CutStore$Cutter", name := "divide", desc := "(LCutStore$Rule;I)V" } : Jvm.MethodName)) ∈ gTs := gTs_mem (i := 441) (by decide +kernel) rfl
theorem wd_442 : (Jvm.Cond.selects "CutStore$Cutter" ({ cls := "CutStore$Cutter", name := "divide", desc := "(LCutStore$Rule;I)V" } : Jvm.MethodName) ({ cls := "CutStore$Cutter", name := "divide", desc := "(LCutStore$Rule;I)V" } : Jvm.MethodName)) ∈ gTs := gTs_mem (i := 442) (by decide +kernel) rfl
theorem wd_443 : (Jvm.Cond.code ({ cls := "CutStore$Cutter", name := "divide", desc := "(LCutStore$Rule;I)V" } : Jvm.MethodName) prog_2_method_5_code (3 : Nat) (Option.none : Option Jvm.ClassFile.FieldType)) ∈ gTs := gTs_mem (i := 443) (by decide +kernel) rfl
theorem wd_444 : (Jvm.Cond.methodLink "CutStore$Cutter" (45 : Nat) ({ cls := "CutStore$Rule", name := "hasWindow", desc := "()Z" } : Jvm.MethodName)) ∈ gTs := gTs_mem (i := 444) (by decide +kernel) rfl
theorem wd_445 : (Jvm.Cond.methodLink "CutStore$Cutter" (49 : Nat) ({ cls := "CutStore$Cutter", name := "addUp", desc := "(LCutStore$Rule;I)V" } : Jvm.MethodName)) ∈ gTs := gTs_mem (i := 445) (by decide +kernel) rfl
theorem wd_446 : (Jvm.Cond.methodLink "CutStore$Cutter" (56 : Nat) ({ cls := "CutStore$Cutter", name := "endOfPiece", desc := "(LCutStore$Rule;I)I" } : Jvm.MethodName)) ∈ gTs := gTs_mem (i := 446) (by decide +kernel) rfl
theorem wd_448 : (Jvm.Cond.instanceMethod ({ cls := "CutStore$Cutter", name := "endOfPiece", desc := "(LCutStore$Rule;I)I" } : Jvm.MethodName)) ∈ gTs := gTs_mem (i := 448) (by decide +kernel) rfl
theorem wd_449 : (Jvm.Cond.code ({ cls := "CutStore$Cutter", name := "endOfPiece", desc := "(LCutStore$Rule;I)I" } : Jvm.MethodName) prog_2_method_6_code (7 : Nat) (Option.some Jvm.ClassFile.FieldType.int)) ∈ gTs := gTs_mem (i := 449) (by decide +kernel) rfl
theorem wd_450 : (Jvm.Cond.methodLink "CutStore$Cutter" (63 : Nat) ({ cls := "java/lang/Math", name := "min", desc := "(II)I" } : Jvm.MethodName)) ∈ gTs := gTs_mem (i := 450) (by decide +kernel) rfl
theorem wd_451 : (Jvm.Cond.static ({ cls := "java/lang/Math", name := "min", desc := "(II)I" } : Jvm.MethodName)) ∈ gTs := gTs_mem (i := 451) (by decide +kernel) rfl
theorem wd_452 : (Jvm.Cond.code ({ cls := "java/lang/Math", name := "min", desc := "(II)I" } : Jvm.MethodName) prog_12_method_69_code (2 : Nat) (Option.some Jvm.ClassFile.FieldType.int)) ∈ gTs := gTs_mem (i := 452) (by decide +kernel) rfl
theorem wd_453 : (Jvm.Cond.methodLink "CutStore$Cutter" (71 : Nat) ({ cls := "CutStore$Rule", name := "endsBehind", desc := "(II)Z" } : Jvm.MethodName)) ∈ gTs := gTs_mem (i := 453) (by decide +kernel) rfl
theorem wd_454 : (Jvm.Cond.instanceMethod ({ cls := "CutStore$Rule", name := "endsBehind", desc := "(II)Z" } : Jvm.MethodName)) ∈ gTs := gTs_mem (i := 454) (by decide +kernel) rfl
theorem wd_455 : (Jvm.Cond.selects "CutStore$Rule" ({ cls := "CutStore$Rule", name := "endsBehind", desc := "(II)Z" } : Jvm.MethodName) ({ cls := "CutStore$Rule", name := "endsBehind", desc := "(II)Z" } : Jvm.MethodName)) ∈ gTs := gTs_mem (i := 455) (by decide +kernel) rfl
theorem wd_456 : (Jvm.Cond.code ({ cls := "CutStore$Rule", name := "endsBehind", desc := "(II)Z" } : Jvm.MethodName) prog_6_method_5_code (3 : Nat) (Option.some Jvm.ClassFile.FieldType.boolean)) ∈ gTs := gTs_mem (i := 456) (by decide +kernel) rfl
theorem wd_457 : (Jvm.Cond.methodLink "CutStore$Rule" (28 : Nat) ({ cls := "CutStore$Rule", name := "hasSign", desc := "(II)Z" } : Jvm.MethodName)) ∈ gTs := gTs_mem (i := 457) (by decide +kernel) rfl
theorem wd_459 : (Jvm.Cond.instanceMethod ({ cls := "CutStore$Rule", name := "hasSign", desc := "(II)Z" } : Jvm.MethodName)) ∈ gTs := gTs_mem (i := 459) (by decide +kernel) rfl
theorem wd_460 : (Jvm.Cond.code ({ cls := "CutStore$Rule", name := "hasSign", desc := "(II)Z" } : Jvm.MethodName) prog_6_method_7_code (4 : Nat) (Option.some Jvm.ClassFile.FieldType.boolean)) ∈ gTs := gTs_mem (i := 460) (by decide +kernel) rfl
theorem wd_461 : (Jvm.Cond.methodLink "CutStore$Cutter" (75 : Nat) ({ cls := "CutStore$Rule", name := "mayEndBehind", desc := "(I)Z" } : Jvm.MethodName)) ∈ gTs := gTs_mem (i := 461) (by decide +kernel) rfl
theorem wd_462 : (Jvm.Cond.instanceMethod ({ cls := "CutStore$Rule", name := "mayEndBehind", desc := "(I)Z" } : Jvm.MethodName)) ∈ gTs := gTs_mem (i := 462) (by decide +kernel) rfl
theorem wd_463 : (Jvm.Cond.selects "CutStore$Rule" ({ cls := "CutStore$Rule", name := "mayEndBehind", desc := "(I)Z" } : Jvm.MethodName) ({ cls := "CutStore$Rule", name := "mayEndBehind", desc := "(I)Z" } : Jvm.MethodName)) ∈ gTs := gTs_mem (i := 463) (by decide +kernel) rfl
theorem wd_464 : (Jvm.Cond.code ({ cls := "CutStore$Rule", name := "mayEndBehind", desc := "(I)Z" } : Jvm.MethodName) prog_6_method_6_code (2 : Nat) (Option.some Jvm.ClassFile.FieldType.boolean)) ∈ gTs := gTs_mem (i := 464) (by decide +kernel) rfl
theorem wd_465 : (Jvm.Cond.methodLink "CutStore$Rule" (32 : Nat) ({ cls := "java/lang/Math", name := "max", desc := "(II)I" } : Jvm.MethodName)) ∈ gTs := gTs_mem (i := 465) (by decide +kernel) rfl
theorem wd_466 : (Jvm.Cond.static ({ cls := "java/lang/Math", name := "max", desc := "(II)I" } : Jvm.MethodName)) ∈ gTs := gTs_mem (i := 466) (by decide +kernel) rfl
theorem wd_467 : (Jvm.Cond.code ({ cls := "java/lang/Math", name := "max", desc := "(II)I" } : Jvm.MethodName) prog_12_method_65_code (2 : Nat) (Option.some Jvm.ClassFile.FieldType.int)) ∈ gTs := gTs_mem (i := 467) (by decide +kernel) rfl
theorem wd_468 : (Jvm.Cond.methodLink "CutStoreLaw" (65 : Nat) ({ cls := "CutStore", name := "cut", desc := "(III)I" } : Jvm.MethodName)) ∈ gTs := gTs_mem (i := 468) (by decide +kernel) rfl
theorem wd_469 : (Jvm.Cond.instanceMethod ({ cls := "CutStore", name := "cut", desc := "(III)I" } : Jvm.MethodName)) ∈ gTs := gTs_mem (i := 469) (by decide +kernel) rfl
theorem wd_470 : (Jvm.Cond.selects "CutStore" ({ cls := "CutStore", name := "cut", desc := "(III)I" } : Jvm.MethodName) ({ cls := "CutStore", name := "cut", desc := "(III)I" } : Jvm.MethodName)) ∈ gTs := gTs_mem (i := 470) (by decide +kernel) rfl
theorem wd_471 : (Jvm.Cond.code ({ cls := "CutStore", name := "cut", desc := "(III)I" } : Jvm.MethodName) prog_1_method_13_code (4 : Nat) (Option.some Jvm.ClassFile.FieldType.int)) ∈ gTs := gTs_mem (i := 471) (by decide +kernel) rfl
theorem wd_472 : (Jvm.Cond.methodLink "CutStoreLaw" (69 : Nat) ({ cls := "CutStore", name := "agree", desc := "(III)I" } : Jvm.MethodName)) ∈ gTs := gTs_mem (i := 472) (by decide +kernel) rfl
theorem wd_473 : (Jvm.Cond.instanceMethod ({ cls := "CutStore", name := "agree", desc := "(III)I" } : Jvm.MethodName)) ∈ gTs := gTs_mem (i := 473) (by decide +kernel) rfl
theorem wd_474 : (Jvm.Cond.selects "CutStore" ({ cls := "CutStore", name := "agree", desc := "(III)I" } : Jvm.MethodName) ({ cls := "CutStore", name := "agree", desc := "(III)I" } : Jvm.MethodName)) ∈ gTs := gTs_mem (i := 474) (by decide +kernel) rfl
theorem wd_475 : (Jvm.Cond.code ({ cls := "CutStore", name := "agree", desc := "(III)I" } : Jvm.MethodName) prog_1_method_14_code (6 : Nat) (Option.some Jvm.ClassFile.FieldType.int)) ∈ gTs := gTs_mem (i := 475) (by decide +kernel) rfl
theorem wd_476 : (Jvm.Cond.methodLink "CutStore" (145 : Nat) ({ cls := "java/lang/Math", name := "min", desc := "(II)I" } : Jvm.MethodName)) ∈ gTs := gTs_mem (i := 476) (by decide +kernel) rfl
theorem wd_477 : (Jvm.Cond.methodLink "CutStore" (150 : Nat) ({ cls := "CutStore", name := "agreesFromEnd", desc := "(I)Z" } : Jvm.MethodName)) ∈ gTs := gTs_mem (i := 477) (by decide +kernel) rfl
theorem wd_479 : (Jvm.Cond.instanceMethod ({ cls := "CutStore", name := "agreesFromEnd", desc := "(I)Z" } : Jvm.MethodName)) ∈ gTs := gTs_mem (i := 479) (by decide +kernel) rfl
theorem wd_480 : (Jvm.Cond.code ({ cls := "CutStore", name := "agreesFromEnd", desc := "(I)Z" } : Jvm.MethodName) prog_1_method_35_code (5 : Nat) (Option.some Jvm.ClassFile.FieldType.boolean)) ∈ gTs := gTs_mem (i := 480) (by decide +kernel) rfl
theorem wd_481 : (Jvm.Cond.methodLink "CutStore" (239 : Nat) ({ cls := "CutStore$Cutter", name := "lengthOf", desc := "(I)I" } : Jvm.MethodName)) ∈ gTs := gTs_mem (i := 481) (by decide +kernel) rfl
theorem wd_482 : (Jvm.Cond.instanceMethod ({ cls := "CutStore$Cutter", name := "lengthOf", desc := "(I)I" } : Jvm.MethodName)) ∈ gTs := gTs_mem (i := 482) (by decide +kernel) rfl
theorem wd_483 : (Jvm.Cond.selects "CutStore$Cutter" ({ cls := "CutStore$Cutter", name := "lengthOf", desc := "(I)I" } : Jvm.MethodName) ({ cls := "CutStore$Cutter", name := "lengthOf", desc := "(I)I" } : Jvm.MethodName)) ∈ gTs := gTs_mem (i := 483) (by decide +kernel) rfl
theorem wd_484 : (Jvm.Cond.code ({ cls := "CutStore$Cutter", name := "lengthOf", desc := "(I)I" } : Jvm.MethodName) prog_2_method_3_code (2 : Nat) (Option.some Jvm.ClassFile.FieldType.int)) ∈ gTs := gTs_mem (i := 484) (by decide +kernel) rfl
theorem wd_485 : (Jvm.Cond.methodLink "CutStore" (246 : Nat) ({ cls := "CutStore$Cutter", name := "startOf", desc := "(I)I" } : Jvm.MethodName)) ∈ gTs := gTs_mem (i := 485) (by decide +kernel) rfl
theorem wd_486 : (Jvm.Cond.instanceMethod ({ cls := "CutStore$Cutter", name := "startOf", desc := "(I)I" } : Jvm.MethodName)) ∈ gTs := gTs_mem (i := 486) (by decide +kernel) rfl
theorem wd_487 : (Jvm.Cond.selects "CutStore$Cutter" ({ cls := "CutStore$Cutter", name := "startOf", desc := "(I)I" } : Jvm.MethodName) ({ cls := "CutStore$Cutter", name := "startOf", desc := "(I)I" } : Jvm.MethodName)) ∈ gTs := gTs_mem (i := 487) (by decide +kernel) rfl
theorem wd_488 : (Jvm.Cond.code ({ cls := "CutStore$Cutter", name := "startOf", desc := "(I)I" } : Jvm.MethodName) prog_2_method_2_code (2 : Nat) (Option.some Jvm.ClassFile.FieldType.int)) ∈ gTs := gTs_mem (i := 488) (by decide +kernel) rfl
theorem wd_489 : (Jvm.Cond.methodLink "CutStore$Cutter" (26 : Nat) ({ cls := "CutStore$Files", name := "startOf", desc := "(I)I" } : Jvm.MethodName)) ∈ gTs := gTs_mem (i := 489) (by decide +kernel) rfl
theorem wd_490 : (Jvm.Cond.methodLink "CutStore" (249 : Nat) ({ cls := "CutStore", name := "areAlike", desc := "([BI[BII)Z" } : Jvm.MethodName)) ∈ gTs := gTs_mem (i := 490) (by decide +kernel) rfl
theorem wd_491 : (Jvm.Cond.static ({ cls := "CutStore", name := "areAlike", desc := "([BI[BII)Z" } : Jvm.MethodName)) ∈ gTs := gTs_mem (i := 491) (by decide +kernel) rfl
theorem wd_492 : (Jvm.Cond.code ({ cls := "CutStore", name := "areAlike", desc := "([BI[BII)Z" } : Jvm.MethodName) prog_1_method_38_code (6 : Nat) (Option.some Jvm.ClassFile.FieldType.boolean)) ∈ gTs := gTs_mem (i := 492) (by decide +kernel) rfl
theorem wd_493 : (Jvm.Cond.methodLink "CutStoreLaw" (73 : Nat) ({ cls := "CutStore", name := "sent", desc := "(III)I" } : Jvm.MethodName)) ∈ gTs := gTs_mem (i := 493) (by decide +kernel) rfl
theorem wd_494 : (Jvm.Cond.instanceMethod ({ cls := "CutStore", name := "sent", desc := "(III)I" } : Jvm.MethodName)) ∈ gTs := gTs_mem (i := 494) (by decide +kernel) rfl
theorem wd_495 : (Jvm.Cond.selects "CutStore" ({ cls := "CutStore", name := "sent", desc := "(III)I" } : Jvm.MethodName) ({ cls := "CutStore", name := "sent", desc := "(III)I" } : Jvm.MethodName)) ∈ gTs := gTs_mem (i := 495) (by decide +kernel) rfl
theorem wd_496 : (Jvm.Cond.code ({ cls := "CutStore", name := "sent", desc := "(III)I" } : Jvm.MethodName) prog_1_method_15_code (4 : Nat) (Option.some Jvm.ClassFile.FieldType.int)) ∈ gTs := gTs_mem (i := 496) (by decide +kernel) rfl
theorem wd_497 : (Jvm.Cond.methodLink "CutStore" (153 : Nat) ({ cls := "CutStore$Distinct", name := "clear", desc := "()V" } : Jvm.MethodName)) ∈ gTs := gTs_mem (i := 497) (by decide +kernel) rfl
theorem wd_498 : (Jvm.Cond.instanceMethod ({ cls := "CutStore$Distinct", name := "clear", desc := "()V" } : Jvm.MethodName)) ∈ gTs := gTs_mem (i := 498) (by decide +kernel) rfl
theorem wd_499 : (Jvm.Cond.selects "CutStore$Distinct" ({ cls := "CutStore$Distinct", name := "clear", desc := "()V" } : Jvm.MethodName) ({ cls := "CutStore$Distinct", name := "clear", desc := "()V" } : Jvm.MethodName)) ∈ gTs := gTs_mem (i := 499) (by decide +kernel) rfl
theorem wd_500 : (Jvm.Cond.code ({ cls := "CutStore$Distinct", name := "clear", desc := "()V" } : Jvm.MethodName) prog_3_method_2_code (1 : Nat) (Option.none : Option Jvm.ClassFile.FieldType)) ∈ gTs := gTs_mem (i := 500) (by decide +kernel) rfl
theorem wd_501 : (Jvm.Cond.methodLink "CutStore$Distinct" (22 : Nat) ({ cls := "java/util/Arrays", name := "fill", desc := "([II)V" } : Jvm.MethodName)) ∈ gTs := gTs_mem (i := 501) (by decide +kernel) rfl
theorem wd_502 : (Jvm.Cond.methodLink "CutStore" (156 : Nat) ({ cls := "CutStore$Distinct", name := "addPieces", desc := "(LCutStore$Cutter;)I" } : Jvm.MethodName)) ∈ gTs := gTs_mem (i := 502) (by decide +kernel) rfl
theorem wd_503 : (Jvm.Cond.instanceMethod ({ cls := "CutStore$Distinct", name := "addPieces", desc := "(LCutStore$Cutter;)I" } : Jvm.MethodName)) ∈ gTs := gTs_mem (i := 503) (by decide +kernel) rfl
theorem wd_504 : (Jvm.Cond.selects "CutStore$Distinct" ({ cls := "CutStore$Distinct", name := "addPieces", desc := "(LCutStore$Cutter;)I" } : Jvm.MethodName) ({ cls := "CutStore$Distinct", name := "addPieces", desc := "(LCutStore$Cutter;)I" } : Jvm.MethodName)) ∈ gTs := gTs_mem (i := 504) (by decide +kernel) rfl
theorem wd_505 : (Jvm.Cond.code ({ cls := "CutStore$Distinct", name := "addPieces", desc := "(LCutStore$Cutter;)I" } : Jvm.MethodName) prog_3_method_3_code (4 : Nat) (Option.some Jvm.ClassFile.FieldType.int)) ∈ gTs := gTs_mem (i := 505) (by decide +kernel) rfl
theorem wd_506 : (Jvm.Cond.methodLink "CutStore$Distinct" (37 : Nat) ({ cls := "CutStore$Cutter", name := "startOf", desc := "(I)I" } : Jvm.MethodName)) ∈ gTs := gTs_mem (i := 506) (by decide +kernel) rfl
theorem wd_507 : (Jvm.Cond.methodLink "CutStore$Distinct" (41 : Nat) ({ cls := "CutStore$Cutter", name := "lengthOf", desc := "(I)I" } : Jvm.MethodName)) ∈ gTs := gTs_mem (i := 507) (by decide +kernel) rfl
theorem wd_508 : (Jvm.Cond.methodLink "CutStore$Distinct" (44 : Nat) ({ cls := "CutStore$Distinct", name := "addPiece", desc := "(II)Z" } : Jvm.MethodName)) ∈ gTs := gTs_mem (i := 508) (by decide +kernel) rfl
theorem wd_510 : (Jvm.Cond.instanceMethod ({ cls := "CutStore$Distinct", name := "addPiece", desc := "(II)Z" } : Jvm.MethodName)) ∈ gTs := gTs_mem (i := 510) (by decide +kernel) rfl
theorem wd_511 : (Jvm.Cond.code ({ cls := "CutStore$Distinct", name := "addPiece", desc := "(II)Z" } : Jvm.MethodName) prog_3_method_4_code (6 : Nat) (Option.some Jvm.ClassFile.FieldType.boolean)) ∈ gTs := gTs_mem (i := 511) (by decide +kernel) rfl
theorem wd_512 : (Jvm.Cond.methodLink "CutStore$Distinct" (48 : Nat) ({ cls := "CutStore$Distinct", name := "homeOf", desc := "(II)I" } : Jvm.MethodName)) ∈ gTs := gTs_mem (i := 512) (by decide +kernel) rfl
theorem wd_514 : (Jvm.Cond.instanceMethod ({ cls := "CutStore$Distinct", name := "homeOf", desc := "(II)I" } : Jvm.MethodName)) ∈ gTs := gTs_mem (i := 514) (by decide +kernel) rfl
theorem wd_515 : (Jvm.Cond.code ({ cls := "CutStore$Distinct", name := "homeOf", desc := "(II)I" } : Jvm.MethodName) prog_3_method_5_code (5 : Nat) (Option.some Jvm.ClassFile.FieldType.int)) ∈ gTs := gTs_mem (i := 515) (by decide +kernel) rfl
theorem wn_516 : (Jvm.Cond.methodLinkNest "CutStore$Distinct" (62 : Nat) ({ cls := "CutStore", name := "spread", desc := "(I)I" } : Jvm.MethodName) "CutStore") ∈ lw_tbl := List.mem_of_getElem? (i := 516) (by decide +kernel)
theorem wd_517 : (Jvm.Cond.static ({ cls := "CutStore", name := "spread", desc := "(I)I" } : Jvm.MethodName)) ∈ gTs := gTs_mem (i := 517) (by decide +kernel) rfl
theorem wd_518 : (Jvm.Cond.code ({ cls := "CutStore", name := "spread", desc := "(I)I" } : Jvm.MethodName) prog_1_method_39_code (1 : Nat) (Option.some Jvm.ClassFile.FieldType.int)) ∈ gTs := gTs_mem (i := 518) (by decide +kernel) rfl
theorem wd_519 : (Jvm.Cond.constant "CutStore" (256 : Nat) (-1640531535 : Int32)) ∈ gTs := gTs_mem (i := 519) (by decide +kernel) rfl
theorem wn_520 : (Jvm.Cond.methodLinkNest "CutStore$Distinct" (58 : Nat) ({ cls := "CutStore", name := "areAlike", desc := "([BI[BII)Z" } : Jvm.MethodName) "CutStore") ∈ lw_tbl := List.mem_of_getElem? (i := 520) (by decide +kernel)
theorem wd_521 : (Jvm.Cond.methodLink "CutStoreLaw" (77 : Nat) ({ cls := "CutStore", name := "cost", desc := "(II)I" } : Jvm.MethodName)) ∈ gTs := gTs_mem (i := 521) (by decide +kernel) rfl
theorem wd_522 : (Jvm.Cond.instanceMethod ({ cls := "CutStore", name := "cost", desc := "(II)I" } : Jvm.MethodName)) ∈ gTs := gTs_mem (i := 522) (by decide +kernel) rfl
theorem wd_523 : (Jvm.Cond.selects "CutStore" ({ cls := "CutStore", name := "cost", desc := "(II)I" } : Jvm.MethodName) ({ cls := "CutStore", name := "cost", desc := "(II)I" } : Jvm.MethodName)) ∈ gTs := gTs_mem (i := 523) (by decide +kernel) rfl
theorem wd_524 : (Jvm.Cond.code ({ cls := "CutStore", name := "cost", desc := "(II)I" } : Jvm.MethodName) prog_1_method_16_code (3 : Nat) (Option.some Jvm.ClassFile.FieldType.int)) ∈ gTs := gTs_mem (i := 524) (by decide +kernel) rfl
theorem wd_525 : (Jvm.Cond.methodLink "CutStore" (160 : Nat) ({ cls := "CutStore", name := "roomByRule", desc := "(LCutStore$Rule;I)I" } : Jvm.MethodName)) ∈ gTs := gTs_mem (i := 525) (by decide +kernel) rfl
theorem wd_527 : (Jvm.Cond.instanceMethod ({ cls := "CutStore", name := "roomByRule", desc := "(LCutStore$Rule;I)I" } : Jvm.MethodName)) ∈ gTs := gTs_mem (i := 527) (by decide +kernel) rfl
theorem wd_528 : (Jvm.Cond.code ({ cls := "CutStore", name := "roomByRule", desc := "(LCutStore$Rule;I)I" } : Jvm.MethodName) prog_1_method_36_code (6 : Nat) (Option.some Jvm.ClassFile.FieldType.int)) ∈ gTs := gTs_mem (i := 528) (by decide +kernel) rfl
theorem wd_529 : (Jvm.Cond.methodLink "CutStore" (203 : Nat) ({ cls := "CutStore", name := "roomOf", desc := "(III)I" } : Jvm.MethodName)) ∈ gTs := gTs_mem (i := 529) (by decide +kernel) rfl
theorem wd_531 : (Jvm.Cond.instanceMethod ({ cls := "CutStore", name := "roomOf", desc := "(III)I" } : Jvm.MethodName)) ∈ gTs := gTs_mem (i := 531) (by decide +kernel) rfl
theorem wd_532 : (Jvm.Cond.code ({ cls := "CutStore", name := "roomOf", desc := "(III)I" } : Jvm.MethodName) prog_1_method_37_code (4 : Nat) (Option.some Jvm.ClassFile.FieldType.int)) ∈ gTs := gTs_mem (i := 532) (by decide +kernel) rfl
theorem wd_533 : (Jvm.Cond.methodLink "CutStoreLaw" (81 : Nat) ({ cls := "CutStore", name := "best", desc := "(I)I" } : Jvm.MethodName)) ∈ gTs := gTs_mem (i := 533) (by decide +kernel) rfl
theorem wd_534 : (Jvm.Cond.instanceMethod ({ cls := "CutStore", name := "best", desc := "(I)I" } : Jvm.MethodName)) ∈ gTs := gTs_mem (i := 534) (by decide +kernel) rfl
theorem wd_535 : (Jvm.Cond.selects "CutStore" ({ cls := "CutStore", name := "best", desc := "(I)I" } : Jvm.MethodName) ({ cls := "CutStore", name := "best", desc := "(I)I" } : Jvm.MethodName)) ∈ gTs := gTs_mem (i := 535) (by decide +kernel) rfl
theorem wd_536 : (Jvm.Cond.code ({ cls := "CutStore", name := "best", desc := "(I)I" } : Jvm.MethodName) prog_1_method_17_code (6 : Nat) (Option.some Jvm.ClassFile.FieldType.int)) ∈ gTs := gTs_mem (i := 536) (by decide +kernel) rfl
theorem wd_537 : (Jvm.Cond.methodLink "CutStoreLaw" (86 : Nat) ({ cls := "CutStore", name := "keep", desc := "(II)I" } : Jvm.MethodName)) ∈ gTs := gTs_mem (i := 537) (by decide +kernel) rfl
theorem wd_538 : (Jvm.Cond.instanceMethod ({ cls := "CutStore", name := "keep", desc := "(II)I" } : Jvm.MethodName)) ∈ gTs := gTs_mem (i := 538) (by decide +kernel) rfl
theorem wd_539 : (Jvm.Cond.selects "CutStore" ({ cls := "CutStore", name := "keep", desc := "(II)I" } : Jvm.MethodName) ({ cls := "CutStore", name := "keep", desc := "(II)I" } : Jvm.MethodName)) ∈ gTs := gTs_mem (i := 539) (by decide +kernel) rfl
theorem wd_540 : (Jvm.Cond.code ({ cls := "CutStore", name := "keep", desc := "(II)I" } : Jvm.MethodName) prog_1_method_18_code (3 : Nat) (Option.some Jvm.ClassFile.FieldType.int)) ∈ gTs := gTs_mem (i := 540) (by decide +kernel) rfl
theorem wd_541 : (Jvm.Cond.methodLink "CutStore" (164 : Nat) ({ cls := "CutStore$Store", name := "take", desc := "(LCutStore$Cutter;I)I" } : Jvm.MethodName)) ∈ gTs := gTs_mem (i := 541) (by decide +kernel) rfl
theorem wd_542 : (Jvm.Cond.instanceMethod ({ cls := "CutStore$Store", name := "take", desc := "(LCutStore$Cutter;I)I" } : Jvm.MethodName)) ∈ gTs := gTs_mem (i := 542) (by decide +kernel) rfl
theorem wd_543 : (Jvm.Cond.selects "CutStore$Store" ({ cls := "CutStore$Store", name := "take", desc := "(LCutStore$Cutter;I)I" } : Jvm.MethodName) ({ cls := "CutStore$Store", name := "take", desc := "(LCutStore$Cutter;I)I" } : Jvm.MethodName)) ∈ gTs := gTs_mem (i := 543) (by decide +kernel) rfl
theorem wd_544 : (Jvm.Cond.code ({ cls := "CutStore$Store", name := "take", desc := "(LCutStore$Cutter;I)I" } : Jvm.MethodName) prog_7_method_2_code (7 : Nat) (Option.some Jvm.ClassFile.FieldType.int)) ∈ gTs := gTs_mem (i := 544) (by decide +kernel) rfl
theorem wd_545 : (Jvm.Cond.methodLink "CutStore$Store" (59 : Nat) ({ cls := "CutStore$Cutter", name := "startOf", desc := "(I)I" } : Jvm.MethodName)) ∈ gTs := gTs_mem (i := 545) (by decide +kernel) rfl
theorem wd_546 : (Jvm.Cond.methodLink "CutStore$Store" (63 : Nat) ({ cls := "CutStore$Cutter", name := "lengthOf", desc := "(I)I" } : Jvm.MethodName)) ∈ gTs := gTs_mem (i := 546) (by decide +kernel) rfl
theorem wd_547 : (Jvm.Cond.methodLink "CutStore$Store" (66 : Nat) ({ cls := "CutStore$Store", name := "share", desc := "(II)I" } : Jvm.MethodName)) ∈ gTs := gTs_mem (i := 547) (by decide +kernel) rfl
theorem wd_549 : (Jvm.Cond.instanceMethod ({ cls := "CutStore$Store", name := "share", desc := "(II)I" } : Jvm.MethodName)) ∈ gTs := gTs_mem (i := 549) (by decide +kernel) rfl
theorem wd_550 : (Jvm.Cond.code ({ cls := "CutStore$Store", name := "share", desc := "(II)I" } : Jvm.MethodName) prog_7_method_8_code (5 : Nat) (Option.some Jvm.ClassFile.FieldType.int)) ∈ gTs := gTs_mem (i := 550) (by decide +kernel) rfl
theorem wd_551 : (Jvm.Cond.methodLink "CutStore$Store" (91 : Nat) ({ cls := "CutStore$Store", name := "printOf", desc := "(II)I" } : Jvm.MethodName)) ∈ gTs := gTs_mem (i := 551) (by decide +kernel) rfl
theorem wd_553 : (Jvm.Cond.instanceMethod ({ cls := "CutStore$Store", name := "printOf", desc := "(II)I" } : Jvm.MethodName)) ∈ gTs := gTs_mem (i := 553) (by decide +kernel) rfl
theorem wd_554 : (Jvm.Cond.code ({ cls := "CutStore$Store", name := "printOf", desc := "(II)I" } : Jvm.MethodName) prog_7_method_11_code (5 : Nat) (Option.some Jvm.ClassFile.FieldType.int)) ∈ gTs := gTs_mem (i := 554) (by decide +kernel) rfl
theorem wd_555 : (Jvm.Cond.methodLink "CutStore$Store" (94 : Nat) ({ cls := "CutStore$Store", name := "findAlike", desc := "(III)I" } : Jvm.MethodName)) ∈ gTs := gTs_mem (i := 555) (by decide +kernel) rfl
theorem wd_557 : (Jvm.Cond.instanceMethod ({ cls := "CutStore$Store", name := "findAlike", desc := "(III)I" } : Jvm.MethodName)) ∈ gTs := gTs_mem (i := 557) (by decide +kernel) rfl
theorem wd_558 : (Jvm.Cond.code ({ cls := "CutStore$Store", name := "findAlike", desc := "(III)I" } : Jvm.MethodName) prog_7_method_9_code (6 : Nat) (Option.some Jvm.ClassFile.FieldType.int)) ∈ gTs := gTs_mem (i := 558) (by decide +kernel) rfl
theorem wn_559 : (Jvm.Cond.methodLinkNest "CutStore$Store" (107 : Nat) ({ cls := "CutStore", name := "areAlike", desc := "([BI[BII)Z" } : Jvm.MethodName) "CutStore") ∈ lw_tbl := List.mem_of_getElem? (i := 559) (by decide +kernel)
theorem wd_560 : (Jvm.Cond.methodLink "CutStore$Store" (98 : Nat) ({ cls := "CutStore$Store", name := "leastFree", desc := "()I" } : Jvm.MethodName)) ∈ gTs := gTs_mem (i := 560) (by decide +kernel) rfl
theorem wd_562 : (Jvm.Cond.instanceMethod ({ cls := "CutStore$Store", name := "leastFree", desc := "()I" } : Jvm.MethodName)) ∈ gTs := gTs_mem (i := 562) (by decide +kernel) rfl
theorem wd_563 : (Jvm.Cond.code ({ cls := "CutStore$Store", name := "leastFree", desc := "()I" } : Jvm.MethodName) prog_7_method_10_code (2 : Nat) (Option.some Jvm.ClassFile.FieldType.int)) ∈ gTs := gTs_mem (i := 563) (by decide +kernel) rfl
theorem wd_564 : (Jvm.Cond.methodLink "CutStore$Store" (102 : Nat) ({ cls := "CutStore$Store", name := "addPiece", desc := "(IIII)V" } : Jvm.MethodName)) ∈ gTs := gTs_mem (i := 564) (by decide +kernel) rfl
theorem wd_566 : (Jvm.Cond.instanceMethod ({ cls := "CutStore$Store", name := "addPiece", desc := "(IIII)V" } : Jvm.MethodName)) ∈ gTs := gTs_mem (i := 566) (by decide +kernel) rfl
theorem wd_567 : (Jvm.Cond.code ({ cls := "CutStore$Store", name := "addPiece", desc := "(IIII)V" } : Jvm.MethodName) prog_7_method_12_code (5 : Nat) (Option.none : Option Jvm.ClassFile.FieldType)) ∈ gTs := gTs_mem (i := 567) (by decide +kernel) rfl
theorem wd_568 : (Jvm.Cond.methodLink "CutStore$Store" (73 : Nat) ({ cls := "java/lang/System", name := "arraycopy", desc := "(Ljava/lang/Object;ILjava/lang/Object;II)V" } : Jvm.MethodName)) ∈ gTs := gTs_mem (i := 568) (by decide +kernel) rfl
theorem wd_569 : (Jvm.Cond.methodLink "CutStore$Store" (70 : Nat) ({ cls := "CutStore$Store", name := "release", desc := "([II)V" } : Jvm.MethodName)) ∈ gTs := gTs_mem (i := 569) (by decide +kernel) rfl
theorem wd_571 : (Jvm.Cond.instanceMethod ({ cls := "CutStore$Store", name := "release", desc := "([II)V" } : Jvm.MethodName)) ∈ gTs := gTs_mem (i := 571) (by decide +kernel) rfl
theorem wd_572 : (Jvm.Cond.code ({ cls := "CutStore$Store", name := "release", desc := "([II)V" } : Jvm.MethodName) prog_7_method_13_code (5 : Nat) (Option.none : Option Jvm.ClassFile.FieldType)) ∈ gTs := gTs_mem (i := 572) (by decide +kernel) rfl
theorem wd_573 : (Jvm.Cond.methodLink "CutStore$Store" (114 : Nat) ({ cls := "CutStore$Store", name := "removePiece", desc := "(I)V" } : Jvm.MethodName)) ∈ gTs := gTs_mem (i := 573) (by decide +kernel) rfl
theorem wd_575 : (Jvm.Cond.instanceMethod ({ cls := "CutStore$Store", name := "removePiece", desc := "(I)V" } : Jvm.MethodName)) ∈ gTs := gTs_mem (i := 575) (by decide +kernel) rfl
theorem wd_576 : (Jvm.Cond.code ({ cls := "CutStore$Store", name := "removePiece", desc := "(I)V" } : Jvm.MethodName) prog_7_method_14_code (4 : Nat) (Option.none : Option Jvm.ClassFile.FieldType)) ∈ gTs := gTs_mem (i := 576) (by decide +kernel) rfl
theorem wd_577 : (Jvm.Cond.methodLink "CutStoreLaw" (90 : Nat) ({ cls := "CutStore", name := "drop", desc := "(I)I" } : Jvm.MethodName)) ∈ gTs := gTs_mem (i := 577) (by decide +kernel) rfl
theorem wd_578 : (Jvm.Cond.instanceMethod ({ cls := "CutStore", name := "drop", desc := "(I)I" } : Jvm.MethodName)) ∈ gTs := gTs_mem (i := 578) (by decide +kernel) rfl
theorem wd_579 : (Jvm.Cond.selects "CutStore" ({ cls := "CutStore", name := "drop", desc := "(I)I" } : Jvm.MethodName) ({ cls := "CutStore", name := "drop", desc := "(I)I" } : Jvm.MethodName)) ∈ gTs := gTs_mem (i := 579) (by decide +kernel) rfl
theorem wd_580 : (Jvm.Cond.code ({ cls := "CutStore", name := "drop", desc := "(I)I" } : Jvm.MethodName) prog_1_method_19_code (2 : Nat) (Option.some Jvm.ClassFile.FieldType.int)) ∈ gTs := gTs_mem (i := 580) (by decide +kernel) rfl
theorem wd_581 : (Jvm.Cond.methodLink "CutStore" (168 : Nat) ({ cls := "CutStore", name := "isKept", desc := "(I)Z" } : Jvm.MethodName)) ∈ gTs := gTs_mem (i := 581) (by decide +kernel) rfl
theorem wd_583 : (Jvm.Cond.instanceMethod ({ cls := "CutStore", name := "isKept", desc := "(I)Z" } : Jvm.MethodName)) ∈ gTs := gTs_mem (i := 583) (by decide +kernel) rfl
theorem wd_584 : (Jvm.Cond.code ({ cls := "CutStore", name := "isKept", desc := "(I)Z" } : Jvm.MethodName) prog_1_method_34_code (2 : Nat) (Option.some Jvm.ClassFile.FieldType.boolean)) ∈ gTs := gTs_mem (i := 584) (by decide +kernel) rfl
theorem wd_585 : (Jvm.Cond.methodLink "CutStore" (171 : Nat) ({ cls := "CutStore$Store", name := "letGo", desc := "(I)I" } : Jvm.MethodName)) ∈ gTs := gTs_mem (i := 585) (by decide +kernel) rfl
theorem wd_586 : (Jvm.Cond.instanceMethod ({ cls := "CutStore$Store", name := "letGo", desc := "(I)I" } : Jvm.MethodName)) ∈ gTs := gTs_mem (i := 586) (by decide +kernel) rfl
theorem wd_587 : (Jvm.Cond.selects "CutStore$Store" ({ cls := "CutStore$Store", name := "letGo", desc := "(I)I" } : Jvm.MethodName) ({ cls := "CutStore$Store", name := "letGo", desc := "(I)I" } : Jvm.MethodName)) ∈ gTs := gTs_mem (i := 587) (by decide +kernel) rfl
theorem wd_588 : (Jvm.Cond.code ({ cls := "CutStore$Store", name := "letGo", desc := "(I)I" } : Jvm.MethodName) prog_7_method_3_code (3 : Nat) (Option.some Jvm.ClassFile.FieldType.int)) ∈ gTs := gTs_mem (i := 588) (by decide +kernel) rfl
theorem wd_589 : (Jvm.Cond.methodLink "CutStoreLaw" (94 : Nat) ({ cls := "CutStore", name := "bring", desc := "(I)I" } : Jvm.MethodName)) ∈ gTs := gTs_mem (i := 589) (by decide +kernel) rfl
theorem wd_590 : (Jvm.Cond.instanceMethod ({ cls := "CutStore", name := "bring", desc := "(I)I" } : Jvm.MethodName)) ∈ gTs := gTs_mem (i := 590) (by decide +kernel) rfl
theorem wd_591 : (Jvm.Cond.selects "CutStore" ({ cls := "CutStore", name := "bring", desc := "(I)I" } : Jvm.MethodName) ({ cls := "CutStore", name := "bring", desc := "(I)I" } : Jvm.MethodName)) ∈ gTs := gTs_mem (i := 591) (by decide +kernel) rfl
theorem wd_592 : (Jvm.Cond.code ({ cls := "CutStore", name := "bring", desc := "(I)I" } : Jvm.MethodName) prog_1_method_20_code (2 : Nat) (Option.some Jvm.ClassFile.FieldType.int)) ∈ gTs := gTs_mem (i := 592) (by decide +kernel) rfl
theorem wd_593 : (Jvm.Cond.methodLink "CutStore" (175 : Nat) ({ cls := "CutStore$Store", name := "restore", desc := "(I)V" } : Jvm.MethodName)) ∈ gTs := gTs_mem (i := 593) (by decide +kernel) rfl
theorem wd_594 : (Jvm.Cond.instanceMethod ({ cls := "CutStore$Store", name := "restore", desc := "(I)V" } : Jvm.MethodName)) ∈ gTs := gTs_mem (i := 594) (by decide +kernel) rfl
theorem wd_595 : (Jvm.Cond.selects "CutStore$Store" ({ cls := "CutStore$Store", name := "restore", desc := "(I)V" } : Jvm.MethodName) ({ cls := "CutStore$Store", name := "restore", desc := "(I)V" } : Jvm.MethodName)) ∈ gTs := gTs_mem (i := 595) (by decide +kernel) rfl
theorem wd_596 : (Jvm.Cond.code ({ cls := "CutStore$Store", name := "restore", desc := "(I)V" } : Jvm.MethodName) prog_7_method_4_code (4 : Nat) (Option.none : Option Jvm.ClassFile.FieldType)) ∈ gTs := gTs_mem (i := 596) (by decide +kernel) rfl
theorem wd_597 : (Jvm.Cond.methodLink "CutStore$Store" (82 : Nat) ({ cls := "CutStore$Files", name := "addBytes", desc := "(I[BII)V" } : Jvm.MethodName)) ∈ gTs := gTs_mem (i := 597) (by decide +kernel) rfl
theorem wd_598 : (Jvm.Cond.instanceMethod ({ cls := "CutStore$Files", name := "addBytes", desc := "(I[BII)V" } : Jvm.MethodName)) ∈ gTs := gTs_mem (i := 598) (by decide +kernel) rfl
theorem wd_599 : (Jvm.Cond.selects "CutStore$Files" ({ cls := "CutStore$Files", name := "addBytes", desc := "(I[BII)V" } : Jvm.MethodName) ({ cls := "CutStore$Files", name := "addBytes", desc := "(I[BII)V" } : Jvm.MethodName)) ∈ gTs := gTs_mem (i := 599) (by decide +kernel) rfl
theorem wd_600 : (Jvm.Cond.code ({ cls := "CutStore$Files", name := "addBytes", desc := "(I[BII)V" } : Jvm.MethodName) prog_4_method_5_code (5 : Nat) (Option.none : Option Jvm.ClassFile.FieldType)) ∈ gTs := gTs_mem (i := 600) (by decide +kernel) rfl
theorem wd_601 : (Jvm.Cond.methodLink "CutStoreLaw" (98 : Nat) ({ cls := "CutStore", name := "jumps", desc := "(I)I" } : Jvm.MethodName)) ∈ gTs := gTs_mem (i := 601) (by decide +kernel) rfl
theorem wd_602 : (Jvm.Cond.instanceMethod ({ cls := "CutStore", name := "jumps", desc := "(I)I" } : Jvm.MethodName)) ∈ gTs := gTs_mem (i := 602) (by decide +kernel) rfl
theorem wd_603 : (Jvm.Cond.selects "CutStore" ({ cls := "CutStore", name := "jumps", desc := "(I)I" } : Jvm.MethodName) ({ cls := "CutStore", name := "jumps", desc := "(I)I" } : Jvm.MethodName)) ∈ gTs := gTs_mem (i := 603) (by decide +kernel) rfl
theorem wd_604 : (Jvm.Cond.code ({ cls := "CutStore", name := "jumps", desc := "(I)I" } : Jvm.MethodName) prog_1_method_21_code (2 : Nat) (Option.some Jvm.ClassFile.FieldType.int)) ∈ gTs := gTs_mem (i := 604) (by decide +kernel) rfl
theorem wd_605 : (Jvm.Cond.methodLink "CutStore" (178 : Nat) ({ cls := "CutStore$Store", name := "countJumps", desc := "(I)I" } : Jvm.MethodName)) ∈ gTs := gTs_mem (i := 605) (by decide +kernel) rfl
theorem wd_606 : (Jvm.Cond.instanceMethod ({ cls := "CutStore$Store", name := "countJumps", desc := "(I)I" } : Jvm.MethodName)) ∈ gTs := gTs_mem (i := 606) (by decide +kernel) rfl
theorem wd_607 : (Jvm.Cond.selects "CutStore$Store" ({ cls := "CutStore$Store", name := "countJumps", desc := "(I)I" } : Jvm.MethodName) ({ cls := "CutStore$Store", name := "countJumps", desc := "(I)I" } : Jvm.MethodName)) ∈ gTs := gTs_mem (i := 607) (by decide +kernel) rfl
theorem wd_608 : (Jvm.Cond.code ({ cls := "CutStore$Store", name := "countJumps", desc := "(I)I" } : Jvm.MethodName) prog_7_method_5_code (4 : Nat) (Option.some Jvm.ClassFile.FieldType.int)) ∈ gTs := gTs_mem (i := 608) (by decide +kernel) rfl
theorem wd_609 : (Jvm.Cond.methodLink "CutStoreLaw" (102 : Nat) ({ cls := "CutStore", name := "number", desc := "(II)I" } : Jvm.MethodName)) ∈ gTs := gTs_mem (i := 609) (by decide +kernel) rfl
theorem wd_610 : (Jvm.Cond.instanceMethod ({ cls := "CutStore", name := "number", desc := "(II)I" } : Jvm.MethodName)) ∈ gTs := gTs_mem (i := 610) (by decide +kernel) rfl
theorem wd_611 : (Jvm.Cond.selects "CutStore" ({ cls := "CutStore", name := "number", desc := "(II)I" } : Jvm.MethodName) ({ cls := "CutStore", name := "number", desc := "(II)I" } : Jvm.MethodName)) ∈ gTs := gTs_mem (i := 611) (by decide +kernel) rfl
theorem wd_612 : (Jvm.Cond.code ({ cls := "CutStore", name := "number", desc := "(II)I" } : Jvm.MethodName) prog_1_method_22_code (3 : Nat) (Option.some Jvm.ClassFile.FieldType.int)) ∈ gTs := gTs_mem (i := 612) (by decide +kernel) rfl
theorem wd_613 : (Jvm.Cond.methodLink "CutStoreLaw" (106 : Nat) ({ cls := "CutStore", name := "piece", desc := "(II)I" } : Jvm.MethodName)) ∈ gTs := gTs_mem (i := 613) (by decide +kernel) rfl
theorem wd_614 : (Jvm.Cond.instanceMethod ({ cls := "CutStore", name := "piece", desc := "(II)I" } : Jvm.MethodName)) ∈ gTs := gTs_mem (i := 614) (by decide +kernel) rfl
theorem wd_615 : (Jvm.Cond.selects "CutStore" ({ cls := "CutStore", name := "piece", desc := "(II)I" } : Jvm.MethodName) ({ cls := "CutStore", name := "piece", desc := "(II)I" } : Jvm.MethodName)) ∈ gTs := gTs_mem (i := 615) (by decide +kernel) rfl
theorem wd_616 : (Jvm.Cond.code ({ cls := "CutStore", name := "piece", desc := "(II)I" } : Jvm.MethodName) prog_1_method_23_code (3 : Nat) (Option.some Jvm.ClassFile.FieldType.int)) ∈ gTs := gTs_mem (i := 616) (by decide +kernel) rfl
theorem wd_617 : (Jvm.Cond.methodLink "CutStoreLaw" (110 : Nat) ({ cls := "CutStore", name := "count", desc := "(I)I" } : Jvm.MethodName)) ∈ gTs := gTs_mem (i := 617) (by decide +kernel) rfl
theorem wd_618 : (Jvm.Cond.instanceMethod ({ cls := "CutStore", name := "count", desc := "(I)I" } : Jvm.MethodName)) ∈ gTs := gTs_mem (i := 618) (by decide +kernel) rfl
theorem wd_619 : (Jvm.Cond.selects "CutStore" ({ cls := "CutStore", name := "count", desc := "(I)I" } : Jvm.MethodName) ({ cls := "CutStore", name := "count", desc := "(I)I" } : Jvm.MethodName)) ∈ gTs := gTs_mem (i := 619) (by decide +kernel) rfl
theorem wd_620 : (Jvm.Cond.code ({ cls := "CutStore", name := "count", desc := "(I)I" } : Jvm.MethodName) prog_1_method_24_code (2 : Nat) (Option.some Jvm.ClassFile.FieldType.int)) ∈ gTs := gTs_mem (i := 620) (by decide +kernel) rfl
theorem wd_621 : (Jvm.Cond.methodLink "CutStore" (199 : Nat) ({ cls := "CutStore$Store", name := "countNumbers", desc := "()I" } : Jvm.MethodName)) ∈ gTs := gTs_mem (i := 621) (by decide +kernel) rfl
theorem wd_622 : (Jvm.Cond.instanceMethod ({ cls := "CutStore$Store", name := "countNumbers", desc := "()I" } : Jvm.MethodName)) ∈ gTs := gTs_mem (i := 622) (by decide +kernel) rfl
theorem wd_623 : (Jvm.Cond.selects "CutStore$Store" ({ cls := "CutStore$Store", name := "countNumbers", desc := "()I" } : Jvm.MethodName) ({ cls := "CutStore$Store", name := "countNumbers", desc := "()I" } : Jvm.MethodName)) ∈ gTs := gTs_mem (i := 623) (by decide +kernel) rfl
theorem wd_624 : (Jvm.Cond.code ({ cls := "CutStore$Store", name := "countNumbers", desc := "()I" } : Jvm.MethodName) prog_7_method_6_code (3 : Nat) (Option.some Jvm.ClassFile.FieldType.int)) ∈ gTs := gTs_mem (i := 624) (by decide +kernel) rfl
theorem wd_625 : (Jvm.Cond.methodLink "CutStore$Store" (86 : Nat) ({ cls := "java/lang/Math", name := "max", desc := "(II)I" } : Jvm.MethodName)) ∈ gTs := gTs_mem (i := 625) (by decide +kernel) rfl
theorem wd_626 : (Jvm.Cond.methodLink "CutStore" (210 : Nat) ({ cls := "CutStore$Store", name := "countKeptFiles", desc := "()I" } : Jvm.MethodName)) ∈ gTs := gTs_mem (i := 626) (by decide +kernel) rfl
theorem wd_627 : (Jvm.Cond.instanceMethod ({ cls := "CutStore$Store", name := "countKeptFiles", desc := "()I" } : Jvm.MethodName)) ∈ gTs := gTs_mem (i := 627) (by decide +kernel) rfl
theorem wd_628 : (Jvm.Cond.selects "CutStore$Store" ({ cls := "CutStore$Store", name := "countKeptFiles", desc := "()I" } : Jvm.MethodName) ({ cls := "CutStore$Store", name := "countKeptFiles", desc := "()I" } : Jvm.MethodName)) ∈ gTs := gTs_mem (i := 628) (by decide +kernel) rfl
theorem wd_629 : (Jvm.Cond.code ({ cls := "CutStore$Store", name := "countKeptFiles", desc := "()I" } : Jvm.MethodName) prog_7_method_7_code (3 : Nat) (Option.some Jvm.ClassFile.FieldType.int)) ∈ gTs := gTs_mem (i := 629) (by decide +kernel) rfl
theorem wd_630 : (Jvm.Cond.methodLink "CutStoreLaw" (114 : Nat) ({ cls := "CutStore", name := "prices", desc := "(II)Z" } : Jvm.MethodName)) ∈ gTs := gTs_mem (i := 630) (by decide +kernel) rfl
theorem wd_631 : (Jvm.Cond.instanceMethod ({ cls := "CutStore", name := "prices", desc := "(II)Z" } : Jvm.MethodName)) ∈ gTs := gTs_mem (i := 631) (by decide +kernel) rfl
theorem wd_632 : (Jvm.Cond.selects "CutStore" ({ cls := "CutStore", name := "prices", desc := "(II)Z" } : Jvm.MethodName) ({ cls := "CutStore", name := "prices", desc := "(II)Z" } : Jvm.MethodName)) ∈ gTs := gTs_mem (i := 632) (by decide +kernel) rfl
theorem wd_633 : (Jvm.Cond.code ({ cls := "CutStore", name := "prices", desc := "(II)Z" } : Jvm.MethodName) prog_1_method_25_code (3 : Nat) (Option.some Jvm.ClassFile.FieldType.boolean)) ∈ gTs := gTs_mem (i := 633) (by decide +kernel) rfl
theorem wd_634 : (Jvm.Cond.methodLink "CutStoreLaw" (118 : Nat) ({ cls := "CutStore", name := "supers", desc := "()I" } : Jvm.MethodName)) ∈ gTs := gTs_mem (i := 634) (by decide +kernel) rfl
theorem wd_635 : (Jvm.Cond.instanceMethod ({ cls := "CutStore", name := "supers", desc := "()I" } : Jvm.MethodName)) ∈ gTs := gTs_mem (i := 635) (by decide +kernel) rfl
theorem wd_636 : (Jvm.Cond.selects "CutStore" ({ cls := "CutStore", name := "supers", desc := "()I" } : Jvm.MethodName) ({ cls := "CutStore", name := "supers", desc := "()I" } : Jvm.MethodName)) ∈ gTs := gTs_mem (i := 636) (by decide +kernel) rfl
theorem wd_637 : (Jvm.Cond.code ({ cls := "CutStore", name := "supers", desc := "()I" } : Jvm.MethodName) prog_1_method_26_code (2 : Nat) (Option.some Jvm.ClassFile.FieldType.int)) ∈ gTs := gTs_mem (i := 637) (by decide +kernel) rfl
theorem wd_638 : (Jvm.Cond.methodLink "CutStore" (213 : Nat) ({ cls := "CutStore$Supers", name := "clear", desc := "()V" } : Jvm.MethodName)) ∈ gTs := gTs_mem (i := 638) (by decide +kernel) rfl
theorem wd_639 : (Jvm.Cond.instanceMethod ({ cls := "CutStore$Supers", name := "clear", desc := "()V" } : Jvm.MethodName)) ∈ gTs := gTs_mem (i := 639) (by decide +kernel) rfl
theorem wd_640 : (Jvm.Cond.selects "CutStore$Supers" ({ cls := "CutStore$Supers", name := "clear", desc := "()V" } : Jvm.MethodName) ({ cls := "CutStore$Supers", name := "clear", desc := "()V" } : Jvm.MethodName)) ∈ gTs := gTs_mem (i := 640) (by decide +kernel) rfl
theorem wd_641 : (Jvm.Cond.code ({ cls := "CutStore$Supers", name := "clear", desc := "()V" } : Jvm.MethodName) prog_8_method_2_code (1 : Nat) (Option.none : Option Jvm.ClassFile.FieldType)) ∈ gTs := gTs_mem (i := 641) (by decide +kernel) rfl
theorem wd_642 : (Jvm.Cond.methodLink "CutStore" (214 : Nat) ({ cls := "CutStore$Supers", name := "addRow", desc := "([II)V" } : Jvm.MethodName)) ∈ gTs := gTs_mem (i := 642) (by decide +kernel) rfl
theorem wd_643 : (Jvm.Cond.instanceMethod ({ cls := "CutStore$Supers", name := "addRow", desc := "([II)V" } : Jvm.MethodName)) ∈ gTs := gTs_mem (i := 643) (by decide +kernel) rfl
theorem wd_644 : (Jvm.Cond.selects "CutStore$Supers" ({ cls := "CutStore$Supers", name := "addRow", desc := "([II)V" } : Jvm.MethodName) ({ cls := "CutStore$Supers", name := "addRow", desc := "([II)V" } : Jvm.MethodName)) ∈ gTs := gTs_mem (i := 644) (by decide +kernel) rfl
theorem wd_645 : (Jvm.Cond.code ({ cls := "CutStore$Supers", name := "addRow", desc := "([II)V" } : Jvm.MethodName) prog_8_method_3_code (3 : Nat) (Option.none : Option Jvm.ClassFile.FieldType)) ∈ gTs := gTs_mem (i := 645) (by decide +kernel) rfl
theorem wd_646 : (Jvm.Cond.methodLink "CutStore$Supers" (41 : Nat) ({ cls := "java/lang/System", name := "arraycopy", desc := "(Ljava/lang/Object;ILjava/lang/Object;II)V" } : Jvm.MethodName)) ∈ gTs := gTs_mem (i := 646) (by decide +kernel) rfl
theorem wd_647 : (Jvm.Cond.methodLink "CutStore" (218 : Nat) ({ cls := "CutStore$Supers", name := "make", desc := "()V" } : Jvm.MethodName)) ∈ gTs := gTs_mem (i := 647) (by decide +kernel) rfl
theorem wd_648 : (Jvm.Cond.instanceMethod ({ cls := "CutStore$Supers", name := "make", desc := "()V" } : Jvm.MethodName)) ∈ gTs := gTs_mem (i := 648) (by decide +kernel) rfl
theorem wd_649 : (Jvm.Cond.selects "CutStore$Supers" ({ cls := "CutStore$Supers", name := "make", desc := "()V" } : Jvm.MethodName) ({ cls := "CutStore$Supers", name := "make", desc := "()V" } : Jvm.MethodName)) ∈ gTs := gTs_mem (i := 649) (by decide +kernel) rfl
theorem wd_650 : (Jvm.Cond.code ({ cls := "CutStore$Supers", name := "make", desc := "()V" } : Jvm.MethodName) prog_8_method_4_code (2 : Nat) (Option.none : Option Jvm.ClassFile.FieldType)) ∈ gTs := gTs_mem (i := 650) (by decide +kernel) rfl
theorem wd_651 : (Jvm.Cond.methodLink "CutStore$Supers" (47 : Nat) ({ cls := "CutStore$Supers", name := "countPairs", desc := "()V" } : Jvm.MethodName)) ∈ gTs := gTs_mem (i := 651) (by decide +kernel) rfl
theorem wd_653 : (Jvm.Cond.instanceMethod ({ cls := "CutStore$Supers", name := "countPairs", desc := "()V" } : Jvm.MethodName)) ∈ gTs := gTs_mem (i := 653) (by decide +kernel) rfl
theorem wd_654 : (Jvm.Cond.code ({ cls := "CutStore$Supers", name := "countPairs", desc := "()V" } : Jvm.MethodName) prog_8_method_6_code (5 : Nat) (Option.none : Option Jvm.ClassFile.FieldType)) ∈ gTs := gTs_mem (i := 654) (by decide +kernel) rfl
theorem wd_655 : (Jvm.Cond.methodLink "CutStore$Supers" (63 : Nat) ({ cls := "CutStore$PairTable", name := "clear", desc := "()V" } : Jvm.MethodName)) ∈ gTs := gTs_mem (i := 655) (by decide +kernel) rfl
theorem wd_656 : (Jvm.Cond.instanceMethod ({ cls := "CutStore$PairTable", name := "clear", desc := "()V" } : Jvm.MethodName)) ∈ gTs := gTs_mem (i := 656) (by decide +kernel) rfl
theorem wd_657 : (Jvm.Cond.selects "CutStore$PairTable" ({ cls := "CutStore$PairTable", name := "clear", desc := "()V" } : Jvm.MethodName) ({ cls := "CutStore$PairTable", name := "clear", desc := "()V" } : Jvm.MethodName)) ∈ gTs := gTs_mem (i := 657) (by decide +kernel) rfl
theorem wd_658 : (Jvm.Cond.code ({ cls := "CutStore$PairTable", name := "clear", desc := "()V" } : Jvm.MethodName) prog_5_method_2_code (1 : Nat) (Option.none : Option Jvm.ClassFile.FieldType)) ∈ gTs := gTs_mem (i := 658) (by decide +kernel) rfl
theorem wd_659 : (Jvm.Cond.methodLink "CutStore$Supers" (66 : Nat) ({ cls := "CutStore$PairTable", name := "addPair", desc := "(II)V" } : Jvm.MethodName)) ∈ gTs := gTs_mem (i := 659) (by decide +kernel) rfl
theorem wd_660 : (Jvm.Cond.instanceMethod ({ cls := "CutStore$PairTable", name := "addPair", desc := "(II)V" } : Jvm.MethodName)) ∈ gTs := gTs_mem (i := 660) (by decide +kernel) rfl
theorem wd_661 : (Jvm.Cond.selects "CutStore$PairTable" ({ cls := "CutStore$PairTable", name := "addPair", desc := "(II)V" } : Jvm.MethodName) ({ cls := "CutStore$PairTable", name := "addPair", desc := "(II)V" } : Jvm.MethodName)) ∈ gTs := gTs_mem (i := 661) (by decide +kernel) rfl
theorem wd_662 : (Jvm.Cond.code ({ cls := "CutStore$PairTable", name := "addPair", desc := "(II)V" } : Jvm.MethodName) prog_5_method_3_code (5 : Nat) (Option.none : Option Jvm.ClassFile.FieldType)) ∈ gTs := gTs_mem (i := 662) (by decide +kernel) rfl
theorem wd_663 : (Jvm.Cond.methodLink "CutStore$PairTable" (28 : Nat) ({ cls := "CutStore$PairTable", name := "countOnceMore", desc := "(I)I" } : Jvm.MethodName)) ∈ gTs := gTs_mem (i := 663) (by decide +kernel) rfl
theorem wd_665 : (Jvm.Cond.instanceMethod ({ cls := "CutStore$PairTable", name := "countOnceMore", desc := "(I)I" } : Jvm.MethodName)) ∈ gTs := gTs_mem (i := 665) (by decide +kernel) rfl
theorem wd_666 : (Jvm.Cond.code ({ cls := "CutStore$PairTable", name := "countOnceMore", desc := "(I)I" } : Jvm.MethodName) prog_5_method_4_code (5 : Nat) (Option.some Jvm.ClassFile.FieldType.int)) ∈ gTs := gTs_mem (i := 666) (by decide +kernel) rfl
theorem wn_667 : (Jvm.Cond.methodLinkNest "CutStore$PairTable" (41 : Nat) ({ cls := "CutStore", name := "spread", desc := "(I)I" } : Jvm.MethodName) "CutStore") ∈ lw_tbl := List.mem_of_getElem? (i := 667) (by decide +kernel)
theorem wd_668 : (Jvm.Cond.methodLink "CutStore$Supers" (59 : Nat) ({ cls := "CutStore$Supers", name := "putInPlace", desc := "(III)I" } : Jvm.MethodName)) ∈ gTs := gTs_mem (i := 668) (by decide +kernel) rfl
theorem wd_670 : (Jvm.Cond.instanceMethod ({ cls := "CutStore$Supers", name := "putInPlace", desc := "(III)I" } : Jvm.MethodName)) ∈ gTs := gTs_mem (i := 670) (by decide +kernel) rfl
theorem wd_671 : (Jvm.Cond.code ({ cls := "CutStore$Supers", name := "putInPlace", desc := "(III)I" } : Jvm.MethodName) prog_8_method_7_code (7 : Nat) (Option.some Jvm.ClassFile.FieldType.int)) ∈ gTs := gTs_mem (i := 671) (by decide +kernel) rfl
theorem wd_672 : (Jvm.Cond.methodLink "CutStore" (221 : Nat) ({ cls := "CutStore$Supers", name := "countLeft", desc := "()I" } : Jvm.MethodName)) ∈ gTs := gTs_mem (i := 672) (by decide +kernel) rfl
theorem wd_673 : (Jvm.Cond.instanceMethod ({ cls := "CutStore$Supers", name := "countLeft", desc := "()I" } : Jvm.MethodName)) ∈ gTs := gTs_mem (i := 673) (by decide +kernel) rfl
theorem wd_674 : (Jvm.Cond.selects "CutStore$Supers" ({ cls := "CutStore$Supers", name := "countLeft", desc := "()I" } : Jvm.MethodName) ({ cls := "CutStore$Supers", name := "countLeft", desc := "()I" } : Jvm.MethodName)) ∈ gTs := gTs_mem (i := 674) (by decide +kernel) rfl
theorem wd_675 : (Jvm.Cond.code ({ cls := "CutStore$Supers", name := "countLeft", desc := "()I" } : Jvm.MethodName) prog_8_method_5_code (1 : Nat) (Option.some Jvm.ClassFile.FieldType.int)) ∈ gTs := gTs_mem (i := 675) (by decide +kernel) rfl
theorem wd_676 : (Jvm.Cond.methodLink "CutStoreLaw" (123 : Nat) ({ cls := "CutStore", name := "pair", desc := "(II)I" } : Jvm.MethodName)) ∈ gTs := gTs_mem (i := 676) (by decide +kernel) rfl
theorem wd_677 : (Jvm.Cond.instanceMethod ({ cls := "CutStore", name := "pair", desc := "(II)I" } : Jvm.MethodName)) ∈ gTs := gTs_mem (i := 677) (by decide +kernel) rfl
theorem wd_678 : (Jvm.Cond.selects "CutStore" ({ cls := "CutStore", name := "pair", desc := "(II)I" } : Jvm.MethodName) ({ cls := "CutStore", name := "pair", desc := "(II)I" } : Jvm.MethodName)) ∈ gTs := gTs_mem (i := 678) (by decide +kernel) rfl
theorem wd_679 : (Jvm.Cond.code ({ cls := "CutStore", name := "pair", desc := "(II)I" } : Jvm.MethodName) prog_1_method_27_code (3 : Nat) (Option.some Jvm.ClassFile.FieldType.int)) ∈ gTs := gTs_mem (i := 679) (by decide +kernel) rfl
theorem wd_680 : (Jvm.Cond.classLink "CutStoreLaw" (10 : Nat) "CutStoreModel") ∈ gTs := gTs_mem (i := 680) (by decide +kernel) rfl
theorem wd_681 : (Jvm.Cond.instantiable "CutStoreModel" (37 : Nat)) ∈ gTs := gTs_mem (i := 681) (by decide +kernel) rfl
theorem wd_682 : (Jvm.Cond.methodLink "CutStoreLaw" (12 : Nat) ({ cls := "CutStoreModel", name := "<init>", desc := "()V" } : Jvm.MethodName)) ∈ gTs := gTs_mem (i := 682) (by decide +kernel) rfl
theorem wd_683 : (Jvm.Cond.instanceMethod ({ cls := "CutStoreModel", name := "<init>", desc := "()V" } : Jvm.MethodName)) ∈ gTs := gTs_mem (i := 683) (by decide +kernel) rfl
theorem wd_684 : (Jvm.Cond.code ({ cls := "CutStoreModel", name := "<init>", desc := "()V" } : Jvm.MethodName) prog_11_method_1_code (1 : Nat) (Option.none : Option Jvm.ClassFile.FieldType)) ∈ gTs := gTs_mem (i := 684) (by decide +kernel) rfl
theorem wd_685 : (Jvm.Cond.methodLink "CutStoreModel" (1 : Nat) ({ cls := "java/lang/Object", name := "<init>", desc := "()V" } : Jvm.MethodName)) ∈ gTs := gTs_mem (i := 685) (by decide +kernel) rfl
theorem wd_686 : (Jvm.Cond.constant "CutStoreModel" (65 : Nat) (60200 : Int32)) ∈ gTs := gTs_mem (i := 686) (by decide +kernel) rfl
theorem wd_687 : (Jvm.Cond.constant "CutStoreModel" (94 : Nat) (262144 : Int32)) ∈ gTs := gTs_mem (i := 687) (by decide +kernel) rfl
theorem wd_688 : (Jvm.Cond.fieldLink "CutStoreModel" (7 : Nat) "CutStoreModel" "size" "[I") ∈ gTs := gTs_mem (i := 688) (by decide +kernel) rfl
theorem wd_689 : (Jvm.Cond.fieldLink "CutStoreModel" (13 : Nat) "CutStoreModel" "bytes" "[I") ∈ gTs := gTs_mem (i := 689) (by decide +kernel) rfl
theorem wd_690 : (Jvm.Cond.fieldLink "CutStoreModel" (16 : Nat) "CutStoreModel" "tape" "[I") ∈ gTs := gTs_mem (i := 690) (by decide +kernel) rfl
theorem wd_691 : (Jvm.Cond.fieldLink "CutStoreModel" (110 : Nat) "CutStoreModel" "taped" "I") ∈ gTs := gTs_mem (i := 691) (by decide +kernel) rfl
theorem wd_692 : (Jvm.Cond.fieldLink "CutStoreModel" (19 : Nat) "CutStoreModel" "kind" "[I") ∈ gTs := gTs_mem (i := 692) (by decide +kernel) rfl
theorem wd_693 : (Jvm.Cond.fieldLink "CutStoreModel" (22 : Nat) "CutStoreModel" "least" "[I") ∈ gTs := gTs_mem (i := 693) (by decide +kernel) rfl
theorem wd_694 : (Jvm.Cond.fieldLink "CutStoreModel" (25 : Nat) "CutStoreModel" "most" "[I") ∈ gTs := gTs_mem (i := 694) (by decide +kernel) rfl
theorem wd_695 : (Jvm.Cond.fieldLink "CutStoreModel" (28 : Nat) "CutStoreModel" "window" "[I") ∈ gTs := gTs_mem (i := 695) (by decide +kernel) rfl
theorem wd_696 : (Jvm.Cond.fieldLink "CutStoreModel" (31 : Nat) "CutStoreModel" "bits" "[I") ∈ gTs := gTs_mem (i := 696) (by decide +kernel) rfl
theorem wd_697 : (Jvm.Cond.fieldLink "CutStoreModel" (34 : Nat) "CutStoreModel" "mark" "[I") ∈ gTs := gTs_mem (i := 697) (by decide +kernel) rfl
theorem wd_698 : (Jvm.Cond.fieldLink "CutStoreModel" (140 : Nat) "CutStoreModel" "cuts" "I") ∈ gTs := gTs_mem (i := 698) (by decide +kernel) rfl
theorem wd_699 : (Jvm.Cond.fieldLink "CutStoreModel" (37 : Nat) "CutStoreModel" "cut" "[I") ∈ gTs := gTs_mem (i := 699) (by decide +kernel) rfl
theorem wd_700 : (Jvm.Cond.fieldLink "CutStoreModel" (40 : Nat) "CutStoreModel" "other" "[I") ∈ gTs := gTs_mem (i := 700) (by decide +kernel) rfl
theorem wd_701 : (Jvm.Cond.fieldLink "CutStoreModel" (150 : Nat) "CutStoreModel" "others" "I") ∈ gTs := gTs_mem (i := 701) (by decide +kernel) rfl
theorem wd_702 : (Jvm.Cond.fieldLink "CutStoreModel" (43 : Nat) "CutStoreModel" "entry" "I") ∈ gTs := gTs_mem (i := 702) (by decide +kernel) rfl
theorem wd_703 : (Jvm.Cond.fieldLink "CutStoreModel" (47 : Nat) "CutStoreModel" "pointer" "I") ∈ gTs := gTs_mem (i := 703) (by decide +kernel) rfl
theorem wd_704 : (Jvm.Cond.fieldLink "CutStoreModel" (50 : Nat) "CutStoreModel" "noteFile" "[I") ∈ gTs := gTs_mem (i := 704) (by decide +kernel) rfl
theorem wd_705 : (Jvm.Cond.fieldLink "CutStoreModel" (53 : Nat) "CutStoreModel" "noteFrom" "[I") ∈ gTs := gTs_mem (i := 705) (by decide +kernel) rfl
theorem wd_706 : (Jvm.Cond.fieldLink "CutStoreModel" (56 : Nat) "CutStoreModel" "noteEnd" "[I") ∈ gTs := gTs_mem (i := 706) (by decide +kernel) rfl
theorem wd_707 : (Jvm.Cond.fieldLink "CutStoreModel" (59 : Nat) "CutStoreModel" "notePrint" "[I") ∈ gTs := gTs_mem (i := 707) (by decide +kernel) rfl
theorem wd_708 : (Jvm.Cond.fieldLink "CutStoreModel" (62 : Nat) "CutStoreModel" "pieceSize" "[I") ∈ gTs := gTs_mem (i := 708) (by decide +kernel) rfl
theorem wd_709 : (Jvm.Cond.fieldLink "CutStoreModel" (66 : Nat) "CutStoreModel" "pieceByte" "[I") ∈ gTs := gTs_mem (i := 709) (by decide +kernel) rfl
theorem wd_710 : (Jvm.Cond.fieldLink "CutStoreModel" (69 : Nat) "CutStoreModel" "print" "[I") ∈ gTs := gTs_mem (i := 710) (by decide +kernel) rfl
theorem wd_711 : (Jvm.Cond.fieldLink "CutStoreModel" (72 : Nat) "CutStoreModel" "holds" "[I") ∈ gTs := gTs_mem (i := 711) (by decide +kernel) rfl
theorem wd_712 : (Jvm.Cond.fieldLink "CutStoreModel" (75 : Nat) "CutStoreModel" "isKept" "[Z") ∈ gTs := gTs_mem (i := 712) (by decide +kernel) rfl
theorem wd_713 : (Jvm.Cond.fieldLink "CutStoreModel" (79 : Nat) "CutStoreModel" "keptMany" "[I") ∈ gTs := gTs_mem (i := 713) (by decide +kernel) rfl
theorem wd_714 : (Jvm.Cond.fieldLink "CutStoreModel" (82 : Nat) "CutStoreModel" "kept" "[I") ∈ gTs := gTs_mem (i := 714) (by decide +kernel) rfl
theorem wd_715 : (Jvm.Cond.fieldLink "CutStoreModel" (174 : Nat) "CutStoreModel" "meetings" "I") ∈ gTs := gTs_mem (i := 715) (by decide +kernel) rfl
theorem wd_716 : (Jvm.Cond.fieldLink "CutStoreModel" (85 : Nat) "CutStoreModel" "was" "[I") ∈ gTs := gTs_mem (i := 716) (by decide +kernel) rfl
theorem wd_717 : (Jvm.Cond.fieldLink "CutStoreModel" (88 : Nat) "CutStoreModel" "row" "[I") ∈ gTs := gTs_mem (i := 717) (by decide +kernel) rfl
theorem wd_718 : (Jvm.Cond.fieldLink "CutStoreModel" (91 : Nat) "CutStoreModel" "rowEnd" "[I") ∈ gTs := gTs_mem (i := 718) (by decide +kernel) rfl
theorem wd_719 : (Jvm.Cond.fieldLink "CutStoreModel" (95 : Nat) "CutStoreModel" "times" "[I") ∈ gTs := gTs_mem (i := 719) (by decide +kernel) rfl
theorem wd_720 : (Jvm.Cond.fieldLink "CutStoreModel" (98 : Nat) "CutStoreModel" "lastAt" "[I") ∈ gTs := gTs_mem (i := 720) (by decide +kernel) rfl
theorem wd_721 : (Jvm.Cond.fieldLink "CutStoreModel" (195 : Nat) "CutStoreModel" "supers" "I") ∈ gTs := gTs_mem (i := 721) (by decide +kernel) rfl
theorem wd_722 : (Jvm.Cond.fieldLink "CutStoreModel" (101 : Nat) "CutStoreModel" "superFirst" "[I") ∈ gTs := gTs_mem (i := 722) (by decide +kernel) rfl
theorem wd_723 : (Jvm.Cond.fieldLink "CutStoreModel" (104 : Nat) "CutStoreModel" "superSecond" "[I") ∈ gTs := gTs_mem (i := 723) (by decide +kernel) rfl
theorem wd_724 : (Jvm.Cond.fieldLink "CutStoreModel" (107 : Nat) "CutStoreModel" "superTimes" "[I") ∈ gTs := gTs_mem (i := 724) (by decide +kernel) rfl
theorem wd_725 : (Jvm.Cond.laysFinal "CutStoreModel" "CutStoreModel" "size" "[I") ∈ gTs := gTs_mem (i := 725) (by decide +kernel) rfl
theorem wd_727 : (Jvm.Cond.laysFinal "CutStoreModel" "CutStoreModel" "bytes" "[I") ∈ gTs := gTs_mem (i := 727) (by decide +kernel) rfl
theorem wd_729 : (Jvm.Cond.laysFinal "CutStoreModel" "CutStoreModel" "tape" "[I") ∈ gTs := gTs_mem (i := 729) (by decide +kernel) rfl
theorem wd_731 : (Jvm.Cond.lays "CutStoreModel" "CutStoreModel" "taped" "I") ∈ gTs := gTs_mem (i := 731) (by decide +kernel) rfl
theorem wd_733 : (Jvm.Cond.laysFinal "CutStoreModel" "CutStoreModel" "kind" "[I") ∈ gTs := gTs_mem (i := 733) (by decide +kernel) rfl
theorem wd_735 : (Jvm.Cond.laysFinal "CutStoreModel" "CutStoreModel" "least" "[I") ∈ gTs := gTs_mem (i := 735) (by decide +kernel) rfl
theorem wd_737 : (Jvm.Cond.laysFinal "CutStoreModel" "CutStoreModel" "most" "[I") ∈ gTs := gTs_mem (i := 737) (by decide +kernel) rfl
theorem wd_739 : (Jvm.Cond.laysFinal "CutStoreModel" "CutStoreModel" "window" "[I") ∈ gTs := gTs_mem (i := 739) (by decide +kernel) rfl
theorem wd_741 : (Jvm.Cond.laysFinal "CutStoreModel" "CutStoreModel" "bits" "[I") ∈ gTs := gTs_mem (i := 741) (by decide +kernel) rfl
theorem wd_743 : (Jvm.Cond.laysFinal "CutStoreModel" "CutStoreModel" "mark" "[I") ∈ gTs := gTs_mem (i := 743) (by decide +kernel) rfl
theorem wd_745 : (Jvm.Cond.lays "CutStoreModel" "CutStoreModel" "cuts" "I") ∈ gTs := gTs_mem (i := 745) (by decide +kernel) rfl
theorem wd_747 : (Jvm.Cond.laysFinal "CutStoreModel" "CutStoreModel" "cut" "[I") ∈ gTs := gTs_mem (i := 747) (by decide +kernel) rfl
theorem wd_749 : (Jvm.Cond.laysFinal "CutStoreModel" "CutStoreModel" "other" "[I") ∈ gTs := gTs_mem (i := 749) (by decide +kernel) rfl
theorem wd_751 : (Jvm.Cond.lays "CutStoreModel" "CutStoreModel" "others" "I") ∈ gTs := gTs_mem (i := 751) (by decide +kernel) rfl
theorem wd_753 : (Jvm.Cond.lays "CutStoreModel" "CutStoreModel" "entry" "I") ∈ gTs := gTs_mem (i := 753) (by decide +kernel) rfl
theorem wd_755 : (Jvm.Cond.lays "CutStoreModel" "CutStoreModel" "pointer" "I") ∈ gTs := gTs_mem (i := 755) (by decide +kernel) rfl
theorem wd_757 : (Jvm.Cond.laysFinal "CutStoreModel" "CutStoreModel" "noteFile" "[I") ∈ gTs := gTs_mem (i := 757) (by decide +kernel) rfl
theorem wd_759 : (Jvm.Cond.laysFinal "CutStoreModel" "CutStoreModel" "noteFrom" "[I") ∈ gTs := gTs_mem (i := 759) (by decide +kernel) rfl
theorem wd_761 : (Jvm.Cond.laysFinal "CutStoreModel" "CutStoreModel" "noteEnd" "[I") ∈ gTs := gTs_mem (i := 761) (by decide +kernel) rfl
theorem wd_763 : (Jvm.Cond.laysFinal "CutStoreModel" "CutStoreModel" "notePrint" "[I") ∈ gTs := gTs_mem (i := 763) (by decide +kernel) rfl
theorem wd_765 : (Jvm.Cond.laysFinal "CutStoreModel" "CutStoreModel" "pieceSize" "[I") ∈ gTs := gTs_mem (i := 765) (by decide +kernel) rfl
theorem wd_767 : (Jvm.Cond.laysFinal "CutStoreModel" "CutStoreModel" "pieceByte" "[I") ∈ gTs := gTs_mem (i := 767) (by decide +kernel) rfl
theorem wd_769 : (Jvm.Cond.laysFinal "CutStoreModel" "CutStoreModel" "print" "[I") ∈ gTs := gTs_mem (i := 769) (by decide +kernel) rfl
theorem wd_771 : (Jvm.Cond.laysFinal "CutStoreModel" "CutStoreModel" "holds" "[I") ∈ gTs := gTs_mem (i := 771) (by decide +kernel) rfl
theorem wd_773 : (Jvm.Cond.laysFinal "CutStoreModel" "CutStoreModel" "isKept" "[Z") ∈ gTs := gTs_mem (i := 773) (by decide +kernel) rfl
theorem wd_775 : (Jvm.Cond.laysFinal "CutStoreModel" "CutStoreModel" "keptMany" "[I") ∈ gTs := gTs_mem (i := 775) (by decide +kernel) rfl
theorem wd_777 : (Jvm.Cond.laysFinal "CutStoreModel" "CutStoreModel" "kept" "[I") ∈ gTs := gTs_mem (i := 777) (by decide +kernel) rfl
theorem wd_779 : (Jvm.Cond.lays "CutStoreModel" "CutStoreModel" "meetings" "I") ∈ gTs := gTs_mem (i := 779) (by decide +kernel) rfl
theorem wd_781 : (Jvm.Cond.laysFinal "CutStoreModel" "CutStoreModel" "was" "[I") ∈ gTs := gTs_mem (i := 781) (by decide +kernel) rfl
theorem wd_783 : (Jvm.Cond.laysFinal "CutStoreModel" "CutStoreModel" "row" "[I") ∈ gTs := gTs_mem (i := 783) (by decide +kernel) rfl
theorem wd_785 : (Jvm.Cond.laysFinal "CutStoreModel" "CutStoreModel" "rowEnd" "[I") ∈ gTs := gTs_mem (i := 785) (by decide +kernel) rfl
theorem wd_787 : (Jvm.Cond.laysFinal "CutStoreModel" "CutStoreModel" "times" "[I") ∈ gTs := gTs_mem (i := 787) (by decide +kernel) rfl
theorem wd_789 : (Jvm.Cond.laysFinal "CutStoreModel" "CutStoreModel" "lastAt" "[I") ∈ gTs := gTs_mem (i := 789) (by decide +kernel) rfl
theorem wd_791 : (Jvm.Cond.lays "CutStoreModel" "CutStoreModel" "supers" "I") ∈ gTs := gTs_mem (i := 791) (by decide +kernel) rfl
theorem wd_793 : (Jvm.Cond.laysFinal "CutStoreModel" "CutStoreModel" "superFirst" "[I") ∈ gTs := gTs_mem (i := 793) (by decide +kernel) rfl
theorem wd_795 : (Jvm.Cond.laysFinal "CutStoreModel" "CutStoreModel" "superSecond" "[I") ∈ gTs := gTs_mem (i := 795) (by decide +kernel) rfl
theorem wd_797 : (Jvm.Cond.laysFinal "CutStoreModel" "CutStoreModel" "superTimes" "[I") ∈ gTs := gTs_mem (i := 797) (by decide +kernel) rfl
theorem wd_800 : (Jvm.Cond.arrayClass Jvm.ClassFile.FieldType.boolean) ∈ gTs := gTs_mem (i := 800) (by decide +kernel) rfl
theorem wd_801 : (Jvm.Cond.methodLink "CutStoreLaw" (17 : Nat) ({ cls := "CutStoreModel", name := "feed", desc := "(IIIII)I" } : Jvm.MethodName)) ∈ gTs := gTs_mem (i := 801) (by decide +kernel) rfl
theorem wd_802 : (Jvm.Cond.instanceMethod ({ cls := "CutStoreModel", name := "feed", desc := "(IIIII)I" } : Jvm.MethodName)) ∈ gTs := gTs_mem (i := 802) (by decide +kernel) rfl
theorem wd_803 : (Jvm.Cond.selects "CutStoreModel" ({ cls := "CutStoreModel", name := "feed", desc := "(IIIII)I" } : Jvm.MethodName) ({ cls := "CutStoreModel", name := "feed", desc := "(IIIII)I" } : Jvm.MethodName)) ∈ gTs := gTs_mem (i := 803) (by decide +kernel) rfl
theorem wd_804 : (Jvm.Cond.code ({ cls := "CutStoreModel", name := "feed", desc := "(IIIII)I" } : Jvm.MethodName) prog_11_method_2_code (8 : Nat) (Option.some Jvm.ClassFile.FieldType.int)) ∈ gTs := gTs_mem (i := 804) (by decide +kernel) rfl
theorem wd_805 : (Jvm.Cond.methodLink "CutStoreLaw" (22 : Nat) ({ cls := "CutStoreModel", name := "end", desc := "(I)Z" } : Jvm.MethodName)) ∈ gTs := gTs_mem (i := 805) (by decide +kernel) rfl
theorem wd_806 : (Jvm.Cond.instanceMethod ({ cls := "CutStoreModel", name := "end", desc := "(I)Z" } : Jvm.MethodName)) ∈ gTs := gTs_mem (i := 806) (by decide +kernel) rfl
theorem wd_807 : (Jvm.Cond.selects "CutStoreModel" ({ cls := "CutStoreModel", name := "end", desc := "(I)Z" } : Jvm.MethodName) ({ cls := "CutStoreModel", name := "end", desc := "(I)Z" } : Jvm.MethodName)) ∈ gTs := gTs_mem (i := 807) (by decide +kernel) rfl
theorem wd_808 : (Jvm.Cond.code ({ cls := "CutStoreModel", name := "end", desc := "(I)Z" } : Jvm.MethodName) prog_11_method_3_code (2 : Nat) (Option.some Jvm.ClassFile.FieldType.boolean)) ∈ gTs := gTs_mem (i := 808) (by decide +kernel) rfl
theorem wd_809 : (Jvm.Cond.methodLink "CutStoreLaw" (27 : Nat) ({ cls := "CutStoreModel", name := "edit", desc := "(III)I" } : Jvm.MethodName)) ∈ gTs := gTs_mem (i := 809) (by decide +kernel) rfl
theorem wd_810 : (Jvm.Cond.instanceMethod ({ cls := "CutStoreModel", name := "edit", desc := "(III)I" } : Jvm.MethodName)) ∈ gTs := gTs_mem (i := 810) (by decide +kernel) rfl
theorem wd_811 : (Jvm.Cond.selects "CutStoreModel" ({ cls := "CutStoreModel", name := "edit", desc := "(III)I" } : Jvm.MethodName) ({ cls := "CutStoreModel", name := "edit", desc := "(III)I" } : Jvm.MethodName)) ∈ gTs := gTs_mem (i := 811) (by decide +kernel) rfl
theorem wd_812 : (Jvm.Cond.code ({ cls := "CutStoreModel", name := "edit", desc := "(III)I" } : Jvm.MethodName) prog_11_method_6_code (8 : Nat) (Option.some Jvm.ClassFile.FieldType.int)) ∈ gTs := gTs_mem (i := 812) (by decide +kernel) rfl
theorem wd_813 : (Jvm.Cond.methodLink "CutStoreModel" (113 : Nat) ({ cls := "CutStoreModel", name := "isFile", desc := "(I)Z" } : Jvm.MethodName)) ∈ gTs := gTs_mem (i := 813) (by decide +kernel) rfl
theorem wd_814 : (Jvm.Cond.static ({ cls := "CutStoreModel", name := "isFile", desc := "(I)Z" } : Jvm.MethodName)) ∈ gTs := gTs_mem (i := 814) (by decide +kernel) rfl
theorem wd_815 : (Jvm.Cond.code ({ cls := "CutStoreModel", name := "isFile", desc := "(I)Z" } : Jvm.MethodName) prog_11_method_4_code (1 : Nat) (Option.some Jvm.ClassFile.FieldType.boolean)) ∈ gTs := gTs_mem (i := 815) (by decide +kernel) rfl
theorem wd_816 : (Jvm.Cond.methodLink "CutStoreLaw" (32 : Nat) ({ cls := "CutStoreModel", name := "sow", desc := "(IIII)I" } : Jvm.MethodName)) ∈ gTs := gTs_mem (i := 816) (by decide +kernel) rfl
theorem wd_817 : (Jvm.Cond.instanceMethod ({ cls := "CutStoreModel", name := "sow", desc := "(IIII)I" } : Jvm.MethodName)) ∈ gTs := gTs_mem (i := 817) (by decide +kernel) rfl
theorem wd_818 : (Jvm.Cond.selects "CutStoreModel" ({ cls := "CutStoreModel", name := "sow", desc := "(IIII)I" } : Jvm.MethodName) ({ cls := "CutStoreModel", name := "sow", desc := "(IIII)I" } : Jvm.MethodName)) ∈ gTs := gTs_mem (i := 818) (by decide +kernel) rfl
theorem wd_819 : (Jvm.Cond.code ({ cls := "CutStoreModel", name := "sow", desc := "(IIII)I" } : Jvm.MethodName) prog_11_method_7_code (7 : Nat) (Option.some Jvm.ClassFile.FieldType.int)) ∈ gTs := gTs_mem (i := 819) (by decide +kernel) rfl
theorem wd_820 : (Jvm.Cond.methodLink "CutStoreModel" (117 : Nat) ({ cls := "CutStoreModel", name := "isIn", desc := "(III)Z" } : Jvm.MethodName)) ∈ gTs := gTs_mem (i := 820) (by decide +kernel) rfl
theorem wd_821 : (Jvm.Cond.static ({ cls := "CutStoreModel", name := "isIn", desc := "(III)Z" } : Jvm.MethodName)) ∈ gTs := gTs_mem (i := 821) (by decide +kernel) rfl
theorem wd_822 : (Jvm.Cond.code ({ cls := "CutStoreModel", name := "isIn", desc := "(III)Z" } : Jvm.MethodName) prog_11_method_5_code (3 : Nat) (Option.some Jvm.ClassFile.FieldType.boolean)) ∈ gTs := gTs_mem (i := 822) (by decide +kernel) rfl
theorem wd_823 : (Jvm.Cond.constant "CutStoreModel" (121 : Nat) (1103515245 : Int32)) ∈ gTs := gTs_mem (i := 823) (by decide +kernel) rfl
theorem wd_824 : (Jvm.Cond.methodLink "CutStoreLaw" (37 : Nat) ({ cls := "CutStoreModel", name := "copy", desc := "(II)I" } : Jvm.MethodName)) ∈ gTs := gTs_mem (i := 824) (by decide +kernel) rfl
theorem wd_825 : (Jvm.Cond.instanceMethod ({ cls := "CutStoreModel", name := "copy", desc := "(II)I" } : Jvm.MethodName)) ∈ gTs := gTs_mem (i := 825) (by decide +kernel) rfl
theorem wd_826 : (Jvm.Cond.selects "CutStoreModel" ({ cls := "CutStoreModel", name := "copy", desc := "(II)I" } : Jvm.MethodName) ({ cls := "CutStoreModel", name := "copy", desc := "(II)I" } : Jvm.MethodName)) ∈ gTs := gTs_mem (i := 826) (by decide +kernel) rfl
theorem wd_827 : (Jvm.Cond.code ({ cls := "CutStoreModel", name := "copy", desc := "(II)I" } : Jvm.MethodName) prog_11_method_8_code (4 : Nat) (Option.some Jvm.ClassFile.FieldType.int)) ∈ gTs := gTs_mem (i := 827) (by decide +kernel) rfl
theorem wd_828 : (Jvm.Cond.methodLink "CutStoreLaw" (41 : Nat) ({ cls := "CutStoreModel", name := "at", desc := "(II)I" } : Jvm.MethodName)) ∈ gTs := gTs_mem (i := 828) (by decide +kernel) rfl
theorem wd_829 : (Jvm.Cond.instanceMethod ({ cls := "CutStoreModel", name := "at", desc := "(II)I" } : Jvm.MethodName)) ∈ gTs := gTs_mem (i := 829) (by decide +kernel) rfl
theorem wd_830 : (Jvm.Cond.selects "CutStoreModel" ({ cls := "CutStoreModel", name := "at", desc := "(II)I" } : Jvm.MethodName) ({ cls := "CutStoreModel", name := "at", desc := "(II)I" } : Jvm.MethodName)) ∈ gTs := gTs_mem (i := 830) (by decide +kernel) rfl
theorem wd_831 : (Jvm.Cond.code ({ cls := "CutStoreModel", name := "at", desc := "(II)I" } : Jvm.MethodName) prog_11_method_9_code (3 : Nat) (Option.some Jvm.ClassFile.FieldType.int)) ∈ gTs := gTs_mem (i := 831) (by decide +kernel) rfl
theorem wd_832 : (Jvm.Cond.methodLink "CutStoreLaw" (46 : Nat) ({ cls := "CutStoreModel", name := "fixed", desc := "(II)Z" } : Jvm.MethodName)) ∈ gTs := gTs_mem (i := 832) (by decide +kernel) rfl
theorem wd_833 : (Jvm.Cond.instanceMethod ({ cls := "CutStoreModel", name := "fixed", desc := "(II)Z" } : Jvm.MethodName)) ∈ gTs := gTs_mem (i := 833) (by decide +kernel) rfl
theorem wd_834 : (Jvm.Cond.selects "CutStoreModel" ({ cls := "CutStoreModel", name := "fixed", desc := "(II)Z" } : Jvm.MethodName) ({ cls := "CutStoreModel", name := "fixed", desc := "(II)Z" } : Jvm.MethodName)) ∈ gTs := gTs_mem (i := 834) (by decide +kernel) rfl
theorem wd_835 : (Jvm.Cond.code ({ cls := "CutStoreModel", name := "fixed", desc := "(II)Z" } : Jvm.MethodName) prog_11_method_12_code (3 : Nat) (Option.some Jvm.ClassFile.FieldType.boolean)) ∈ gTs := gTs_mem (i := 835) (by decide +kernel) rfl
theorem wd_836 : (Jvm.Cond.methodLink "CutStoreModel" (122 : Nat) ({ cls := "CutStoreModel", name := "rules", desc := "(IIIIIII)Z" } : Jvm.MethodName)) ∈ gTs := gTs_mem (i := 836) (by decide +kernel) rfl
theorem wd_838 : (Jvm.Cond.instanceMethod ({ cls := "CutStoreModel", name := "rules", desc := "(IIIIIII)Z" } : Jvm.MethodName)) ∈ gTs := gTs_mem (i := 838) (by decide +kernel) rfl
theorem wd_839 : (Jvm.Cond.code ({ cls := "CutStoreModel", name := "rules", desc := "(IIIIIII)Z" } : Jvm.MethodName) prog_11_method_11_code (8 : Nat) (Option.some Jvm.ClassFile.FieldType.boolean)) ∈ gTs := gTs_mem (i := 839) (by decide +kernel) rfl
theorem wd_840 : (Jvm.Cond.methodLink "CutStoreLaw" (51 : Nat) ({ cls := "CutStoreModel", name := "rolling", desc := "(IZIIIII)Z" } : Jvm.MethodName)) ∈ gTs := gTs_mem (i := 840) (by decide +kernel) rfl
theorem wd_841 : (Jvm.Cond.instanceMethod ({ cls := "CutStoreModel", name := "rolling", desc := "(IZIIIII)Z" } : Jvm.MethodName)) ∈ gTs := gTs_mem (i := 841) (by decide +kernel) rfl
theorem wd_842 : (Jvm.Cond.selects "CutStoreModel" ({ cls := "CutStoreModel", name := "rolling", desc := "(IZIIIII)Z" } : Jvm.MethodName) ({ cls := "CutStoreModel", name := "rolling", desc := "(IZIIIII)Z" } : Jvm.MethodName)) ∈ gTs := gTs_mem (i := 842) (by decide +kernel) rfl
theorem wd_843 : (Jvm.Cond.code ({ cls := "CutStoreModel", name := "rolling", desc := "(IZIIIII)Z" } : Jvm.MethodName) prog_11_method_13_code (8 : Nat) (Option.some Jvm.ClassFile.FieldType.boolean)) ∈ gTs := gTs_mem (i := 843) (by decide +kernel) rfl
theorem wd_844 : (Jvm.Cond.methodLink "CutStoreLaw" (56 : Nat) ({ cls := "CutStoreModel", name := "told", desc := "(IIII)Z" } : Jvm.MethodName)) ∈ gTs := gTs_mem (i := 844) (by decide +kernel) rfl
theorem wd_845 : (Jvm.Cond.instanceMethod ({ cls := "CutStoreModel", name := "told", desc := "(IIII)Z" } : Jvm.MethodName)) ∈ gTs := gTs_mem (i := 845) (by decide +kernel) rfl
theorem wd_846 : (Jvm.Cond.selects "CutStoreModel" ({ cls := "CutStoreModel", name := "told", desc := "(IIII)Z" } : Jvm.MethodName) ({ cls := "CutStoreModel", name := "told", desc := "(IIII)Z" } : Jvm.MethodName)) ∈ gTs := gTs_mem (i := 846) (by decide +kernel) rfl
theorem wd_847 : (Jvm.Cond.code ({ cls := "CutStoreModel", name := "told", desc := "(IIII)Z" } : Jvm.MethodName) prog_11_method_14_code (5 : Nat) (Option.some Jvm.ClassFile.FieldType.boolean)) ∈ gTs := gTs_mem (i := 847) (by decide +kernel) rfl
theorem wd_848 : (Jvm.Cond.methodLink "CutStoreLaw" (60 : Nat) ({ cls := "CutStoreModel", name := "sum", desc := "(III)I" } : Jvm.MethodName)) ∈ gTs := gTs_mem (i := 848) (by decide +kernel) rfl
theorem wd_849 : (Jvm.Cond.instanceMethod ({ cls := "CutStoreModel", name := "sum", desc := "(III)I" } : Jvm.MethodName)) ∈ gTs := gTs_mem (i := 849) (by decide +kernel) rfl
theorem wd_850 : (Jvm.Cond.selects "CutStoreModel" ({ cls := "CutStoreModel", name := "sum", desc := "(III)I" } : Jvm.MethodName) ({ cls := "CutStoreModel", name := "sum", desc := "(III)I" } : Jvm.MethodName)) ∈ gTs := gTs_mem (i := 850) (by decide +kernel) rfl
theorem wd_851 : (Jvm.Cond.code ({ cls := "CutStoreModel", name := "sum", desc := "(III)I" } : Jvm.MethodName) prog_11_method_18_code (4 : Nat) (Option.some Jvm.ClassFile.FieldType.int)) ∈ gTs := gTs_mem (i := 851) (by decide +kernel) rfl
theorem wd_852 : (Jvm.Cond.methodLink "CutStoreModel" (127 : Nat) ({ cls := "CutStoreModel", name := "isRule", desc := "(I)Z" } : Jvm.MethodName)) ∈ gTs := gTs_mem (i := 852) (by decide +kernel) rfl
theorem wd_854 : (Jvm.Cond.instanceMethod ({ cls := "CutStoreModel", name := "isRule", desc := "(I)Z" } : Jvm.MethodName)) ∈ gTs := gTs_mem (i := 854) (by decide +kernel) rfl
theorem wd_855 : (Jvm.Cond.code ({ cls := "CutStoreModel", name := "isRule", desc := "(I)Z" } : Jvm.MethodName) prog_11_method_10_code (2 : Nat) (Option.some Jvm.ClassFile.FieldType.boolean)) ∈ gTs := gTs_mem (i := 855) (by decide +kernel) rfl
theorem wd_856 : (Jvm.Cond.methodLink "CutStoreModel" (130 : Nat) ({ cls := "CutStoreModel", name := "isRolling", desc := "(I)Z" } : Jvm.MethodName)) ∈ gTs := gTs_mem (i := 856) (by decide +kernel) rfl
theorem wd_858 : (Jvm.Cond.instanceMethod ({ cls := "CutStoreModel", name := "isRolling", desc := "(I)Z" } : Jvm.MethodName)) ∈ gTs := gTs_mem (i := 858) (by decide +kernel) rfl
theorem wd_859 : (Jvm.Cond.code ({ cls := "CutStoreModel", name := "isRolling", desc := "(I)Z" } : Jvm.MethodName) prog_11_method_15_code (2 : Nat) (Option.some Jvm.ClassFile.FieldType.boolean)) ∈ gTs := gTs_mem (i := 859) (by decide +kernel) rfl
theorem wd_860 : (Jvm.Cond.methodLink "CutStoreModel" (133 : Nat) ({ cls := "CutStoreModel", name := "sumAt", desc := "(III)I" } : Jvm.MethodName)) ∈ gTs := gTs_mem (i := 860) (by decide +kernel) rfl
theorem wd_862 : (Jvm.Cond.instanceMethod ({ cls := "CutStoreModel", name := "sumAt", desc := "(III)I" } : Jvm.MethodName)) ∈ gTs := gTs_mem (i := 862) (by decide +kernel) rfl
theorem wd_863 : (Jvm.Cond.code ({ cls := "CutStoreModel", name := "sumAt", desc := "(III)I" } : Jvm.MethodName) prog_11_method_16_code (7 : Nat) (Option.some Jvm.ClassFile.FieldType.int)) ∈ gTs := gTs_mem (i := 863) (by decide +kernel) rfl
theorem wd_864 : (Jvm.Cond.constant "CutStoreModel" (126 : Nat) (65536 : Int32)) ∈ gTs := gTs_mem (i := 864) (by decide +kernel) rfl
theorem wd_865 : (Jvm.Cond.methodLink "CutStoreLaw" (64 : Nat) ({ cls := "CutStoreModel", name := "cuts", desc := "(II)I" } : Jvm.MethodName)) ∈ gTs := gTs_mem (i := 865) (by decide +kernel) rfl
theorem wd_866 : (Jvm.Cond.instanceMethod ({ cls := "CutStoreModel", name := "cuts", desc := "(II)I" } : Jvm.MethodName)) ∈ gTs := gTs_mem (i := 866) (by decide +kernel) rfl
theorem wd_867 : (Jvm.Cond.selects "CutStoreModel" ({ cls := "CutStoreModel", name := "cuts", desc := "(II)I" } : Jvm.MethodName) ({ cls := "CutStoreModel", name := "cuts", desc := "(II)I" } : Jvm.MethodName)) ∈ gTs := gTs_mem (i := 867) (by decide +kernel) rfl
theorem wd_868 : (Jvm.Cond.code ({ cls := "CutStoreModel", name := "cuts", desc := "(II)I" } : Jvm.MethodName) prog_11_method_21_code (3 : Nat) (Option.some Jvm.ClassFile.FieldType.int)) ∈ gTs := gTs_mem (i := 868) (by decide +kernel) rfl
theorem wd_869 : (Jvm.Cond.methodLink "CutStoreModel" (146 : Nat) ({ cls := "CutStoreModel", name := "cutsOf", desc := "(II)V" } : Jvm.MethodName)) ∈ gTs := gTs_mem (i := 869) (by decide +kernel) rfl
theorem wd_871 : (Jvm.Cond.instanceMethod ({ cls := "CutStoreModel", name := "cutsOf", desc := "(II)V" } : Jvm.MethodName)) ∈ gTs := gTs_mem (i := 871) (by decide +kernel) rfl
theorem wd_872 : (Jvm.Cond.code ({ cls := "CutStoreModel", name := "cutsOf", desc := "(II)V" } : Jvm.MethodName) prog_11_method_20_code (3 : Nat) (Option.none : Option Jvm.ClassFile.FieldType)) ∈ gTs := gTs_mem (i := 872) (by decide +kernel) rfl
theorem wd_873 : (Jvm.Cond.methodLink "CutStoreModel" (143 : Nat) ({ cls := "CutStoreModel", name := "endOf", desc := "(III)I" } : Jvm.MethodName)) ∈ gTs := gTs_mem (i := 873) (by decide +kernel) rfl
theorem wd_875 : (Jvm.Cond.instanceMethod ({ cls := "CutStoreModel", name := "endOf", desc := "(III)I" } : Jvm.MethodName)) ∈ gTs := gTs_mem (i := 875) (by decide +kernel) rfl
theorem wd_876 : (Jvm.Cond.code ({ cls := "CutStoreModel", name := "endOf", desc := "(III)I" } : Jvm.MethodName) prog_11_method_19_code (8 : Nat) (Option.some Jvm.ClassFile.FieldType.int)) ∈ gTs := gTs_mem (i := 876) (by decide +kernel) rfl
theorem wd_877 : (Jvm.Cond.methodLink "CutStoreModel" (137 : Nat) ({ cls := "CutStoreModel", name := "isSign", desc := "(III)Z" } : Jvm.MethodName)) ∈ gTs := gTs_mem (i := 877) (by decide +kernel) rfl
theorem wd_879 : (Jvm.Cond.instanceMethod ({ cls := "CutStoreModel", name := "isSign", desc := "(III)Z" } : Jvm.MethodName)) ∈ gTs := gTs_mem (i := 879) (by decide +kernel) rfl
theorem wd_880 : (Jvm.Cond.code ({ cls := "CutStoreModel", name := "isSign", desc := "(III)Z" } : Jvm.MethodName) prog_11_method_17_code (4 : Nat) (Option.some Jvm.ClassFile.FieldType.boolean)) ∈ gTs := gTs_mem (i := 880) (by decide +kernel) rfl
theorem wd_881 : (Jvm.Cond.methodLink "CutStoreLaw" (68 : Nat) ({ cls := "CutStoreModel", name := "cut", desc := "(III)I" } : Jvm.MethodName)) ∈ gTs := gTs_mem (i := 881) (by decide +kernel) rfl
theorem wd_882 : (Jvm.Cond.instanceMethod ({ cls := "CutStoreModel", name := "cut", desc := "(III)I" } : Jvm.MethodName)) ∈ gTs := gTs_mem (i := 882) (by decide +kernel) rfl
theorem wd_883 : (Jvm.Cond.selects "CutStoreModel" ({ cls := "CutStoreModel", name := "cut", desc := "(III)I" } : Jvm.MethodName) ({ cls := "CutStoreModel", name := "cut", desc := "(III)I" } : Jvm.MethodName)) ∈ gTs := gTs_mem (i := 883) (by decide +kernel) rfl
theorem wd_884 : (Jvm.Cond.code ({ cls := "CutStoreModel", name := "cut", desc := "(III)I" } : Jvm.MethodName) prog_11_method_22_code (4 : Nat) (Option.some Jvm.ClassFile.FieldType.int)) ∈ gTs := gTs_mem (i := 884) (by decide +kernel) rfl
theorem wd_885 : (Jvm.Cond.methodLink "CutStoreLaw" (72 : Nat) ({ cls := "CutStoreModel", name := "agree", desc := "(III)I" } : Jvm.MethodName)) ∈ gTs := gTs_mem (i := 885) (by decide +kernel) rfl
theorem wd_886 : (Jvm.Cond.instanceMethod ({ cls := "CutStoreModel", name := "agree", desc := "(III)I" } : Jvm.MethodName)) ∈ gTs := gTs_mem (i := 886) (by decide +kernel) rfl
theorem wd_887 : (Jvm.Cond.selects "CutStoreModel" ({ cls := "CutStoreModel", name := "agree", desc := "(III)I" } : Jvm.MethodName) ({ cls := "CutStoreModel", name := "agree", desc := "(III)I" } : Jvm.MethodName)) ∈ gTs := gTs_mem (i := 887) (by decide +kernel) rfl
theorem wd_888 : (Jvm.Cond.code ({ cls := "CutStoreModel", name := "agree", desc := "(III)I" } : Jvm.MethodName) prog_11_method_25_code (5 : Nat) (Option.some Jvm.ClassFile.FieldType.int)) ∈ gTs := gTs_mem (i := 888) (by decide +kernel) rfl
theorem wd_889 : (Jvm.Cond.methodLink "CutStoreModel" (153 : Nat) ({ cls := "CutStoreModel", name := "othersOf", desc := "(II)V" } : Jvm.MethodName)) ∈ gTs := gTs_mem (i := 889) (by decide +kernel) rfl
theorem wd_891 : (Jvm.Cond.instanceMethod ({ cls := "CutStoreModel", name := "othersOf", desc := "(II)V" } : Jvm.MethodName)) ∈ gTs := gTs_mem (i := 891) (by decide +kernel) rfl
theorem wd_892 : (Jvm.Cond.code ({ cls := "CutStoreModel", name := "othersOf", desc := "(II)V" } : Jvm.MethodName) prog_11_method_24_code (4 : Nat) (Option.none : Option Jvm.ClassFile.FieldType)) ∈ gTs := gTs_mem (i := 892) (by decide +kernel) rfl
theorem wd_893 : (Jvm.Cond.methodLink "CutStoreModel" (156 : Nat) ({ cls := "CutStoreModel", name := "isAlike", desc := "(IIIIII)Z" } : Jvm.MethodName)) ∈ gTs := gTs_mem (i := 893) (by decide +kernel) rfl
theorem wd_895 : (Jvm.Cond.instanceMethod ({ cls := "CutStoreModel", name := "isAlike", desc := "(IIIIII)Z" } : Jvm.MethodName)) ∈ gTs := gTs_mem (i := 895) (by decide +kernel) rfl
theorem wd_896 : (Jvm.Cond.code ({ cls := "CutStoreModel", name := "isAlike", desc := "(IIIIII)Z" } : Jvm.MethodName) prog_11_method_23_code (8 : Nat) (Option.some Jvm.ClassFile.FieldType.boolean)) ∈ gTs := gTs_mem (i := 896) (by decide +kernel) rfl
theorem wd_897 : (Jvm.Cond.methodLink "CutStoreLaw" (76 : Nat) ({ cls := "CutStoreModel", name := "sent", desc := "(III)I" } : Jvm.MethodName)) ∈ gTs := gTs_mem (i := 897) (by decide +kernel) rfl
theorem wd_898 : (Jvm.Cond.instanceMethod ({ cls := "CutStoreModel", name := "sent", desc := "(III)I" } : Jvm.MethodName)) ∈ gTs := gTs_mem (i := 898) (by decide +kernel) rfl
theorem wd_899 : (Jvm.Cond.selects "CutStoreModel" ({ cls := "CutStoreModel", name := "sent", desc := "(III)I" } : Jvm.MethodName) ({ cls := "CutStoreModel", name := "sent", desc := "(III)I" } : Jvm.MethodName)) ∈ gTs := gTs_mem (i := 899) (by decide +kernel) rfl
theorem wd_900 : (Jvm.Cond.code ({ cls := "CutStoreModel", name := "sent", desc := "(III)I" } : Jvm.MethodName) prog_11_method_26_code (8 : Nat) (Option.some Jvm.ClassFile.FieldType.int)) ∈ gTs := gTs_mem (i := 900) (by decide +kernel) rfl
theorem wd_901 : (Jvm.Cond.methodLink "CutStoreLaw" (80 : Nat) ({ cls := "CutStoreModel", name := "cost", desc := "(II)I" } : Jvm.MethodName)) ∈ gTs := gTs_mem (i := 901) (by decide +kernel) rfl
theorem wd_902 : (Jvm.Cond.instanceMethod ({ cls := "CutStoreModel", name := "cost", desc := "(II)I" } : Jvm.MethodName)) ∈ gTs := gTs_mem (i := 902) (by decide +kernel) rfl
theorem wd_903 : (Jvm.Cond.selects "CutStoreModel" ({ cls := "CutStoreModel", name := "cost", desc := "(II)I" } : Jvm.MethodName) ({ cls := "CutStoreModel", name := "cost", desc := "(II)I" } : Jvm.MethodName)) ∈ gTs := gTs_mem (i := 903) (by decide +kernel) rfl
theorem wd_904 : (Jvm.Cond.code ({ cls := "CutStoreModel", name := "cost", desc := "(II)I" } : Jvm.MethodName) prog_11_method_28_code (11 : Nat) (Option.some Jvm.ClassFile.FieldType.int)) ∈ gTs := gTs_mem (i := 904) (by decide +kernel) rfl
theorem wd_905 : (Jvm.Cond.methodLink "CutStoreModel" (160 : Nat) ({ cls := "CutStoreModel", name := "printOf", desc := "(III)I" } : Jvm.MethodName)) ∈ gTs := gTs_mem (i := 905) (by decide +kernel) rfl
theorem wd_907 : (Jvm.Cond.instanceMethod ({ cls := "CutStoreModel", name := "printOf", desc := "(III)I" } : Jvm.MethodName)) ∈ gTs := gTs_mem (i := 907) (by decide +kernel) rfl
theorem wd_908 : (Jvm.Cond.code ({ cls := "CutStoreModel", name := "printOf", desc := "(III)I" } : Jvm.MethodName) prog_11_method_27_code (6 : Nat) (Option.some Jvm.ClassFile.FieldType.int)) ∈ gTs := gTs_mem (i := 908) (by decide +kernel) rfl
theorem wd_909 : (Jvm.Cond.methodLink "CutStoreLaw" (85 : Nat) ({ cls := "CutStoreModel", name := "best", desc := "(I)I" } : Jvm.MethodName)) ∈ gTs := gTs_mem (i := 909) (by decide +kernel) rfl
theorem wd_910 : (Jvm.Cond.instanceMethod ({ cls := "CutStoreModel", name := "best", desc := "(I)I" } : Jvm.MethodName)) ∈ gTs := gTs_mem (i := 910) (by decide +kernel) rfl
theorem wd_911 : (Jvm.Cond.selects "CutStoreModel" ({ cls := "CutStoreModel", name := "best", desc := "(I)I" } : Jvm.MethodName) ({ cls := "CutStoreModel", name := "best", desc := "(I)I" } : Jvm.MethodName)) ∈ gTs := gTs_mem (i := 911) (by decide +kernel) rfl
theorem wd_912 : (Jvm.Cond.code ({ cls := "CutStoreModel", name := "best", desc := "(I)I" } : Jvm.MethodName) prog_11_method_29_code (6 : Nat) (Option.some Jvm.ClassFile.FieldType.int)) ∈ gTs := gTs_mem (i := 912) (by decide +kernel) rfl
theorem wd_913 : (Jvm.Cond.methodLink "CutStoreModel" (163 : Nat) ({ cls := "CutStoreModel", name := "cost", desc := "(II)I" } : Jvm.MethodName)) ∈ gTs := gTs_mem (i := 913) (by decide +kernel) rfl
theorem wd_914 : (Jvm.Cond.methodLink "CutStoreLaw" (89 : Nat) ({ cls := "CutStoreModel", name := "keep", desc := "(II)I" } : Jvm.MethodName)) ∈ gTs := gTs_mem (i := 914) (by decide +kernel) rfl
theorem wd_915 : (Jvm.Cond.instanceMethod ({ cls := "CutStoreModel", name := "keep", desc := "(II)I" } : Jvm.MethodName)) ∈ gTs := gTs_mem (i := 915) (by decide +kernel) rfl
theorem wd_916 : (Jvm.Cond.selects "CutStoreModel" ({ cls := "CutStoreModel", name := "keep", desc := "(II)I" } : Jvm.MethodName) ({ cls := "CutStoreModel", name := "keep", desc := "(II)I" } : Jvm.MethodName)) ∈ gTs := gTs_mem (i := 916) (by decide +kernel) rfl
theorem wd_917 : (Jvm.Cond.code ({ cls := "CutStoreModel", name := "keep", desc := "(II)I" } : Jvm.MethodName) prog_11_method_36_code (7 : Nat) (Option.some Jvm.ClassFile.FieldType.int)) ∈ gTs := gTs_mem (i := 917) (by decide +kernel) rfl
theorem wd_918 : (Jvm.Cond.methodLink "CutStoreModel" (177 : Nat) ({ cls := "CutStoreModel", name := "lacks", desc := "(I)I" } : Jvm.MethodName)) ∈ gTs := gTs_mem (i := 918) (by decide +kernel) rfl
theorem wd_920 : (Jvm.Cond.instanceMethod ({ cls := "CutStoreModel", name := "lacks", desc := "(I)I" } : Jvm.MethodName)) ∈ gTs := gTs_mem (i := 920) (by decide +kernel) rfl
theorem wd_921 : (Jvm.Cond.code ({ cls := "CutStoreModel", name := "lacks", desc := "(I)I" } : Jvm.MethodName) prog_11_method_33_code (6 : Nat) (Option.some Jvm.ClassFile.FieldType.int)) ∈ gTs := gTs_mem (i := 921) (by decide +kernel) rfl
theorem wd_922 : (Jvm.Cond.methodLink "CutStoreModel" (167 : Nat) ({ cls := "CutStoreModel", name := "isPiece", desc := "(I)Z" } : Jvm.MethodName)) ∈ gTs := gTs_mem (i := 922) (by decide +kernel) rfl
theorem wd_924 : (Jvm.Cond.instanceMethod ({ cls := "CutStoreModel", name := "isPiece", desc := "(I)Z" } : Jvm.MethodName)) ∈ gTs := gTs_mem (i := 924) (by decide +kernel) rfl
theorem wd_925 : (Jvm.Cond.code ({ cls := "CutStoreModel", name := "isPiece", desc := "(I)Z" } : Jvm.MethodName) prog_11_method_30_code (2 : Nat) (Option.some Jvm.ClassFile.FieldType.boolean)) ∈ gTs := gTs_mem (i := 925) (by decide +kernel) rfl
theorem wd_926 : (Jvm.Cond.methodLink "CutStoreModel" (170 : Nat) ({ cls := "CutStoreModel", name := "isThat", desc := "(IIII)Z" } : Jvm.MethodName)) ∈ gTs := gTs_mem (i := 926) (by decide +kernel) rfl
theorem wd_928 : (Jvm.Cond.instanceMethod ({ cls := "CutStoreModel", name := "isThat", desc := "(IIII)Z" } : Jvm.MethodName)) ∈ gTs := gTs_mem (i := 928) (by decide +kernel) rfl
theorem wd_929 : (Jvm.Cond.code ({ cls := "CutStoreModel", name := "isThat", desc := "(IIII)Z" } : Jvm.MethodName) prog_11_method_31_code (6 : Nat) (Option.some Jvm.ClassFile.FieldType.boolean)) ∈ gTs := gTs_mem (i := 929) (by decide +kernel) rfl
theorem wd_930 : (Jvm.Cond.methodLink "CutStoreModel" (181 : Nat) ({ cls := "CutStoreModel", name := "there", desc := "()I" } : Jvm.MethodName)) ∈ gTs := gTs_mem (i := 930) (by decide +kernel) rfl
theorem wd_932 : (Jvm.Cond.instanceMethod ({ cls := "CutStoreModel", name := "there", desc := "()I" } : Jvm.MethodName)) ∈ gTs := gTs_mem (i := 932) (by decide +kernel) rfl
theorem wd_933 : (Jvm.Cond.code ({ cls := "CutStoreModel", name := "there", desc := "()I" } : Jvm.MethodName) prog_11_method_32_code (3 : Nat) (Option.some Jvm.ClassFile.FieldType.int)) ∈ gTs := gTs_mem (i := 933) (by decide +kernel) rfl
theorem wd_934 : (Jvm.Cond.methodLink "CutStoreModel" (185 : Nat) ({ cls := "CutStoreModel", name := "comes", desc := "(III)I" } : Jvm.MethodName)) ∈ gTs := gTs_mem (i := 934) (by decide +kernel) rfl
theorem wd_936 : (Jvm.Cond.instanceMethod ({ cls := "CutStoreModel", name := "comes", desc := "(III)I" } : Jvm.MethodName)) ∈ gTs := gTs_mem (i := 936) (by decide +kernel) rfl
theorem wd_937 : (Jvm.Cond.code ({ cls := "CutStoreModel", name := "comes", desc := "(III)I" } : Jvm.MethodName) prog_11_method_34_code (8 : Nat) (Option.some Jvm.ClassFile.FieldType.int)) ∈ gTs := gTs_mem (i := 937) (by decide +kernel) rfl
theorem wd_938 : (Jvm.Cond.methodLink "CutStoreModel" (188 : Nat) ({ cls := "CutStoreModel", name := "goes", desc := "([III)I" } : Jvm.MethodName)) ∈ gTs := gTs_mem (i := 938) (by decide +kernel) rfl
theorem wd_940 : (Jvm.Cond.instanceMethod ({ cls := "CutStoreModel", name := "goes", desc := "([III)I" } : Jvm.MethodName)) ∈ gTs := gTs_mem (i := 940) (by decide +kernel) rfl
theorem wd_941 : (Jvm.Cond.code ({ cls := "CutStoreModel", name := "goes", desc := "([III)I" } : Jvm.MethodName) prog_11_method_35_code (7 : Nat) (Option.some Jvm.ClassFile.FieldType.int)) ∈ gTs := gTs_mem (i := 941) (by decide +kernel) rfl
theorem wd_942 : (Jvm.Cond.methodLink "CutStoreLaw" (93 : Nat) ({ cls := "CutStoreModel", name := "drop", desc := "(I)I" } : Jvm.MethodName)) ∈ gTs := gTs_mem (i := 942) (by decide +kernel) rfl
theorem wd_943 : (Jvm.Cond.instanceMethod ({ cls := "CutStoreModel", name := "drop", desc := "(I)I" } : Jvm.MethodName)) ∈ gTs := gTs_mem (i := 943) (by decide +kernel) rfl
theorem wd_944 : (Jvm.Cond.selects "CutStoreModel" ({ cls := "CutStoreModel", name := "drop", desc := "(I)I" } : Jvm.MethodName) ({ cls := "CutStoreModel", name := "drop", desc := "(I)I" } : Jvm.MethodName)) ∈ gTs := gTs_mem (i := 944) (by decide +kernel) rfl
theorem wd_945 : (Jvm.Cond.code ({ cls := "CutStoreModel", name := "drop", desc := "(I)I" } : Jvm.MethodName) prog_11_method_37_code (2 : Nat) (Option.some Jvm.ClassFile.FieldType.int)) ∈ gTs := gTs_mem (i := 945) (by decide +kernel) rfl
theorem wd_946 : (Jvm.Cond.methodLink "CutStoreLaw" (97 : Nat) ({ cls := "CutStoreModel", name := "bring", desc := "(I)I" } : Jvm.MethodName)) ∈ gTs := gTs_mem (i := 946) (by decide +kernel) rfl
theorem wd_947 : (Jvm.Cond.instanceMethod ({ cls := "CutStoreModel", name := "bring", desc := "(I)I" } : Jvm.MethodName)) ∈ gTs := gTs_mem (i := 947) (by decide +kernel) rfl
theorem wd_948 : (Jvm.Cond.selects "CutStoreModel" ({ cls := "CutStoreModel", name := "bring", desc := "(I)I" } : Jvm.MethodName) ({ cls := "CutStoreModel", name := "bring", desc := "(I)I" } : Jvm.MethodName)) ∈ gTs := gTs_mem (i := 948) (by decide +kernel) rfl
theorem wd_949 : (Jvm.Cond.code ({ cls := "CutStoreModel", name := "bring", desc := "(I)I" } : Jvm.MethodName) prog_11_method_38_code (5 : Nat) (Option.some Jvm.ClassFile.FieldType.int)) ∈ gTs := gTs_mem (i := 949) (by decide +kernel) rfl
theorem wd_950 : (Jvm.Cond.methodLink "CutStoreLaw" (101 : Nat) ({ cls := "CutStoreModel", name := "jumps", desc := "(I)I" } : Jvm.MethodName)) ∈ gTs := gTs_mem (i := 950) (by decide +kernel) rfl
theorem wd_951 : (Jvm.Cond.instanceMethod ({ cls := "CutStoreModel", name := "jumps", desc := "(I)I" } : Jvm.MethodName)) ∈ gTs := gTs_mem (i := 951) (by decide +kernel) rfl
theorem wd_952 : (Jvm.Cond.selects "CutStoreModel" ({ cls := "CutStoreModel", name := "jumps", desc := "(I)I" } : Jvm.MethodName) ({ cls := "CutStoreModel", name := "jumps", desc := "(I)I" } : Jvm.MethodName)) ∈ gTs := gTs_mem (i := 952) (by decide +kernel) rfl
theorem wd_953 : (Jvm.Cond.code ({ cls := "CutStoreModel", name := "jumps", desc := "(I)I" } : Jvm.MethodName) prog_11_method_39_code (4 : Nat) (Option.some Jvm.ClassFile.FieldType.int)) ∈ gTs := gTs_mem (i := 953) (by decide +kernel) rfl
theorem wd_954 : (Jvm.Cond.methodLink "CutStoreLaw" (105 : Nat) ({ cls := "CutStoreModel", name := "number", desc := "(II)I" } : Jvm.MethodName)) ∈ gTs := gTs_mem (i := 954) (by decide +kernel) rfl
theorem wd_955 : (Jvm.Cond.instanceMethod ({ cls := "CutStoreModel", name := "number", desc := "(II)I" } : Jvm.MethodName)) ∈ gTs := gTs_mem (i := 955) (by decide +kernel) rfl
theorem wd_956 : (Jvm.Cond.selects "CutStoreModel" ({ cls := "CutStoreModel", name := "number", desc := "(II)I" } : Jvm.MethodName) ({ cls := "CutStoreModel", name := "number", desc := "(II)I" } : Jvm.MethodName)) ∈ gTs := gTs_mem (i := 956) (by decide +kernel) rfl
theorem wd_957 : (Jvm.Cond.code ({ cls := "CutStoreModel", name := "number", desc := "(II)I" } : Jvm.MethodName) prog_11_method_40_code (3 : Nat) (Option.some Jvm.ClassFile.FieldType.int)) ∈ gTs := gTs_mem (i := 957) (by decide +kernel) rfl
theorem wd_958 : (Jvm.Cond.methodLink "CutStoreLaw" (109 : Nat) ({ cls := "CutStoreModel", name := "piece", desc := "(II)I" } : Jvm.MethodName)) ∈ gTs := gTs_mem (i := 958) (by decide +kernel) rfl
theorem wd_959 : (Jvm.Cond.instanceMethod ({ cls := "CutStoreModel", name := "piece", desc := "(II)I" } : Jvm.MethodName)) ∈ gTs := gTs_mem (i := 959) (by decide +kernel) rfl
theorem wd_960 : (Jvm.Cond.selects "CutStoreModel" ({ cls := "CutStoreModel", name := "piece", desc := "(II)I" } : Jvm.MethodName) ({ cls := "CutStoreModel", name := "piece", desc := "(II)I" } : Jvm.MethodName)) ∈ gTs := gTs_mem (i := 960) (by decide +kernel) rfl
theorem wd_961 : (Jvm.Cond.code ({ cls := "CutStoreModel", name := "piece", desc := "(II)I" } : Jvm.MethodName) prog_11_method_41_code (3 : Nat) (Option.some Jvm.ClassFile.FieldType.int)) ∈ gTs := gTs_mem (i := 961) (by decide +kernel) rfl
theorem wd_962 : (Jvm.Cond.methodLink "CutStoreLaw" (113 : Nat) ({ cls := "CutStoreModel", name := "count", desc := "(I)I" } : Jvm.MethodName)) ∈ gTs := gTs_mem (i := 962) (by decide +kernel) rfl
theorem wd_963 : (Jvm.Cond.instanceMethod ({ cls := "CutStoreModel", name := "count", desc := "(I)I" } : Jvm.MethodName)) ∈ gTs := gTs_mem (i := 963) (by decide +kernel) rfl
theorem wd_964 : (Jvm.Cond.selects "CutStoreModel" ({ cls := "CutStoreModel", name := "count", desc := "(I)I" } : Jvm.MethodName) ({ cls := "CutStoreModel", name := "count", desc := "(I)I" } : Jvm.MethodName)) ∈ gTs := gTs_mem (i := 964) (by decide +kernel) rfl
theorem wd_965 : (Jvm.Cond.code ({ cls := "CutStoreModel", name := "count", desc := "(I)I" } : Jvm.MethodName) prog_11_method_42_code (6 : Nat) (Option.some Jvm.ClassFile.FieldType.int)) ∈ gTs := gTs_mem (i := 965) (by decide +kernel) rfl
theorem wd_966 : (Jvm.Cond.methodLink "CutStoreLaw" (117 : Nat) ({ cls := "CutStoreModel", name := "prices", desc := "(II)Z" } : Jvm.MethodName)) ∈ gTs := gTs_mem (i := 966) (by decide +kernel) rfl
theorem wd_967 : (Jvm.Cond.instanceMethod ({ cls := "CutStoreModel", name := "prices", desc := "(II)Z" } : Jvm.MethodName)) ∈ gTs := gTs_mem (i := 967) (by decide +kernel) rfl
theorem wd_968 : (Jvm.Cond.selects "CutStoreModel" ({ cls := "CutStoreModel", name := "prices", desc := "(II)Z" } : Jvm.MethodName) ({ cls := "CutStoreModel", name := "prices", desc := "(II)Z" } : Jvm.MethodName)) ∈ gTs := gTs_mem (i := 968) (by decide +kernel) rfl
theorem wd_969 : (Jvm.Cond.code ({ cls := "CutStoreModel", name := "prices", desc := "(II)Z" } : Jvm.MethodName) prog_11_method_43_code (3 : Nat) (Option.some Jvm.ClassFile.FieldType.boolean)) ∈ gTs := gTs_mem (i := 969) (by decide +kernel) rfl
theorem wd_970 : (Jvm.Cond.methodLink "CutStoreLaw" (122 : Nat) ({ cls := "CutStoreModel", name := "supers", desc := "()I" } : Jvm.MethodName)) ∈ gTs := gTs_mem (i := 970) (by decide +kernel) rfl
theorem wd_971 : (Jvm.Cond.instanceMethod ({ cls := "CutStoreModel", name := "supers", desc := "()I" } : Jvm.MethodName)) ∈ gTs := gTs_mem (i := 971) (by decide +kernel) rfl
theorem wd_972 : (Jvm.Cond.selects "CutStoreModel" ({ cls := "CutStoreModel", name := "supers", desc := "()I" } : Jvm.MethodName) ({ cls := "CutStoreModel", name := "supers", desc := "()I" } : Jvm.MethodName)) ∈ gTs := gTs_mem (i := 972) (by decide +kernel) rfl
theorem wd_973 : (Jvm.Cond.code ({ cls := "CutStoreModel", name := "supers", desc := "()I" } : Jvm.MethodName) prog_11_method_48_code (4 : Nat) (Option.some Jvm.ClassFile.FieldType.int)) ∈ gTs := gTs_mem (i := 973) (by decide +kernel) rfl
theorem wd_974 : (Jvm.Cond.methodLink "CutStoreModel" (198 : Nat) ({ cls := "CutStoreModel", name := "mostOften", desc := "()I" } : Jvm.MethodName)) ∈ gTs := gTs_mem (i := 974) (by decide +kernel) rfl
theorem wd_976 : (Jvm.Cond.instanceMethod ({ cls := "CutStoreModel", name := "mostOften", desc := "()I" } : Jvm.MethodName)) ∈ gTs := gTs_mem (i := 976) (by decide +kernel) rfl
theorem wd_977 : (Jvm.Cond.code ({ cls := "CutStoreModel", name := "mostOften", desc := "()I" } : Jvm.MethodName) prog_11_method_45_code (6 : Nat) (Option.some Jvm.ClassFile.FieldType.int)) ∈ gTs := gTs_mem (i := 977) (by decide +kernel) rfl
theorem wd_978 : (Jvm.Cond.methodLink "CutStoreModel" (192 : Nat) ({ cls := "CutStoreModel", name := "pairAt", desc := "(II)I" } : Jvm.MethodName)) ∈ gTs := gTs_mem (i := 978) (by decide +kernel) rfl
theorem wd_979 : (Jvm.Cond.static ({ cls := "CutStoreModel", name := "pairAt", desc := "(II)I" } : Jvm.MethodName)) ∈ gTs := gTs_mem (i := 979) (by decide +kernel) rfl
theorem wd_980 : (Jvm.Cond.code ({ cls := "CutStoreModel", name := "pairAt", desc := "(II)I" } : Jvm.MethodName) prog_11_method_44_code (2 : Nat) (Option.some Jvm.ClassFile.FieldType.int)) ∈ gTs := gTs_mem (i := 980) (by decide +kernel) rfl
theorem wd_981 : (Jvm.Cond.methodLink "CutStoreModel" (201 : Nat) ({ cls := "CutStoreModel", name := "told", desc := "(I)I" } : Jvm.MethodName)) ∈ gTs := gTs_mem (i := 981) (by decide +kernel) rfl
theorem wd_982 : (Jvm.Cond.static ({ cls := "CutStoreModel", name := "told", desc := "(I)I" } : Jvm.MethodName)) ∈ gTs := gTs_mem (i := 982) (by decide +kernel) rfl
theorem wd_983 : (Jvm.Cond.code ({ cls := "CutStoreModel", name := "told", desc := "(I)I" } : Jvm.MethodName) prog_11_method_47_code (1 : Nat) (Option.some Jvm.ClassFile.FieldType.int)) ∈ gTs := gTs_mem (i := 983) (by decide +kernel) rfl
theorem wd_984 : (Jvm.Cond.methodLink "CutStoreModel" (204 : Nat) ({ cls := "CutStoreModel", name := "gives", desc := "(II)I" } : Jvm.MethodName)) ∈ gTs := gTs_mem (i := 984) (by decide +kernel) rfl
theorem wd_986 : (Jvm.Cond.instanceMethod ({ cls := "CutStoreModel", name := "gives", desc := "(II)I" } : Jvm.MethodName)) ∈ gTs := gTs_mem (i := 986) (by decide +kernel) rfl
theorem wd_987 : (Jvm.Cond.code ({ cls := "CutStoreModel", name := "gives", desc := "(II)I" } : Jvm.MethodName) prog_11_method_46_code (10 : Nat) (Option.some Jvm.ClassFile.FieldType.int)) ∈ gTs := gTs_mem (i := 987) (by decide +kernel) rfl
theorem wd_988 : (Jvm.Cond.methodLink "CutStoreLaw" (126 : Nat) ({ cls := "CutStoreModel", name := "pair", desc := "(II)I" } : Jvm.MethodName)) ∈ gTs := gTs_mem (i := 988) (by decide +kernel) rfl
theorem wd_989 : (Jvm.Cond.instanceMethod ({ cls := "CutStoreModel", name := "pair", desc := "(II)I" } : Jvm.MethodName)) ∈ gTs := gTs_mem (i := 989) (by decide +kernel) rfl
theorem wd_990 : (Jvm.Cond.selects "CutStoreModel" ({ cls := "CutStoreModel", name := "pair", desc := "(II)I" } : Jvm.MethodName) ({ cls := "CutStoreModel", name := "pair", desc := "(II)I" } : Jvm.MethodName)) ∈ gTs := gTs_mem (i := 990) (by decide +kernel) rfl
theorem wd_991 : (Jvm.Cond.code ({ cls := "CutStoreModel", name := "pair", desc := "(II)I" } : Jvm.MethodName) prog_11_method_49_code (3 : Nat) (Option.some Jvm.ClassFile.FieldType.int)) ∈ gTs := gTs_mem (i := 991) (by decide +kernel) rfl
theorem inX0 : ∀ w ∈ wsX00, w ∈ gTs := List.forall_mem_cons.mpr ⟨wd_143, List.forall_mem_cons.mpr ⟨wd_145, List.forall_mem_cons.mpr ⟨wd_147, List.forall_mem_cons.mpr ⟨wd_149, List.forall_mem_cons.mpr ⟨wd_151, fun _ h => absurd h List.not_mem_nil⟩⟩⟩⟩⟩
theorem inX1 : ∀ w ∈ wsX10, w ∈ gTs := List.forall_mem_cons.mpr ⟨wd_165, List.forall_mem_cons.mpr ⟨wd_167, List.forall_mem_cons.mpr ⟨wd_169, List.forall_mem_cons.mpr ⟨wd_171, fun _ h => absurd h List.not_mem_nil⟩⟩⟩⟩
theorem inX2 : ∀ w ∈ wsX20, w ∈ gTs := List.forall_mem_cons.mpr ⟨wd_74, List.forall_mem_cons.mpr ⟨wd_76, fun _ h => absurd h List.not_mem_nil⟩⟩
theorem inX3 : ∀ w ∈ wsX30, w ∈ gTs := List.forall_mem_cons.mpr ⟨wd_253, List.forall_mem_cons.mpr ⟨wd_255, List.forall_mem_cons.mpr ⟨wd_257, List.forall_mem_cons.mpr ⟨wd_259, List.forall_mem_cons.mpr ⟨wd_261, List.forall_mem_cons.mpr ⟨wd_263, List.forall_mem_cons.mpr ⟨wd_265, List.forall_mem_cons.mpr ⟨wd_267, fun _ h => absurd h List.not_mem_nil⟩⟩⟩⟩⟩⟩⟩⟩
theorem inX4 : ∀ w ∈ wsX40, w ∈ gTs := List.forall_mem_cons.mpr ⟨wd_114, List.forall_mem_cons.mpr ⟨wd_116, List.forall_mem_cons.mpr ⟨wd_118, List.forall_mem_cons.mpr ⟨wd_120, List.forall_mem_cons.mpr ⟨wd_122, List.forall_mem_cons.mpr ⟨wd_124, fun _ h => absurd h List.not_mem_nil⟩⟩⟩⟩⟩⟩
theorem inX5 : ∀ w ∈ wsX50, w ∈ gTs := List.forall_mem_cons.mpr ⟨wd_205, List.forall_mem_cons.mpr ⟨wd_207, List.forall_mem_cons.mpr ⟨wd_209, List.forall_mem_cons.mpr ⟨wd_211, List.forall_mem_cons.mpr ⟨wd_213, List.forall_mem_cons.mpr ⟨wd_215, List.forall_mem_cons.mpr ⟨wd_217, List.forall_mem_cons.mpr ⟨wd_219, List.forall_mem_cons.mpr ⟨wd_221, List.forall_mem_cons.mpr ⟨wd_223, List.forall_mem_cons.mpr ⟨wd_225, List.forall_mem_cons.mpr ⟨wd_227, fun _ h => absurd h List.not_mem_nil⟩⟩⟩⟩⟩⟩⟩⟩⟩⟩⟩⟩
theorem inX6 : ∀ w ∈ wsX60, w ∈ gTs := List.forall_mem_cons.mpr ⟨wd_282, List.forall_mem_cons.mpr ⟨wd_284, List.forall_mem_cons.mpr ⟨wd_286, List.forall_mem_cons.mpr ⟨wd_288, List.forall_mem_cons.mpr ⟨wd_290, List.forall_mem_cons.mpr ⟨wd_292, List.forall_mem_cons.mpr ⟨wd_294, List.forall_mem_cons.mpr ⟨wd_296, fun _ h => absurd h List.not_mem_nil⟩⟩⟩⟩⟩⟩⟩⟩
theorem inX7 : ∀ w ∈ wsX70, w ∈ gTs := List.forall_mem_cons.mpr ⟨wd_92, List.forall_mem_cons.mpr ⟨wd_94, fun _ h => absurd h List.not_mem_nil⟩⟩
theorem inX8 : ∀ w ∈ wsX80, w ∈ gTs := List.forall_mem_cons.mpr ⟨wd_309, List.forall_mem_cons.mpr ⟨wd_311, List.forall_mem_cons.mpr ⟨wd_313, List.forall_mem_cons.mpr ⟨wd_315, List.forall_mem_cons.mpr ⟨wd_317, List.forall_mem_cons.mpr ⟨wd_319, List.forall_mem_cons.mpr ⟨wd_321, List.forall_mem_cons.mpr ⟨wd_323, List.forall_mem_cons.mpr ⟨wd_325, List.forall_mem_cons.mpr ⟨wd_327, fun _ h => absurd h List.not_mem_nil⟩⟩⟩⟩⟩⟩⟩⟩⟩⟩
theorem inX9 : ∀ w ∈ wsX90, w ∈ gTs := List.forall_mem_cons.mpr ⟨wd_725, List.forall_mem_cons.mpr ⟨wd_727, List.forall_mem_cons.mpr ⟨wd_729, List.forall_mem_cons.mpr ⟨wd_731, List.forall_mem_cons.mpr ⟨wd_733, List.forall_mem_cons.mpr ⟨wd_735, List.forall_mem_cons.mpr ⟨wd_737, List.forall_mem_cons.mpr ⟨wd_739, List.forall_mem_cons.mpr ⟨wd_741, List.forall_mem_cons.mpr ⟨wd_743, List.forall_mem_cons.mpr ⟨wd_745, List.forall_mem_cons.mpr ⟨wd_747, List.forall_mem_cons.mpr ⟨wd_749, List.forall_mem_cons.mpr ⟨wd_751, List.forall_mem_cons.mpr ⟨wd_753, List.forall_mem_cons.mpr ⟨wd_755, List.forall_mem_cons.mpr ⟨wd_757, List.forall_mem_cons.mpr ⟨wd_759, List.forall_mem_cons.mpr ⟨wd_761, List.forall_mem_cons.mpr ⟨wd_763, List.forall_mem_cons.mpr ⟨wd_765, List.forall_mem_cons.mpr ⟨wd_767, List.forall_mem_cons.mpr ⟨wd_769, List.forall_mem_cons.mpr ⟨wd_771, List.forall_mem_cons.mpr ⟨wd_773, List.forall_mem_cons.mpr ⟨wd_775, List.forall_mem_cons.mpr ⟨wd_777, List.forall_mem_cons.mpr ⟨wd_779, List.forall_mem_cons.mpr ⟨wd_781, List.forall_mem_cons.mpr ⟨wd_783, List.forall_mem_cons.mpr ⟨wd_785, List.forall_mem_cons.mpr ⟨wd_787, List.forall_mem_cons.mpr ⟨wd_789, List.forall_mem_cons.mpr ⟨wd_791, List.forall_mem_cons.mpr ⟨wd_793, List.forall_mem_cons.mpr ⟨wd_795, List.forall_mem_cons.mpr ⟨wd_797, fun _ h => absurd h List.not_mem_nil⟩⟩⟩⟩⟩⟩⟩⟩⟩⟩⟩⟩⟩⟩⟩⟩⟩⟩⟩⟩⟩⟩⟩⟩⟩⟩⟩⟩⟩⟩⟩⟩⟩⟩⟩⟩⟩
end
section
theorem dX0_init_0 : decode cX0_init 0 = .ok (.aload_n 0, 1) := by decide +kernel
theorem dX0_init_1 : decode cX0_init 1 = .ok (.invokespecial 3, 3) := by decide +kernel
theorem dX0_init_4 : decode cX0_init 4 = .ok (.aload_n 0, 1) := by decide +kernel
theorem dX0_init_5 : decode cX0_init 5 = .ok (.sipush 600, 3) := by decide +kernel
theorem dX0_init_8 : decode cX0_init 8 = .ok (.newarray .int, 2) := by decide +kernel
theorem dX0_init_10 : decode cX0_init 10 = .ok (.putfield 9, 3) := by decide +kernel
theorem dX0_init_13 : decode cX0_init 13 = .ok (.aload_n 0, 1) := by decide +kernel
theorem dX0_init_14 : decode cX0_init 14 = .ok (.sipush 601, 3) := by decide +kernel
theorem dX0_init_17 : decode cX0_init 17 = .ok (.newarray .int, 2) := by decide +kernel
theorem dX0_init_19 : decode cX0_init 19 = .ok (.putfield 15, 3) := by decide +kernel
theorem dX0_init_22 : decode cX0_init 22 = .ok (.aload_n 0, 1) := by decide +kernel
theorem dX0_init_23 : decode cX0_init 23 = .ok (.aload_n 1, 1) := by decide +kernel
theorem dX0_init_24 : decode cX0_init 24 = .ok (.putfield 18, 3) := by decide +kernel
theorem dX0_init_27 : decode cX0_init 27 = .ok (.return_, 1) := by decide +kernel
theorem dX0_startOf_0 : decode cX0_startOf 0 = .ok (.aload_n 0, 1) := by decide +kernel
theorem dX0_startOf_1 : decode cX0_startOf 1 = .ok (.getfield 18, 3) := by decide +kernel
theorem dX0_startOf_4 : decode cX0_startOf 4 = .ok (.aload_n 0, 1) := by decide +kernel
theorem dX0_startOf_5 : decode cX0_startOf 5 = .ok (.getfield 22, 3) := by decide +kernel
theorem dX0_startOf_8 : decode cX0_startOf 8 = .ok (.invokevirtual 26, 3) := by decide +kernel
theorem dX0_startOf_11 : decode cX0_startOf 11 = .ok (.aload_n 0, 1) := by decide +kernel
theorem dX0_startOf_12 : decode cX0_startOf 12 = .ok (.getfield 15, 3) := by decide +kernel
theorem dX0_startOf_15 : decode cX0_startOf 15 = .ok (.iload_n 1, 1) := by decide +kernel
theorem dX0_startOf_16 : decode cX0_startOf 16 = .ok (.iaload, 1) := by decide +kernel
theorem dX0_startOf_17 : decode cX0_startOf 17 = .ok (.iadd, 1) := by decide +kernel
theorem dX0_startOf_18 : decode cX0_startOf 18 = .ok (.ireturn, 1) := by decide +kernel
theorem dX0_lengthOf_0 : decode cX0_lengthOf 0 = .ok (.aload_n 0, 1) := by decide +kernel
theorem dX0_lengthOf_1 : decode cX0_lengthOf 1 = .ok (.getfield 15, 3) := by decide +kernel
theorem dX0_lengthOf_4 : decode cX0_lengthOf 4 = .ok (.iload_n 1, 1) := by decide +kernel
theorem dX0_lengthOf_5 : decode cX0_lengthOf 5 = .ok (.iconst 1, 1) := by decide +kernel
theorem dX0_lengthOf_6 : decode cX0_lengthOf 6 = .ok (.iadd, 1) := by decide +kernel
theorem dX0_lengthOf_7 : decode cX0_lengthOf 7 = .ok (.iaload, 1) := by decide +kernel
theorem dX0_lengthOf_8 : decode cX0_lengthOf 8 = .ok (.aload_n 0, 1) := by decide +kernel
theorem dX0_lengthOf_9 : decode cX0_lengthOf 9 = .ok (.getfield 15, 3) := by decide +kernel
theorem dX0_lengthOf_12 : decode cX0_lengthOf 12 = .ok (.iload_n 1, 1) := by decide +kernel
theorem dX0_lengthOf_13 : decode cX0_lengthOf 13 = .ok (.iaload, 1) := by decide +kernel
theorem dX0_lengthOf_14 : decode cX0_lengthOf 14 = .ok (.isub, 1) := by decide +kernel
theorem dX0_lengthOf_15 : decode cX0_lengthOf 15 = .ok (.ireturn, 1) := by decide +kernel
theorem dX0_addUp_0 : decode cX0_addUp 0 = .ok (.iconst 1, 1) := by decide +kernel
theorem dX0_addUp_1 : decode cX0_addUp 1 = .ok (.istore_n 3, 1) := by decide +kernel
theorem dX0_addUp_2 : decode cX0_addUp 2 = .ok (.iconst 0, 1) := by decide +kernel
theorem dX0_addUp_3 : decode cX0_addUp 3 = .ok (.istore 4, 2) := by decide +kernel
theorem dX0_addUp_5 : decode cX0_addUp 5 = .ok (.iload 4, 2) := by decide +kernel
theorem dX0_addUp_7 : decode cX0_addUp 7 = .ok (.aload_n 1, 1) := by decide +kernel
theorem dX0_addUp_8 : decode cX0_addUp 8 = .ok (.getfield 32, 3) := by decide +kernel
theorem dX0_addUp_11 : decode cX0_addUp 11 = .ok (.if_icmp .ge 14, 3) := by decide +kernel
theorem dX0_addUp_14 : decode cX0_addUp 14 = .ok (.iload_n 3, 1) := by decide +kernel
theorem dX0_addUp_15 : decode cX0_addUp 15 = .ok (.bipush 31, 2) := by decide +kernel
theorem dX0_addUp_17 : decode cX0_addUp 17 = .ok (.imul, 1) := by decide +kernel
theorem dX0_addUp_18 : decode cX0_addUp 18 = .ok (.istore_n 3, 1) := by decide +kernel
theorem dX0_addUp_19 : decode cX0_addUp 19 = .ok (.iinc 4 1, 3) := by decide +kernel
theorem dX0_addUp_22 : decode cX0_addUp 22 = .ok (.goto (-17), 3) := by decide +kernel
theorem dX0_addUp_25 : decode cX0_addUp 25 = .ok (.iconst 0, 1) := by decide +kernel
theorem dX0_addUp_26 : decode cX0_addUp 26 = .ok (.istore 4, 2) := by decide +kernel
theorem dX0_addUp_28 : decode cX0_addUp 28 = .ok (.iconst 0, 1) := by decide +kernel
theorem dX0_addUp_29 : decode cX0_addUp 29 = .ok (.istore 5, 2) := by decide +kernel
theorem dX0_addUp_31 : decode cX0_addUp 31 = .ok (.iload 5, 2) := by decide +kernel
theorem dX0_addUp_33 : decode cX0_addUp 33 = .ok (.aload_n 0, 1) := by decide +kernel
theorem dX0_addUp_34 : decode cX0_addUp 34 = .ok (.getfield 18, 3) := by decide +kernel
theorem dX0_addUp_37 : decode cX0_addUp 37 = .ok (.getfield 37, 3) := by decide +kernel
theorem dX0_addUp_40 : decode cX0_addUp 40 = .ok (.iload_n 2, 1) := by decide +kernel
theorem dX0_addUp_41 : decode cX0_addUp 41 = .ok (.iaload, 1) := by decide +kernel
theorem dX0_addUp_42 : decode cX0_addUp 42 = .ok (.if_icmp .ge 74, 3) := by decide +kernel
theorem dX0_addUp_45 : decode cX0_addUp 45 = .ok (.iload 4, 2) := by decide +kernel
theorem dX0_addUp_47 : decode cX0_addUp 47 = .ok (.bipush 31, 2) := by decide +kernel
theorem dX0_addUp_49 : decode cX0_addUp 49 = .ok (.imul, 1) := by decide +kernel
theorem dX0_addUp_50 : decode cX0_addUp 50 = .ok (.aload_n 0, 1) := by decide +kernel
theorem dX0_addUp_51 : decode cX0_addUp 51 = .ok (.getfield 18, 3) := by decide +kernel
theorem dX0_addUp_54 : decode cX0_addUp 54 = .ok (.iload_n 2, 1) := by decide +kernel
theorem dX0_addUp_55 : decode cX0_addUp 55 = .ok (.iload 5, 2) := by decide +kernel
theorem dX0_addUp_57 : decode cX0_addUp 57 = .ok (.invokevirtual 40, 3) := by decide +kernel
theorem dX0_addUp_60 : decode cX0_addUp 60 = .ok (.iadd, 1) := by decide +kernel
theorem dX0_addUp_61 : decode cX0_addUp 61 = .ok (.iconst 1, 1) := by decide +kernel
theorem dX0_addUp_62 : decode cX0_addUp 62 = .ok (.iadd, 1) := by decide +kernel
theorem dX0_addUp_63 : decode cX0_addUp 63 = .ok (.istore 4, 2) := by decide +kernel
theorem dX0_addUp_65 : decode cX0_addUp 65 = .ok (.iload 5, 2) := by decide +kernel
theorem dX0_addUp_67 : decode cX0_addUp 67 = .ok (.aload_n 1, 1) := by decide +kernel
theorem dX0_addUp_68 : decode cX0_addUp 68 = .ok (.getfield 32, 3) := by decide +kernel
theorem dX0_addUp_71 : decode cX0_addUp 71 = .ok (.if_icmp .lt 27, 3) := by decide +kernel
theorem dX0_addUp_74 : decode cX0_addUp 74 = .ok (.iload 4, 2) := by decide +kernel
theorem dX0_addUp_76 : decode cX0_addUp 76 = .ok (.iload_n 3, 1) := by decide +kernel
theorem dX0_addUp_77 : decode cX0_addUp 77 = .ok (.aload_n 0, 1) := by decide +kernel
theorem dX0_addUp_78 : decode cX0_addUp 78 = .ok (.getfield 18, 3) := by decide +kernel
theorem dX0_addUp_81 : decode cX0_addUp 81 = .ok (.iload_n 2, 1) := by decide +kernel
theorem dX0_addUp_82 : decode cX0_addUp 82 = .ok (.iload 5, 2) := by decide +kernel
theorem dX0_addUp_84 : decode cX0_addUp 84 = .ok (.aload_n 1, 1) := by decide +kernel
theorem dX0_addUp_85 : decode cX0_addUp 85 = .ok (.getfield 32, 3) := by decide +kernel
theorem dX0_addUp_88 : decode cX0_addUp 88 = .ok (.isub, 1) := by decide +kernel
theorem dX0_addUp_89 : decode cX0_addUp 89 = .ok (.invokevirtual 40, 3) := by decide +kernel
theorem dX0_addUp_92 : decode cX0_addUp 92 = .ok (.iconst 1, 1) := by decide +kernel
theorem dX0_addUp_93 : decode cX0_addUp 93 = .ok (.iadd, 1) := by decide +kernel
theorem dX0_addUp_94 : decode cX0_addUp 94 = .ok (.imul, 1) := by decide +kernel
theorem dX0_addUp_95 : decode cX0_addUp 95 = .ok (.isub, 1) := by decide +kernel
theorem dX0_addUp_96 : decode cX0_addUp 96 = .ok (.istore 4, 2) := by decide +kernel
theorem dX0_addUp_98 : decode cX0_addUp 98 = .ok (.aload_n 0, 1) := by decide +kernel
theorem dX0_addUp_99 : decode cX0_addUp 99 = .ok (.getfield 9, 3) := by decide +kernel
theorem dX0_addUp_102 : decode cX0_addUp 102 = .ok (.iload 5, 2) := by decide +kernel
theorem dX0_addUp_104 : decode cX0_addUp 104 = .ok (.iload 4, 2) := by decide +kernel
theorem dX0_addUp_106 : decode cX0_addUp 106 = .ok (.ldc 44, 2) := by decide +kernel
theorem dX0_addUp_108 : decode cX0_addUp 108 = .ok (.iand, 1) := by decide +kernel
theorem dX0_addUp_109 : decode cX0_addUp 109 = .ok (.iastore, 1) := by decide +kernel
theorem dX0_addUp_110 : decode cX0_addUp 110 = .ok (.iinc 5 1, 3) := by decide +kernel
theorem dX0_addUp_113 : decode cX0_addUp 113 = .ok (.goto (-82), 3) := by decide +kernel
theorem dX0_addUp_116 : decode cX0_addUp 116 = .ok (.return_, 1) := by decide +kernel
theorem dX0_divide_0 : decode cX0_divide 0 = .ok (.aload_n 1, 1) := by decide +kernel
theorem dX0_divide_1 : decode cX0_divide 1 = .ok (.invokevirtual 45, 3) := by decide +kernel
theorem dX0_divide_4 : decode cX0_divide 4 = .ok (.ifCond .eq 9, 3) := by decide +kernel
theorem dX0_divide_7 : decode cX0_divide 7 = .ok (.aload_n 0, 1) := by decide +kernel
theorem dX0_divide_8 : decode cX0_divide 8 = .ok (.aload_n 1, 1) := by decide +kernel
theorem dX0_divide_9 : decode cX0_divide 9 = .ok (.iload_n 2, 1) := by decide +kernel
theorem dX0_divide_10 : decode cX0_divide 10 = .ok (.invokevirtual 49, 3) := by decide +kernel
theorem dX0_divide_13 : decode cX0_divide 13 = .ok (.aload_n 0, 1) := by decide +kernel
theorem dX0_divide_14 : decode cX0_divide 14 = .ok (.iload_n 2, 1) := by decide +kernel
theorem dX0_divide_15 : decode cX0_divide 15 = .ok (.putfield 22, 3) := by decide +kernel
theorem dX0_divide_18 : decode cX0_divide 18 = .ok (.aload_n 0, 1) := by decide +kernel
theorem dX0_divide_19 : decode cX0_divide 19 = .ok (.iconst 0, 1) := by decide +kernel
theorem dX0_divide_20 : decode cX0_divide 20 = .ok (.putfield 53, 3) := by decide +kernel
theorem dX0_divide_23 : decode cX0_divide 23 = .ok (.aload_n 0, 1) := by decide +kernel
theorem dX0_divide_24 : decode cX0_divide 24 = .ok (.getfield 53, 3) := by decide +kernel
theorem dX0_divide_27 : decode cX0_divide 27 = .ok (.sipush 600, 3) := by decide +kernel
theorem dX0_divide_30 : decode cX0_divide 30 = .ok (.if_icmp .ge 62, 3) := by decide +kernel
theorem dX0_divide_33 : decode cX0_divide 33 = .ok (.aload_n 0, 1) := by decide +kernel
theorem dX0_divide_34 : decode cX0_divide 34 = .ok (.getfield 15, 3) := by decide +kernel
theorem dX0_divide_37 : decode cX0_divide 37 = .ok (.aload_n 0, 1) := by decide +kernel
theorem dX0_divide_38 : decode cX0_divide 38 = .ok (.getfield 53, 3) := by decide +kernel
theorem dX0_divide_41 : decode cX0_divide 41 = .ok (.iaload, 1) := by decide +kernel
theorem dX0_divide_42 : decode cX0_divide 42 = .ok (.aload_n 0, 1) := by decide +kernel
theorem dX0_divide_43 : decode cX0_divide 43 = .ok (.getfield 18, 3) := by decide +kernel
theorem dX0_divide_46 : decode cX0_divide 46 = .ok (.getfield 37, 3) := by decide +kernel
theorem dX0_divide_49 : decode cX0_divide 49 = .ok (.iload_n 2, 1) := by decide +kernel
theorem dX0_divide_50 : decode cX0_divide 50 = .ok (.iaload, 1) := by decide +kernel
theorem dX0_divide_51 : decode cX0_divide 51 = .ok (.if_icmp .ge 41, 3) := by decide +kernel
theorem dX0_divide_54 : decode cX0_divide 54 = .ok (.aload_n 0, 1) := by decide +kernel
theorem dX0_divide_55 : decode cX0_divide 55 = .ok (.getfield 15, 3) := by decide +kernel
theorem dX0_divide_58 : decode cX0_divide 58 = .ok (.aload_n 0, 1) := by decide +kernel
theorem dX0_divide_59 : decode cX0_divide 59 = .ok (.getfield 53, 3) := by decide +kernel
theorem dX0_divide_62 : decode cX0_divide 62 = .ok (.iconst 1, 1) := by decide +kernel
theorem dX0_divide_63 : decode cX0_divide 63 = .ok (.iadd, 1) := by decide +kernel
theorem dX0_divide_64 : decode cX0_divide 64 = .ok (.aload_n 0, 1) := by decide +kernel
theorem dX0_divide_65 : decode cX0_divide 65 = .ok (.aload_n 1, 1) := by decide +kernel
theorem dX0_divide_66 : decode cX0_divide 66 = .ok (.aload_n 0, 1) := by decide +kernel
theorem dX0_divide_67 : decode cX0_divide 67 = .ok (.getfield 15, 3) := by decide +kernel
theorem dX0_divide_70 : decode cX0_divide 70 = .ok (.aload_n 0, 1) := by decide +kernel
theorem dX0_divide_71 : decode cX0_divide 71 = .ok (.getfield 53, 3) := by decide +kernel
theorem dX0_divide_74 : decode cX0_divide 74 = .ok (.iaload, 1) := by decide +kernel
theorem dX0_divide_75 : decode cX0_divide 75 = .ok (.invokevirtual 56, 3) := by decide +kernel
theorem dX0_divide_78 : decode cX0_divide 78 = .ok (.iastore, 1) := by decide +kernel
theorem dX0_divide_79 : decode cX0_divide 79 = .ok (.aload_n 0, 1) := by decide +kernel
theorem dX0_divide_80 : decode cX0_divide 80 = .ok (.dup, 1) := by decide +kernel
theorem dX0_divide_81 : decode cX0_divide 81 = .ok (.getfield 53, 3) := by decide +kernel
theorem dX0_divide_84 : decode cX0_divide 84 = .ok (.iconst 1, 1) := by decide +kernel
theorem dX0_divide_85 : decode cX0_divide 85 = .ok (.iadd, 1) := by decide +kernel
theorem dX0_divide_86 : decode cX0_divide 86 = .ok (.putfield 53, 3) := by decide +kernel
theorem dX0_divide_89 : decode cX0_divide 89 = .ok (.goto (-66), 3) := by decide +kernel
theorem dX0_divide_92 : decode cX0_divide 92 = .ok (.return_, 1) := by decide +kernel
theorem dX0_endOfPiece_0 : decode cX0_endOfPiece 0 = .ok (.iload_n 2, 1) := by decide +kernel
theorem dX0_endOfPiece_1 : decode cX0_endOfPiece 1 = .ok (.aload_n 1, 1) := by decide +kernel
theorem dX0_endOfPiece_2 : decode cX0_endOfPiece 2 = .ok (.getfield 60, 3) := by decide +kernel
theorem dX0_endOfPiece_5 : decode cX0_endOfPiece 5 = .ok (.iadd, 1) := by decide +kernel
theorem dX0_endOfPiece_6 : decode cX0_endOfPiece 6 = .ok (.istore_n 3, 1) := by decide +kernel
theorem dX0_endOfPiece_7 : decode cX0_endOfPiece 7 = .ok (.iload_n 3, 1) := by decide +kernel
theorem dX0_endOfPiece_8 : decode cX0_endOfPiece 8 = .ok (.aload_n 0, 1) := by decide +kernel
theorem dX0_endOfPiece_9 : decode cX0_endOfPiece 9 = .ok (.getfield 18, 3) := by decide +kernel
theorem dX0_endOfPiece_12 : decode cX0_endOfPiece 12 = .ok (.getfield 37, 3) := by decide +kernel
theorem dX0_endOfPiece_15 : decode cX0_endOfPiece 15 = .ok (.aload_n 0, 1) := by decide +kernel
theorem dX0_endOfPiece_16 : decode cX0_endOfPiece 16 = .ok (.getfield 22, 3) := by decide +kernel
theorem dX0_endOfPiece_19 : decode cX0_endOfPiece 19 = .ok (.iaload, 1) := by decide +kernel
theorem dX0_endOfPiece_20 : decode cX0_endOfPiece 20 = .ok (.invokestatic 63, 3) := by decide +kernel
theorem dX0_endOfPiece_23 : decode cX0_endOfPiece 23 = .ok (.istore 4, 2) := by decide +kernel
theorem dX0_endOfPiece_25 : decode cX0_endOfPiece 25 = .ok (.iload 4, 2) := by decide +kernel
theorem dX0_endOfPiece_27 : decode cX0_endOfPiece 27 = .ok (.istore 5, 2) := by decide +kernel
theorem dX0_endOfPiece_29 : decode cX0_endOfPiece 29 = .ok (.iload_n 2, 1) := by decide +kernel
theorem dX0_endOfPiece_30 : decode cX0_endOfPiece 30 = .ok (.aload_n 1, 1) := by decide +kernel
theorem dX0_endOfPiece_31 : decode cX0_endOfPiece 31 = .ok (.getfield 68, 3) := by decide +kernel
theorem dX0_endOfPiece_34 : decode cX0_endOfPiece 34 = .ok (.iadd, 1) := by decide +kernel
theorem dX0_endOfPiece_35 : decode cX0_endOfPiece 35 = .ok (.istore 6, 2) := by decide +kernel
theorem dX0_endOfPiece_37 : decode cX0_endOfPiece 37 = .ok (.iload 6, 2) := by decide +kernel
theorem dX0_endOfPiece_39 : decode cX0_endOfPiece 39 = .ok (.iload 4, 2) := by decide +kernel
theorem dX0_endOfPiece_41 : decode cX0_endOfPiece 41 = .ok (.if_icmp .gt 63, 3) := by decide +kernel
theorem dX0_endOfPiece_44 : decode cX0_endOfPiece 44 = .ok (.aload_n 1, 1) := by decide +kernel
theorem dX0_endOfPiece_45 : decode cX0_endOfPiece 45 = .ok (.aload_n 0, 1) := by decide +kernel
theorem dX0_endOfPiece_46 : decode cX0_endOfPiece 46 = .ok (.getfield 18, 3) := by decide +kernel
theorem dX0_endOfPiece_49 : decode cX0_endOfPiece 49 = .ok (.aload_n 0, 1) := by decide +kernel
theorem dX0_endOfPiece_50 : decode cX0_endOfPiece 50 = .ok (.getfield 22, 3) := by decide +kernel
theorem dX0_endOfPiece_53 : decode cX0_endOfPiece 53 = .ok (.iload 6, 2) := by decide +kernel
theorem dX0_endOfPiece_55 : decode cX0_endOfPiece 55 = .ok (.iconst 1, 1) := by decide +kernel
theorem dX0_endOfPiece_56 : decode cX0_endOfPiece 56 = .ok (.isub, 1) := by decide +kernel
theorem dX0_endOfPiece_57 : decode cX0_endOfPiece 57 = .ok (.invokevirtual 40, 3) := by decide +kernel
theorem dX0_endOfPiece_60 : decode cX0_endOfPiece 60 = .ok (.aload_n 0, 1) := by decide +kernel
theorem dX0_endOfPiece_61 : decode cX0_endOfPiece 61 = .ok (.getfield 9, 3) := by decide +kernel
theorem dX0_endOfPiece_64 : decode cX0_endOfPiece 64 = .ok (.iload 6, 2) := by decide +kernel
theorem dX0_endOfPiece_66 : decode cX0_endOfPiece 66 = .ok (.iconst 1, 1) := by decide +kernel
theorem dX0_endOfPiece_67 : decode cX0_endOfPiece 67 = .ok (.isub, 1) := by decide +kernel
theorem dX0_endOfPiece_68 : decode cX0_endOfPiece 68 = .ok (.iaload, 1) := by decide +kernel
theorem dX0_endOfPiece_69 : decode cX0_endOfPiece 69 = .ok (.invokevirtual 71, 3) := by decide +kernel
theorem dX0_endOfPiece_72 : decode cX0_endOfPiece 72 = .ok (.ifCond .eq 6, 3) := by decide +kernel
theorem dX0_endOfPiece_75 : decode cX0_endOfPiece 75 = .ok (.iload 6, 2) := by decide +kernel
theorem dX0_endOfPiece_77 : decode cX0_endOfPiece 77 = .ok (.ireturn, 1) := by decide +kernel
theorem dX0_endOfPiece_78 : decode cX0_endOfPiece 78 = .ok (.aload_n 1, 1) := by decide +kernel
theorem dX0_endOfPiece_79 : decode cX0_endOfPiece 79 = .ok (.aload_n 0, 1) := by decide +kernel
theorem dX0_endOfPiece_80 : decode cX0_endOfPiece 80 = .ok (.getfield 9, 3) := by decide +kernel
theorem dX0_endOfPiece_83 : decode cX0_endOfPiece 83 = .ok (.iload 6, 2) := by decide +kernel
theorem dX0_endOfPiece_85 : decode cX0_endOfPiece 85 = .ok (.iconst 1, 1) := by decide +kernel
theorem dX0_endOfPiece_86 : decode cX0_endOfPiece 86 = .ok (.isub, 1) := by decide +kernel
theorem dX0_endOfPiece_87 : decode cX0_endOfPiece 87 = .ok (.iaload, 1) := by decide +kernel
theorem dX0_endOfPiece_88 : decode cX0_endOfPiece 88 = .ok (.invokevirtual 75, 3) := by decide +kernel
theorem dX0_endOfPiece_91 : decode cX0_endOfPiece 91 = .ok (.ifCond .eq 7, 3) := by decide +kernel
theorem dX0_endOfPiece_94 : decode cX0_endOfPiece 94 = .ok (.iload 6, 2) := by decide +kernel
theorem dX0_endOfPiece_96 : decode cX0_endOfPiece 96 = .ok (.istore 5, 2) := by decide +kernel
theorem dX0_endOfPiece_98 : decode cX0_endOfPiece 98 = .ok (.iinc 6 1, 3) := by decide +kernel
theorem dX0_endOfPiece_101 : decode cX0_endOfPiece 101 = .ok (.goto (-64), 3) := by decide +kernel
theorem dX0_endOfPiece_104 : decode cX0_endOfPiece 104 = .ok (.iload 4, 2) := by decide +kernel
theorem dX0_endOfPiece_106 : decode cX0_endOfPiece 106 = .ok (.iload_n 3, 1) := by decide +kernel
theorem dX0_endOfPiece_107 : decode cX0_endOfPiece 107 = .ok (.if_icmp .ne 8, 3) := by decide +kernel
theorem dX0_endOfPiece_110 : decode cX0_endOfPiece 110 = .ok (.iload 5, 2) := by decide +kernel
theorem dX0_endOfPiece_112 : decode cX0_endOfPiece 112 = .ok (.goto 5, 3) := by decide +kernel
theorem dX0_endOfPiece_115 : decode cX0_endOfPiece 115 = .ok (.iload 4, 2) := by decide +kernel
theorem dX0_endOfPiece_117 : decode cX0_endOfPiece 117 = .ok (.ireturn, 1) := by decide +kernel
theorem dX1_init_0 : decode cX1_init 0 = .ok (.aload_n 0, 1) := by decide +kernel
theorem dX1_init_1 : decode cX1_init 1 = .ok (.invokespecial 3, 3) := by decide +kernel
theorem dX1_init_4 : decode cX1_init 4 = .ok (.aload_n 0, 1) := by decide +kernel
theorem dX1_init_5 : decode cX1_init 5 = .ok (.sipush 8192, 3) := by decide +kernel
theorem dX1_init_8 : decode cX1_init 8 = .ok (.newarray .int, 2) := by decide +kernel
theorem dX1_init_10 : decode cX1_init 10 = .ok (.putfield 9, 3) := by decide +kernel
theorem dX1_init_13 : decode cX1_init 13 = .ok (.aload_n 0, 1) := by decide +kernel
theorem dX1_init_14 : decode cX1_init 14 = .ok (.sipush 8192, 3) := by decide +kernel
theorem dX1_init_17 : decode cX1_init 17 = .ok (.newarray .int, 2) := by decide +kernel
theorem dX1_init_19 : decode cX1_init 19 = .ok (.putfield 15, 3) := by decide +kernel
theorem dX1_init_22 : decode cX1_init 22 = .ok (.aload_n 0, 1) := by decide +kernel
theorem dX1_init_23 : decode cX1_init 23 = .ok (.aload_n 1, 1) := by decide +kernel
theorem dX1_init_24 : decode cX1_init 24 = .ok (.putfield 18, 3) := by decide +kernel
theorem dX1_init_27 : decode cX1_init 27 = .ok (.return_, 1) := by decide +kernel
theorem dX1_clear_0 : decode cX1_clear 0 = .ok (.aload_n 0, 1) := by decide +kernel
theorem dX1_clear_1 : decode cX1_clear 1 = .ok (.getfield 15, 3) := by decide +kernel
theorem dX1_clear_4 : decode cX1_clear 4 = .ok (.iconst 0, 1) := by decide +kernel
theorem dX1_clear_5 : decode cX1_clear 5 = .ok (.invokestatic 22, 3) := by decide +kernel
theorem dX1_clear_8 : decode cX1_clear 8 = .ok (.aload_n 0, 1) := by decide +kernel
theorem dX1_clear_9 : decode cX1_clear 9 = .ok (.iconst 0, 1) := by decide +kernel
theorem dX1_clear_10 : decode cX1_clear 10 = .ok (.putfield 28, 3) := by decide +kernel
theorem dX1_clear_13 : decode cX1_clear 13 = .ok (.return_, 1) := by decide +kernel
theorem dX1_addPieces_0 : decode cX1_addPieces 0 = .ok (.iconst 0, 1) := by decide +kernel
theorem dX1_addPieces_1 : decode cX1_addPieces 1 = .ok (.istore_n 2, 1) := by decide +kernel
theorem dX1_addPieces_2 : decode cX1_addPieces 2 = .ok (.iconst 0, 1) := by decide +kernel
theorem dX1_addPieces_3 : decode cX1_addPieces 3 = .ok (.istore_n 3, 1) := by decide +kernel
theorem dX1_addPieces_4 : decode cX1_addPieces 4 = .ok (.iload_n 3, 1) := by decide +kernel
theorem dX1_addPieces_5 : decode cX1_addPieces 5 = .ok (.aload_n 1, 1) := by decide +kernel
theorem dX1_addPieces_6 : decode cX1_addPieces 6 = .ok (.getfield 32, 3) := by decide +kernel
theorem dX1_addPieces_9 : decode cX1_addPieces 9 = .ok (.if_icmp .ge 34, 3) := by decide +kernel
theorem dX1_addPieces_12 : decode cX1_addPieces 12 = .ok (.aload_n 0, 1) := by decide +kernel
theorem dX1_addPieces_13 : decode cX1_addPieces 13 = .ok (.aload_n 1, 1) := by decide +kernel
theorem dX1_addPieces_14 : decode cX1_addPieces 14 = .ok (.iload_n 3, 1) := by decide +kernel
theorem dX1_addPieces_15 : decode cX1_addPieces 15 = .ok (.invokevirtual 37, 3) := by decide +kernel
theorem dX1_addPieces_18 : decode cX1_addPieces 18 = .ok (.aload_n 1, 1) := by decide +kernel
theorem dX1_addPieces_19 : decode cX1_addPieces 19 = .ok (.iload_n 3, 1) := by decide +kernel
theorem dX1_addPieces_20 : decode cX1_addPieces 20 = .ok (.invokevirtual 41, 3) := by decide +kernel
theorem dX1_addPieces_23 : decode cX1_addPieces 23 = .ok (.invokevirtual 44, 3) := by decide +kernel
theorem dX1_addPieces_26 : decode cX1_addPieces 26 = .ok (.ifCond .eq 11, 3) := by decide +kernel
theorem dX1_addPieces_29 : decode cX1_addPieces 29 = .ok (.iload_n 2, 1) := by decide +kernel
theorem dX1_addPieces_30 : decode cX1_addPieces 30 = .ok (.aload_n 1, 1) := by decide +kernel
theorem dX1_addPieces_31 : decode cX1_addPieces 31 = .ok (.iload_n 3, 1) := by decide +kernel
theorem dX1_addPieces_32 : decode cX1_addPieces 32 = .ok (.invokevirtual 41, 3) := by decide +kernel
theorem dX1_addPieces_35 : decode cX1_addPieces 35 = .ok (.iadd, 1) := by decide +kernel
theorem dX1_addPieces_36 : decode cX1_addPieces 36 = .ok (.istore_n 2, 1) := by decide +kernel
theorem dX1_addPieces_37 : decode cX1_addPieces 37 = .ok (.iinc 3 1, 3) := by decide +kernel
theorem dX1_addPieces_40 : decode cX1_addPieces 40 = .ok (.goto (-36), 3) := by decide +kernel
theorem dX1_addPieces_43 : decode cX1_addPieces 43 = .ok (.iload_n 2, 1) := by decide +kernel
theorem dX1_addPieces_44 : decode cX1_addPieces 44 = .ok (.ireturn, 1) := by decide +kernel
theorem dX1_addPiece_0 : decode cX1_addPiece 0 = .ok (.aload_n 0, 1) := by decide +kernel
theorem dX1_addPiece_1 : decode cX1_addPiece 1 = .ok (.iload_n 1, 1) := by decide +kernel
theorem dX1_addPiece_2 : decode cX1_addPiece 2 = .ok (.iload_n 2, 1) := by decide +kernel
theorem dX1_addPiece_3 : decode cX1_addPiece 3 = .ok (.invokevirtual 48, 3) := by decide +kernel
theorem dX1_addPiece_6 : decode cX1_addPiece 6 = .ok (.istore_n 3, 1) := by decide +kernel
theorem dX1_addPiece_7 : decode cX1_addPiece 7 = .ok (.iconst 0, 1) := by decide +kernel
theorem dX1_addPiece_8 : decode cX1_addPiece 8 = .ok (.istore 4, 2) := by decide +kernel
theorem dX1_addPiece_10 : decode cX1_addPiece 10 = .ok (.iload 4, 2) := by decide +kernel
theorem dX1_addPiece_12 : decode cX1_addPiece 12 = .ok (.sipush 8192, 3) := by decide +kernel
theorem dX1_addPiece_15 : decode cX1_addPiece 15 = .ok (.if_icmp .ge 99, 3) := by decide +kernel
theorem dX1_addPiece_18 : decode cX1_addPiece 18 = .ok (.iload_n 3, 1) := by decide +kernel
theorem dX1_addPiece_19 : decode cX1_addPiece 19 = .ok (.iload 4, 2) := by decide +kernel
theorem dX1_addPiece_21 : decode cX1_addPiece 21 = .ok (.iadd, 1) := by decide +kernel
theorem dX1_addPiece_22 : decode cX1_addPiece 22 = .ok (.sipush 8191, 3) := by decide +kernel
theorem dX1_addPiece_25 : decode cX1_addPiece 25 = .ok (.iand, 1) := by decide +kernel
theorem dX1_addPiece_26 : decode cX1_addPiece 26 = .ok (.istore 5, 2) := by decide +kernel
theorem dX1_addPiece_28 : decode cX1_addPiece 28 = .ok (.aload_n 0, 1) := by decide +kernel
theorem dX1_addPiece_29 : decode cX1_addPiece 29 = .ok (.getfield 15, 3) := by decide +kernel
theorem dX1_addPiece_32 : decode cX1_addPiece 32 = .ok (.iload 5, 2) := by decide +kernel
theorem dX1_addPiece_34 : decode cX1_addPiece 34 = .ok (.iaload, 1) := by decide +kernel
theorem dX1_addPiece_35 : decode cX1_addPiece 35 = .ok (.ifCond .ne 31, 3) := by decide +kernel
theorem dX1_addPiece_38 : decode cX1_addPiece 38 = .ok (.aload_n 0, 1) := by decide +kernel
theorem dX1_addPiece_39 : decode cX1_addPiece 39 = .ok (.getfield 9, 3) := by decide +kernel
theorem dX1_addPiece_42 : decode cX1_addPiece 42 = .ok (.iload 5, 2) := by decide +kernel
theorem dX1_addPiece_44 : decode cX1_addPiece 44 = .ok (.iload_n 1, 1) := by decide +kernel
theorem dX1_addPiece_45 : decode cX1_addPiece 45 = .ok (.iastore, 1) := by decide +kernel
theorem dX1_addPiece_46 : decode cX1_addPiece 46 = .ok (.aload_n 0, 1) := by decide +kernel
theorem dX1_addPiece_47 : decode cX1_addPiece 47 = .ok (.getfield 15, 3) := by decide +kernel
theorem dX1_addPiece_50 : decode cX1_addPiece 50 = .ok (.iload 5, 2) := by decide +kernel
theorem dX1_addPiece_52 : decode cX1_addPiece 52 = .ok (.iload_n 2, 1) := by decide +kernel
theorem dX1_addPiece_53 : decode cX1_addPiece 53 = .ok (.iastore, 1) := by decide +kernel
theorem dX1_addPiece_54 : decode cX1_addPiece 54 = .ok (.aload_n 0, 1) := by decide +kernel
theorem dX1_addPiece_55 : decode cX1_addPiece 55 = .ok (.dup, 1) := by decide +kernel
theorem dX1_addPiece_56 : decode cX1_addPiece 56 = .ok (.getfield 28, 3) := by decide +kernel
theorem dX1_addPiece_59 : decode cX1_addPiece 59 = .ok (.iconst 1, 1) := by decide +kernel
theorem dX1_addPiece_60 : decode cX1_addPiece 60 = .ok (.iadd, 1) := by decide +kernel
theorem dX1_addPiece_61 : decode cX1_addPiece 61 = .ok (.putfield 28, 3) := by decide +kernel
theorem dX1_addPiece_64 : decode cX1_addPiece 64 = .ok (.iconst 1, 1) := by decide +kernel
theorem dX1_addPiece_65 : decode cX1_addPiece 65 = .ok (.ireturn, 1) := by decide +kernel
theorem dX1_addPiece_66 : decode cX1_addPiece 66 = .ok (.aload_n 0, 1) := by decide +kernel
theorem dX1_addPiece_67 : decode cX1_addPiece 67 = .ok (.getfield 15, 3) := by decide +kernel
theorem dX1_addPiece_70 : decode cX1_addPiece 70 = .ok (.iload 5, 2) := by decide +kernel
theorem dX1_addPiece_72 : decode cX1_addPiece 72 = .ok (.iaload, 1) := by decide +kernel
theorem dX1_addPiece_73 : decode cX1_addPiece 73 = .ok (.iload_n 2, 1) := by decide +kernel
theorem dX1_addPiece_74 : decode cX1_addPiece 74 = .ok (.if_icmp .ne 34, 3) := by decide +kernel
theorem dX1_addPiece_77 : decode cX1_addPiece 77 = .ok (.aload_n 0, 1) := by decide +kernel
theorem dX1_addPiece_78 : decode cX1_addPiece 78 = .ok (.getfield 18, 3) := by decide +kernel
theorem dX1_addPiece_81 : decode cX1_addPiece 81 = .ok (.getfield 52, 3) := by decide +kernel
theorem dX1_addPiece_84 : decode cX1_addPiece 84 = .ok (.aload_n 0, 1) := by decide +kernel
theorem dX1_addPiece_85 : decode cX1_addPiece 85 = .ok (.getfield 9, 3) := by decide +kernel
theorem dX1_addPiece_88 : decode cX1_addPiece 88 = .ok (.iload 5, 2) := by decide +kernel
theorem dX1_addPiece_90 : decode cX1_addPiece 90 = .ok (.iaload, 1) := by decide +kernel
theorem dX1_addPiece_91 : decode cX1_addPiece 91 = .ok (.aload_n 0, 1) := by decide +kernel
theorem dX1_addPiece_92 : decode cX1_addPiece 92 = .ok (.getfield 18, 3) := by decide +kernel
theorem dX1_addPiece_95 : decode cX1_addPiece 95 = .ok (.getfield 52, 3) := by decide +kernel
theorem dX1_addPiece_98 : decode cX1_addPiece 98 = .ok (.iload_n 1, 1) := by decide +kernel
theorem dX1_addPiece_99 : decode cX1_addPiece 99 = .ok (.iload_n 2, 1) := by decide +kernel
theorem dX1_addPiece_100 : decode cX1_addPiece 100 = .ok (.invokestatic 58, 3) := by decide +kernel
theorem dX1_addPiece_103 : decode cX1_addPiece 103 = .ok (.ifCond .eq 5, 3) := by decide +kernel
theorem dX1_addPiece_106 : decode cX1_addPiece 106 = .ok (.iconst 0, 1) := by decide +kernel
theorem dX1_addPiece_107 : decode cX1_addPiece 107 = .ok (.ireturn, 1) := by decide +kernel
theorem dX1_addPiece_108 : decode cX1_addPiece 108 = .ok (.iinc 4 1, 3) := by decide +kernel
theorem dX1_addPiece_111 : decode cX1_addPiece 111 = .ok (.goto (-101), 3) := by decide +kernel
theorem dX1_addPiece_114 : decode cX1_addPiece 114 = .ok (.iconst 0, 1) := by decide +kernel
theorem dX1_addPiece_115 : decode cX1_addPiece 115 = .ok (.ireturn, 1) := by decide +kernel
theorem dX1_homeOf_0 : decode cX1_homeOf 0 = .ok (.iload_n 2, 1) := by decide +kernel
theorem dX1_homeOf_1 : decode cX1_homeOf 1 = .ok (.istore_n 3, 1) := by decide +kernel
theorem dX1_homeOf_2 : decode cX1_homeOf 2 = .ok (.iconst 0, 1) := by decide +kernel
theorem dX1_homeOf_3 : decode cX1_homeOf 3 = .ok (.istore 4, 2) := by decide +kernel
theorem dX1_homeOf_5 : decode cX1_homeOf 5 = .ok (.iload 4, 2) := by decide +kernel
theorem dX1_homeOf_7 : decode cX1_homeOf 7 = .ok (.iload_n 2, 1) := by decide +kernel
theorem dX1_homeOf_8 : decode cX1_homeOf 8 = .ok (.if_icmp .ge 27, 3) := by decide +kernel
theorem dX1_homeOf_11 : decode cX1_homeOf 11 = .ok (.iload_n 3, 1) := by decide +kernel
theorem dX1_homeOf_12 : decode cX1_homeOf 12 = .ok (.bipush 31, 2) := by decide +kernel
theorem dX1_homeOf_14 : decode cX1_homeOf 14 = .ok (.imul, 1) := by decide +kernel
theorem dX1_homeOf_15 : decode cX1_homeOf 15 = .ok (.aload_n 0, 1) := by decide +kernel
theorem dX1_homeOf_16 : decode cX1_homeOf 16 = .ok (.getfield 18, 3) := by decide +kernel
theorem dX1_homeOf_19 : decode cX1_homeOf 19 = .ok (.getfield 52, 3) := by decide +kernel
theorem dX1_homeOf_22 : decode cX1_homeOf 22 = .ok (.iload_n 1, 1) := by decide +kernel
theorem dX1_homeOf_23 : decode cX1_homeOf 23 = .ok (.iload 4, 2) := by decide +kernel
theorem dX1_homeOf_25 : decode cX1_homeOf 25 = .ok (.iadd, 1) := by decide +kernel
theorem dX1_homeOf_26 : decode cX1_homeOf 26 = .ok (.baload, 1) := by decide +kernel
theorem dX1_homeOf_27 : decode cX1_homeOf 27 = .ok (.iadd, 1) := by decide +kernel
theorem dX1_homeOf_28 : decode cX1_homeOf 28 = .ok (.istore_n 3, 1) := by decide +kernel
theorem dX1_homeOf_29 : decode cX1_homeOf 29 = .ok (.iinc 4 1, 3) := by decide +kernel
theorem dX1_homeOf_32 : decode cX1_homeOf 32 = .ok (.goto (-27), 3) := by decide +kernel
theorem dX1_homeOf_35 : decode cX1_homeOf 35 = .ok (.iload_n 3, 1) := by decide +kernel
theorem dX1_homeOf_36 : decode cX1_homeOf 36 = .ok (.invokestatic 62, 3) := by decide +kernel
theorem dX1_homeOf_39 : decode cX1_homeOf 39 = .ok (.ireturn, 1) := by decide +kernel
theorem dX2_init_0 : decode cX2_init 0 = .ok (.aload_n 0, 1) := by decide +kernel
theorem dX2_init_1 : decode cX2_init 1 = .ok (.invokespecial 3, 3) := by decide +kernel
theorem dX2_init_4 : decode cX2_init 4 = .ok (.aload_n 0, 1) := by decide +kernel
theorem dX2_init_5 : decode cX2_init 5 = .ok (.sipush 4800, 3) := by decide +kernel
theorem dX2_init_8 : decode cX2_init 8 = .ok (.newarray .byte, 2) := by decide +kernel
theorem dX2_init_10 : decode cX2_init 10 = .ok (.putfield 9, 3) := by decide +kernel
theorem dX2_init_13 : decode cX2_init 13 = .ok (.aload_n 0, 1) := by decide +kernel
theorem dX2_init_14 : decode cX2_init 14 = .ok (.bipush 8, 2) := by decide +kernel
theorem dX2_init_16 : decode cX2_init 16 = .ok (.newarray .int, 2) := by decide +kernel
theorem dX2_init_18 : decode cX2_init 18 = .ok (.putfield 15, 3) := by decide +kernel
theorem dX2_init_21 : decode cX2_init 21 = .ok (.return_, 1) := by decide +kernel
theorem dX2_startOf_0 : decode cX2_startOf 0 = .ok (.iload_n 1, 1) := by decide +kernel
theorem dX2_startOf_1 : decode cX2_startOf 1 = .ok (.sipush 600, 3) := by decide +kernel
theorem dX2_startOf_4 : decode cX2_startOf 4 = .ok (.imul, 1) := by decide +kernel
theorem dX2_startOf_5 : decode cX2_startOf 5 = .ok (.ireturn, 1) := by decide +kernel
theorem dX2_byteAt_0 : decode cX2_byteAt 0 = .ok (.aload_n 0, 1) := by decide +kernel
theorem dX2_byteAt_1 : decode cX2_byteAt 1 = .ok (.getfield 9, 3) := by decide +kernel
theorem dX2_byteAt_4 : decode cX2_byteAt 4 = .ok (.aload_n 0, 1) := by decide +kernel
theorem dX2_byteAt_5 : decode cX2_byteAt 5 = .ok (.iload_n 1, 1) := by decide +kernel
theorem dX2_byteAt_6 : decode cX2_byteAt 6 = .ok (.invokevirtual 19, 3) := by decide +kernel
theorem dX2_byteAt_9 : decode cX2_byteAt 9 = .ok (.iload_n 2, 1) := by decide +kernel
theorem dX2_byteAt_10 : decode cX2_byteAt 10 = .ok (.iadd, 1) := by decide +kernel
theorem dX2_byteAt_11 : decode cX2_byteAt 11 = .ok (.baload, 1) := by decide +kernel
theorem dX2_byteAt_12 : decode cX2_byteAt 12 = .ok (.sipush 255, 3) := by decide +kernel
theorem dX2_byteAt_15 : decode cX2_byteAt 15 = .ok (.iand, 1) := by decide +kernel
theorem dX2_byteAt_16 : decode cX2_byteAt 16 = .ok (.ireturn, 1) := by decide +kernel
theorem dX2_addByte_0 : decode cX2_addByte 0 = .ok (.aload_n 0, 1) := by decide +kernel
theorem dX2_addByte_1 : decode cX2_addByte 1 = .ok (.getfield 9, 3) := by decide +kernel
theorem dX2_addByte_4 : decode cX2_addByte 4 = .ok (.aload_n 0, 1) := by decide +kernel
theorem dX2_addByte_5 : decode cX2_addByte 5 = .ok (.iload_n 1, 1) := by decide +kernel
theorem dX2_addByte_6 : decode cX2_addByte 6 = .ok (.invokevirtual 19, 3) := by decide +kernel
theorem dX2_addByte_9 : decode cX2_addByte 9 = .ok (.aload_n 0, 1) := by decide +kernel
theorem dX2_addByte_10 : decode cX2_addByte 10 = .ok (.getfield 15, 3) := by decide +kernel
theorem dX2_addByte_13 : decode cX2_addByte 13 = .ok (.iload_n 1, 1) := by decide +kernel
theorem dX2_addByte_14 : decode cX2_addByte 14 = .ok (.iaload, 1) := by decide +kernel
theorem dX2_addByte_15 : decode cX2_addByte 15 = .ok (.iadd, 1) := by decide +kernel
theorem dX2_addByte_16 : decode cX2_addByte 16 = .ok (.iload_n 2, 1) := by decide +kernel
theorem dX2_addByte_17 : decode cX2_addByte 17 = .ok (.i2b, 1) := by decide +kernel
theorem dX2_addByte_18 : decode cX2_addByte 18 = .ok (.bastore, 1) := by decide +kernel
theorem dX2_addByte_19 : decode cX2_addByte 19 = .ok (.aload_n 0, 1) := by decide +kernel
theorem dX2_addByte_20 : decode cX2_addByte 20 = .ok (.getfield 15, 3) := by decide +kernel
theorem dX2_addByte_23 : decode cX2_addByte 23 = .ok (.iload_n 1, 1) := by decide +kernel
theorem dX2_addByte_24 : decode cX2_addByte 24 = .ok (.dup2, 1) := by decide +kernel
theorem dX2_addByte_25 : decode cX2_addByte 25 = .ok (.iaload, 1) := by decide +kernel
theorem dX2_addByte_26 : decode cX2_addByte 26 = .ok (.iconst 1, 1) := by decide +kernel
theorem dX2_addByte_27 : decode cX2_addByte 27 = .ok (.iadd, 1) := by decide +kernel
theorem dX2_addByte_28 : decode cX2_addByte 28 = .ok (.iastore, 1) := by decide +kernel
theorem dX2_addByte_29 : decode cX2_addByte 29 = .ok (.return_, 1) := by decide +kernel
theorem dX2_addBytes_0 : decode cX2_addBytes 0 = .ok (.aload_n 2, 1) := by decide +kernel
theorem dX2_addBytes_1 : decode cX2_addBytes 1 = .ok (.iload_n 3, 1) := by decide +kernel
theorem dX2_addBytes_2 : decode cX2_addBytes 2 = .ok (.aload_n 0, 1) := by decide +kernel
theorem dX2_addBytes_3 : decode cX2_addBytes 3 = .ok (.getfield 9, 3) := by decide +kernel
theorem dX2_addBytes_6 : decode cX2_addBytes 6 = .ok (.aload_n 0, 1) := by decide +kernel
theorem dX2_addBytes_7 : decode cX2_addBytes 7 = .ok (.iload_n 1, 1) := by decide +kernel
theorem dX2_addBytes_8 : decode cX2_addBytes 8 = .ok (.invokevirtual 19, 3) := by decide +kernel
theorem dX2_addBytes_11 : decode cX2_addBytes 11 = .ok (.aload_n 0, 1) := by decide +kernel
theorem dX2_addBytes_12 : decode cX2_addBytes 12 = .ok (.getfield 15, 3) := by decide +kernel
theorem dX2_addBytes_15 : decode cX2_addBytes 15 = .ok (.iload_n 1, 1) := by decide +kernel
theorem dX2_addBytes_16 : decode cX2_addBytes 16 = .ok (.iaload, 1) := by decide +kernel
theorem dX2_addBytes_17 : decode cX2_addBytes 17 = .ok (.iadd, 1) := by decide +kernel
theorem dX2_addBytes_18 : decode cX2_addBytes 18 = .ok (.iload 4, 2) := by decide +kernel
theorem dX2_addBytes_20 : decode cX2_addBytes 20 = .ok (.invokestatic 23, 3) := by decide +kernel
theorem dX2_addBytes_23 : decode cX2_addBytes 23 = .ok (.aload_n 0, 1) := by decide +kernel
theorem dX2_addBytes_24 : decode cX2_addBytes 24 = .ok (.getfield 15, 3) := by decide +kernel
theorem dX2_addBytes_27 : decode cX2_addBytes 27 = .ok (.iload_n 1, 1) := by decide +kernel
theorem dX2_addBytes_28 : decode cX2_addBytes 28 = .ok (.dup2, 1) := by decide +kernel
theorem dX2_addBytes_29 : decode cX2_addBytes 29 = .ok (.iaload, 1) := by decide +kernel
theorem dX2_addBytes_30 : decode cX2_addBytes 30 = .ok (.iload 4, 2) := by decide +kernel
theorem dX2_addBytes_32 : decode cX2_addBytes 32 = .ok (.iadd, 1) := by decide +kernel
theorem dX2_addBytes_33 : decode cX2_addBytes 33 = .ok (.iastore, 1) := by decide +kernel
theorem dX2_addBytes_34 : decode cX2_addBytes 34 = .ok (.return_, 1) := by decide +kernel
theorem dX2_duplicate_0 : decode cX2_duplicate 0 = .ok (.aload_n 0, 1) := by decide +kernel
theorem dX2_duplicate_1 : decode cX2_duplicate 1 = .ok (.getfield 9, 3) := by decide +kernel
theorem dX2_duplicate_4 : decode cX2_duplicate 4 = .ok (.aload_n 0, 1) := by decide +kernel
theorem dX2_duplicate_5 : decode cX2_duplicate 5 = .ok (.iload_n 1, 1) := by decide +kernel
theorem dX2_duplicate_6 : decode cX2_duplicate 6 = .ok (.invokevirtual 19, 3) := by decide +kernel
theorem dX2_duplicate_9 : decode cX2_duplicate 9 = .ok (.aload_n 0, 1) := by decide +kernel
theorem dX2_duplicate_10 : decode cX2_duplicate 10 = .ok (.getfield 9, 3) := by decide +kernel
theorem dX2_duplicate_13 : decode cX2_duplicate 13 = .ok (.aload_n 0, 1) := by decide +kernel
theorem dX2_duplicate_14 : decode cX2_duplicate 14 = .ok (.iload_n 2, 1) := by decide +kernel
theorem dX2_duplicate_15 : decode cX2_duplicate 15 = .ok (.invokevirtual 19, 3) := by decide +kernel
theorem dX2_duplicate_18 : decode cX2_duplicate 18 = .ok (.aload_n 0, 1) := by decide +kernel
theorem dX2_duplicate_19 : decode cX2_duplicate 19 = .ok (.getfield 15, 3) := by decide +kernel
theorem dX2_duplicate_22 : decode cX2_duplicate 22 = .ok (.iload_n 1, 1) := by decide +kernel
theorem dX2_duplicate_23 : decode cX2_duplicate 23 = .ok (.iaload, 1) := by decide +kernel
theorem dX2_duplicate_24 : decode cX2_duplicate 24 = .ok (.invokestatic 23, 3) := by decide +kernel
theorem dX2_duplicate_27 : decode cX2_duplicate 27 = .ok (.aload_n 0, 1) := by decide +kernel
theorem dX2_duplicate_28 : decode cX2_duplicate 28 = .ok (.getfield 15, 3) := by decide +kernel
theorem dX2_duplicate_31 : decode cX2_duplicate 31 = .ok (.iload_n 2, 1) := by decide +kernel
theorem dX2_duplicate_32 : decode cX2_duplicate 32 = .ok (.aload_n 0, 1) := by decide +kernel
theorem dX2_duplicate_33 : decode cX2_duplicate 33 = .ok (.getfield 15, 3) := by decide +kernel
theorem dX2_duplicate_36 : decode cX2_duplicate 36 = .ok (.iload_n 1, 1) := by decide +kernel
theorem dX2_duplicate_37 : decode cX2_duplicate 37 = .ok (.iaload, 1) := by decide +kernel
theorem dX2_duplicate_38 : decode cX2_duplicate 38 = .ok (.iastore, 1) := by decide +kernel
theorem dX2_duplicate_39 : decode cX2_duplicate 39 = .ok (.return_, 1) := by decide +kernel
theorem dX2_replace_0 : decode cX2_replace 0 = .ok (.aload_n 0, 1) := by decide +kernel
theorem dX2_replace_1 : decode cX2_replace 1 = .ok (.iload_n 1, 1) := by decide +kernel
theorem dX2_replace_2 : decode cX2_replace 2 = .ok (.invokevirtual 19, 3) := by decide +kernel
theorem dX2_replace_5 : decode cX2_replace 5 = .ok (.iload_n 2, 1) := by decide +kernel
theorem dX2_replace_6 : decode cX2_replace 6 = .ok (.iadd, 1) := by decide +kernel
theorem dX2_replace_7 : decode cX2_replace 7 = .ok (.istore 5, 2) := by decide +kernel
theorem dX2_replace_9 : decode cX2_replace 9 = .ok (.aload_n 0, 1) := by decide +kernel
theorem dX2_replace_10 : decode cX2_replace 10 = .ok (.getfield 15, 3) := by decide +kernel
theorem dX2_replace_13 : decode cX2_replace 13 = .ok (.iload_n 1, 1) := by decide +kernel
theorem dX2_replace_14 : decode cX2_replace 14 = .ok (.iaload, 1) := by decide +kernel
theorem dX2_replace_15 : decode cX2_replace 15 = .ok (.iload_n 2, 1) := by decide +kernel
theorem dX2_replace_16 : decode cX2_replace 16 = .ok (.isub, 1) := by decide +kernel
theorem dX2_replace_17 : decode cX2_replace 17 = .ok (.iload_n 3, 1) := by decide +kernel
theorem dX2_replace_18 : decode cX2_replace 18 = .ok (.isub, 1) := by decide +kernel
theorem dX2_replace_19 : decode cX2_replace 19 = .ok (.istore 6, 2) := by decide +kernel
theorem dX2_replace_21 : decode cX2_replace 21 = .ok (.aload_n 0, 1) := by decide +kernel
theorem dX2_replace_22 : decode cX2_replace 22 = .ok (.getfield 9, 3) := by decide +kernel
theorem dX2_replace_25 : decode cX2_replace 25 = .ok (.iload 5, 2) := by decide +kernel
theorem dX2_replace_27 : decode cX2_replace 27 = .ok (.iload_n 3, 1) := by decide +kernel
theorem dX2_replace_28 : decode cX2_replace 28 = .ok (.iadd, 1) := by decide +kernel
theorem dX2_replace_29 : decode cX2_replace 29 = .ok (.aload_n 0, 1) := by decide +kernel
theorem dX2_replace_30 : decode cX2_replace 30 = .ok (.getfield 9, 3) := by decide +kernel
theorem dX2_replace_33 : decode cX2_replace 33 = .ok (.iload 5, 2) := by decide +kernel
theorem dX2_replace_35 : decode cX2_replace 35 = .ok (.aload 4, 2) := by decide +kernel
theorem dX2_replace_37 : decode cX2_replace 37 = .ok (.getfield 29, 3) := by decide +kernel
theorem dX2_replace_40 : decode cX2_replace 40 = .ok (.iadd, 1) := by decide +kernel
theorem dX2_replace_41 : decode cX2_replace 41 = .ok (.iload 6, 2) := by decide +kernel
theorem dX2_replace_43 : decode cX2_replace 43 = .ok (.invokestatic 23, 3) := by decide +kernel
theorem dX2_replace_46 : decode cX2_replace 46 = .ok (.aload 4, 2) := by decide +kernel
theorem dX2_replace_48 : decode cX2_replace 48 = .ok (.getfield 35, 3) := by decide +kernel
theorem dX2_replace_51 : decode cX2_replace 51 = .ok (.iconst 0, 1) := by decide +kernel
theorem dX2_replace_52 : decode cX2_replace 52 = .ok (.aload_n 0, 1) := by decide +kernel
theorem dX2_replace_53 : decode cX2_replace 53 = .ok (.getfield 9, 3) := by decide +kernel
theorem dX2_replace_56 : decode cX2_replace 56 = .ok (.iload 5, 2) := by decide +kernel
theorem dX2_replace_58 : decode cX2_replace 58 = .ok (.aload 4, 2) := by decide +kernel
theorem dX2_replace_60 : decode cX2_replace 60 = .ok (.getfield 29, 3) := by decide +kernel
theorem dX2_replace_63 : decode cX2_replace 63 = .ok (.invokestatic 23, 3) := by decide +kernel
theorem dX2_replace_66 : decode cX2_replace 66 = .ok (.aload_n 0, 1) := by decide +kernel
theorem dX2_replace_67 : decode cX2_replace 67 = .ok (.getfield 15, 3) := by decide +kernel
theorem dX2_replace_70 : decode cX2_replace 70 = .ok (.iload_n 1, 1) := by decide +kernel
theorem dX2_replace_71 : decode cX2_replace 71 = .ok (.dup2, 1) := by decide +kernel
theorem dX2_replace_72 : decode cX2_replace 72 = .ok (.iaload, 1) := by decide +kernel
theorem dX2_replace_73 : decode cX2_replace 73 = .ok (.aload 4, 2) := by decide +kernel
theorem dX2_replace_75 : decode cX2_replace 75 = .ok (.getfield 29, 3) := by decide +kernel
theorem dX2_replace_78 : decode cX2_replace 78 = .ok (.iload_n 3, 1) := by decide +kernel
theorem dX2_replace_79 : decode cX2_replace 79 = .ok (.isub, 1) := by decide +kernel
theorem dX2_replace_80 : decode cX2_replace 80 = .ok (.iadd, 1) := by decide +kernel
theorem dX2_replace_81 : decode cX2_replace 81 = .ok (.iastore, 1) := by decide +kernel
theorem dX2_replace_82 : decode cX2_replace 82 = .ok (.return_, 1) := by decide +kernel
theorem dX3_init_0 : decode cX3_init 0 = .ok (.aload_n 0, 1) := by decide +kernel
theorem dX3_init_1 : decode cX3_init 1 = .ok (.invokespecial 3, 3) := by decide +kernel
theorem dX3_init_4 : decode cX3_init 4 = .ok (.aload_n 0, 1) := by decide +kernel
theorem dX3_init_5 : decode cX3_init 5 = .ok (.sipush 8192, 3) := by decide +kernel
theorem dX3_init_8 : decode cX3_init 8 = .ok (.newarray .int, 2) := by decide +kernel
theorem dX3_init_10 : decode cX3_init 10 = .ok (.putfield 9, 3) := by decide +kernel
theorem dX3_init_13 : decode cX3_init 13 = .ok (.aload_n 0, 1) := by decide +kernel
theorem dX3_init_14 : decode cX3_init 14 = .ok (.sipush 8192, 3) := by decide +kernel
theorem dX3_init_17 : decode cX3_init 17 = .ok (.newarray .int, 2) := by decide +kernel
theorem dX3_init_19 : decode cX3_init 19 = .ok (.putfield 15, 3) := by decide +kernel
theorem dX3_init_22 : decode cX3_init 22 = .ok (.aload_n 0, 1) := by decide +kernel
theorem dX3_init_23 : decode cX3_init 23 = .ok (.sipush 8192, 3) := by decide +kernel
theorem dX3_init_26 : decode cX3_init 26 = .ok (.newarray .int, 2) := by decide +kernel
theorem dX3_init_28 : decode cX3_init 28 = .ok (.putfield 18, 3) := by decide +kernel
theorem dX3_init_31 : decode cX3_init 31 = .ok (.return_, 1) := by decide +kernel
theorem dX3_clear_0 : decode cX3_clear 0 = .ok (.aload_n 0, 1) := by decide +kernel
theorem dX3_clear_1 : decode cX3_clear 1 = .ok (.dup, 1) := by decide +kernel
theorem dX3_clear_2 : decode cX3_clear 2 = .ok (.getfield 21, 3) := by decide +kernel
theorem dX3_clear_5 : decode cX3_clear 5 = .ok (.iconst 1, 1) := by decide +kernel
theorem dX3_clear_6 : decode cX3_clear 6 = .ok (.iadd, 1) := by decide +kernel
theorem dX3_clear_7 : decode cX3_clear 7 = .ok (.putfield 21, 3) := by decide +kernel
theorem dX3_clear_10 : decode cX3_clear 10 = .ok (.aload_n 0, 1) := by decide +kernel
theorem dX3_clear_11 : decode cX3_clear 11 = .ok (.iconst 0, 1) := by decide +kernel
theorem dX3_clear_12 : decode cX3_clear 12 = .ok (.putfield 25, 3) := by decide +kernel
theorem dX3_clear_15 : decode cX3_clear 15 = .ok (.return_, 1) := by decide +kernel
theorem dX3_addPair_0 : decode cX3_addPair 0 = .ok (.iload_n 1, 1) := by decide +kernel
theorem dX3_addPair_1 : decode cX3_addPair 1 = .ok (.bipush 11, 2) := by decide +kernel
theorem dX3_addPair_3 : decode cX3_addPair 3 = .ok (.ishl, 1) := by decide +kernel
theorem dX3_addPair_4 : decode cX3_addPair 4 = .ok (.iload_n 2, 1) := by decide +kernel
theorem dX3_addPair_5 : decode cX3_addPair 5 = .ok (.iadd, 1) := by decide +kernel
theorem dX3_addPair_6 : decode cX3_addPair 6 = .ok (.istore_n 3, 1) := by decide +kernel
theorem dX3_addPair_7 : decode cX3_addPair 7 = .ok (.aload_n 0, 1) := by decide +kernel
theorem dX3_addPair_8 : decode cX3_addPair 8 = .ok (.iload_n 3, 1) := by decide +kernel
theorem dX3_addPair_9 : decode cX3_addPair 9 = .ok (.invokevirtual 28, 3) := by decide +kernel
theorem dX3_addPair_12 : decode cX3_addPair 12 = .ok (.istore 4, 2) := by decide +kernel
theorem dX3_addPair_14 : decode cX3_addPair 14 = .ok (.iload 4, 2) := by decide +kernel
theorem dX3_addPair_16 : decode cX3_addPair 16 = .ok (.aload_n 0, 1) := by decide +kernel
theorem dX3_addPair_17 : decode cX3_addPair 17 = .ok (.getfield 25, 3) := by decide +kernel
theorem dX3_addPair_20 : decode cX3_addPair 20 = .ok (.if_icmp .gt 20, 3) := by decide +kernel
theorem dX3_addPair_23 : decode cX3_addPair 23 = .ok (.iload 4, 2) := by decide +kernel
theorem dX3_addPair_25 : decode cX3_addPair 25 = .ok (.aload_n 0, 1) := by decide +kernel
theorem dX3_addPair_26 : decode cX3_addPair 26 = .ok (.getfield 25, 3) := by decide +kernel
theorem dX3_addPair_29 : decode cX3_addPair 29 = .ok (.if_icmp .ne 32, 3) := by decide +kernel
theorem dX3_addPair_32 : decode cX3_addPair 32 = .ok (.iload_n 3, 1) := by decide +kernel
theorem dX3_addPair_33 : decode cX3_addPair 33 = .ok (.aload_n 0, 1) := by decide +kernel
theorem dX3_addPair_34 : decode cX3_addPair 34 = .ok (.getfield 32, 3) := by decide +kernel
theorem dX3_addPair_37 : decode cX3_addPair 37 = .ok (.if_icmp .ge 24, 3) := by decide +kernel
theorem dX3_addPair_40 : decode cX3_addPair 40 = .ok (.aload_n 0, 1) := by decide +kernel
theorem dX3_addPair_41 : decode cX3_addPair 41 = .ok (.iload 4, 2) := by decide +kernel
theorem dX3_addPair_43 : decode cX3_addPair 43 = .ok (.putfield 25, 3) := by decide +kernel
theorem dX3_addPair_46 : decode cX3_addPair 46 = .ok (.aload_n 0, 1) := by decide +kernel
theorem dX3_addPair_47 : decode cX3_addPair 47 = .ok (.iload_n 3, 1) := by decide +kernel
theorem dX3_addPair_48 : decode cX3_addPair 48 = .ok (.putfield 32, 3) := by decide +kernel
theorem dX3_addPair_51 : decode cX3_addPair 51 = .ok (.aload_n 0, 1) := by decide +kernel
theorem dX3_addPair_52 : decode cX3_addPair 52 = .ok (.iload_n 1, 1) := by decide +kernel
theorem dX3_addPair_53 : decode cX3_addPair 53 = .ok (.putfield 35, 3) := by decide +kernel
theorem dX3_addPair_56 : decode cX3_addPair 56 = .ok (.aload_n 0, 1) := by decide +kernel
theorem dX3_addPair_57 : decode cX3_addPair 57 = .ok (.iload_n 2, 1) := by decide +kernel
theorem dX3_addPair_58 : decode cX3_addPair 58 = .ok (.putfield 38, 3) := by decide +kernel
theorem dX3_addPair_61 : decode cX3_addPair 61 = .ok (.return_, 1) := by decide +kernel
theorem dX3_countOnceMore_0 : decode cX3_countOnceMore 0 = .ok (.iload_n 1, 1) := by decide +kernel
theorem dX3_countOnceMore_1 : decode cX3_countOnceMore 1 = .ok (.invokestatic 41, 3) := by decide +kernel
theorem dX3_countOnceMore_4 : decode cX3_countOnceMore 4 = .ok (.istore_n 2, 1) := by decide +kernel
theorem dX3_countOnceMore_5 : decode cX3_countOnceMore 5 = .ok (.iconst 0, 1) := by decide +kernel
theorem dX3_countOnceMore_6 : decode cX3_countOnceMore 6 = .ok (.istore_n 3, 1) := by decide +kernel
theorem dX3_countOnceMore_7 : decode cX3_countOnceMore 7 = .ok (.iload_n 3, 1) := by decide +kernel
theorem dX3_countOnceMore_8 : decode cX3_countOnceMore 8 = .ok (.sipush 8192, 3) := by decide +kernel
theorem dX3_countOnceMore_11 : decode cX3_countOnceMore 11 = .ok (.if_icmp .ge 89, 3) := by decide +kernel
theorem dX3_countOnceMore_14 : decode cX3_countOnceMore 14 = .ok (.iload_n 2, 1) := by decide +kernel
theorem dX3_countOnceMore_15 : decode cX3_countOnceMore 15 = .ok (.iload_n 3, 1) := by decide +kernel
theorem dX3_countOnceMore_16 : decode cX3_countOnceMore 16 = .ok (.iadd, 1) := by decide +kernel
theorem dX3_countOnceMore_17 : decode cX3_countOnceMore 17 = .ok (.sipush 8191, 3) := by decide +kernel
theorem dX3_countOnceMore_20 : decode cX3_countOnceMore 20 = .ok (.iand, 1) := by decide +kernel
theorem dX3_countOnceMore_21 : decode cX3_countOnceMore 21 = .ok (.istore 4, 2) := by decide +kernel
theorem dX3_countOnceMore_23 : decode cX3_countOnceMore 23 = .ok (.aload_n 0, 1) := by decide +kernel
theorem dX3_countOnceMore_24 : decode cX3_countOnceMore 24 = .ok (.getfield 18, 3) := by decide +kernel
theorem dX3_countOnceMore_27 : decode cX3_countOnceMore 27 = .ok (.iload 4, 2) := by decide +kernel
theorem dX3_countOnceMore_29 : decode cX3_countOnceMore 29 = .ok (.iaload, 1) := by decide +kernel
theorem dX3_countOnceMore_30 : decode cX3_countOnceMore 30 = .ok (.aload_n 0, 1) := by decide +kernel
theorem dX3_countOnceMore_31 : decode cX3_countOnceMore 31 = .ok (.getfield 21, 3) := by decide +kernel
theorem dX3_countOnceMore_34 : decode cX3_countOnceMore 34 = .ok (.if_icmp .eq 30, 3) := by decide +kernel
theorem dX3_countOnceMore_37 : decode cX3_countOnceMore 37 = .ok (.aload_n 0, 1) := by decide +kernel
theorem dX3_countOnceMore_38 : decode cX3_countOnceMore 38 = .ok (.getfield 18, 3) := by decide +kernel
theorem dX3_countOnceMore_41 : decode cX3_countOnceMore 41 = .ok (.iload 4, 2) := by decide +kernel
theorem dX3_countOnceMore_43 : decode cX3_countOnceMore 43 = .ok (.aload_n 0, 1) := by decide +kernel
theorem dX3_countOnceMore_44 : decode cX3_countOnceMore 44 = .ok (.getfield 21, 3) := by decide +kernel
theorem dX3_countOnceMore_47 : decode cX3_countOnceMore 47 = .ok (.iastore, 1) := by decide +kernel
theorem dX3_countOnceMore_48 : decode cX3_countOnceMore 48 = .ok (.aload_n 0, 1) := by decide +kernel
theorem dX3_countOnceMore_49 : decode cX3_countOnceMore 49 = .ok (.getfield 9, 3) := by decide +kernel
theorem dX3_countOnceMore_52 : decode cX3_countOnceMore 52 = .ok (.iload 4, 2) := by decide +kernel
theorem dX3_countOnceMore_54 : decode cX3_countOnceMore 54 = .ok (.iload_n 1, 1) := by decide +kernel
theorem dX3_countOnceMore_55 : decode cX3_countOnceMore 55 = .ok (.iastore, 1) := by decide +kernel
theorem dX3_countOnceMore_56 : decode cX3_countOnceMore 56 = .ok (.aload_n 0, 1) := by decide +kernel
theorem dX3_countOnceMore_57 : decode cX3_countOnceMore 57 = .ok (.getfield 15, 3) := by decide +kernel
theorem dX3_countOnceMore_60 : decode cX3_countOnceMore 60 = .ok (.iload 4, 2) := by decide +kernel
theorem dX3_countOnceMore_62 : decode cX3_countOnceMore 62 = .ok (.iconst 0, 1) := by decide +kernel
theorem dX3_countOnceMore_63 : decode cX3_countOnceMore 63 = .ok (.iastore, 1) := by decide +kernel
theorem dX3_countOnceMore_64 : decode cX3_countOnceMore 64 = .ok (.aload_n 0, 1) := by decide +kernel
theorem dX3_countOnceMore_65 : decode cX3_countOnceMore 65 = .ok (.getfield 9, 3) := by decide +kernel
theorem dX3_countOnceMore_68 : decode cX3_countOnceMore 68 = .ok (.iload 4, 2) := by decide +kernel
theorem dX3_countOnceMore_70 : decode cX3_countOnceMore 70 = .ok (.iaload, 1) := by decide +kernel
theorem dX3_countOnceMore_71 : decode cX3_countOnceMore 71 = .ok (.iload_n 1, 1) := by decide +kernel
theorem dX3_countOnceMore_72 : decode cX3_countOnceMore 72 = .ok (.if_icmp .ne 22, 3) := by decide +kernel
theorem dX3_countOnceMore_75 : decode cX3_countOnceMore 75 = .ok (.aload_n 0, 1) := by decide +kernel
theorem dX3_countOnceMore_76 : decode cX3_countOnceMore 76 = .ok (.getfield 15, 3) := by decide +kernel
theorem dX3_countOnceMore_79 : decode cX3_countOnceMore 79 = .ok (.iload 4, 2) := by decide +kernel
theorem dX3_countOnceMore_81 : decode cX3_countOnceMore 81 = .ok (.dup2, 1) := by decide +kernel
theorem dX3_countOnceMore_82 : decode cX3_countOnceMore 82 = .ok (.iaload, 1) := by decide +kernel
theorem dX3_countOnceMore_83 : decode cX3_countOnceMore 83 = .ok (.iconst 1, 1) := by decide +kernel
theorem dX3_countOnceMore_84 : decode cX3_countOnceMore 84 = .ok (.iadd, 1) := by decide +kernel
theorem dX3_countOnceMore_85 : decode cX3_countOnceMore 85 = .ok (.iastore, 1) := by decide +kernel
theorem dX3_countOnceMore_86 : decode cX3_countOnceMore 86 = .ok (.aload_n 0, 1) := by decide +kernel
theorem dX3_countOnceMore_87 : decode cX3_countOnceMore 87 = .ok (.getfield 15, 3) := by decide +kernel
theorem dX3_countOnceMore_90 : decode cX3_countOnceMore 90 = .ok (.iload 4, 2) := by decide +kernel
theorem dX3_countOnceMore_92 : decode cX3_countOnceMore 92 = .ok (.iaload, 1) := by decide +kernel
theorem dX3_countOnceMore_93 : decode cX3_countOnceMore 93 = .ok (.ireturn, 1) := by decide +kernel
theorem dX3_countOnceMore_94 : decode cX3_countOnceMore 94 = .ok (.iinc 3 1, 3) := by decide +kernel
theorem dX3_countOnceMore_97 : decode cX3_countOnceMore 97 = .ok (.goto (-90), 3) := by decide +kernel
theorem dX3_countOnceMore_100 : decode cX3_countOnceMore 100 = .ok (.iconst 0, 1) := by decide +kernel
theorem dX3_countOnceMore_101 : decode cX3_countOnceMore 101 = .ok (.ireturn, 1) := by decide +kernel
theorem dX4_init_0 : decode cX4_init 0 = .ok (.aload_n 0, 1) := by decide +kernel
theorem dX4_init_1 : decode cX4_init 1 = .ok (.invokespecial 1, 3) := by decide +kernel
theorem dX4_init_4 : decode cX4_init 4 = .ok (.aload_n 0, 1) := by decide +kernel
theorem dX4_init_5 : decode cX4_init 5 = .ok (.iconst (-1), 1) := by decide +kernel
theorem dX4_init_6 : decode cX4_init 6 = .ok (.putfield 9, 3) := by decide +kernel
theorem dX4_init_9 : decode cX4_init 9 = .ok (.return_, 1) := by decide +kernel
theorem dX4_become_0 : decode cX4_become 0 = .ok (.aload_n 0, 1) := by decide +kernel
theorem dX4_become_1 : decode cX4_become 1 = .ok (.iload_n 1, 1) := by decide +kernel
theorem dX4_become_2 : decode cX4_become 2 = .ok (.putfield 9, 3) := by decide +kernel
theorem dX4_become_5 : decode cX4_become 5 = .ok (.aload_n 0, 1) := by decide +kernel
theorem dX4_become_6 : decode cX4_become 6 = .ok (.iload_n 2, 1) := by decide +kernel
theorem dX4_become_7 : decode cX4_become 7 = .ok (.putfield 13, 3) := by decide +kernel
theorem dX4_become_10 : decode cX4_become 10 = .ok (.aload_n 0, 1) := by decide +kernel
theorem dX4_become_11 : decode cX4_become 11 = .ok (.iload_n 3, 1) := by decide +kernel
theorem dX4_become_12 : decode cX4_become 12 = .ok (.putfield 16, 3) := by decide +kernel
theorem dX4_become_15 : decode cX4_become 15 = .ok (.aload_n 0, 1) := by decide +kernel
theorem dX4_become_16 : decode cX4_become 16 = .ok (.iload 4, 2) := by decide +kernel
theorem dX4_become_18 : decode cX4_become 18 = .ok (.putfield 19, 3) := by decide +kernel
theorem dX4_become_21 : decode cX4_become 21 = .ok (.return_, 1) := by decide +kernel
theorem dX4_roll_0 : decode cX4_roll 0 = .ok (.aload_n 0, 1) := by decide +kernel
theorem dX4_roll_1 : decode cX4_roll 1 = .ok (.iload_n 1, 1) := by decide +kernel
theorem dX4_roll_2 : decode cX4_roll 2 = .ok (.putfield 22, 3) := by decide +kernel
theorem dX4_roll_5 : decode cX4_roll 5 = .ok (.aload_n 0, 1) := by decide +kernel
theorem dX4_roll_6 : decode cX4_roll 6 = .ok (.iload_n 2, 1) := by decide +kernel
theorem dX4_roll_7 : decode cX4_roll 7 = .ok (.putfield 25, 3) := by decide +kernel
theorem dX4_roll_10 : decode cX4_roll 10 = .ok (.return_, 1) := by decide +kernel
theorem dX4_hasWindow_0 : decode cX4_hasWindow 0 = .ok (.aload_n 0, 1) := by decide +kernel
theorem dX4_hasWindow_1 : decode cX4_hasWindow 1 = .ok (.getfield 9, 3) := by decide +kernel
theorem dX4_hasWindow_4 : decode cX4_hasWindow 4 = .ok (.iconst 1, 1) := by decide +kernel
theorem dX4_hasWindow_5 : decode cX4_hasWindow 5 = .ok (.if_icmp .eq 11, 3) := by decide +kernel
theorem dX4_hasWindow_8 : decode cX4_hasWindow 8 = .ok (.aload_n 0, 1) := by decide +kernel
theorem dX4_hasWindow_9 : decode cX4_hasWindow 9 = .ok (.getfield 9, 3) := by decide +kernel
theorem dX4_hasWindow_12 : decode cX4_hasWindow 12 = .ok (.iconst 2, 1) := by decide +kernel
theorem dX4_hasWindow_13 : decode cX4_hasWindow 13 = .ok (.if_icmp .ne 7, 3) := by decide +kernel
theorem dX4_hasWindow_16 : decode cX4_hasWindow 16 = .ok (.iconst 1, 1) := by decide +kernel
theorem dX4_hasWindow_17 : decode cX4_hasWindow 17 = .ok (.goto 4, 3) := by decide +kernel
theorem dX4_hasWindow_20 : decode cX4_hasWindow 20 = .ok (.iconst 0, 1) := by decide +kernel
theorem dX4_hasWindow_21 : decode cX4_hasWindow 21 = .ok (.ireturn, 1) := by decide +kernel
theorem dX4_endsBehind_0 : decode cX4_endsBehind 0 = .ok (.aload_n 0, 1) := by decide +kernel
theorem dX4_endsBehind_1 : decode cX4_endsBehind 1 = .ok (.getfield 9, 3) := by decide +kernel
theorem dX4_endsBehind_4 : decode cX4_endsBehind 4 = .ok (.tableswitch 52 1 3 #[28, 28, 38], 28) := by decide +kernel
theorem dX4_endsBehind_32 : decode cX4_endsBehind 32 = .ok (.aload_n 0, 1) := by decide +kernel
theorem dX4_endsBehind_33 : decode cX4_endsBehind 33 = .ok (.iload_n 2, 1) := by decide +kernel
theorem dX4_endsBehind_34 : decode cX4_endsBehind 34 = .ok (.aload_n 0, 1) := by decide +kernel
theorem dX4_endsBehind_35 : decode cX4_endsBehind 35 = .ok (.getfield 25, 3) := by decide +kernel
theorem dX4_endsBehind_38 : decode cX4_endsBehind 38 = .ok (.invokevirtual 28, 3) := by decide +kernel
theorem dX4_endsBehind_41 : decode cX4_endsBehind 41 = .ok (.ireturn, 1) := by decide +kernel
theorem dX4_endsBehind_42 : decode cX4_endsBehind 42 = .ok (.iload_n 1, 1) := by decide +kernel
theorem dX4_endsBehind_43 : decode cX4_endsBehind 43 = .ok (.aload_n 0, 1) := by decide +kernel
theorem dX4_endsBehind_44 : decode cX4_endsBehind 44 = .ok (.getfield 19, 3) := by decide +kernel
theorem dX4_endsBehind_47 : decode cX4_endsBehind 47 = .ok (.if_icmp .ne 7, 3) := by decide +kernel
theorem dX4_endsBehind_50 : decode cX4_endsBehind 50 = .ok (.iconst 1, 1) := by decide +kernel
theorem dX4_endsBehind_51 : decode cX4_endsBehind 51 = .ok (.goto 4, 3) := by decide +kernel
theorem dX4_endsBehind_54 : decode cX4_endsBehind 54 = .ok (.iconst 0, 1) := by decide +kernel
theorem dX4_endsBehind_55 : decode cX4_endsBehind 55 = .ok (.ireturn, 1) := by decide +kernel
theorem dX4_endsBehind_56 : decode cX4_endsBehind 56 = .ok (.iconst 0, 1) := by decide +kernel
theorem dX4_endsBehind_57 : decode cX4_endsBehind 57 = .ok (.ireturn, 1) := by decide +kernel
theorem dX4_mayEndBehind_0 : decode cX4_mayEndBehind 0 = .ok (.aload_n 0, 1) := by decide +kernel
theorem dX4_mayEndBehind_1 : decode cX4_mayEndBehind 1 = .ok (.getfield 9, 3) := by decide +kernel
theorem dX4_mayEndBehind_4 : decode cX4_mayEndBehind 4 = .ok (.iconst 2, 1) := by decide +kernel
theorem dX4_mayEndBehind_5 : decode cX4_mayEndBehind 5 = .ok (.if_icmp .ne 25, 3) := by decide +kernel
theorem dX4_mayEndBehind_8 : decode cX4_mayEndBehind 8 = .ok (.aload_n 0, 1) := by decide +kernel
theorem dX4_mayEndBehind_9 : decode cX4_mayEndBehind 9 = .ok (.iload_n 1, 1) := by decide +kernel
theorem dX4_mayEndBehind_10 : decode cX4_mayEndBehind 10 = .ok (.aload_n 0, 1) := by decide +kernel
theorem dX4_mayEndBehind_11 : decode cX4_mayEndBehind 11 = .ok (.getfield 25, 3) := by decide +kernel
theorem dX4_mayEndBehind_14 : decode cX4_mayEndBehind 14 = .ok (.iconst 1, 1) := by decide +kernel
theorem dX4_mayEndBehind_15 : decode cX4_mayEndBehind 15 = .ok (.isub, 1) := by decide +kernel
theorem dX4_mayEndBehind_16 : decode cX4_mayEndBehind 16 = .ok (.iconst 0, 1) := by decide +kernel
theorem dX4_mayEndBehind_17 : decode cX4_mayEndBehind 17 = .ok (.invokestatic 32, 3) := by decide +kernel
theorem dX4_mayEndBehind_20 : decode cX4_mayEndBehind 20 = .ok (.invokevirtual 28, 3) := by decide +kernel
theorem dX4_mayEndBehind_23 : decode cX4_mayEndBehind 23 = .ok (.ifCond .eq 7, 3) := by decide +kernel
theorem dX4_mayEndBehind_26 : decode cX4_mayEndBehind 26 = .ok (.iconst 1, 1) := by decide +kernel
theorem dX4_mayEndBehind_27 : decode cX4_mayEndBehind 27 = .ok (.goto 4, 3) := by decide +kernel
theorem dX4_mayEndBehind_30 : decode cX4_mayEndBehind 30 = .ok (.iconst 0, 1) := by decide +kernel
theorem dX4_mayEndBehind_31 : decode cX4_mayEndBehind 31 = .ok (.ireturn, 1) := by decide +kernel
theorem dX4_hasSign_0 : decode cX4_hasSign 0 = .ok (.iconst 1, 1) := by decide +kernel
theorem dX4_hasSign_1 : decode cX4_hasSign 1 = .ok (.iload_n 2, 1) := by decide +kernel
theorem dX4_hasSign_2 : decode cX4_hasSign 2 = .ok (.ishl, 1) := by decide +kernel
theorem dX4_hasSign_3 : decode cX4_hasSign 3 = .ok (.iconst 1, 1) := by decide +kernel
theorem dX4_hasSign_4 : decode cX4_hasSign 4 = .ok (.isub, 1) := by decide +kernel
theorem dX4_hasSign_5 : decode cX4_hasSign 5 = .ok (.istore_n 3, 1) := by decide +kernel
theorem dX4_hasSign_6 : decode cX4_hasSign 6 = .ok (.iload_n 1, 1) := by decide +kernel
theorem dX4_hasSign_7 : decode cX4_hasSign 7 = .ok (.iconst 4, 1) := by decide +kernel
theorem dX4_hasSign_8 : decode cX4_hasSign 8 = .ok (.ishr, 1) := by decide +kernel
theorem dX4_hasSign_9 : decode cX4_hasSign 9 = .ok (.iload_n 3, 1) := by decide +kernel
theorem dX4_hasSign_10 : decode cX4_hasSign 10 = .ok (.iand, 1) := by decide +kernel
theorem dX4_hasSign_11 : decode cX4_hasSign 11 = .ok (.aload_n 0, 1) := by decide +kernel
theorem dX4_hasSign_12 : decode cX4_hasSign 12 = .ok (.getfield 19, 3) := by decide +kernel
theorem dX4_hasSign_15 : decode cX4_hasSign 15 = .ok (.iload_n 3, 1) := by decide +kernel
theorem dX4_hasSign_16 : decode cX4_hasSign 16 = .ok (.iand, 1) := by decide +kernel
theorem dX4_hasSign_17 : decode cX4_hasSign 17 = .ok (.if_icmp .ne 7, 3) := by decide +kernel
theorem dX4_hasSign_20 : decode cX4_hasSign 20 = .ok (.iconst 1, 1) := by decide +kernel
theorem dX4_hasSign_21 : decode cX4_hasSign 21 = .ok (.goto 4, 3) := by decide +kernel
theorem dX4_hasSign_24 : decode cX4_hasSign 24 = .ok (.iconst 0, 1) := by decide +kernel
theorem dX4_hasSign_25 : decode cX4_hasSign 25 = .ok (.ireturn, 1) := by decide +kernel
theorem dX5_init_0 : decode cX5_init 0 = .ok (.aload_n 0, 1) := by decide +kernel
theorem dX5_init_1 : decode cX5_init 1 = .ok (.invokespecial 3, 3) := by decide +kernel
theorem dX5_init_4 : decode cX5_init 4 = .ok (.aload_n 0, 1) := by decide +kernel
theorem dX5_init_5 : decode cX5_init 5 = .ok (.sipush 5400, 3) := by decide +kernel
theorem dX5_init_8 : decode cX5_init 8 = .ok (.newarray .byte, 2) := by decide +kernel
theorem dX5_init_10 : decode cX5_init 10 = .ok (.putfield 9, 3) := by decide +kernel
theorem dX5_init_13 : decode cX5_init 13 = .ok (.aload_n 0, 1) := by decide +kernel
theorem dX5_init_14 : decode cX5_init 14 = .ok (.sipush 301, 3) := by decide +kernel
theorem dX5_init_17 : decode cX5_init 17 = .ok (.newarray .int, 2) := by decide +kernel
theorem dX5_init_19 : decode cX5_init 19 = .ok (.putfield 15, 3) := by decide +kernel
theorem dX5_init_22 : decode cX5_init 22 = .ok (.aload_n 0, 1) := by decide +kernel
theorem dX5_init_23 : decode cX5_init 23 = .ok (.sipush 301, 3) := by decide +kernel
theorem dX5_init_26 : decode cX5_init 26 = .ok (.newarray .int, 2) := by decide +kernel
theorem dX5_init_28 : decode cX5_init 28 = .ok (.putfield 19, 3) := by decide +kernel
theorem dX5_init_31 : decode cX5_init 31 = .ok (.aload_n 0, 1) := by decide +kernel
theorem dX5_init_32 : decode cX5_init 32 = .ok (.sipush 301, 3) := by decide +kernel
theorem dX5_init_35 : decode cX5_init 35 = .ok (.newarray .int, 2) := by decide +kernel
theorem dX5_init_37 : decode cX5_init 37 = .ok (.putfield 22, 3) := by decide +kernel
theorem dX5_init_40 : decode cX5_init 40 = .ok (.aload_n 0, 1) := by decide +kernel
theorem dX5_init_41 : decode cX5_init 41 = .ok (.sipush 301, 3) := by decide +kernel
theorem dX5_init_44 : decode cX5_init 44 = .ok (.newarray .int, 2) := by decide +kernel
theorem dX5_init_46 : decode cX5_init 46 = .ok (.putfield 25, 3) := by decide +kernel
theorem dX5_init_49 : decode cX5_init 49 = .ok (.aload_n 0, 1) := by decide +kernel
theorem dX5_init_50 : decode cX5_init 50 = .ok (.bipush 8, 2) := by decide +kernel
theorem dX5_init_52 : decode cX5_init 52 = .ok (.sipush 600, 3) := by decide +kernel
theorem dX5_init_55 : decode cX5_init 55 = .ok (.multianewarray 28 2, 4) := by decide +kernel
theorem dX5_init_59 : decode cX5_init 59 = .ok (.putfield 30, 3) := by decide +kernel
theorem dX5_init_62 : decode cX5_init 62 = .ok (.aload_n 0, 1) := by decide +kernel
theorem dX5_init_63 : decode cX5_init 63 = .ok (.bipush 8, 2) := by decide +kernel
theorem dX5_init_65 : decode cX5_init 65 = .ok (.newarray .int, 2) := by decide +kernel
theorem dX5_init_67 : decode cX5_init 67 = .ok (.putfield 33, 3) := by decide +kernel
theorem dX5_init_70 : decode cX5_init 70 = .ok (.aload_n 0, 1) := by decide +kernel
theorem dX5_init_71 : decode cX5_init 71 = .ok (.sipush 600, 3) := by decide +kernel
theorem dX5_init_74 : decode cX5_init 74 = .ok (.newarray .int, 2) := by decide +kernel
theorem dX5_init_76 : decode cX5_init 76 = .ok (.putfield 36, 3) := by decide +kernel
theorem dX5_init_79 : decode cX5_init 79 = .ok (.aload_n 0, 1) := by decide +kernel
theorem dX5_init_80 : decode cX5_init 80 = .ok (.aload_n 1, 1) := by decide +kernel
theorem dX5_init_81 : decode cX5_init 81 = .ok (.putfield 39, 3) := by decide +kernel
theorem dX5_init_84 : decode cX5_init 84 = .ok (.aload_n 0, 1) := by decide +kernel
theorem dX5_init_85 : decode cX5_init 85 = .ok (.getfield 33, 3) := by decide +kernel
theorem dX5_init_88 : decode cX5_init 88 = .ok (.iconst (-1), 1) := by decide +kernel
theorem dX5_init_89 : decode cX5_init 89 = .ok (.invokestatic 43, 3) := by decide +kernel
theorem dX5_init_92 : decode cX5_init 92 = .ok (.return_, 1) := by decide +kernel
theorem dX5_take_0 : decode cX5_take 0 = .ok (.aload_n 0, 1) := by decide +kernel
theorem dX5_take_1 : decode cX5_take 1 = .ok (.getfield 49, 3) := by decide +kernel
theorem dX5_take_4 : decode cX5_take 4 = .ok (.istore_n 3, 1) := by decide +kernel
theorem dX5_take_5 : decode cX5_take 5 = .ok (.aload_n 0, 1) := by decide +kernel
theorem dX5_take_6 : decode cX5_take 6 = .ok (.getfield 53, 3) := by decide +kernel
theorem dX5_take_9 : decode cX5_take 9 = .ok (.istore 4, 2) := by decide +kernel
theorem dX5_take_11 : decode cX5_take 11 = .ok (.iconst 0, 1) := by decide +kernel
theorem dX5_take_12 : decode cX5_take 12 = .ok (.istore 5, 2) := by decide +kernel
theorem dX5_take_14 : decode cX5_take 14 = .ok (.iload 5, 2) := by decide +kernel
theorem dX5_take_16 : decode cX5_take 16 = .ok (.aload_n 1, 1) := by decide +kernel
theorem dX5_take_17 : decode cX5_take 17 = .ok (.getfield 56, 3) := by decide +kernel
theorem dX5_take_20 : decode cX5_take 20 = .ok (.if_icmp .ge 72, 3) := by decide +kernel
theorem dX5_take_23 : decode cX5_take 23 = .ok (.aload_n 0, 1) := by decide +kernel
theorem dX5_take_24 : decode cX5_take 24 = .ok (.aload_n 1, 1) := by decide +kernel
theorem dX5_take_25 : decode cX5_take 25 = .ok (.iload 5, 2) := by decide +kernel
theorem dX5_take_27 : decode cX5_take 27 = .ok (.invokevirtual 59, 3) := by decide +kernel
theorem dX5_take_30 : decode cX5_take 30 = .ok (.aload_n 1, 1) := by decide +kernel
theorem dX5_take_31 : decode cX5_take 31 = .ok (.iload 5, 2) := by decide +kernel
theorem dX5_take_33 : decode cX5_take 33 = .ok (.invokevirtual 63, 3) := by decide +kernel
theorem dX5_take_36 : decode cX5_take 36 = .ok (.invokevirtual 66, 3) := by decide +kernel
theorem dX5_take_39 : decode cX5_take 39 = .ok (.istore 6, 2) := by decide +kernel
theorem dX5_take_41 : decode cX5_take 41 = .ok (.iload 6, 2) := by decide +kernel
theorem dX5_take_43 : decode cX5_take 43 = .ok (.iconst (-1), 1) := by decide +kernel
theorem dX5_take_44 : decode cX5_take 44 = .ok (.if_icmp .ne 22, 3) := by decide +kernel
theorem dX5_take_47 : decode cX5_take 47 = .ok (.aload_n 0, 1) := by decide +kernel
theorem dX5_take_48 : decode cX5_take 48 = .ok (.aload_n 0, 1) := by decide +kernel
theorem dX5_take_49 : decode cX5_take 49 = .ok (.getfield 36, 3) := by decide +kernel
theorem dX5_take_52 : decode cX5_take 52 = .ok (.iload 5, 2) := by decide +kernel
theorem dX5_take_54 : decode cX5_take 54 = .ok (.invokevirtual 70, 3) := by decide +kernel
theorem dX5_take_57 : decode cX5_take 57 = .ok (.aload_n 0, 1) := by decide +kernel
theorem dX5_take_58 : decode cX5_take 58 = .ok (.iload 4, 2) := by decide +kernel
theorem dX5_take_60 : decode cX5_take 60 = .ok (.putfield 53, 3) := by decide +kernel
theorem dX5_take_63 : decode cX5_take 63 = .ok (.bipush (-2), 2) := by decide +kernel
theorem dX5_take_65 : decode cX5_take 65 = .ok (.ireturn, 1) := by decide +kernel
theorem dX5_take_66 : decode cX5_take 66 = .ok (.aload_n 0, 1) := by decide +kernel
theorem dX5_take_67 : decode cX5_take 67 = .ok (.getfield 25, 3) := by decide +kernel
theorem dX5_take_70 : decode cX5_take 70 = .ok (.iload 6, 2) := by decide +kernel
theorem dX5_take_72 : decode cX5_take 72 = .ok (.dup2, 1) := by decide +kernel
theorem dX5_take_73 : decode cX5_take 73 = .ok (.iaload, 1) := by decide +kernel
theorem dX5_take_74 : decode cX5_take 74 = .ok (.iconst 1, 1) := by decide +kernel
theorem dX5_take_75 : decode cX5_take 75 = .ok (.iadd, 1) := by decide +kernel
theorem dX5_take_76 : decode cX5_take 76 = .ok (.iastore, 1) := by decide +kernel
theorem dX5_take_77 : decode cX5_take 77 = .ok (.aload_n 0, 1) := by decide +kernel
theorem dX5_take_78 : decode cX5_take 78 = .ok (.getfield 36, 3) := by decide +kernel
theorem dX5_take_81 : decode cX5_take 81 = .ok (.iload 5, 2) := by decide +kernel
theorem dX5_take_83 : decode cX5_take 83 = .ok (.iload 6, 2) := by decide +kernel
theorem dX5_take_85 : decode cX5_take 85 = .ok (.iastore, 1) := by decide +kernel
theorem dX5_take_86 : decode cX5_take 86 = .ok (.iinc 5 1, 3) := by decide +kernel
theorem dX5_take_89 : decode cX5_take 89 = .ok (.goto (-75), 3) := by decide +kernel
theorem dX5_take_92 : decode cX5_take 92 = .ok (.aload_n 0, 1) := by decide +kernel
theorem dX5_take_93 : decode cX5_take 93 = .ok (.getfield 49, 3) := by decide +kernel
theorem dX5_take_96 : decode cX5_take 96 = .ok (.iload_n 3, 1) := by decide +kernel
theorem dX5_take_97 : decode cX5_take 97 = .ok (.isub, 1) := by decide +kernel
theorem dX5_take_98 : decode cX5_take 98 = .ok (.istore 5, 2) := by decide +kernel
theorem dX5_take_100 : decode cX5_take 100 = .ok (.aload_n 0, 1) := by decide +kernel
theorem dX5_take_101 : decode cX5_take 101 = .ok (.aload_n 0, 1) := by decide +kernel
theorem dX5_take_102 : decode cX5_take 102 = .ok (.getfield 30, 3) := by decide +kernel
theorem dX5_take_105 : decode cX5_take 105 = .ok (.iload_n 2, 1) := by decide +kernel
theorem dX5_take_106 : decode cX5_take 106 = .ok (.aaload, 1) := by decide +kernel
theorem dX5_take_107 : decode cX5_take 107 = .ok (.aload_n 0, 1) := by decide +kernel
theorem dX5_take_108 : decode cX5_take 108 = .ok (.getfield 33, 3) := by decide +kernel
theorem dX5_take_111 : decode cX5_take 111 = .ok (.iload_n 2, 1) := by decide +kernel
theorem dX5_take_112 : decode cX5_take 112 = .ok (.iaload, 1) := by decide +kernel
theorem dX5_take_113 : decode cX5_take 113 = .ok (.invokevirtual 70, 3) := by decide +kernel
theorem dX5_take_116 : decode cX5_take 116 = .ok (.aload_n 0, 1) := by decide +kernel
theorem dX5_take_117 : decode cX5_take 117 = .ok (.getfield 36, 3) := by decide +kernel
theorem dX5_take_120 : decode cX5_take 120 = .ok (.iconst 0, 1) := by decide +kernel
theorem dX5_take_121 : decode cX5_take 121 = .ok (.aload_n 0, 1) := by decide +kernel
theorem dX5_take_122 : decode cX5_take 122 = .ok (.getfield 30, 3) := by decide +kernel
theorem dX5_take_125 : decode cX5_take 125 = .ok (.iload_n 2, 1) := by decide +kernel
theorem dX5_take_126 : decode cX5_take 126 = .ok (.aaload, 1) := by decide +kernel
theorem dX5_take_127 : decode cX5_take 127 = .ok (.iconst 0, 1) := by decide +kernel
theorem dX5_take_128 : decode cX5_take 128 = .ok (.aload_n 1, 1) := by decide +kernel
theorem dX5_take_129 : decode cX5_take 129 = .ok (.getfield 56, 3) := by decide +kernel
theorem dX5_take_132 : decode cX5_take 132 = .ok (.invokestatic 73, 3) := by decide +kernel
theorem dX5_take_135 : decode cX5_take 135 = .ok (.aload_n 0, 1) := by decide +kernel
theorem dX5_take_136 : decode cX5_take 136 = .ok (.getfield 33, 3) := by decide +kernel
theorem dX5_take_139 : decode cX5_take 139 = .ok (.iload_n 2, 1) := by decide +kernel
theorem dX5_take_140 : decode cX5_take 140 = .ok (.aload_n 1, 1) := by decide +kernel
theorem dX5_take_141 : decode cX5_take 141 = .ok (.getfield 56, 3) := by decide +kernel
theorem dX5_take_144 : decode cX5_take 144 = .ok (.iastore, 1) := by decide +kernel
theorem dX5_take_145 : decode cX5_take 145 = .ok (.iload 5, 2) := by decide +kernel
theorem dX5_take_147 : decode cX5_take 147 = .ok (.ireturn, 1) := by decide +kernel
theorem dX5_letGo_0 : decode cX5_letGo 0 = .ok (.aload_n 0, 1) := by decide +kernel
theorem dX5_letGo_1 : decode cX5_letGo 1 = .ok (.getfield 49, 3) := by decide +kernel
theorem dX5_letGo_4 : decode cX5_letGo 4 = .ok (.istore_n 2, 1) := by decide +kernel
theorem dX5_letGo_5 : decode cX5_letGo 5 = .ok (.aload_n 0, 1) := by decide +kernel
theorem dX5_letGo_6 : decode cX5_letGo 6 = .ok (.aload_n 0, 1) := by decide +kernel
theorem dX5_letGo_7 : decode cX5_letGo 7 = .ok (.getfield 30, 3) := by decide +kernel
theorem dX5_letGo_10 : decode cX5_letGo 10 = .ok (.iload_n 1, 1) := by decide +kernel
theorem dX5_letGo_11 : decode cX5_letGo 11 = .ok (.aaload, 1) := by decide +kernel
theorem dX5_letGo_12 : decode cX5_letGo 12 = .ok (.aload_n 0, 1) := by decide +kernel
theorem dX5_letGo_13 : decode cX5_letGo 13 = .ok (.getfield 33, 3) := by decide +kernel
theorem dX5_letGo_16 : decode cX5_letGo 16 = .ok (.iload_n 1, 1) := by decide +kernel
theorem dX5_letGo_17 : decode cX5_letGo 17 = .ok (.iaload, 1) := by decide +kernel
theorem dX5_letGo_18 : decode cX5_letGo 18 = .ok (.invokevirtual 70, 3) := by decide +kernel
theorem dX5_letGo_21 : decode cX5_letGo 21 = .ok (.aload_n 0, 1) := by decide +kernel
theorem dX5_letGo_22 : decode cX5_letGo 22 = .ok (.getfield 33, 3) := by decide +kernel
theorem dX5_letGo_25 : decode cX5_letGo 25 = .ok (.iload_n 1, 1) := by decide +kernel
theorem dX5_letGo_26 : decode cX5_letGo 26 = .ok (.iconst (-1), 1) := by decide +kernel
theorem dX5_letGo_27 : decode cX5_letGo 27 = .ok (.iastore, 1) := by decide +kernel
theorem dX5_letGo_28 : decode cX5_letGo 28 = .ok (.iload_n 2, 1) := by decide +kernel
theorem dX5_letGo_29 : decode cX5_letGo 29 = .ok (.aload_n 0, 1) := by decide +kernel
theorem dX5_letGo_30 : decode cX5_letGo 30 = .ok (.getfield 49, 3) := by decide +kernel
theorem dX5_letGo_33 : decode cX5_letGo 33 = .ok (.isub, 1) := by decide +kernel
theorem dX5_letGo_34 : decode cX5_letGo 34 = .ok (.ireturn, 1) := by decide +kernel
theorem dX5_restore_0 : decode cX5_restore 0 = .ok (.aload_n 0, 1) := by decide +kernel
theorem dX5_restore_1 : decode cX5_restore 1 = .ok (.getfield 39, 3) := by decide +kernel
theorem dX5_restore_4 : decode cX5_restore 4 = .ok (.getfield 79, 3) := by decide +kernel
theorem dX5_restore_7 : decode cX5_restore 7 = .ok (.iload_n 1, 1) := by decide +kernel
theorem dX5_restore_8 : decode cX5_restore 8 = .ok (.iconst 0, 1) := by decide +kernel
theorem dX5_restore_9 : decode cX5_restore 9 = .ok (.iastore, 1) := by decide +kernel
theorem dX5_restore_10 : decode cX5_restore 10 = .ok (.iconst 0, 1) := by decide +kernel
theorem dX5_restore_11 : decode cX5_restore 11 = .ok (.istore_n 2, 1) := by decide +kernel
theorem dX5_restore_12 : decode cX5_restore 12 = .ok (.iload_n 2, 1) := by decide +kernel
theorem dX5_restore_13 : decode cX5_restore 13 = .ok (.aload_n 0, 1) := by decide +kernel
theorem dX5_restore_14 : decode cX5_restore 14 = .ok (.getfield 33, 3) := by decide +kernel
theorem dX5_restore_17 : decode cX5_restore 17 = .ok (.iload_n 1, 1) := by decide +kernel
theorem dX5_restore_18 : decode cX5_restore 18 = .ok (.iaload, 1) := by decide +kernel
theorem dX5_restore_19 : decode cX5_restore 19 = .ok (.if_icmp .ge 42, 3) := by decide +kernel
theorem dX5_restore_22 : decode cX5_restore 22 = .ok (.aload_n 0, 1) := by decide +kernel
theorem dX5_restore_23 : decode cX5_restore 23 = .ok (.getfield 30, 3) := by decide +kernel
theorem dX5_restore_26 : decode cX5_restore 26 = .ok (.iload_n 1, 1) := by decide +kernel
theorem dX5_restore_27 : decode cX5_restore 27 = .ok (.aaload, 1) := by decide +kernel
theorem dX5_restore_28 : decode cX5_restore 28 = .ok (.iload_n 2, 1) := by decide +kernel
theorem dX5_restore_29 : decode cX5_restore 29 = .ok (.iaload, 1) := by decide +kernel
theorem dX5_restore_30 : decode cX5_restore 30 = .ok (.istore_n 3, 1) := by decide +kernel
theorem dX5_restore_31 : decode cX5_restore 31 = .ok (.aload_n 0, 1) := by decide +kernel
theorem dX5_restore_32 : decode cX5_restore 32 = .ok (.getfield 39, 3) := by decide +kernel
theorem dX5_restore_35 : decode cX5_restore 35 = .ok (.iload_n 1, 1) := by decide +kernel
theorem dX5_restore_36 : decode cX5_restore 36 = .ok (.aload_n 0, 1) := by decide +kernel
theorem dX5_restore_37 : decode cX5_restore 37 = .ok (.getfield 9, 3) := by decide +kernel
theorem dX5_restore_40 : decode cX5_restore 40 = .ok (.aload_n 0, 1) := by decide +kernel
theorem dX5_restore_41 : decode cX5_restore 41 = .ok (.getfield 15, 3) := by decide +kernel
theorem dX5_restore_44 : decode cX5_restore 44 = .ok (.iload_n 3, 1) := by decide +kernel
theorem dX5_restore_45 : decode cX5_restore 45 = .ok (.iaload, 1) := by decide +kernel
theorem dX5_restore_46 : decode cX5_restore 46 = .ok (.aload_n 0, 1) := by decide +kernel
theorem dX5_restore_47 : decode cX5_restore 47 = .ok (.getfield 19, 3) := by decide +kernel
theorem dX5_restore_50 : decode cX5_restore 50 = .ok (.iload_n 3, 1) := by decide +kernel
theorem dX5_restore_51 : decode cX5_restore 51 = .ok (.iaload, 1) := by decide +kernel
theorem dX5_restore_52 : decode cX5_restore 52 = .ok (.invokevirtual 82, 3) := by decide +kernel
theorem dX5_restore_55 : decode cX5_restore 55 = .ok (.iinc 2 1, 3) := by decide +kernel
theorem dX5_restore_58 : decode cX5_restore 58 = .ok (.goto (-46), 3) := by decide +kernel
theorem dX5_restore_61 : decode cX5_restore 61 = .ok (.return_, 1) := by decide +kernel
theorem dX5_countJumps_0 : decode cX5_countJumps 0 = .ok (.iconst 0, 1) := by decide +kernel
theorem dX5_countJumps_1 : decode cX5_countJumps 1 = .ok (.istore_n 2, 1) := by decide +kernel
theorem dX5_countJumps_2 : decode cX5_countJumps 2 = .ok (.iconst 0, 1) := by decide +kernel
theorem dX5_countJumps_3 : decode cX5_countJumps 3 = .ok (.istore_n 3, 1) := by decide +kernel
theorem dX5_countJumps_4 : decode cX5_countJumps 4 = .ok (.iload_n 3, 1) := by decide +kernel
theorem dX5_countJumps_5 : decode cX5_countJumps 5 = .ok (.aload_n 0, 1) := by decide +kernel
theorem dX5_countJumps_6 : decode cX5_countJumps 6 = .ok (.getfield 33, 3) := by decide +kernel
theorem dX5_countJumps_9 : decode cX5_countJumps 9 = .ok (.iload_n 1, 1) := by decide +kernel
theorem dX5_countJumps_10 : decode cX5_countJumps 10 = .ok (.iaload, 1) := by decide +kernel
theorem dX5_countJumps_11 : decode cX5_countJumps 11 = .ok (.if_icmp .ge 39, 3) := by decide +kernel
theorem dX5_countJumps_14 : decode cX5_countJumps 14 = .ok (.iload_n 3, 1) := by decide +kernel
theorem dX5_countJumps_15 : decode cX5_countJumps 15 = .ok (.ifCond .eq 26, 3) := by decide +kernel
theorem dX5_countJumps_18 : decode cX5_countJumps 18 = .ok (.aload_n 0, 1) := by decide +kernel
theorem dX5_countJumps_19 : decode cX5_countJumps 19 = .ok (.getfield 30, 3) := by decide +kernel
theorem dX5_countJumps_22 : decode cX5_countJumps 22 = .ok (.iload_n 1, 1) := by decide +kernel
theorem dX5_countJumps_23 : decode cX5_countJumps 23 = .ok (.aaload, 1) := by decide +kernel
theorem dX5_countJumps_24 : decode cX5_countJumps 24 = .ok (.iload_n 3, 1) := by decide +kernel
theorem dX5_countJumps_25 : decode cX5_countJumps 25 = .ok (.iaload, 1) := by decide +kernel
theorem dX5_countJumps_26 : decode cX5_countJumps 26 = .ok (.aload_n 0, 1) := by decide +kernel
theorem dX5_countJumps_27 : decode cX5_countJumps 27 = .ok (.getfield 30, 3) := by decide +kernel
theorem dX5_countJumps_30 : decode cX5_countJumps 30 = .ok (.iload_n 1, 1) := by decide +kernel
theorem dX5_countJumps_31 : decode cX5_countJumps 31 = .ok (.aaload, 1) := by decide +kernel
theorem dX5_countJumps_32 : decode cX5_countJumps 32 = .ok (.iload_n 3, 1) := by decide +kernel
theorem dX5_countJumps_33 : decode cX5_countJumps 33 = .ok (.iconst 1, 1) := by decide +kernel
theorem dX5_countJumps_34 : decode cX5_countJumps 34 = .ok (.isub, 1) := by decide +kernel
theorem dX5_countJumps_35 : decode cX5_countJumps 35 = .ok (.iaload, 1) := by decide +kernel
theorem dX5_countJumps_36 : decode cX5_countJumps 36 = .ok (.iconst 1, 1) := by decide +kernel
theorem dX5_countJumps_37 : decode cX5_countJumps 37 = .ok (.iadd, 1) := by decide +kernel
theorem dX5_countJumps_38 : decode cX5_countJumps 38 = .ok (.if_icmp .eq 6, 3) := by decide +kernel
theorem dX5_countJumps_41 : decode cX5_countJumps 41 = .ok (.iinc 2 1, 3) := by decide +kernel
theorem dX5_countJumps_44 : decode cX5_countJumps 44 = .ok (.iinc 3 1, 3) := by decide +kernel
theorem dX5_countJumps_47 : decode cX5_countJumps 47 = .ok (.goto (-43), 3) := by decide +kernel
theorem dX5_countJumps_50 : decode cX5_countJumps 50 = .ok (.iload_n 2, 1) := by decide +kernel
theorem dX5_countJumps_51 : decode cX5_countJumps 51 = .ok (.ireturn, 1) := by decide +kernel
theorem dX5_countNumbers_0 : decode cX5_countNumbers 0 = .ok (.iconst 0, 1) := by decide +kernel
theorem dX5_countNumbers_1 : decode cX5_countNumbers 1 = .ok (.istore_n 1, 1) := by decide +kernel
theorem dX5_countNumbers_2 : decode cX5_countNumbers 2 = .ok (.iconst 0, 1) := by decide +kernel
theorem dX5_countNumbers_3 : decode cX5_countNumbers 3 = .ok (.istore_n 2, 1) := by decide +kernel
theorem dX5_countNumbers_4 : decode cX5_countNumbers 4 = .ok (.iload_n 2, 1) := by decide +kernel
theorem dX5_countNumbers_5 : decode cX5_countNumbers 5 = .ok (.bipush 8, 2) := by decide +kernel
theorem dX5_countNumbers_7 : decode cX5_countNumbers 7 = .ok (.if_icmp .ge 22, 3) := by decide +kernel
theorem dX5_countNumbers_10 : decode cX5_countNumbers 10 = .ok (.iload_n 1, 1) := by decide +kernel
theorem dX5_countNumbers_11 : decode cX5_countNumbers 11 = .ok (.aload_n 0, 1) := by decide +kernel
theorem dX5_countNumbers_12 : decode cX5_countNumbers 12 = .ok (.getfield 33, 3) := by decide +kernel
theorem dX5_countNumbers_15 : decode cX5_countNumbers 15 = .ok (.iload_n 2, 1) := by decide +kernel
theorem dX5_countNumbers_16 : decode cX5_countNumbers 16 = .ok (.iaload, 1) := by decide +kernel
theorem dX5_countNumbers_17 : decode cX5_countNumbers 17 = .ok (.iconst 0, 1) := by decide +kernel
theorem dX5_countNumbers_18 : decode cX5_countNumbers 18 = .ok (.invokestatic 86, 3) := by decide +kernel
theorem dX5_countNumbers_21 : decode cX5_countNumbers 21 = .ok (.iadd, 1) := by decide +kernel
theorem dX5_countNumbers_22 : decode cX5_countNumbers 22 = .ok (.istore_n 1, 1) := by decide +kernel
theorem dX5_countNumbers_23 : decode cX5_countNumbers 23 = .ok (.iinc 2 1, 3) := by decide +kernel
theorem dX5_countNumbers_26 : decode cX5_countNumbers 26 = .ok (.goto (-22), 3) := by decide +kernel
theorem dX5_countNumbers_29 : decode cX5_countNumbers 29 = .ok (.iload_n 1, 1) := by decide +kernel
theorem dX5_countNumbers_30 : decode cX5_countNumbers 30 = .ok (.ireturn, 1) := by decide +kernel
theorem dX5_countKeptFiles_0 : decode cX5_countKeptFiles 0 = .ok (.iconst 0, 1) := by decide +kernel
theorem dX5_countKeptFiles_1 : decode cX5_countKeptFiles 1 = .ok (.istore_n 1, 1) := by decide +kernel
theorem dX5_countKeptFiles_2 : decode cX5_countKeptFiles 2 = .ok (.iconst 0, 1) := by decide +kernel
theorem dX5_countKeptFiles_3 : decode cX5_countKeptFiles 3 = .ok (.istore_n 2, 1) := by decide +kernel
theorem dX5_countKeptFiles_4 : decode cX5_countKeptFiles 4 = .ok (.iload_n 2, 1) := by decide +kernel
theorem dX5_countKeptFiles_5 : decode cX5_countKeptFiles 5 = .ok (.bipush 8, 2) := by decide +kernel
theorem dX5_countKeptFiles_7 : decode cX5_countKeptFiles 7 = .ok (.if_icmp .ge 27, 3) := by decide +kernel
theorem dX5_countKeptFiles_10 : decode cX5_countKeptFiles 10 = .ok (.iload_n 1, 1) := by decide +kernel
theorem dX5_countKeptFiles_11 : decode cX5_countKeptFiles 11 = .ok (.aload_n 0, 1) := by decide +kernel
theorem dX5_countKeptFiles_12 : decode cX5_countKeptFiles 12 = .ok (.getfield 33, 3) := by decide +kernel
theorem dX5_countKeptFiles_15 : decode cX5_countKeptFiles 15 = .ok (.iload_n 2, 1) := by decide +kernel
theorem dX5_countKeptFiles_16 : decode cX5_countKeptFiles 16 = .ok (.iaload, 1) := by decide +kernel
theorem dX5_countKeptFiles_17 : decode cX5_countKeptFiles 17 = .ok (.iconst (-1), 1) := by decide +kernel
theorem dX5_countKeptFiles_18 : decode cX5_countKeptFiles 18 = .ok (.if_icmp .ne 7, 3) := by decide +kernel
theorem dX5_countKeptFiles_21 : decode cX5_countKeptFiles 21 = .ok (.iconst 0, 1) := by decide +kernel
theorem dX5_countKeptFiles_22 : decode cX5_countKeptFiles 22 = .ok (.goto 4, 3) := by decide +kernel
theorem dX5_countKeptFiles_25 : decode cX5_countKeptFiles 25 = .ok (.iconst 1, 1) := by decide +kernel
theorem dX5_countKeptFiles_26 : decode cX5_countKeptFiles 26 = .ok (.iadd, 1) := by decide +kernel
theorem dX5_countKeptFiles_27 : decode cX5_countKeptFiles 27 = .ok (.istore_n 1, 1) := by decide +kernel
theorem dX5_countKeptFiles_28 : decode cX5_countKeptFiles 28 = .ok (.iinc 2 1, 3) := by decide +kernel
theorem dX5_countKeptFiles_31 : decode cX5_countKeptFiles 31 = .ok (.goto (-27), 3) := by decide +kernel
theorem dX5_countKeptFiles_34 : decode cX5_countKeptFiles 34 = .ok (.iload_n 1, 1) := by decide +kernel
theorem dX5_countKeptFiles_35 : decode cX5_countKeptFiles 35 = .ok (.ireturn, 1) := by decide +kernel
theorem dX5_share_0 : decode cX5_share 0 = .ok (.aload_n 0, 1) := by decide +kernel
theorem dX5_share_1 : decode cX5_share 1 = .ok (.iload_n 1, 1) := by decide +kernel
theorem dX5_share_2 : decode cX5_share 2 = .ok (.iload_n 2, 1) := by decide +kernel
theorem dX5_share_3 : decode cX5_share 3 = .ok (.invokevirtual 91, 3) := by decide +kernel
theorem dX5_share_6 : decode cX5_share 6 = .ok (.istore_n 3, 1) := by decide +kernel
theorem dX5_share_7 : decode cX5_share 7 = .ok (.aload_n 0, 1) := by decide +kernel
theorem dX5_share_8 : decode cX5_share 8 = .ok (.iload_n 3, 1) := by decide +kernel
theorem dX5_share_9 : decode cX5_share 9 = .ok (.iload_n 1, 1) := by decide +kernel
theorem dX5_share_10 : decode cX5_share 10 = .ok (.iload_n 2, 1) := by decide +kernel
theorem dX5_share_11 : decode cX5_share 11 = .ok (.invokevirtual 94, 3) := by decide +kernel
theorem dX5_share_14 : decode cX5_share 14 = .ok (.istore 4, 2) := by decide +kernel
theorem dX5_share_16 : decode cX5_share 16 = .ok (.iload 4, 2) := by decide +kernel
theorem dX5_share_18 : decode cX5_share 18 = .ok (.iconst (-1), 1) := by decide +kernel
theorem dX5_share_19 : decode cX5_share 19 = .ok (.if_icmp .ne 24, 3) := by decide +kernel
theorem dX5_share_22 : decode cX5_share 22 = .ok (.aload_n 0, 1) := by decide +kernel
theorem dX5_share_23 : decode cX5_share 23 = .ok (.invokevirtual 98, 3) := by decide +kernel
theorem dX5_share_26 : decode cX5_share 26 = .ok (.istore 4, 2) := by decide +kernel
theorem dX5_share_28 : decode cX5_share 28 = .ok (.iload 4, 2) := by decide +kernel
theorem dX5_share_30 : decode cX5_share 30 = .ok (.iconst (-1), 1) := by decide +kernel
theorem dX5_share_31 : decode cX5_share 31 = .ok (.if_icmp .eq 12, 3) := by decide +kernel
theorem dX5_share_34 : decode cX5_share 34 = .ok (.aload_n 0, 1) := by decide +kernel
theorem dX5_share_35 : decode cX5_share 35 = .ok (.iload 4, 2) := by decide +kernel
theorem dX5_share_37 : decode cX5_share 37 = .ok (.iload_n 3, 1) := by decide +kernel
theorem dX5_share_38 : decode cX5_share 38 = .ok (.iload_n 1, 1) := by decide +kernel
theorem dX5_share_39 : decode cX5_share 39 = .ok (.iload_n 2, 1) := by decide +kernel
theorem dX5_share_40 : decode cX5_share 40 = .ok (.invokevirtual 102, 3) := by decide +kernel
theorem dX5_share_43 : decode cX5_share 43 = .ok (.iload 4, 2) := by decide +kernel
theorem dX5_share_45 : decode cX5_share 45 = .ok (.ireturn, 1) := by decide +kernel
theorem dX5_findAlike_0 : decode cX5_findAlike 0 = .ok (.iconst 0, 1) := by decide +kernel
theorem dX5_findAlike_1 : decode cX5_findAlike 1 = .ok (.istore 4, 2) := by decide +kernel
theorem dX5_findAlike_3 : decode cX5_findAlike 3 = .ok (.iconst 1, 1) := by decide +kernel
theorem dX5_findAlike_4 : decode cX5_findAlike 4 = .ok (.istore 5, 2) := by decide +kernel
theorem dX5_findAlike_6 : decode cX5_findAlike 6 = .ok (.iload 5, 2) := by decide +kernel
theorem dX5_findAlike_8 : decode cX5_findAlike 8 = .ok (.sipush 300, 3) := by decide +kernel
theorem dX5_findAlike_11 : decode cX5_findAlike 11 = .ok (.if_icmp .gt 92, 3) := by decide +kernel
theorem dX5_findAlike_14 : decode cX5_findAlike 14 = .ok (.iload 4, 2) := by decide +kernel
theorem dX5_findAlike_16 : decode cX5_findAlike 16 = .ok (.aload_n 0, 1) := by decide +kernel
theorem dX5_findAlike_17 : decode cX5_findAlike 17 = .ok (.getfield 49, 3) := by decide +kernel
theorem dX5_findAlike_20 : decode cX5_findAlike 20 = .ok (.if_icmp .ge 83, 3) := by decide +kernel
theorem dX5_findAlike_23 : decode cX5_findAlike 23 = .ok (.aload_n 0, 1) := by decide +kernel
theorem dX5_findAlike_24 : decode cX5_findAlike 24 = .ok (.getfield 25, 3) := by decide +kernel
theorem dX5_findAlike_27 : decode cX5_findAlike 27 = .ok (.iload 5, 2) := by decide +kernel
theorem dX5_findAlike_29 : decode cX5_findAlike 29 = .ok (.iaload, 1) := by decide +kernel
theorem dX5_findAlike_30 : decode cX5_findAlike 30 = .ok (.ifCond .le 67, 3) := by decide +kernel
theorem dX5_findAlike_33 : decode cX5_findAlike 33 = .ok (.iinc 4 1, 3) := by decide +kernel
theorem dX5_findAlike_36 : decode cX5_findAlike 36 = .ok (.aload_n 0, 1) := by decide +kernel
theorem dX5_findAlike_37 : decode cX5_findAlike 37 = .ok (.getfield 22, 3) := by decide +kernel
theorem dX5_findAlike_40 : decode cX5_findAlike 40 = .ok (.iload 5, 2) := by decide +kernel
theorem dX5_findAlike_42 : decode cX5_findAlike 42 = .ok (.iaload, 1) := by decide +kernel
theorem dX5_findAlike_43 : decode cX5_findAlike 43 = .ok (.iload_n 1, 1) := by decide +kernel
theorem dX5_findAlike_44 : decode cX5_findAlike 44 = .ok (.if_icmp .ne 53, 3) := by decide +kernel
theorem dX5_findAlike_47 : decode cX5_findAlike 47 = .ok (.aload_n 0, 1) := by decide +kernel
theorem dX5_findAlike_48 : decode cX5_findAlike 48 = .ok (.getfield 19, 3) := by decide +kernel
theorem dX5_findAlike_51 : decode cX5_findAlike 51 = .ok (.iload 5, 2) := by decide +kernel
theorem dX5_findAlike_53 : decode cX5_findAlike 53 = .ok (.iaload, 1) := by decide +kernel
theorem dX5_findAlike_54 : decode cX5_findAlike 54 = .ok (.iload_n 3, 1) := by decide +kernel
theorem dX5_findAlike_55 : decode cX5_findAlike 55 = .ok (.if_icmp .ne 42, 3) := by decide +kernel
theorem dX5_findAlike_58 : decode cX5_findAlike 58 = .ok (.aload_n 0, 1) := by decide +kernel
theorem dX5_findAlike_59 : decode cX5_findAlike 59 = .ok (.getfield 9, 3) := by decide +kernel
theorem dX5_findAlike_62 : decode cX5_findAlike 62 = .ok (.aload_n 0, 1) := by decide +kernel
theorem dX5_findAlike_63 : decode cX5_findAlike 63 = .ok (.getfield 15, 3) := by decide +kernel
theorem dX5_findAlike_66 : decode cX5_findAlike 66 = .ok (.iload 5, 2) := by decide +kernel
theorem dX5_findAlike_68 : decode cX5_findAlike 68 = .ok (.iaload, 1) := by decide +kernel
theorem dX5_findAlike_69 : decode cX5_findAlike 69 = .ok (.aload_n 0, 1) := by decide +kernel
theorem dX5_findAlike_70 : decode cX5_findAlike 70 = .ok (.getfield 39, 3) := by decide +kernel
theorem dX5_findAlike_73 : decode cX5_findAlike 73 = .ok (.getfield 106, 3) := by decide +kernel
theorem dX5_findAlike_76 : decode cX5_findAlike 76 = .ok (.iload_n 2, 1) := by decide +kernel
theorem dX5_findAlike_77 : decode cX5_findAlike 77 = .ok (.iload_n 3, 1) := by decide +kernel
theorem dX5_findAlike_78 : decode cX5_findAlike 78 = .ok (.invokestatic 107, 3) := by decide +kernel
theorem dX5_findAlike_81 : decode cX5_findAlike 81 = .ok (.ifCond .eq 6, 3) := by decide +kernel
theorem dX5_findAlike_84 : decode cX5_findAlike 84 = .ok (.iload 5, 2) := by decide +kernel
theorem dX5_findAlike_86 : decode cX5_findAlike 86 = .ok (.ireturn, 1) := by decide +kernel
theorem dX5_findAlike_87 : decode cX5_findAlike 87 = .ok (.aload_n 0, 1) := by decide +kernel
theorem dX5_findAlike_88 : decode cX5_findAlike 88 = .ok (.dup, 1) := by decide +kernel
theorem dX5_findAlike_89 : decode cX5_findAlike 89 = .ok (.getfield 53, 3) := by decide +kernel
theorem dX5_findAlike_92 : decode cX5_findAlike 92 = .ok (.iconst 1, 1) := by decide +kernel
theorem dX5_findAlike_93 : decode cX5_findAlike 93 = .ok (.iadd, 1) := by decide +kernel
theorem dX5_findAlike_94 : decode cX5_findAlike 94 = .ok (.putfield 53, 3) := by decide +kernel
theorem dX5_findAlike_97 : decode cX5_findAlike 97 = .ok (.iinc 5 1, 3) := by decide +kernel
theorem dX5_findAlike_100 : decode cX5_findAlike 100 = .ok (.goto (-94), 3) := by decide +kernel
theorem dX5_findAlike_103 : decode cX5_findAlike 103 = .ok (.iconst (-1), 1) := by decide +kernel
theorem dX5_findAlike_104 : decode cX5_findAlike 104 = .ok (.ireturn, 1) := by decide +kernel
theorem dX5_leastFree_0 : decode cX5_leastFree 0 = .ok (.iconst 1, 1) := by decide +kernel
theorem dX5_leastFree_1 : decode cX5_leastFree 1 = .ok (.istore_n 1, 1) := by decide +kernel
theorem dX5_leastFree_2 : decode cX5_leastFree 2 = .ok (.iload_n 1, 1) := by decide +kernel
theorem dX5_leastFree_3 : decode cX5_leastFree 3 = .ok (.sipush 300, 3) := by decide +kernel
theorem dX5_leastFree_6 : decode cX5_leastFree 6 = .ok (.if_icmp .gt 20, 3) := by decide +kernel
theorem dX5_leastFree_9 : decode cX5_leastFree 9 = .ok (.aload_n 0, 1) := by decide +kernel
theorem dX5_leastFree_10 : decode cX5_leastFree 10 = .ok (.getfield 25, 3) := by decide +kernel
theorem dX5_leastFree_13 : decode cX5_leastFree 13 = .ok (.iload_n 1, 1) := by decide +kernel
theorem dX5_leastFree_14 : decode cX5_leastFree 14 = .ok (.iaload, 1) := by decide +kernel
theorem dX5_leastFree_15 : decode cX5_leastFree 15 = .ok (.ifCond .ne 5, 3) := by decide +kernel
theorem dX5_leastFree_18 : decode cX5_leastFree 18 = .ok (.iload_n 1, 1) := by decide +kernel
theorem dX5_leastFree_19 : decode cX5_leastFree 19 = .ok (.ireturn, 1) := by decide +kernel
theorem dX5_leastFree_20 : decode cX5_leastFree 20 = .ok (.iinc 1 1, 3) := by decide +kernel
theorem dX5_leastFree_23 : decode cX5_leastFree 23 = .ok (.goto (-21), 3) := by decide +kernel
theorem dX5_leastFree_26 : decode cX5_leastFree 26 = .ok (.iconst (-1), 1) := by decide +kernel
theorem dX5_leastFree_27 : decode cX5_leastFree 27 = .ok (.ireturn, 1) := by decide +kernel
theorem dX5_printOf_0 : decode cX5_printOf 0 = .ok (.iconst 0, 1) := by decide +kernel
theorem dX5_printOf_1 : decode cX5_printOf 1 = .ok (.istore_n 3, 1) := by decide +kernel
theorem dX5_printOf_2 : decode cX5_printOf 2 = .ok (.iconst 0, 1) := by decide +kernel
theorem dX5_printOf_3 : decode cX5_printOf 3 = .ok (.istore 4, 2) := by decide +kernel
theorem dX5_printOf_5 : decode cX5_printOf 5 = .ok (.iload 4, 2) := by decide +kernel
theorem dX5_printOf_7 : decode cX5_printOf 7 = .ok (.iload_n 2, 1) := by decide +kernel
theorem dX5_printOf_8 : decode cX5_printOf 8 = .ok (.if_icmp .ge 33, 3) := by decide +kernel
theorem dX5_printOf_11 : decode cX5_printOf 11 = .ok (.iload_n 3, 1) := by decide +kernel
theorem dX5_printOf_12 : decode cX5_printOf 12 = .ok (.aload_n 0, 1) := by decide +kernel
theorem dX5_printOf_13 : decode cX5_printOf 13 = .ok (.getfield 39, 3) := by decide +kernel
theorem dX5_printOf_16 : decode cX5_printOf 16 = .ok (.getfield 106, 3) := by decide +kernel
theorem dX5_printOf_19 : decode cX5_printOf 19 = .ok (.iload_n 1, 1) := by decide +kernel
theorem dX5_printOf_20 : decode cX5_printOf 20 = .ok (.iload 4, 2) := by decide +kernel
theorem dX5_printOf_22 : decode cX5_printOf 22 = .ok (.iadd, 1) := by decide +kernel
theorem dX5_printOf_23 : decode cX5_printOf 23 = .ok (.baload, 1) := by decide +kernel
theorem dX5_printOf_24 : decode cX5_printOf 24 = .ok (.sipush 255, 3) := by decide +kernel
theorem dX5_printOf_27 : decode cX5_printOf 27 = .ok (.iand, 1) := by decide +kernel
theorem dX5_printOf_28 : decode cX5_printOf 28 = .ok (.iload 4, 2) := by decide +kernel
theorem dX5_printOf_30 : decode cX5_printOf 30 = .ok (.iconst 1, 1) := by decide +kernel
theorem dX5_printOf_31 : decode cX5_printOf 31 = .ok (.iadd, 1) := by decide +kernel
theorem dX5_printOf_32 : decode cX5_printOf 32 = .ok (.imul, 1) := by decide +kernel
theorem dX5_printOf_33 : decode cX5_printOf 33 = .ok (.iadd, 1) := by decide +kernel
theorem dX5_printOf_34 : decode cX5_printOf 34 = .ok (.istore_n 3, 1) := by decide +kernel
theorem dX5_printOf_35 : decode cX5_printOf 35 = .ok (.iinc 4 1, 3) := by decide +kernel
theorem dX5_printOf_38 : decode cX5_printOf 38 = .ok (.goto (-33), 3) := by decide +kernel
theorem dX5_printOf_41 : decode cX5_printOf 41 = .ok (.iload_n 3, 1) := by decide +kernel
theorem dX5_printOf_42 : decode cX5_printOf 42 = .ok (.sipush 255, 3) := by decide +kernel
theorem dX5_printOf_45 : decode cX5_printOf 45 = .ok (.iand, 1) := by decide +kernel
theorem dX5_printOf_46 : decode cX5_printOf 46 = .ok (.ireturn, 1) := by decide +kernel
theorem dX5_addPiece_0 : decode cX5_addPiece 0 = .ok (.aload_n 0, 1) := by decide +kernel
theorem dX5_addPiece_1 : decode cX5_addPiece 1 = .ok (.getfield 39, 3) := by decide +kernel
theorem dX5_addPiece_4 : decode cX5_addPiece 4 = .ok (.getfield 106, 3) := by decide +kernel
theorem dX5_addPiece_7 : decode cX5_addPiece 7 = .ok (.iload_n 3, 1) := by decide +kernel
theorem dX5_addPiece_8 : decode cX5_addPiece 8 = .ok (.aload_n 0, 1) := by decide +kernel
theorem dX5_addPiece_9 : decode cX5_addPiece 9 = .ok (.getfield 9, 3) := by decide +kernel
theorem dX5_addPiece_12 : decode cX5_addPiece 12 = .ok (.aload_n 0, 1) := by decide +kernel
theorem dX5_addPiece_13 : decode cX5_addPiece 13 = .ok (.getfield 111, 3) := by decide +kernel
theorem dX5_addPiece_16 : decode cX5_addPiece 16 = .ok (.iload 4, 2) := by decide +kernel
theorem dX5_addPiece_18 : decode cX5_addPiece 18 = .ok (.invokestatic 73, 3) := by decide +kernel
theorem dX5_addPiece_21 : decode cX5_addPiece 21 = .ok (.aload_n 0, 1) := by decide +kernel
theorem dX5_addPiece_22 : decode cX5_addPiece 22 = .ok (.getfield 15, 3) := by decide +kernel
theorem dX5_addPiece_25 : decode cX5_addPiece 25 = .ok (.iload_n 1, 1) := by decide +kernel
theorem dX5_addPiece_26 : decode cX5_addPiece 26 = .ok (.aload_n 0, 1) := by decide +kernel
theorem dX5_addPiece_27 : decode cX5_addPiece 27 = .ok (.getfield 111, 3) := by decide +kernel
theorem dX5_addPiece_30 : decode cX5_addPiece 30 = .ok (.iastore, 1) := by decide +kernel
theorem dX5_addPiece_31 : decode cX5_addPiece 31 = .ok (.aload_n 0, 1) := by decide +kernel
theorem dX5_addPiece_32 : decode cX5_addPiece 32 = .ok (.getfield 19, 3) := by decide +kernel
theorem dX5_addPiece_35 : decode cX5_addPiece 35 = .ok (.iload_n 1, 1) := by decide +kernel
theorem dX5_addPiece_36 : decode cX5_addPiece 36 = .ok (.iload 4, 2) := by decide +kernel
theorem dX5_addPiece_38 : decode cX5_addPiece 38 = .ok (.iastore, 1) := by decide +kernel
theorem dX5_addPiece_39 : decode cX5_addPiece 39 = .ok (.aload_n 0, 1) := by decide +kernel
theorem dX5_addPiece_40 : decode cX5_addPiece 40 = .ok (.getfield 22, 3) := by decide +kernel
theorem dX5_addPiece_43 : decode cX5_addPiece 43 = .ok (.iload_n 1, 1) := by decide +kernel
theorem dX5_addPiece_44 : decode cX5_addPiece 44 = .ok (.iload_n 2, 1) := by decide +kernel
theorem dX5_addPiece_45 : decode cX5_addPiece 45 = .ok (.iastore, 1) := by decide +kernel
theorem dX5_addPiece_46 : decode cX5_addPiece 46 = .ok (.aload_n 0, 1) := by decide +kernel
theorem dX5_addPiece_47 : decode cX5_addPiece 47 = .ok (.dup, 1) := by decide +kernel
theorem dX5_addPiece_48 : decode cX5_addPiece 48 = .ok (.getfield 111, 3) := by decide +kernel
theorem dX5_addPiece_51 : decode cX5_addPiece 51 = .ok (.iload 4, 2) := by decide +kernel
theorem dX5_addPiece_53 : decode cX5_addPiece 53 = .ok (.iadd, 1) := by decide +kernel
theorem dX5_addPiece_54 : decode cX5_addPiece 54 = .ok (.putfield 111, 3) := by decide +kernel
theorem dX5_addPiece_57 : decode cX5_addPiece 57 = .ok (.aload_n 0, 1) := by decide +kernel
theorem dX5_addPiece_58 : decode cX5_addPiece 58 = .ok (.dup, 1) := by decide +kernel
theorem dX5_addPiece_59 : decode cX5_addPiece 59 = .ok (.getfield 49, 3) := by decide +kernel
theorem dX5_addPiece_62 : decode cX5_addPiece 62 = .ok (.iconst 1, 1) := by decide +kernel
theorem dX5_addPiece_63 : decode cX5_addPiece 63 = .ok (.iadd, 1) := by decide +kernel
theorem dX5_addPiece_64 : decode cX5_addPiece 64 = .ok (.putfield 49, 3) := by decide +kernel
theorem dX5_addPiece_67 : decode cX5_addPiece 67 = .ok (.return_, 1) := by decide +kernel
theorem dX5_release_0 : decode cX5_release 0 = .ok (.iconst 0, 1) := by decide +kernel
theorem dX5_release_1 : decode cX5_release 1 = .ok (.istore_n 3, 1) := by decide +kernel
theorem dX5_release_2 : decode cX5_release 2 = .ok (.iload_n 3, 1) := by decide +kernel
theorem dX5_release_3 : decode cX5_release 3 = .ok (.iload_n 2, 1) := by decide +kernel
theorem dX5_release_4 : decode cX5_release 4 = .ok (.if_icmp .ge 41, 3) := by decide +kernel
theorem dX5_release_7 : decode cX5_release 7 = .ok (.aload_n 1, 1) := by decide +kernel
theorem dX5_release_8 : decode cX5_release 8 = .ok (.iload_n 3, 1) := by decide +kernel
theorem dX5_release_9 : decode cX5_release 9 = .ok (.iaload, 1) := by decide +kernel
theorem dX5_release_10 : decode cX5_release 10 = .ok (.istore 4, 2) := by decide +kernel
theorem dX5_release_12 : decode cX5_release 12 = .ok (.aload_n 0, 1) := by decide +kernel
theorem dX5_release_13 : decode cX5_release 13 = .ok (.getfield 25, 3) := by decide +kernel
theorem dX5_release_16 : decode cX5_release 16 = .ok (.iload 4, 2) := by decide +kernel
theorem dX5_release_18 : decode cX5_release 18 = .ok (.dup2, 1) := by decide +kernel
theorem dX5_release_19 : decode cX5_release 19 = .ok (.iaload, 1) := by decide +kernel
theorem dX5_release_20 : decode cX5_release 20 = .ok (.iconst 1, 1) := by decide +kernel
theorem dX5_release_21 : decode cX5_release 21 = .ok (.isub, 1) := by decide +kernel
theorem dX5_release_22 : decode cX5_release 22 = .ok (.iastore, 1) := by decide +kernel
theorem dX5_release_23 : decode cX5_release 23 = .ok (.aload_n 0, 1) := by decide +kernel
theorem dX5_release_24 : decode cX5_release 24 = .ok (.getfield 25, 3) := by decide +kernel
theorem dX5_release_27 : decode cX5_release 27 = .ok (.iload 4, 2) := by decide +kernel
theorem dX5_release_29 : decode cX5_release 29 = .ok (.iaload, 1) := by decide +kernel
theorem dX5_release_30 : decode cX5_release 30 = .ok (.ifCond .ne 9, 3) := by decide +kernel
theorem dX5_release_33 : decode cX5_release 33 = .ok (.aload_n 0, 1) := by decide +kernel
theorem dX5_release_34 : decode cX5_release 34 = .ok (.iload 4, 2) := by decide +kernel
theorem dX5_release_36 : decode cX5_release 36 = .ok (.invokevirtual 114, 3) := by decide +kernel
theorem dX5_release_39 : decode cX5_release 39 = .ok (.iinc 3 1, 3) := by decide +kernel
theorem dX5_release_42 : decode cX5_release 42 = .ok (.goto (-40), 3) := by decide +kernel
theorem dX5_release_45 : decode cX5_release 45 = .ok (.return_, 1) := by decide +kernel
theorem dX5_removePiece_0 : decode cX5_removePiece 0 = .ok (.aload_n 0, 1) := by decide +kernel
theorem dX5_removePiece_1 : decode cX5_removePiece 1 = .ok (.getfield 15, 3) := by decide +kernel
theorem dX5_removePiece_4 : decode cX5_removePiece 4 = .ok (.iload_n 1, 1) := by decide +kernel
theorem dX5_removePiece_5 : decode cX5_removePiece 5 = .ok (.iaload, 1) := by decide +kernel
theorem dX5_removePiece_6 : decode cX5_removePiece 6 = .ok (.aload_n 0, 1) := by decide +kernel
theorem dX5_removePiece_7 : decode cX5_removePiece 7 = .ok (.getfield 19, 3) := by decide +kernel
theorem dX5_removePiece_10 : decode cX5_removePiece 10 = .ok (.iload_n 1, 1) := by decide +kernel
theorem dX5_removePiece_11 : decode cX5_removePiece 11 = .ok (.iaload, 1) := by decide +kernel
theorem dX5_removePiece_12 : decode cX5_removePiece 12 = .ok (.iadd, 1) := by decide +kernel
theorem dX5_removePiece_13 : decode cX5_removePiece 13 = .ok (.istore_n 2, 1) := by decide +kernel
theorem dX5_removePiece_14 : decode cX5_removePiece 14 = .ok (.aload_n 0, 1) := by decide +kernel
theorem dX5_removePiece_15 : decode cX5_removePiece 15 = .ok (.getfield 9, 3) := by decide +kernel
theorem dX5_removePiece_18 : decode cX5_removePiece 18 = .ok (.iload_n 2, 1) := by decide +kernel
theorem dX5_removePiece_19 : decode cX5_removePiece 19 = .ok (.aload_n 0, 1) := by decide +kernel
theorem dX5_removePiece_20 : decode cX5_removePiece 20 = .ok (.getfield 9, 3) := by decide +kernel
theorem dX5_removePiece_23 : decode cX5_removePiece 23 = .ok (.aload_n 0, 1) := by decide +kernel
theorem dX5_removePiece_24 : decode cX5_removePiece 24 = .ok (.getfield 15, 3) := by decide +kernel
theorem dX5_removePiece_27 : decode cX5_removePiece 27 = .ok (.iload_n 1, 1) := by decide +kernel
theorem dX5_removePiece_28 : decode cX5_removePiece 28 = .ok (.iaload, 1) := by decide +kernel
theorem dX5_removePiece_29 : decode cX5_removePiece 29 = .ok (.aload_n 0, 1) := by decide +kernel
theorem dX5_removePiece_30 : decode cX5_removePiece 30 = .ok (.getfield 111, 3) := by decide +kernel
theorem dX5_removePiece_33 : decode cX5_removePiece 33 = .ok (.iload_n 2, 1) := by decide +kernel
theorem dX5_removePiece_34 : decode cX5_removePiece 34 = .ok (.isub, 1) := by decide +kernel
theorem dX5_removePiece_35 : decode cX5_removePiece 35 = .ok (.invokestatic 73, 3) := by decide +kernel
theorem dX5_removePiece_38 : decode cX5_removePiece 38 = .ok (.iconst 1, 1) := by decide +kernel
theorem dX5_removePiece_39 : decode cX5_removePiece 39 = .ok (.istore_n 3, 1) := by decide +kernel
theorem dX5_removePiece_40 : decode cX5_removePiece 40 = .ok (.iload_n 3, 1) := by decide +kernel
theorem dX5_removePiece_41 : decode cX5_removePiece 41 = .ok (.sipush 300, 3) := by decide +kernel
end
section
theorem dX5_removePiece_44 : decode cX5_removePiece 44 = .ok (.if_icmp .gt 43, 3) := by decide +kernel
theorem dX5_removePiece_47 : decode cX5_removePiece 47 = .ok (.aload_n 0, 1) := by decide +kernel
theorem dX5_removePiece_48 : decode cX5_removePiece 48 = .ok (.getfield 25, 3) := by decide +kernel
theorem dX5_removePiece_51 : decode cX5_removePiece 51 = .ok (.iload_n 3, 1) := by decide +kernel
theorem dX5_removePiece_52 : decode cX5_removePiece 52 = .ok (.iaload, 1) := by decide +kernel
theorem dX5_removePiece_53 : decode cX5_removePiece 53 = .ok (.ifCond .le 28, 3) := by decide +kernel
theorem dX5_removePiece_56 : decode cX5_removePiece 56 = .ok (.aload_n 0, 1) := by decide +kernel
theorem dX5_removePiece_57 : decode cX5_removePiece 57 = .ok (.getfield 15, 3) := by decide +kernel
theorem dX5_removePiece_60 : decode cX5_removePiece 60 = .ok (.iload_n 3, 1) := by decide +kernel
theorem dX5_removePiece_61 : decode cX5_removePiece 61 = .ok (.iaload, 1) := by decide +kernel
theorem dX5_removePiece_62 : decode cX5_removePiece 62 = .ok (.iload_n 2, 1) := by decide +kernel
theorem dX5_removePiece_63 : decode cX5_removePiece 63 = .ok (.if_icmp .lt 18, 3) := by decide +kernel
theorem dX5_removePiece_66 : decode cX5_removePiece 66 = .ok (.aload_n 0, 1) := by decide +kernel
theorem dX5_removePiece_67 : decode cX5_removePiece 67 = .ok (.getfield 15, 3) := by decide +kernel
theorem dX5_removePiece_70 : decode cX5_removePiece 70 = .ok (.iload_n 3, 1) := by decide +kernel
theorem dX5_removePiece_71 : decode cX5_removePiece 71 = .ok (.dup2, 1) := by decide +kernel
theorem dX5_removePiece_72 : decode cX5_removePiece 72 = .ok (.iaload, 1) := by decide +kernel
theorem dX5_removePiece_73 : decode cX5_removePiece 73 = .ok (.aload_n 0, 1) := by decide +kernel
theorem dX5_removePiece_74 : decode cX5_removePiece 74 = .ok (.getfield 19, 3) := by decide +kernel
theorem dX5_removePiece_77 : decode cX5_removePiece 77 = .ok (.iload_n 1, 1) := by decide +kernel
theorem dX5_removePiece_78 : decode cX5_removePiece 78 = .ok (.iaload, 1) := by decide +kernel
theorem dX5_removePiece_79 : decode cX5_removePiece 79 = .ok (.isub, 1) := by decide +kernel
theorem dX5_removePiece_80 : decode cX5_removePiece 80 = .ok (.iastore, 1) := by decide +kernel
theorem dX5_removePiece_81 : decode cX5_removePiece 81 = .ok (.iinc 3 1, 3) := by decide +kernel
theorem dX5_removePiece_84 : decode cX5_removePiece 84 = .ok (.goto (-44), 3) := by decide +kernel
theorem dX5_removePiece_87 : decode cX5_removePiece 87 = .ok (.aload_n 0, 1) := by decide +kernel
theorem dX5_removePiece_88 : decode cX5_removePiece 88 = .ok (.dup, 1) := by decide +kernel
theorem dX5_removePiece_89 : decode cX5_removePiece 89 = .ok (.getfield 111, 3) := by decide +kernel
theorem dX5_removePiece_92 : decode cX5_removePiece 92 = .ok (.aload_n 0, 1) := by decide +kernel
theorem dX5_removePiece_93 : decode cX5_removePiece 93 = .ok (.getfield 19, 3) := by decide +kernel
theorem dX5_removePiece_96 : decode cX5_removePiece 96 = .ok (.iload_n 1, 1) := by decide +kernel
theorem dX5_removePiece_97 : decode cX5_removePiece 97 = .ok (.iaload, 1) := by decide +kernel
theorem dX5_removePiece_98 : decode cX5_removePiece 98 = .ok (.isub, 1) := by decide +kernel
theorem dX5_removePiece_99 : decode cX5_removePiece 99 = .ok (.putfield 111, 3) := by decide +kernel
theorem dX5_removePiece_102 : decode cX5_removePiece 102 = .ok (.aload_n 0, 1) := by decide +kernel
theorem dX5_removePiece_103 : decode cX5_removePiece 103 = .ok (.dup, 1) := by decide +kernel
theorem dX5_removePiece_104 : decode cX5_removePiece 104 = .ok (.getfield 49, 3) := by decide +kernel
theorem dX5_removePiece_107 : decode cX5_removePiece 107 = .ok (.iconst 1, 1) := by decide +kernel
theorem dX5_removePiece_108 : decode cX5_removePiece 108 = .ok (.isub, 1) := by decide +kernel
theorem dX5_removePiece_109 : decode cX5_removePiece 109 = .ok (.putfield 49, 3) := by decide +kernel
theorem dX5_removePiece_112 : decode cX5_removePiece 112 = .ok (.return_, 1) := by decide +kernel
theorem dX6_init_0 : decode cX6_init 0 = .ok (.aload_n 0, 1) := by decide +kernel
theorem dX6_init_1 : decode cX6_init 1 = .ok (.invokespecial 3, 3) := by decide +kernel
theorem dX6_init_4 : decode cX6_init 4 = .ok (.aload_n 0, 1) := by decide +kernel
theorem dX6_init_5 : decode cX6_init 5 = .ok (.sipush 4808, 3) := by decide +kernel
theorem dX6_init_8 : decode cX6_init 8 = .ok (.newarray .int, 2) := by decide +kernel
theorem dX6_init_10 : decode cX6_init 10 = .ok (.putfield 9, 3) := by decide +kernel
theorem dX6_init_13 : decode cX6_init 13 = .ok (.aload_n 0, 1) := by decide +kernel
theorem dX6_init_14 : decode cX6_init 14 = .ok (.new 15, 3) := by decide +kernel
theorem dX6_init_17 : decode cX6_init 17 = .ok (.dup, 1) := by decide +kernel
theorem dX6_init_18 : decode cX6_init 18 = .ok (.invokespecial 17, 3) := by decide +kernel
theorem dX6_init_21 : decode cX6_init 21 = .ok (.putfield 18, 3) := by decide +kernel
theorem dX6_init_24 : decode cX6_init 24 = .ok (.aload_n 0, 1) := by decide +kernel
theorem dX6_init_25 : decode cX6_init 25 = .ok (.sipush 200, 3) := by decide +kernel
theorem dX6_init_28 : decode cX6_init 28 = .ok (.newarray .int, 2) := by decide +kernel
theorem dX6_init_30 : decode cX6_init 30 = .ok (.putfield 22, 3) := by decide +kernel
theorem dX6_init_33 : decode cX6_init 33 = .ok (.aload_n 0, 1) := by decide +kernel
theorem dX6_init_34 : decode cX6_init 34 = .ok (.sipush 200, 3) := by decide +kernel
theorem dX6_init_37 : decode cX6_init 37 = .ok (.newarray .int, 2) := by decide +kernel
theorem dX6_init_39 : decode cX6_init 39 = .ok (.putfield 25, 3) := by decide +kernel
theorem dX6_init_42 : decode cX6_init 42 = .ok (.aload_n 0, 1) := by decide +kernel
theorem dX6_init_43 : decode cX6_init 43 = .ok (.sipush 200, 3) := by decide +kernel
theorem dX6_init_46 : decode cX6_init 46 = .ok (.newarray .int, 2) := by decide +kernel
theorem dX6_init_48 : decode cX6_init 48 = .ok (.putfield 28, 3) := by decide +kernel
theorem dX6_init_51 : decode cX6_init 51 = .ok (.return_, 1) := by decide +kernel
theorem dX6_clear_0 : decode cX6_clear 0 = .ok (.aload_n 0, 1) := by decide +kernel
theorem dX6_clear_1 : decode cX6_clear 1 = .ok (.iconst 0, 1) := by decide +kernel
theorem dX6_clear_2 : decode cX6_clear 2 = .ok (.putfield 31, 3) := by decide +kernel
theorem dX6_clear_5 : decode cX6_clear 5 = .ok (.aload_n 0, 1) := by decide +kernel
theorem dX6_clear_6 : decode cX6_clear 6 = .ok (.iconst 0, 1) := by decide +kernel
theorem dX6_clear_7 : decode cX6_clear 7 = .ok (.putfield 35, 3) := by decide +kernel
theorem dX6_clear_10 : decode cX6_clear 10 = .ok (.aload_n 0, 1) := by decide +kernel
theorem dX6_clear_11 : decode cX6_clear 11 = .ok (.iconst 0, 1) := by decide +kernel
theorem dX6_clear_12 : decode cX6_clear 12 = .ok (.putfield 38, 3) := by decide +kernel
theorem dX6_clear_15 : decode cX6_clear 15 = .ok (.return_, 1) := by decide +kernel
theorem dX6_addRow_0 : decode cX6_addRow 0 = .ok (.aload_n 1, 1) := by decide +kernel
theorem dX6_addRow_1 : decode cX6_addRow 1 = .ok (.iconst 0, 1) := by decide +kernel
theorem dX6_addRow_2 : decode cX6_addRow 2 = .ok (.aload_n 0, 1) := by decide +kernel
theorem dX6_addRow_3 : decode cX6_addRow 3 = .ok (.getfield 9, 3) := by decide +kernel
theorem dX6_addRow_6 : decode cX6_addRow 6 = .ok (.aload_n 0, 1) := by decide +kernel
theorem dX6_addRow_7 : decode cX6_addRow 7 = .ok (.getfield 31, 3) := by decide +kernel
theorem dX6_addRow_10 : decode cX6_addRow 10 = .ok (.iload_n 2, 1) := by decide +kernel
theorem dX6_addRow_11 : decode cX6_addRow 11 = .ok (.invokestatic 41, 3) := by decide +kernel
theorem dX6_addRow_14 : decode cX6_addRow 14 = .ok (.aload_n 0, 1) := by decide +kernel
theorem dX6_addRow_15 : decode cX6_addRow 15 = .ok (.dup, 1) := by decide +kernel
theorem dX6_addRow_16 : decode cX6_addRow 16 = .ok (.getfield 31, 3) := by decide +kernel
theorem dX6_addRow_19 : decode cX6_addRow 19 = .ok (.iload_n 2, 1) := by decide +kernel
theorem dX6_addRow_20 : decode cX6_addRow 20 = .ok (.iadd, 1) := by decide +kernel
theorem dX6_addRow_21 : decode cX6_addRow 21 = .ok (.putfield 31, 3) := by decide +kernel
theorem dX6_addRow_24 : decode cX6_addRow 24 = .ok (.aload_n 0, 1) := by decide +kernel
theorem dX6_addRow_25 : decode cX6_addRow 25 = .ok (.getfield 9, 3) := by decide +kernel
theorem dX6_addRow_28 : decode cX6_addRow 28 = .ok (.aload_n 0, 1) := by decide +kernel
theorem dX6_addRow_29 : decode cX6_addRow 29 = .ok (.getfield 31, 3) := by decide +kernel
theorem dX6_addRow_32 : decode cX6_addRow 32 = .ok (.iconst 0, 1) := by decide +kernel
theorem dX6_addRow_33 : decode cX6_addRow 33 = .ok (.iastore, 1) := by decide +kernel
theorem dX6_addRow_34 : decode cX6_addRow 34 = .ok (.aload_n 0, 1) := by decide +kernel
theorem dX6_addRow_35 : decode cX6_addRow 35 = .ok (.dup, 1) := by decide +kernel
theorem dX6_addRow_36 : decode cX6_addRow 36 = .ok (.getfield 31, 3) := by decide +kernel
theorem dX6_addRow_39 : decode cX6_addRow 39 = .ok (.iconst 1, 1) := by decide +kernel
theorem dX6_addRow_40 : decode cX6_addRow 40 = .ok (.iadd, 1) := by decide +kernel
theorem dX6_addRow_41 : decode cX6_addRow 41 = .ok (.putfield 31, 3) := by decide +kernel
theorem dX6_addRow_44 : decode cX6_addRow 44 = .ok (.aload_n 0, 1) := by decide +kernel
theorem dX6_addRow_45 : decode cX6_addRow 45 = .ok (.dup, 1) := by decide +kernel
theorem dX6_addRow_46 : decode cX6_addRow 46 = .ok (.getfield 35, 3) := by decide +kernel
theorem dX6_addRow_49 : decode cX6_addRow 49 = .ok (.iconst 1, 1) := by decide +kernel
theorem dX6_addRow_50 : decode cX6_addRow 50 = .ok (.iadd, 1) := by decide +kernel
theorem dX6_addRow_51 : decode cX6_addRow 51 = .ok (.putfield 35, 3) := by decide +kernel
theorem dX6_addRow_54 : decode cX6_addRow 54 = .ok (.return_, 1) := by decide +kernel
theorem dX6_make_0 : decode cX6_make 0 = .ok (.iconst 0, 1) := by decide +kernel
theorem dX6_make_1 : decode cX6_make 1 = .ok (.istore_n 1, 1) := by decide +kernel
theorem dX6_make_2 : decode cX6_make 2 = .ok (.iload_n 1, 1) := by decide +kernel
theorem dX6_make_3 : decode cX6_make 3 = .ok (.sipush 200, 3) := by decide +kernel
theorem dX6_make_6 : decode cX6_make 6 = .ok (.if_icmp .ge 88, 3) := by decide +kernel
theorem dX6_make_9 : decode cX6_make 9 = .ok (.aload_n 0, 1) := by decide +kernel
theorem dX6_make_10 : decode cX6_make 10 = .ok (.invokevirtual 47, 3) := by decide +kernel
theorem dX6_make_13 : decode cX6_make 13 = .ok (.aload_n 0, 1) := by decide +kernel
theorem dX6_make_14 : decode cX6_make 14 = .ok (.getfield 18, 3) := by decide +kernel
theorem dX6_make_17 : decode cX6_make 17 = .ok (.getfield 50, 3) := by decide +kernel
theorem dX6_make_20 : decode cX6_make 20 = .ok (.iconst 2, 1) := by decide +kernel
theorem dX6_make_21 : decode cX6_make 21 = .ok (.if_icmp .ge 4, 3) := by decide +kernel
theorem dX6_make_24 : decode cX6_make 24 = .ok (.return_, 1) := by decide +kernel
theorem dX6_make_25 : decode cX6_make 25 = .ok (.aload_n 0, 1) := by decide +kernel
theorem dX6_make_26 : decode cX6_make 26 = .ok (.getfield 22, 3) := by decide +kernel
theorem dX6_make_29 : decode cX6_make 29 = .ok (.iload_n 1, 1) := by decide +kernel
theorem dX6_make_30 : decode cX6_make 30 = .ok (.aload_n 0, 1) := by decide +kernel
theorem dX6_make_31 : decode cX6_make 31 = .ok (.getfield 18, 3) := by decide +kernel
theorem dX6_make_34 : decode cX6_make 34 = .ok (.getfield 53, 3) := by decide +kernel
theorem dX6_make_37 : decode cX6_make 37 = .ok (.iastore, 1) := by decide +kernel
theorem dX6_make_38 : decode cX6_make 38 = .ok (.aload_n 0, 1) := by decide +kernel
theorem dX6_make_39 : decode cX6_make 39 = .ok (.getfield 25, 3) := by decide +kernel
theorem dX6_make_42 : decode cX6_make 42 = .ok (.iload_n 1, 1) := by decide +kernel
theorem dX6_make_43 : decode cX6_make 43 = .ok (.aload_n 0, 1) := by decide +kernel
theorem dX6_make_44 : decode cX6_make 44 = .ok (.getfield 18, 3) := by decide +kernel
theorem dX6_make_47 : decode cX6_make 47 = .ok (.getfield 56, 3) := by decide +kernel
theorem dX6_make_50 : decode cX6_make 50 = .ok (.iastore, 1) := by decide +kernel
theorem dX6_make_51 : decode cX6_make 51 = .ok (.aload_n 0, 1) := by decide +kernel
theorem dX6_make_52 : decode cX6_make 52 = .ok (.getfield 28, 3) := by decide +kernel
theorem dX6_make_55 : decode cX6_make 55 = .ok (.iload_n 1, 1) := by decide +kernel
theorem dX6_make_56 : decode cX6_make 56 = .ok (.aload_n 0, 1) := by decide +kernel
theorem dX6_make_57 : decode cX6_make 57 = .ok (.aload_n 0, 1) := by decide +kernel
theorem dX6_make_58 : decode cX6_make 58 = .ok (.getfield 22, 3) := by decide +kernel
theorem dX6_make_61 : decode cX6_make 61 = .ok (.iload_n 1, 1) := by decide +kernel
theorem dX6_make_62 : decode cX6_make 62 = .ok (.iaload, 1) := by decide +kernel
theorem dX6_make_63 : decode cX6_make 63 = .ok (.aload_n 0, 1) := by decide +kernel
theorem dX6_make_64 : decode cX6_make 64 = .ok (.getfield 25, 3) := by decide +kernel
theorem dX6_make_67 : decode cX6_make 67 = .ok (.iload_n 1, 1) := by decide +kernel
theorem dX6_make_68 : decode cX6_make 68 = .ok (.iaload, 1) := by decide +kernel
theorem dX6_make_69 : decode cX6_make 69 = .ok (.sipush 1001, 3) := by decide +kernel
theorem dX6_make_72 : decode cX6_make 72 = .ok (.iload_n 1, 1) := by decide +kernel
theorem dX6_make_73 : decode cX6_make 73 = .ok (.iadd, 1) := by decide +kernel
theorem dX6_make_74 : decode cX6_make 74 = .ok (.invokevirtual 59, 3) := by decide +kernel
theorem dX6_make_77 : decode cX6_make 77 = .ok (.iastore, 1) := by decide +kernel
theorem dX6_make_78 : decode cX6_make 78 = .ok (.aload_n 0, 1) := by decide +kernel
theorem dX6_make_79 : decode cX6_make 79 = .ok (.dup, 1) := by decide +kernel
theorem dX6_make_80 : decode cX6_make 80 = .ok (.getfield 38, 3) := by decide +kernel
theorem dX6_make_83 : decode cX6_make 83 = .ok (.iconst 1, 1) := by decide +kernel
theorem dX6_make_84 : decode cX6_make 84 = .ok (.iadd, 1) := by decide +kernel
theorem dX6_make_85 : decode cX6_make 85 = .ok (.putfield 38, 3) := by decide +kernel
theorem dX6_make_88 : decode cX6_make 88 = .ok (.iinc 1 1, 3) := by decide +kernel
theorem dX6_make_91 : decode cX6_make 91 = .ok (.goto (-89), 3) := by decide +kernel
theorem dX6_make_94 : decode cX6_make 94 = .ok (.return_, 1) := by decide +kernel
theorem dX6_countLeft_0 : decode cX6_countLeft 0 = .ok (.aload_n 0, 1) := by decide +kernel
theorem dX6_countLeft_1 : decode cX6_countLeft 1 = .ok (.getfield 31, 3) := by decide +kernel
theorem dX6_countLeft_4 : decode cX6_countLeft 4 = .ok (.aload_n 0, 1) := by decide +kernel
theorem dX6_countLeft_5 : decode cX6_countLeft 5 = .ok (.getfield 35, 3) := by decide +kernel
theorem dX6_countLeft_8 : decode cX6_countLeft 8 = .ok (.isub, 1) := by decide +kernel
theorem dX6_countLeft_9 : decode cX6_countLeft 9 = .ok (.iconst 2, 1) := by decide +kernel
theorem dX6_countLeft_10 : decode cX6_countLeft 10 = .ok (.aload_n 0, 1) := by decide +kernel
theorem dX6_countLeft_11 : decode cX6_countLeft 11 = .ok (.getfield 38, 3) := by decide +kernel
theorem dX6_countLeft_14 : decode cX6_countLeft 14 = .ok (.imul, 1) := by decide +kernel
theorem dX6_countLeft_15 : decode cX6_countLeft 15 = .ok (.iadd, 1) := by decide +kernel
theorem dX6_countLeft_16 : decode cX6_countLeft 16 = .ok (.ireturn, 1) := by decide +kernel
theorem dX6_countPairs_0 : decode cX6_countPairs 0 = .ok (.aload_n 0, 1) := by decide +kernel
theorem dX6_countPairs_1 : decode cX6_countPairs 1 = .ok (.getfield 18, 3) := by decide +kernel
theorem dX6_countPairs_4 : decode cX6_countPairs 4 = .ok (.invokevirtual 63, 3) := by decide +kernel
theorem dX6_countPairs_7 : decode cX6_countPairs 7 = .ok (.iconst 0, 1) := by decide +kernel
theorem dX6_countPairs_8 : decode cX6_countPairs 8 = .ok (.istore_n 1, 1) := by decide +kernel
theorem dX6_countPairs_9 : decode cX6_countPairs 9 = .ok (.iconst 0, 1) := by decide +kernel
theorem dX6_countPairs_10 : decode cX6_countPairs 10 = .ok (.istore_n 2, 1) := by decide +kernel
theorem dX6_countPairs_11 : decode cX6_countPairs 11 = .ok (.iload_n 2, 1) := by decide +kernel
theorem dX6_countPairs_12 : decode cX6_countPairs 12 = .ok (.iconst 1, 1) := by decide +kernel
theorem dX6_countPairs_13 : decode cX6_countPairs 13 = .ok (.iadd, 1) := by decide +kernel
theorem dX6_countPairs_14 : decode cX6_countPairs 14 = .ok (.aload_n 0, 1) := by decide +kernel
theorem dX6_countPairs_15 : decode cX6_countPairs 15 = .ok (.getfield 31, 3) := by decide +kernel
theorem dX6_countPairs_18 : decode cX6_countPairs 18 = .ok (.if_icmp .ge 81, 3) := by decide +kernel
theorem dX6_countPairs_21 : decode cX6_countPairs 21 = .ok (.aload_n 0, 1) := by decide +kernel
theorem dX6_countPairs_22 : decode cX6_countPairs 22 = .ok (.getfield 9, 3) := by decide +kernel
theorem dX6_countPairs_25 : decode cX6_countPairs 25 = .ok (.iload_n 2, 1) := by decide +kernel
theorem dX6_countPairs_26 : decode cX6_countPairs 26 = .ok (.iaload, 1) := by decide +kernel
theorem dX6_countPairs_27 : decode cX6_countPairs 27 = .ok (.istore_n 3, 1) := by decide +kernel
theorem dX6_countPairs_28 : decode cX6_countPairs 28 = .ok (.aload_n 0, 1) := by decide +kernel
theorem dX6_countPairs_29 : decode cX6_countPairs 29 = .ok (.getfield 9, 3) := by decide +kernel
theorem dX6_countPairs_32 : decode cX6_countPairs 32 = .ok (.iload_n 2, 1) := by decide +kernel
theorem dX6_countPairs_33 : decode cX6_countPairs 33 = .ok (.iconst 1, 1) := by decide +kernel
theorem dX6_countPairs_34 : decode cX6_countPairs 34 = .ok (.iadd, 1) := by decide +kernel
theorem dX6_countPairs_35 : decode cX6_countPairs 35 = .ok (.iaload, 1) := by decide +kernel
theorem dX6_countPairs_36 : decode cX6_countPairs 36 = .ok (.istore 4, 2) := by decide +kernel
theorem dX6_countPairs_38 : decode cX6_countPairs 38 = .ok (.iload_n 1, 1) := by decide +kernel
theorem dX6_countPairs_39 : decode cX6_countPairs 39 = .ok (.ifCond .ne 29, 3) := by decide +kernel
theorem dX6_countPairs_42 : decode cX6_countPairs 42 = .ok (.iload_n 2, 1) := by decide +kernel
theorem dX6_countPairs_43 : decode cX6_countPairs 43 = .ok (.ifCond .le 25, 3) := by decide +kernel
theorem dX6_countPairs_46 : decode cX6_countPairs 46 = .ok (.aload_n 0, 1) := by decide +kernel
theorem dX6_countPairs_47 : decode cX6_countPairs 47 = .ok (.getfield 9, 3) := by decide +kernel
theorem dX6_countPairs_50 : decode cX6_countPairs 50 = .ok (.iload_n 2, 1) := by decide +kernel
theorem dX6_countPairs_51 : decode cX6_countPairs 51 = .ok (.iconst 1, 1) := by decide +kernel
theorem dX6_countPairs_52 : decode cX6_countPairs 52 = .ok (.isub, 1) := by decide +kernel
theorem dX6_countPairs_53 : decode cX6_countPairs 53 = .ok (.iaload, 1) := by decide +kernel
theorem dX6_countPairs_54 : decode cX6_countPairs 54 = .ok (.iload_n 3, 1) := by decide +kernel
theorem dX6_countPairs_55 : decode cX6_countPairs 55 = .ok (.if_icmp .ne 13, 3) := by decide +kernel
theorem dX6_countPairs_58 : decode cX6_countPairs 58 = .ok (.iload_n 3, 1) := by decide +kernel
theorem dX6_countPairs_59 : decode cX6_countPairs 59 = .ok (.iload 4, 2) := by decide +kernel
theorem dX6_countPairs_61 : decode cX6_countPairs 61 = .ok (.if_icmp .ne 7, 3) := by decide +kernel
theorem dX6_countPairs_64 : decode cX6_countPairs 64 = .ok (.iconst 1, 1) := by decide +kernel
theorem dX6_countPairs_65 : decode cX6_countPairs 65 = .ok (.goto 4, 3) := by decide +kernel
theorem dX6_countPairs_68 : decode cX6_countPairs 68 = .ok (.iconst 0, 1) := by decide +kernel
theorem dX6_countPairs_69 : decode cX6_countPairs 69 = .ok (.istore_n 1, 1) := by decide +kernel
theorem dX6_countPairs_70 : decode cX6_countPairs 70 = .ok (.iload_n 1, 1) := by decide +kernel
theorem dX6_countPairs_71 : decode cX6_countPairs 71 = .ok (.ifCond .ne 22, 3) := by decide +kernel
theorem dX6_countPairs_74 : decode cX6_countPairs 74 = .ok (.iload_n 3, 1) := by decide +kernel
theorem dX6_countPairs_75 : decode cX6_countPairs 75 = .ok (.ifCond .eq 18, 3) := by decide +kernel
theorem dX6_countPairs_78 : decode cX6_countPairs 78 = .ok (.iload 4, 2) := by decide +kernel
theorem dX6_countPairs_80 : decode cX6_countPairs 80 = .ok (.ifCond .eq 13, 3) := by decide +kernel
theorem dX6_countPairs_83 : decode cX6_countPairs 83 = .ok (.aload_n 0, 1) := by decide +kernel
theorem dX6_countPairs_84 : decode cX6_countPairs 84 = .ok (.getfield 18, 3) := by decide +kernel
theorem dX6_countPairs_87 : decode cX6_countPairs 87 = .ok (.iload_n 3, 1) := by decide +kernel
theorem dX6_countPairs_88 : decode cX6_countPairs 88 = .ok (.iload 4, 2) := by decide +kernel
theorem dX6_countPairs_90 : decode cX6_countPairs 90 = .ok (.invokevirtual 66, 3) := by decide +kernel
theorem dX6_countPairs_93 : decode cX6_countPairs 93 = .ok (.iinc 2 1, 3) := by decide +kernel
theorem dX6_countPairs_96 : decode cX6_countPairs 96 = .ok (.goto (-85), 3) := by decide +kernel
theorem dX6_countPairs_99 : decode cX6_countPairs 99 = .ok (.return_, 1) := by decide +kernel
theorem dX6_putInPlace_0 : decode cX6_putInPlace 0 = .ok (.iconst 0, 1) := by decide +kernel
theorem dX6_putInPlace_1 : decode cX6_putInPlace 1 = .ok (.istore 4, 2) := by decide +kernel
theorem dX6_putInPlace_3 : decode cX6_putInPlace 3 = .ok (.iconst 0, 1) := by decide +kernel
theorem dX6_putInPlace_4 : decode cX6_putInPlace 4 = .ok (.istore 5, 2) := by decide +kernel
theorem dX6_putInPlace_6 : decode cX6_putInPlace 6 = .ok (.iconst 0, 1) := by decide +kernel
theorem dX6_putInPlace_7 : decode cX6_putInPlace 7 = .ok (.istore 6, 2) := by decide +kernel
theorem dX6_putInPlace_9 : decode cX6_putInPlace 9 = .ok (.iload 6, 2) := by decide +kernel
theorem dX6_putInPlace_11 : decode cX6_putInPlace 11 = .ok (.aload_n 0, 1) := by decide +kernel
theorem dX6_putInPlace_12 : decode cX6_putInPlace 12 = .ok (.getfield 31, 3) := by decide +kernel
theorem dX6_putInPlace_15 : decode cX6_putInPlace 15 = .ok (.if_icmp .ge 78, 3) := by decide +kernel
theorem dX6_putInPlace_18 : decode cX6_putInPlace 18 = .ok (.aload_n 0, 1) := by decide +kernel
theorem dX6_putInPlace_19 : decode cX6_putInPlace 19 = .ok (.getfield 9, 3) := by decide +kernel
theorem dX6_putInPlace_22 : decode cX6_putInPlace 22 = .ok (.iload 6, 2) := by decide +kernel
theorem dX6_putInPlace_24 : decode cX6_putInPlace 24 = .ok (.iaload, 1) := by decide +kernel
theorem dX6_putInPlace_25 : decode cX6_putInPlace 25 = .ok (.iload_n 1, 1) := by decide +kernel
theorem dX6_putInPlace_26 : decode cX6_putInPlace 26 = .ok (.if_icmp .ne 44, 3) := by decide +kernel
theorem dX6_putInPlace_29 : decode cX6_putInPlace 29 = .ok (.iload 6, 2) := by decide +kernel
theorem dX6_putInPlace_31 : decode cX6_putInPlace 31 = .ok (.iconst 1, 1) := by decide +kernel
theorem dX6_putInPlace_32 : decode cX6_putInPlace 32 = .ok (.iadd, 1) := by decide +kernel
theorem dX6_putInPlace_33 : decode cX6_putInPlace 33 = .ok (.aload_n 0, 1) := by decide +kernel
theorem dX6_putInPlace_34 : decode cX6_putInPlace 34 = .ok (.getfield 31, 3) := by decide +kernel
theorem dX6_putInPlace_37 : decode cX6_putInPlace 37 = .ok (.if_icmp .ge 33, 3) := by decide +kernel
theorem dX6_putInPlace_40 : decode cX6_putInPlace 40 = .ok (.aload_n 0, 1) := by decide +kernel
theorem dX6_putInPlace_41 : decode cX6_putInPlace 41 = .ok (.getfield 9, 3) := by decide +kernel
theorem dX6_putInPlace_44 : decode cX6_putInPlace 44 = .ok (.iload 6, 2) := by decide +kernel
theorem dX6_putInPlace_46 : decode cX6_putInPlace 46 = .ok (.iconst 1, 1) := by decide +kernel
theorem dX6_putInPlace_47 : decode cX6_putInPlace 47 = .ok (.iadd, 1) := by decide +kernel
theorem dX6_putInPlace_48 : decode cX6_putInPlace 48 = .ok (.iaload, 1) := by decide +kernel
theorem dX6_putInPlace_49 : decode cX6_putInPlace 49 = .ok (.iload_n 2, 1) := by decide +kernel
theorem dX6_putInPlace_50 : decode cX6_putInPlace 50 = .ok (.if_icmp .ne 20, 3) := by decide +kernel
theorem dX6_putInPlace_53 : decode cX6_putInPlace 53 = .ok (.aload_n 0, 1) := by decide +kernel
theorem dX6_putInPlace_54 : decode cX6_putInPlace 54 = .ok (.getfield 9, 3) := by decide +kernel
theorem dX6_putInPlace_57 : decode cX6_putInPlace 57 = .ok (.iload 4, 2) := by decide +kernel
theorem dX6_putInPlace_59 : decode cX6_putInPlace 59 = .ok (.iload_n 3, 1) := by decide +kernel
theorem dX6_putInPlace_60 : decode cX6_putInPlace 60 = .ok (.iastore, 1) := by decide +kernel
theorem dX6_putInPlace_61 : decode cX6_putInPlace 61 = .ok (.iinc 5 1, 3) := by decide +kernel
theorem dX6_putInPlace_64 : decode cX6_putInPlace 64 = .ok (.iinc 6 1, 3) := by decide +kernel
theorem dX6_putInPlace_67 : decode cX6_putInPlace 67 = .ok (.goto 17, 3) := by decide +kernel
theorem dX6_putInPlace_70 : decode cX6_putInPlace 70 = .ok (.aload_n 0, 1) := by decide +kernel
theorem dX6_putInPlace_71 : decode cX6_putInPlace 71 = .ok (.getfield 9, 3) := by decide +kernel
theorem dX6_putInPlace_74 : decode cX6_putInPlace 74 = .ok (.iload 4, 2) := by decide +kernel
theorem dX6_putInPlace_76 : decode cX6_putInPlace 76 = .ok (.aload_n 0, 1) := by decide +kernel
theorem dX6_putInPlace_77 : decode cX6_putInPlace 77 = .ok (.getfield 9, 3) := by decide +kernel
theorem dX6_putInPlace_80 : decode cX6_putInPlace 80 = .ok (.iload 6, 2) := by decide +kernel
theorem dX6_putInPlace_82 : decode cX6_putInPlace 82 = .ok (.iaload, 1) := by decide +kernel
theorem dX6_putInPlace_83 : decode cX6_putInPlace 83 = .ok (.iastore, 1) := by decide +kernel
theorem dX6_putInPlace_84 : decode cX6_putInPlace 84 = .ok (.iinc 4 1, 3) := by decide +kernel
theorem dX6_putInPlace_87 : decode cX6_putInPlace 87 = .ok (.iinc 6 1, 3) := by decide +kernel
theorem dX6_putInPlace_90 : decode cX6_putInPlace 90 = .ok (.goto (-81), 3) := by decide +kernel
theorem dX6_putInPlace_93 : decode cX6_putInPlace 93 = .ok (.aload_n 0, 1) := by decide +kernel
theorem dX6_putInPlace_94 : decode cX6_putInPlace 94 = .ok (.iload 4, 2) := by decide +kernel
theorem dX6_putInPlace_96 : decode cX6_putInPlace 96 = .ok (.putfield 31, 3) := by decide +kernel
theorem dX6_putInPlace_99 : decode cX6_putInPlace 99 = .ok (.iload 5, 2) := by decide +kernel
theorem dX6_putInPlace_101 : decode cX6_putInPlace 101 = .ok (.ireturn, 1) := by decide +kernel
theorem dX7_init_0 : decode cX7_init 0 = .ok (.aload_n 0, 1) := by decide +kernel
theorem dX7_init_1 : decode cX7_init 1 = .ok (.invokespecial 3, 3) := by decide +kernel
theorem dX7_init_4 : decode cX7_init 4 = .ok (.aload_n 0, 1) := by decide +kernel
theorem dX7_init_5 : decode cX7_init 5 = .ok (.sipush 400, 3) := by decide +kernel
theorem dX7_init_8 : decode cX7_init 8 = .ok (.newarray .byte, 2) := by decide +kernel
theorem dX7_init_10 : decode cX7_init 10 = .ok (.putfield 9, 3) := by decide +kernel
theorem dX7_init_13 : decode cX7_init 13 = .ok (.return_, 1) := by decide +kernel
theorem dX7_addNumber_0 : decode cX7_addNumber 0 = .ok (.bipush 24, 2) := by decide +kernel
theorem dX7_addNumber_2 : decode cX7_addNumber 2 = .ok (.istore_n 2, 1) := by decide +kernel
theorem dX7_addNumber_3 : decode cX7_addNumber 3 = .ok (.iload_n 2, 1) := by decide +kernel
theorem dX7_addNumber_4 : decode cX7_addNumber 4 = .ok (.ifCond .lt 32, 3) := by decide +kernel
theorem dX7_addNumber_7 : decode cX7_addNumber 7 = .ok (.aload_n 0, 1) := by decide +kernel
theorem dX7_addNumber_8 : decode cX7_addNumber 8 = .ok (.getfield 9, 3) := by decide +kernel
theorem dX7_addNumber_11 : decode cX7_addNumber 11 = .ok (.aload_n 0, 1) := by decide +kernel
theorem dX7_addNumber_12 : decode cX7_addNumber 12 = .ok (.getfield 15, 3) := by decide +kernel
theorem dX7_addNumber_15 : decode cX7_addNumber 15 = .ok (.iload_n 1, 1) := by decide +kernel
theorem dX7_addNumber_16 : decode cX7_addNumber 16 = .ok (.iload_n 2, 1) := by decide +kernel
theorem dX7_addNumber_17 : decode cX7_addNumber 17 = .ok (.iushr, 1) := by decide +kernel
theorem dX7_addNumber_18 : decode cX7_addNumber 18 = .ok (.i2b, 1) := by decide +kernel
theorem dX7_addNumber_19 : decode cX7_addNumber 19 = .ok (.bastore, 1) := by decide +kernel
theorem dX7_addNumber_20 : decode cX7_addNumber 20 = .ok (.aload_n 0, 1) := by decide +kernel
theorem dX7_addNumber_21 : decode cX7_addNumber 21 = .ok (.dup, 1) := by decide +kernel
theorem dX7_addNumber_22 : decode cX7_addNumber 22 = .ok (.getfield 15, 3) := by decide +kernel
theorem dX7_addNumber_25 : decode cX7_addNumber 25 = .ok (.iconst 1, 1) := by decide +kernel
theorem dX7_addNumber_26 : decode cX7_addNumber 26 = .ok (.iadd, 1) := by decide +kernel
theorem dX7_addNumber_27 : decode cX7_addNumber 27 = .ok (.putfield 15, 3) := by decide +kernel
theorem dX7_addNumber_30 : decode cX7_addNumber 30 = .ok (.iinc 2 (-8), 3) := by decide +kernel
theorem dX7_addNumber_33 : decode cX7_addNumber 33 = .ok (.goto (-30), 3) := by decide +kernel
theorem dX7_addNumber_36 : decode cX7_addNumber 36 = .ok (.return_, 1) := by decide +kernel
theorem dX8_init_0 : decode cX8_init 0 = .ok (.aload_n 0, 1) := by decide +kernel
theorem dX8_init_1 : decode cX8_init 1 = .ok (.invokespecial 3, 3) := by decide +kernel
theorem dX8_init_4 : decode cX8_init 4 = .ok (.aload_n 0, 1) := by decide +kernel
theorem dX8_init_5 : decode cX8_init 5 = .ok (.new 9, 3) := by decide +kernel
theorem dX8_init_8 : decode cX8_init 8 = .ok (.dup, 1) := by decide +kernel
theorem dX8_init_9 : decode cX8_init 9 = .ok (.invokespecial 11, 3) := by decide +kernel
theorem dX8_init_12 : decode cX8_init 12 = .ok (.putfield 12, 3) := by decide +kernel
theorem dX8_init_15 : decode cX8_init 15 = .ok (.aload_n 0, 1) := by decide +kernel
theorem dX8_init_16 : decode cX8_init 16 = .ok (.new 16, 3) := by decide +kernel
theorem dX8_init_19 : decode cX8_init 19 = .ok (.dup, 1) := by decide +kernel
theorem dX8_init_20 : decode cX8_init 20 = .ok (.invokespecial 18, 3) := by decide +kernel
theorem dX8_init_23 : decode cX8_init 23 = .ok (.putfield 19, 3) := by decide +kernel
theorem dX8_init_26 : decode cX8_init 26 = .ok (.aload_n 0, 1) := by decide +kernel
theorem dX8_init_27 : decode cX8_init 27 = .ok (.bipush 6, 2) := by decide +kernel
theorem dX8_init_29 : decode cX8_init 29 = .ok (.anewarray 23, 3) := by decide +kernel
theorem dX8_init_32 : decode cX8_init 32 = .ok (.putfield 25, 3) := by decide +kernel
theorem dX8_init_35 : decode cX8_init 35 = .ok (.iconst 0, 1) := by decide +kernel
theorem dX8_init_36 : decode cX8_init 36 = .ok (.istore_n 1, 1) := by decide +kernel
theorem dX8_init_37 : decode cX8_init 37 = .ok (.iload_n 1, 1) := by decide +kernel
theorem dX8_init_38 : decode cX8_init 38 = .ok (.bipush 6, 2) := by decide +kernel
theorem dX8_init_40 : decode cX8_init 40 = .ok (.if_icmp .ge 22, 3) := by decide +kernel
theorem dX8_init_43 : decode cX8_init 43 = .ok (.aload_n 0, 1) := by decide +kernel
theorem dX8_init_44 : decode cX8_init 44 = .ok (.getfield 25, 3) := by decide +kernel
theorem dX8_init_47 : decode cX8_init 47 = .ok (.iload_n 1, 1) := by decide +kernel
theorem dX8_init_48 : decode cX8_init 48 = .ok (.new 23, 3) := by decide +kernel
theorem dX8_init_51 : decode cX8_init 51 = .ok (.dup, 1) := by decide +kernel
theorem dX8_init_52 : decode cX8_init 52 = .ok (.invokespecial 29, 3) := by decide +kernel
theorem dX8_init_55 : decode cX8_init 55 = .ok (.aastore, 1) := by decide +kernel
theorem dX8_init_56 : decode cX8_init 56 = .ok (.iinc 1 1, 3) := by decide +kernel
theorem dX8_init_59 : decode cX8_init 59 = .ok (.goto (-22), 3) := by decide +kernel
theorem dX8_init_62 : decode cX8_init 62 = .ok (.aload_n 0, 1) := by decide +kernel
theorem dX8_init_63 : decode cX8_init 63 = .ok (.new 30, 3) := by decide +kernel
theorem dX8_init_66 : decode cX8_init 66 = .ok (.dup, 1) := by decide +kernel
theorem dX8_init_67 : decode cX8_init 67 = .ok (.aload_n 0, 1) := by decide +kernel
theorem dX8_init_68 : decode cX8_init 68 = .ok (.getfield 12, 3) := by decide +kernel
theorem dX8_init_71 : decode cX8_init 71 = .ok (.invokespecial 32, 3) := by decide +kernel
theorem dX8_init_74 : decode cX8_init 74 = .ok (.putfield 35, 3) := by decide +kernel
theorem dX8_init_77 : decode cX8_init 77 = .ok (.aload_n 0, 1) := by decide +kernel
theorem dX8_init_78 : decode cX8_init 78 = .ok (.new 30, 3) := by decide +kernel
theorem dX8_init_81 : decode cX8_init 81 = .ok (.dup, 1) := by decide +kernel
theorem dX8_init_82 : decode cX8_init 82 = .ok (.aload_n 0, 1) := by decide +kernel
theorem dX8_init_83 : decode cX8_init 83 = .ok (.getfield 12, 3) := by decide +kernel
theorem dX8_init_86 : decode cX8_init 86 = .ok (.invokespecial 32, 3) := by decide +kernel
theorem dX8_init_89 : decode cX8_init 89 = .ok (.putfield 39, 3) := by decide +kernel
theorem dX8_init_92 : decode cX8_init 92 = .ok (.aload_n 0, 1) := by decide +kernel
theorem dX8_init_93 : decode cX8_init 93 = .ok (.new 42, 3) := by decide +kernel
theorem dX8_init_96 : decode cX8_init 96 = .ok (.dup, 1) := by decide +kernel
theorem dX8_init_97 : decode cX8_init 97 = .ok (.aload_n 0, 1) := by decide +kernel
theorem dX8_init_98 : decode cX8_init 98 = .ok (.getfield 12, 3) := by decide +kernel
theorem dX8_init_101 : decode cX8_init 101 = .ok (.invokespecial 44, 3) := by decide +kernel
theorem dX8_init_104 : decode cX8_init 104 = .ok (.putfield 45, 3) := by decide +kernel
theorem dX8_init_107 : decode cX8_init 107 = .ok (.aload_n 0, 1) := by decide +kernel
theorem dX8_init_108 : decode cX8_init 108 = .ok (.new 49, 3) := by decide +kernel
theorem dX8_init_111 : decode cX8_init 111 = .ok (.dup, 1) := by decide +kernel
theorem dX8_init_112 : decode cX8_init 112 = .ok (.aload_n 0, 1) := by decide +kernel
theorem dX8_init_113 : decode cX8_init 113 = .ok (.getfield 12, 3) := by decide +kernel
theorem dX8_init_116 : decode cX8_init 116 = .ok (.invokespecial 51, 3) := by decide +kernel
theorem dX8_init_119 : decode cX8_init 119 = .ok (.putfield 52, 3) := by decide +kernel
theorem dX8_init_122 : decode cX8_init 122 = .ok (.aload_n 0, 1) := by decide +kernel
theorem dX8_init_123 : decode cX8_init 123 = .ok (.new 56, 3) := by decide +kernel
theorem dX8_init_126 : decode cX8_init 126 = .ok (.dup, 1) := by decide +kernel
theorem dX8_init_127 : decode cX8_init 127 = .ok (.invokespecial 58, 3) := by decide +kernel
theorem dX8_init_130 : decode cX8_init 130 = .ok (.putfield 59, 3) := by decide +kernel
theorem dX8_init_133 : decode cX8_init 133 = .ok (.aload_n 0, 1) := by decide +kernel
theorem dX8_init_134 : decode cX8_init 134 = .ok (.bipush 8, 2) := by decide +kernel
theorem dX8_init_136 : decode cX8_init 136 = .ok (.putfield 63, 3) := by decide +kernel
theorem dX8_init_139 : decode cX8_init 139 = .ok (.aload_n 0, 1) := by decide +kernel
theorem dX8_init_140 : decode cX8_init 140 = .ok (.iconst 2, 1) := by decide +kernel
theorem dX8_init_141 : decode cX8_init 141 = .ok (.putfield 67, 3) := by decide +kernel
theorem dX8_init_144 : decode cX8_init 144 = .ok (.return_, 1) := by decide +kernel
theorem dX8_feed_0 : decode cX8_feed 0 = .ok (.aload_n 0, 1) := by decide +kernel
theorem dX8_feed_1 : decode cX8_feed 1 = .ok (.getfield 19, 3) := by decide +kernel
theorem dX8_feed_4 : decode cX8_feed 4 = .ok (.getfield 70, 3) := by decide +kernel
theorem dX8_feed_7 : decode cX8_feed 7 = .ok (.bipush 20, 2) := by decide +kernel
theorem dX8_feed_9 : decode cX8_feed 9 = .ok (.iadd, 1) := by decide +kernel
theorem dX8_feed_10 : decode cX8_feed 10 = .ok (.sipush 400, 3) := by decide +kernel
theorem dX8_feed_13 : decode cX8_feed 13 = .ok (.if_icmp .le 5, 3) := by decide +kernel
theorem dX8_feed_16 : decode cX8_feed 16 = .ok (.iconst (-1), 1) := by decide +kernel
theorem dX8_feed_17 : decode cX8_feed 17 = .ok (.ireturn, 1) := by decide +kernel
theorem dX8_feed_18 : decode cX8_feed 18 = .ok (.aload_n 0, 1) := by decide +kernel
theorem dX8_feed_19 : decode cX8_feed 19 = .ok (.getfield 19, 3) := by decide +kernel
theorem dX8_feed_22 : decode cX8_feed 22 = .ok (.iload_n 1, 1) := by decide +kernel
theorem dX8_feed_23 : decode cX8_feed 23 = .ok (.invokevirtual 73, 3) := by decide +kernel
theorem dX8_feed_26 : decode cX8_feed 26 = .ok (.aload_n 0, 1) := by decide +kernel
theorem dX8_feed_27 : decode cX8_feed 27 = .ok (.getfield 19, 3) := by decide +kernel
theorem dX8_feed_30 : decode cX8_feed 30 = .ok (.iload_n 2, 1) := by decide +kernel
theorem dX8_feed_31 : decode cX8_feed 31 = .ok (.invokevirtual 73, 3) := by decide +kernel
theorem dX8_feed_34 : decode cX8_feed 34 = .ok (.aload_n 0, 1) := by decide +kernel
theorem dX8_feed_35 : decode cX8_feed 35 = .ok (.getfield 19, 3) := by decide +kernel
theorem dX8_feed_38 : decode cX8_feed 38 = .ok (.iload_n 3, 1) := by decide +kernel
theorem dX8_feed_39 : decode cX8_feed 39 = .ok (.invokevirtual 73, 3) := by decide +kernel
theorem dX8_feed_42 : decode cX8_feed 42 = .ok (.aload_n 0, 1) := by decide +kernel
theorem dX8_feed_43 : decode cX8_feed 43 = .ok (.getfield 19, 3) := by decide +kernel
theorem dX8_feed_46 : decode cX8_feed 46 = .ok (.iload 4, 2) := by decide +kernel
theorem dX8_feed_48 : decode cX8_feed 48 = .ok (.invokevirtual 73, 3) := by decide +kernel
theorem dX8_feed_51 : decode cX8_feed 51 = .ok (.aload_n 0, 1) := by decide +kernel
theorem dX8_feed_52 : decode cX8_feed 52 = .ok (.getfield 19, 3) := by decide +kernel
theorem dX8_feed_55 : decode cX8_feed 55 = .ok (.iload 5, 2) := by decide +kernel
theorem dX8_feed_57 : decode cX8_feed 57 = .ok (.invokevirtual 73, 3) := by decide +kernel
theorem dX8_feed_60 : decode cX8_feed 60 = .ok (.aload_n 0, 1) := by decide +kernel
theorem dX8_feed_61 : decode cX8_feed 61 = .ok (.getfield 19, 3) := by decide +kernel
theorem dX8_feed_64 : decode cX8_feed 64 = .ok (.getfield 70, 3) := by decide +kernel
theorem dX8_feed_67 : decode cX8_feed 67 = .ok (.ireturn, 1) := by decide +kernel
theorem dX8_end_0 : decode cX8_end 0 = .ok (.iload_n 1, 1) := by decide +kernel
theorem dX8_end_1 : decode cX8_end 1 = .ok (.ifCond .lt 14, 3) := by decide +kernel
theorem dX8_end_4 : decode cX8_end 4 = .ok (.iload_n 1, 1) := by decide +kernel
theorem dX8_end_5 : decode cX8_end 5 = .ok (.aload_n 0, 1) := by decide +kernel
theorem dX8_end_6 : decode cX8_end 6 = .ok (.getfield 19, 3) := by decide +kernel
theorem dX8_end_9 : decode cX8_end 9 = .ok (.getfield 70, 3) := by decide +kernel
theorem dX8_end_12 : decode cX8_end 12 = .ok (.if_icmp .le 5, 3) := by decide +kernel
theorem dX8_end_15 : decode cX8_end 15 = .ok (.iconst 0, 1) := by decide +kernel
theorem dX8_end_16 : decode cX8_end 16 = .ok (.ireturn, 1) := by decide +kernel
theorem dX8_end_17 : decode cX8_end 17 = .ok (.aload_n 0, 1) := by decide +kernel
theorem dX8_end_18 : decode cX8_end 18 = .ok (.getfield 19, 3) := by decide +kernel
theorem dX8_end_21 : decode cX8_end 21 = .ok (.iload_n 1, 1) := by decide +kernel
theorem dX8_end_22 : decode cX8_end 22 = .ok (.putfield 70, 3) := by decide +kernel
theorem dX8_end_25 : decode cX8_end 25 = .ok (.iconst 1, 1) := by decide +kernel
theorem dX8_end_26 : decode cX8_end 26 = .ok (.ireturn, 1) := by decide +kernel
theorem dX8_edit_0 : decode cX8_edit 0 = .ok (.iload_n 1, 1) := by decide +kernel
theorem dX8_edit_1 : decode cX8_edit 1 = .ok (.invokestatic 77, 3) := by decide +kernel
theorem dX8_edit_4 : decode cX8_edit 4 = .ok (.ifCond .eq 39, 3) := by decide +kernel
theorem dX8_edit_7 : decode cX8_edit 7 = .ok (.iload_n 2, 1) := by decide +kernel
theorem dX8_edit_8 : decode cX8_edit 8 = .ok (.iconst 0, 1) := by decide +kernel
theorem dX8_edit_9 : decode cX8_edit 9 = .ok (.aload_n 0, 1) := by decide +kernel
theorem dX8_edit_10 : decode cX8_edit 10 = .ok (.getfield 12, 3) := by decide +kernel
theorem dX8_edit_13 : decode cX8_edit 13 = .ok (.getfield 81, 3) := by decide +kernel
theorem dX8_edit_16 : decode cX8_edit 16 = .ok (.iload_n 1, 1) := by decide +kernel
theorem dX8_edit_17 : decode cX8_edit 17 = .ok (.iaload, 1) := by decide +kernel
theorem dX8_edit_18 : decode cX8_edit 18 = .ok (.invokestatic 85, 3) := by decide +kernel
theorem dX8_edit_21 : decode cX8_edit 21 = .ok (.ifCond .eq 22, 3) := by decide +kernel
theorem dX8_edit_24 : decode cX8_edit 24 = .ok (.iload_n 3, 1) := by decide +kernel
theorem dX8_edit_25 : decode cX8_edit 25 = .ok (.iconst 0, 1) := by decide +kernel
theorem dX8_edit_26 : decode cX8_edit 26 = .ok (.aload_n 0, 1) := by decide +kernel
theorem dX8_edit_27 : decode cX8_edit 27 = .ok (.getfield 12, 3) := by decide +kernel
theorem dX8_edit_30 : decode cX8_edit 30 = .ok (.getfield 81, 3) := by decide +kernel
theorem dX8_edit_33 : decode cX8_edit 33 = .ok (.iload_n 1, 1) := by decide +kernel
theorem dX8_edit_34 : decode cX8_edit 34 = .ok (.iaload, 1) := by decide +kernel
theorem dX8_edit_35 : decode cX8_edit 35 = .ok (.iload_n 2, 1) := by decide +kernel
theorem dX8_edit_36 : decode cX8_edit 36 = .ok (.isub, 1) := by decide +kernel
theorem dX8_edit_37 : decode cX8_edit 37 = .ok (.invokestatic 85, 3) := by decide +kernel
theorem dX8_edit_40 : decode cX8_edit 40 = .ok (.ifCond .ne 5, 3) := by decide +kernel
theorem dX8_edit_43 : decode cX8_edit 43 = .ok (.iconst (-1), 1) := by decide +kernel
theorem dX8_edit_44 : decode cX8_edit 44 = .ok (.ireturn, 1) := by decide +kernel
theorem dX8_edit_45 : decode cX8_edit 45 = .ok (.aload_n 0, 1) := by decide +kernel
theorem dX8_edit_46 : decode cX8_edit 46 = .ok (.getfield 12, 3) := by decide +kernel
theorem dX8_edit_49 : decode cX8_edit 49 = .ok (.getfield 81, 3) := by decide +kernel
theorem dX8_edit_52 : decode cX8_edit 52 = .ok (.iload_n 1, 1) := by decide +kernel
theorem dX8_edit_53 : decode cX8_edit 53 = .ok (.iaload, 1) := by decide +kernel
theorem dX8_edit_54 : decode cX8_edit 54 = .ok (.iload_n 3, 1) := by decide +kernel
theorem dX8_edit_55 : decode cX8_edit 55 = .ok (.isub, 1) := by decide +kernel
theorem dX8_edit_56 : decode cX8_edit 56 = .ok (.aload_n 0, 1) := by decide +kernel
theorem dX8_edit_57 : decode cX8_edit 57 = .ok (.getfield 19, 3) := by decide +kernel
theorem dX8_edit_60 : decode cX8_edit 60 = .ok (.getfield 70, 3) := by decide +kernel
theorem dX8_edit_63 : decode cX8_edit 63 = .ok (.iadd, 1) := by decide +kernel
theorem dX8_edit_64 : decode cX8_edit 64 = .ok (.sipush 600, 3) := by decide +kernel
theorem dX8_edit_67 : decode cX8_edit 67 = .ok (.if_icmp .le 6, 3) := by decide +kernel
theorem dX8_edit_70 : decode cX8_edit 70 = .ok (.bipush (-2), 2) := by decide +kernel
theorem dX8_edit_72 : decode cX8_edit 72 = .ok (.ireturn, 1) := by decide +kernel
theorem dX8_edit_73 : decode cX8_edit 73 = .ok (.aload_n 0, 1) := by decide +kernel
theorem dX8_edit_74 : decode cX8_edit 74 = .ok (.getfield 12, 3) := by decide +kernel
theorem dX8_edit_77 : decode cX8_edit 77 = .ok (.iload_n 1, 1) := by decide +kernel
theorem dX8_edit_78 : decode cX8_edit 78 = .ok (.iload_n 2, 1) := by decide +kernel
theorem dX8_edit_79 : decode cX8_edit 79 = .ok (.iload_n 3, 1) := by decide +kernel
theorem dX8_edit_80 : decode cX8_edit 80 = .ok (.aload_n 0, 1) := by decide +kernel
theorem dX8_edit_81 : decode cX8_edit 81 = .ok (.getfield 19, 3) := by decide +kernel
theorem dX8_edit_84 : decode cX8_edit 84 = .ok (.invokevirtual 89, 3) := by decide +kernel
theorem dX8_edit_87 : decode cX8_edit 87 = .ok (.aload_n 0, 1) := by decide +kernel
theorem dX8_edit_88 : decode cX8_edit 88 = .ok (.getfield 19, 3) := by decide +kernel
theorem dX8_edit_91 : decode cX8_edit 91 = .ok (.iconst 0, 1) := by decide +kernel
theorem dX8_edit_92 : decode cX8_edit 92 = .ok (.putfield 70, 3) := by decide +kernel
theorem dX8_edit_95 : decode cX8_edit 95 = .ok (.aload_n 0, 1) := by decide +kernel
theorem dX8_edit_96 : decode cX8_edit 96 = .ok (.getfield 12, 3) := by decide +kernel
theorem dX8_edit_99 : decode cX8_edit 99 = .ok (.getfield 81, 3) := by decide +kernel
theorem dX8_edit_102 : decode cX8_edit 102 = .ok (.iload_n 1, 1) := by decide +kernel
theorem dX8_edit_103 : decode cX8_edit 103 = .ok (.iaload, 1) := by decide +kernel
theorem dX8_edit_104 : decode cX8_edit 104 = .ok (.ireturn, 1) := by decide +kernel
theorem dX8_sow_0 : decode cX8_sow 0 = .ok (.iload_n 1, 1) := by decide +kernel
theorem dX8_sow_1 : decode cX8_sow 1 = .ok (.invokestatic 77, 3) := by decide +kernel
theorem dX8_sow_4 : decode cX8_sow 4 = .ok (.ifCond .eq 43, 3) := by decide +kernel
theorem dX8_sow_7 : decode cX8_sow 7 = .ok (.iload_n 2, 1) := by decide +kernel
theorem dX8_sow_8 : decode cX8_sow 8 = .ok (.iconst 1, 1) := by decide +kernel
theorem dX8_sow_9 : decode cX8_sow 9 = .ok (.sipush 200, 3) := by decide +kernel
theorem dX8_sow_12 : decode cX8_sow 12 = .ok (.invokestatic 85, 3) := by decide +kernel
theorem dX8_sow_15 : decode cX8_sow 15 = .ok (.ifCond .eq 32, 3) := by decide +kernel
theorem dX8_sow_18 : decode cX8_sow 18 = .ok (.iload 4, 2) := by decide +kernel
theorem dX8_sow_20 : decode cX8_sow 20 = .ok (.iconst 1, 1) := by decide +kernel
theorem dX8_sow_21 : decode cX8_sow 21 = .ok (.sipush 256, 3) := by decide +kernel
theorem dX8_sow_24 : decode cX8_sow 24 = .ok (.invokestatic 85, 3) := by decide +kernel
theorem dX8_sow_27 : decode cX8_sow 27 = .ok (.ifCond .eq 20, 3) := by decide +kernel
theorem dX8_sow_30 : decode cX8_sow 30 = .ok (.aload_n 0, 1) := by decide +kernel
theorem dX8_sow_31 : decode cX8_sow 31 = .ok (.getfield 12, 3) := by decide +kernel
theorem dX8_sow_34 : decode cX8_sow 34 = .ok (.getfield 81, 3) := by decide +kernel
theorem dX8_sow_37 : decode cX8_sow 37 = .ok (.iload_n 1, 1) := by decide +kernel
theorem dX8_sow_38 : decode cX8_sow 38 = .ok (.iaload, 1) := by decide +kernel
theorem dX8_sow_39 : decode cX8_sow 39 = .ok (.iload_n 2, 1) := by decide +kernel
theorem dX8_sow_40 : decode cX8_sow 40 = .ok (.iadd, 1) := by decide +kernel
theorem dX8_sow_41 : decode cX8_sow 41 = .ok (.sipush 600, 3) := by decide +kernel
theorem dX8_sow_44 : decode cX8_sow 44 = .ok (.if_icmp .le 5, 3) := by decide +kernel
theorem dX8_sow_47 : decode cX8_sow 47 = .ok (.iconst (-1), 1) := by decide +kernel
theorem dX8_sow_48 : decode cX8_sow 48 = .ok (.ireturn, 1) := by decide +kernel
theorem dX8_sow_49 : decode cX8_sow 49 = .ok (.iload_n 3, 1) := by decide +kernel
theorem dX8_sow_50 : decode cX8_sow 50 = .ok (.istore 5, 2) := by decide +kernel
theorem dX8_sow_52 : decode cX8_sow 52 = .ok (.iconst 0, 1) := by decide +kernel
theorem dX8_sow_53 : decode cX8_sow 53 = .ok (.istore 6, 2) := by decide +kernel
theorem dX8_sow_55 : decode cX8_sow 55 = .ok (.iload 6, 2) := by decide +kernel
theorem dX8_sow_57 : decode cX8_sow 57 = .ok (.iload_n 2, 1) := by decide +kernel
theorem dX8_sow_58 : decode cX8_sow 58 = .ok (.if_icmp .ge 36, 3) := by decide +kernel
theorem dX8_sow_61 : decode cX8_sow 61 = .ok (.ldc 93, 2) := by decide +kernel
theorem dX8_sow_63 : decode cX8_sow 63 = .ok (.iload 5, 2) := by decide +kernel
theorem dX8_sow_65 : decode cX8_sow 65 = .ok (.imul, 1) := by decide +kernel
theorem dX8_sow_66 : decode cX8_sow 66 = .ok (.sipush 12345, 3) := by decide +kernel
theorem dX8_sow_69 : decode cX8_sow 69 = .ok (.iadd, 1) := by decide +kernel
theorem dX8_sow_70 : decode cX8_sow 70 = .ok (.istore 5, 2) := by decide +kernel
theorem dX8_sow_72 : decode cX8_sow 72 = .ok (.aload_n 0, 1) := by decide +kernel
theorem dX8_sow_73 : decode cX8_sow 73 = .ok (.getfield 12, 3) := by decide +kernel
theorem dX8_sow_76 : decode cX8_sow 76 = .ok (.iload_n 1, 1) := by decide +kernel
theorem dX8_sow_77 : decode cX8_sow 77 = .ok (.iload 5, 2) := by decide +kernel
theorem dX8_sow_79 : decode cX8_sow 79 = .ok (.bipush 8, 2) := by decide +kernel
theorem dX8_sow_81 : decode cX8_sow 81 = .ok (.iushr, 1) := by decide +kernel
theorem dX8_sow_82 : decode cX8_sow 82 = .ok (.iload 4, 2) := by decide +kernel
theorem dX8_sow_84 : decode cX8_sow 84 = .ok (.irem, 1) := by decide +kernel
theorem dX8_sow_85 : decode cX8_sow 85 = .ok (.invokevirtual 94, 3) := by decide +kernel
theorem dX8_sow_88 : decode cX8_sow 88 = .ok (.iinc 6 1, 3) := by decide +kernel
theorem dX8_sow_91 : decode cX8_sow 91 = .ok (.goto (-36), 3) := by decide +kernel
theorem dX8_sow_94 : decode cX8_sow 94 = .ok (.aload_n 0, 1) := by decide +kernel
theorem dX8_sow_95 : decode cX8_sow 95 = .ok (.getfield 12, 3) := by decide +kernel
theorem dX8_sow_98 : decode cX8_sow 98 = .ok (.getfield 81, 3) := by decide +kernel
theorem dX8_sow_101 : decode cX8_sow 101 = .ok (.iload_n 1, 1) := by decide +kernel
theorem dX8_sow_102 : decode cX8_sow 102 = .ok (.iaload, 1) := by decide +kernel
theorem dX8_sow_103 : decode cX8_sow 103 = .ok (.ireturn, 1) := by decide +kernel
theorem dX8_copy_0 : decode cX8_copy 0 = .ok (.iload_n 1, 1) := by decide +kernel
theorem dX8_copy_1 : decode cX8_copy 1 = .ok (.invokestatic 77, 3) := by decide +kernel
theorem dX8_copy_4 : decode cX8_copy 4 = .ok (.ifCond .eq 10, 3) := by decide +kernel
theorem dX8_copy_7 : decode cX8_copy 7 = .ok (.iload_n 2, 1) := by decide +kernel
theorem dX8_copy_8 : decode cX8_copy 8 = .ok (.invokestatic 77, 3) := by decide +kernel
theorem dX8_copy_11 : decode cX8_copy 11 = .ok (.ifCond .ne 5, 3) := by decide +kernel
theorem dX8_copy_14 : decode cX8_copy 14 = .ok (.iconst (-1), 1) := by decide +kernel
theorem dX8_copy_15 : decode cX8_copy 15 = .ok (.ireturn, 1) := by decide +kernel
theorem dX8_copy_16 : decode cX8_copy 16 = .ok (.aload_n 0, 1) := by decide +kernel
theorem dX8_copy_17 : decode cX8_copy 17 = .ok (.getfield 12, 3) := by decide +kernel
theorem dX8_copy_20 : decode cX8_copy 20 = .ok (.iload_n 1, 1) := by decide +kernel
theorem dX8_copy_21 : decode cX8_copy 21 = .ok (.iload_n 2, 1) := by decide +kernel
theorem dX8_copy_22 : decode cX8_copy 22 = .ok (.invokevirtual 98, 3) := by decide +kernel
theorem dX8_copy_25 : decode cX8_copy 25 = .ok (.aload_n 0, 1) := by decide +kernel
theorem dX8_copy_26 : decode cX8_copy 26 = .ok (.getfield 12, 3) := by decide +kernel
theorem dX8_copy_29 : decode cX8_copy 29 = .ok (.getfield 81, 3) := by decide +kernel
theorem dX8_copy_32 : decode cX8_copy 32 = .ok (.iload_n 2, 1) := by decide +kernel
theorem dX8_copy_33 : decode cX8_copy 33 = .ok (.iaload, 1) := by decide +kernel
theorem dX8_copy_34 : decode cX8_copy 34 = .ok (.ireturn, 1) := by decide +kernel
theorem dX8_at_0 : decode cX8_at 0 = .ok (.aload_n 0, 1) := by decide +kernel
theorem dX8_at_1 : decode cX8_at 1 = .ok (.iload_n 1, 1) := by decide +kernel
theorem dX8_at_2 : decode cX8_at 2 = .ok (.iload_n 2, 1) := by decide +kernel
theorem dX8_at_3 : decode cX8_at 3 = .ok (.invokevirtual 101, 3) := by decide +kernel
theorem dX8_at_6 : decode cX8_at 6 = .ok (.ifCond .eq 15, 3) := by decide +kernel
theorem dX8_at_9 : decode cX8_at 9 = .ok (.aload_n 0, 1) := by decide +kernel
theorem dX8_at_10 : decode cX8_at 10 = .ok (.getfield 12, 3) := by decide +kernel
theorem dX8_at_13 : decode cX8_at 13 = .ok (.iload_n 1, 1) := by decide +kernel
theorem dX8_at_14 : decode cX8_at 14 = .ok (.iload_n 2, 1) := by decide +kernel
theorem dX8_at_15 : decode cX8_at 15 = .ok (.invokevirtual 105, 3) := by decide +kernel
theorem dX8_at_18 : decode cX8_at 18 = .ok (.goto 4, 3) := by decide +kernel
theorem dX8_at_21 : decode cX8_at 21 = .ok (.iconst (-1), 1) := by decide +kernel
theorem dX8_at_22 : decode cX8_at 22 = .ok (.ireturn, 1) := by decide +kernel
theorem dX8_fixed_0 : decode cX8_fixed 0 = .ok (.iload_n 1, 1) := by decide +kernel
theorem dX8_fixed_1 : decode cX8_fixed 1 = .ok (.invokestatic 109, 3) := by decide +kernel
theorem dX8_fixed_4 : decode cX8_fixed 4 = .ok (.ifCond .eq 14, 3) := by decide +kernel
theorem dX8_fixed_7 : decode cX8_fixed 7 = .ok (.iload_n 2, 1) := by decide +kernel
theorem dX8_fixed_8 : decode cX8_fixed 8 = .ok (.iconst 1, 1) := by decide +kernel
theorem dX8_fixed_9 : decode cX8_fixed 9 = .ok (.sipush 200, 3) := by decide +kernel
theorem dX8_fixed_12 : decode cX8_fixed 12 = .ok (.invokestatic 85, 3) := by decide +kernel
theorem dX8_fixed_15 : decode cX8_fixed 15 = .ok (.ifCond .ne 5, 3) := by decide +kernel
theorem dX8_fixed_18 : decode cX8_fixed 18 = .ok (.iconst 0, 1) := by decide +kernel
theorem dX8_fixed_19 : decode cX8_fixed 19 = .ok (.ireturn, 1) := by decide +kernel
theorem dX8_fixed_20 : decode cX8_fixed 20 = .ok (.aload_n 0, 1) := by decide +kernel
theorem dX8_fixed_21 : decode cX8_fixed 21 = .ok (.getfield 25, 3) := by decide +kernel
theorem dX8_fixed_24 : decode cX8_fixed 24 = .ok (.iload_n 1, 1) := by decide +kernel
theorem dX8_fixed_25 : decode cX8_fixed 25 = .ok (.aaload, 1) := by decide +kernel
theorem dX8_fixed_26 : decode cX8_fixed 26 = .ok (.iconst 0, 1) := by decide +kernel
theorem dX8_fixed_27 : decode cX8_fixed 27 = .ok (.iload_n 2, 1) := by decide +kernel
theorem dX8_fixed_28 : decode cX8_fixed 28 = .ok (.iload_n 2, 1) := by decide +kernel
theorem dX8_fixed_29 : decode cX8_fixed 29 = .ok (.iconst 0, 1) := by decide +kernel
theorem dX8_fixed_30 : decode cX8_fixed 30 = .ok (.invokevirtual 112, 3) := by decide +kernel
theorem dX8_fixed_33 : decode cX8_fixed 33 = .ok (.iconst 1, 1) := by decide +kernel
theorem dX8_fixed_34 : decode cX8_fixed 34 = .ok (.ireturn, 1) := by decide +kernel
theorem dX8_rolling_0 : decode cX8_rolling 0 = .ok (.iload_n 1, 1) := by decide +kernel
theorem dX8_rolling_1 : decode cX8_rolling 1 = .ok (.invokestatic 109, 3) := by decide +kernel
theorem dX8_rolling_4 : decode cX8_rolling 4 = .ok (.ifCond .eq 36, 3) := by decide +kernel
theorem dX8_rolling_7 : decode cX8_rolling 7 = .ok (.iload_n 3, 1) := by decide +kernel
theorem dX8_rolling_8 : decode cX8_rolling 8 = .ok (.iload 4, 2) := by decide +kernel
theorem dX8_rolling_10 : decode cX8_rolling 10 = .ok (.iload 7, 2) := by decide +kernel
theorem dX8_rolling_12 : decode cX8_rolling 12 = .ok (.invokestatic 116, 3) := by decide +kernel
theorem dX8_rolling_15 : decode cX8_rolling 15 = .ok (.ifCond .eq 25, 3) := by decide +kernel
theorem dX8_rolling_18 : decode cX8_rolling 18 = .ok (.iload 5, 2) := by decide +kernel
theorem dX8_rolling_20 : decode cX8_rolling 20 = .ok (.iconst 1, 1) := by decide +kernel
theorem dX8_rolling_21 : decode cX8_rolling 21 = .ok (.bipush 16, 2) := by decide +kernel
theorem dX8_rolling_23 : decode cX8_rolling 23 = .ok (.invokestatic 85, 3) := by decide +kernel
theorem dX8_rolling_26 : decode cX8_rolling 26 = .ok (.ifCond .eq 14, 3) := by decide +kernel
theorem dX8_rolling_29 : decode cX8_rolling 29 = .ok (.iload 6, 2) := by decide +kernel
theorem dX8_rolling_31 : decode cX8_rolling 31 = .ok (.iconst 0, 1) := by decide +kernel
theorem dX8_rolling_32 : decode cX8_rolling 32 = .ok (.bipush 8, 2) := by decide +kernel
theorem dX8_rolling_34 : decode cX8_rolling 34 = .ok (.invokestatic 85, 3) := by decide +kernel
theorem dX8_rolling_37 : decode cX8_rolling 37 = .ok (.ifCond .ne 5, 3) := by decide +kernel
theorem dX8_rolling_40 : decode cX8_rolling 40 = .ok (.iconst 0, 1) := by decide +kernel
theorem dX8_rolling_41 : decode cX8_rolling 41 = .ok (.ireturn, 1) := by decide +kernel
theorem dX8_rolling_42 : decode cX8_rolling 42 = .ok (.aload_n 0, 1) := by decide +kernel
theorem dX8_rolling_43 : decode cX8_rolling 43 = .ok (.getfield 25, 3) := by decide +kernel
theorem dX8_rolling_46 : decode cX8_rolling 46 = .ok (.iload_n 1, 1) := by decide +kernel
theorem dX8_rolling_47 : decode cX8_rolling 47 = .ok (.aaload, 1) := by decide +kernel
theorem dX8_rolling_48 : decode cX8_rolling 48 = .ok (.iload_n 2, 1) := by decide +kernel
theorem dX8_rolling_49 : decode cX8_rolling 49 = .ok (.ifCond .eq 7, 3) := by decide +kernel
theorem dX8_rolling_52 : decode cX8_rolling 52 = .ok (.iconst 2, 1) := by decide +kernel
theorem dX8_rolling_53 : decode cX8_rolling 53 = .ok (.goto 4, 3) := by decide +kernel
theorem dX8_rolling_56 : decode cX8_rolling 56 = .ok (.iconst 1, 1) := by decide +kernel
theorem dX8_rolling_57 : decode cX8_rolling 57 = .ok (.iload_n 3, 1) := by decide +kernel
theorem dX8_rolling_58 : decode cX8_rolling 58 = .ok (.iload 4, 2) := by decide +kernel
theorem dX8_rolling_60 : decode cX8_rolling 60 = .ok (.iload 7, 2) := by decide +kernel
theorem dX8_rolling_62 : decode cX8_rolling 62 = .ok (.invokevirtual 112, 3) := by decide +kernel
theorem dX8_rolling_65 : decode cX8_rolling 65 = .ok (.aload_n 0, 1) := by decide +kernel
theorem dX8_rolling_66 : decode cX8_rolling 66 = .ok (.getfield 25, 3) := by decide +kernel
theorem dX8_rolling_69 : decode cX8_rolling 69 = .ok (.iload_n 1, 1) := by decide +kernel
theorem dX8_rolling_70 : decode cX8_rolling 70 = .ok (.aaload, 1) := by decide +kernel
theorem dX8_rolling_71 : decode cX8_rolling 71 = .ok (.iload 5, 2) := by decide +kernel
theorem dX8_rolling_73 : decode cX8_rolling 73 = .ok (.iload 6, 2) := by decide +kernel
theorem dX8_rolling_75 : decode cX8_rolling 75 = .ok (.invokevirtual 119, 3) := by decide +kernel
theorem dX8_rolling_78 : decode cX8_rolling 78 = .ok (.iconst 1, 1) := by decide +kernel
theorem dX8_rolling_79 : decode cX8_rolling 79 = .ok (.ireturn, 1) := by decide +kernel
theorem dX8_told_0 : decode cX8_told 0 = .ok (.iload_n 1, 1) := by decide +kernel
theorem dX8_told_1 : decode cX8_told 1 = .ok (.invokestatic 109, 3) := by decide +kernel
theorem dX8_told_4 : decode cX8_told 4 = .ok (.ifCond .eq 13, 3) := by decide +kernel
theorem dX8_told_7 : decode cX8_told 7 = .ok (.iload_n 2, 1) := by decide +kernel
theorem dX8_told_8 : decode cX8_told 8 = .ok (.iload_n 3, 1) := by decide +kernel
theorem dX8_told_9 : decode cX8_told 9 = .ok (.iload 4, 2) := by decide +kernel
theorem dX8_told_11 : decode cX8_told 11 = .ok (.invokestatic 116, 3) := by decide +kernel
theorem dX8_told_14 : decode cX8_told 14 = .ok (.ifCond .ne 5, 3) := by decide +kernel
theorem dX8_told_17 : decode cX8_told 17 = .ok (.iconst 0, 1) := by decide +kernel
theorem dX8_told_18 : decode cX8_told 18 = .ok (.ireturn, 1) := by decide +kernel
theorem dX8_told_19 : decode cX8_told 19 = .ok (.aload_n 0, 1) := by decide +kernel
theorem dX8_told_20 : decode cX8_told 20 = .ok (.getfield 25, 3) := by decide +kernel
theorem dX8_told_23 : decode cX8_told 23 = .ok (.iload_n 1, 1) := by decide +kernel
theorem dX8_told_24 : decode cX8_told 24 = .ok (.aaload, 1) := by decide +kernel
theorem dX8_told_25 : decode cX8_told 25 = .ok (.iconst 3, 1) := by decide +kernel
theorem dX8_told_26 : decode cX8_told 26 = .ok (.iload_n 2, 1) := by decide +kernel
theorem dX8_told_27 : decode cX8_told 27 = .ok (.iload_n 3, 1) := by decide +kernel
theorem dX8_told_28 : decode cX8_told 28 = .ok (.iload 4, 2) := by decide +kernel
theorem dX8_told_30 : decode cX8_told 30 = .ok (.invokevirtual 112, 3) := by decide +kernel
theorem dX8_told_33 : decode cX8_told 33 = .ok (.iconst 1, 1) := by decide +kernel
theorem dX8_told_34 : decode cX8_told 34 = .ok (.ireturn, 1) := by decide +kernel
theorem dX8_sum_0 : decode cX8_sum 0 = .ok (.aload_n 0, 1) := by decide +kernel
theorem dX8_sum_1 : decode cX8_sum 1 = .ok (.iload_n 1, 1) := by decide +kernel
theorem dX8_sum_2 : decode cX8_sum 2 = .ok (.invokevirtual 122, 3) := by decide +kernel
theorem dX8_sum_5 : decode cX8_sum 5 = .ok (.ifCond .eq 24, 3) := by decide +kernel
theorem dX8_sum_8 : decode cX8_sum 8 = .ok (.aload_n 0, 1) := by decide +kernel
theorem dX8_sum_9 : decode cX8_sum 9 = .ok (.getfield 25, 3) := by decide +kernel
theorem dX8_sum_12 : decode cX8_sum 12 = .ok (.iload_n 1, 1) := by decide +kernel
theorem dX8_sum_13 : decode cX8_sum 13 = .ok (.aaload, 1) := by decide +kernel
theorem dX8_sum_14 : decode cX8_sum 14 = .ok (.invokevirtual 125, 3) := by decide +kernel
theorem dX8_sum_17 : decode cX8_sum 17 = .ok (.ifCond .eq 12, 3) := by decide +kernel
theorem dX8_sum_20 : decode cX8_sum 20 = .ok (.aload_n 0, 1) := by decide +kernel
theorem dX8_sum_21 : decode cX8_sum 21 = .ok (.iload_n 2, 1) := by decide +kernel
theorem dX8_sum_22 : decode cX8_sum 22 = .ok (.iload_n 3, 1) := by decide +kernel
theorem dX8_sum_23 : decode cX8_sum 23 = .ok (.invokevirtual 101, 3) := by decide +kernel
theorem dX8_sum_26 : decode cX8_sum 26 = .ok (.ifCond .ne 5, 3) := by decide +kernel
theorem dX8_sum_29 : decode cX8_sum 29 = .ok (.iconst (-1), 1) := by decide +kernel
theorem dX8_sum_30 : decode cX8_sum 30 = .ok (.ireturn, 1) := by decide +kernel
theorem dX8_sum_31 : decode cX8_sum 31 = .ok (.aload_n 0, 1) := by decide +kernel
theorem dX8_sum_32 : decode cX8_sum 32 = .ok (.getfield 35, 3) := by decide +kernel
theorem dX8_sum_35 : decode cX8_sum 35 = .ok (.aload_n 0, 1) := by decide +kernel
theorem dX8_sum_36 : decode cX8_sum 36 = .ok (.getfield 25, 3) := by decide +kernel
theorem dX8_sum_39 : decode cX8_sum 39 = .ok (.iload_n 1, 1) := by decide +kernel
theorem dX8_sum_40 : decode cX8_sum 40 = .ok (.aaload, 1) := by decide +kernel
theorem dX8_sum_41 : decode cX8_sum 41 = .ok (.iload_n 2, 1) := by decide +kernel
theorem dX8_sum_42 : decode cX8_sum 42 = .ok (.invokevirtual 129, 3) := by decide +kernel
theorem dX8_sum_45 : decode cX8_sum 45 = .ok (.aload_n 0, 1) := by decide +kernel
theorem dX8_sum_46 : decode cX8_sum 46 = .ok (.getfield 35, 3) := by decide +kernel
theorem dX8_sum_49 : decode cX8_sum 49 = .ok (.getfield 133, 3) := by decide +kernel
theorem dX8_sum_52 : decode cX8_sum 52 = .ok (.iload_n 3, 1) := by decide +kernel
theorem dX8_sum_53 : decode cX8_sum 53 = .ok (.iaload, 1) := by decide +kernel
theorem dX8_sum_54 : decode cX8_sum 54 = .ok (.ireturn, 1) := by decide +kernel
theorem dX8_cuts_0 : decode cX8_cuts 0 = .ok (.aload_n 0, 1) := by decide +kernel
theorem dX8_cuts_1 : decode cX8_cuts 1 = .ok (.iload_n 1, 1) := by decide +kernel
theorem dX8_cuts_2 : decode cX8_cuts 2 = .ok (.invokevirtual 122, 3) := by decide +kernel
theorem dX8_cuts_5 : decode cX8_cuts 5 = .ok (.ifCond .eq 10, 3) := by decide +kernel
theorem dX8_cuts_8 : decode cX8_cuts 8 = .ok (.iload_n 2, 1) := by decide +kernel
theorem dX8_cuts_9 : decode cX8_cuts 9 = .ok (.invokestatic 77, 3) := by decide +kernel
theorem dX8_cuts_12 : decode cX8_cuts 12 = .ok (.ifCond .ne 5, 3) := by decide +kernel
theorem dX8_cuts_15 : decode cX8_cuts 15 = .ok (.iconst (-1), 1) := by decide +kernel
theorem dX8_cuts_16 : decode cX8_cuts 16 = .ok (.ireturn, 1) := by decide +kernel
theorem dX8_cuts_17 : decode cX8_cuts 17 = .ok (.aload_n 0, 1) := by decide +kernel
theorem dX8_cuts_18 : decode cX8_cuts 18 = .ok (.getfield 35, 3) := by decide +kernel
theorem dX8_cuts_21 : decode cX8_cuts 21 = .ok (.aload_n 0, 1) := by decide +kernel
theorem dX8_cuts_22 : decode cX8_cuts 22 = .ok (.getfield 25, 3) := by decide +kernel
theorem dX8_cuts_25 : decode cX8_cuts 25 = .ok (.iload_n 1, 1) := by decide +kernel
theorem dX8_cuts_26 : decode cX8_cuts 26 = .ok (.aaload, 1) := by decide +kernel
theorem dX8_cuts_27 : decode cX8_cuts 27 = .ok (.iload_n 2, 1) := by decide +kernel
theorem dX8_cuts_28 : decode cX8_cuts 28 = .ok (.invokevirtual 136, 3) := by decide +kernel
theorem dX8_cuts_31 : decode cX8_cuts 31 = .ok (.aload_n 0, 1) := by decide +kernel
theorem dX8_cuts_32 : decode cX8_cuts 32 = .ok (.getfield 35, 3) := by decide +kernel
theorem dX8_cuts_35 : decode cX8_cuts 35 = .ok (.getfield 139, 3) := by decide +kernel
theorem dX8_cuts_38 : decode cX8_cuts 38 = .ok (.ireturn, 1) := by decide +kernel
theorem dX8_cut_0 : decode cX8_cut 0 = .ok (.aload_n 0, 1) := by decide +kernel
theorem dX8_cut_1 : decode cX8_cut 1 = .ok (.iload_n 1, 1) := by decide +kernel
theorem dX8_cut_2 : decode cX8_cut 2 = .ok (.invokevirtual 122, 3) := by decide +kernel
theorem dX8_cut_5 : decode cX8_cut 5 = .ok (.ifCond .eq 10, 3) := by decide +kernel
theorem dX8_cut_8 : decode cX8_cut 8 = .ok (.iload_n 2, 1) := by decide +kernel
theorem dX8_cut_9 : decode cX8_cut 9 = .ok (.invokestatic 77, 3) := by decide +kernel
theorem dX8_cut_12 : decode cX8_cut 12 = .ok (.ifCond .ne 5, 3) := by decide +kernel
theorem dX8_cut_15 : decode cX8_cut 15 = .ok (.iconst (-1), 1) := by decide +kernel
theorem dX8_cut_16 : decode cX8_cut 16 = .ok (.ireturn, 1) := by decide +kernel
theorem dX8_cut_17 : decode cX8_cut 17 = .ok (.aload_n 0, 1) := by decide +kernel
theorem dX8_cut_18 : decode cX8_cut 18 = .ok (.getfield 35, 3) := by decide +kernel
theorem dX8_cut_21 : decode cX8_cut 21 = .ok (.aload_n 0, 1) := by decide +kernel
theorem dX8_cut_22 : decode cX8_cut 22 = .ok (.getfield 25, 3) := by decide +kernel
theorem dX8_cut_25 : decode cX8_cut 25 = .ok (.iload_n 1, 1) := by decide +kernel
theorem dX8_cut_26 : decode cX8_cut 26 = .ok (.aaload, 1) := by decide +kernel
theorem dX8_cut_27 : decode cX8_cut 27 = .ok (.iload_n 2, 1) := by decide +kernel
theorem dX8_cut_28 : decode cX8_cut 28 = .ok (.invokevirtual 136, 3) := by decide +kernel
theorem dX8_cut_31 : decode cX8_cut 31 = .ok (.iload_n 3, 1) := by decide +kernel
theorem dX8_cut_32 : decode cX8_cut 32 = .ok (.iconst 0, 1) := by decide +kernel
theorem dX8_cut_33 : decode cX8_cut 33 = .ok (.aload_n 0, 1) := by decide +kernel
theorem dX8_cut_34 : decode cX8_cut 34 = .ok (.getfield 35, 3) := by decide +kernel
theorem dX8_cut_37 : decode cX8_cut 37 = .ok (.getfield 139, 3) := by decide +kernel
theorem dX8_cut_40 : decode cX8_cut 40 = .ok (.invokestatic 85, 3) := by decide +kernel
theorem dX8_cut_43 : decode cX8_cut 43 = .ok (.ifCond .eq 15, 3) := by decide +kernel
theorem dX8_cut_46 : decode cX8_cut 46 = .ok (.aload_n 0, 1) := by decide +kernel
theorem dX8_cut_47 : decode cX8_cut 47 = .ok (.getfield 35, 3) := by decide +kernel
theorem dX8_cut_50 : decode cX8_cut 50 = .ok (.getfield 142, 3) := by decide +kernel
theorem dX8_cut_53 : decode cX8_cut 53 = .ok (.iload_n 3, 1) := by decide +kernel
theorem dX8_cut_54 : decode cX8_cut 54 = .ok (.iaload, 1) := by decide +kernel
theorem dX8_cut_55 : decode cX8_cut 55 = .ok (.goto 4, 3) := by decide +kernel
theorem dX8_cut_58 : decode cX8_cut 58 = .ok (.iconst (-1), 1) := by decide +kernel
theorem dX8_cut_59 : decode cX8_cut 59 = .ok (.ireturn, 1) := by decide +kernel
theorem dX8_agree_0 : decode cX8_agree 0 = .ok (.aload_n 0, 1) := by decide +kernel
theorem dX8_agree_1 : decode cX8_agree 1 = .ok (.iload_n 1, 1) := by decide +kernel
theorem dX8_agree_2 : decode cX8_agree 2 = .ok (.invokevirtual 122, 3) := by decide +kernel
theorem dX8_agree_5 : decode cX8_agree 5 = .ok (.ifCond .eq 17, 3) := by decide +kernel
theorem dX8_agree_8 : decode cX8_agree 8 = .ok (.iload_n 2, 1) := by decide +kernel
theorem dX8_agree_9 : decode cX8_agree 9 = .ok (.invokestatic 77, 3) := by decide +kernel
theorem dX8_agree_12 : decode cX8_agree 12 = .ok (.ifCond .eq 10, 3) := by decide +kernel
theorem dX8_agree_15 : decode cX8_agree 15 = .ok (.iload_n 3, 1) := by decide +kernel
theorem dX8_agree_16 : decode cX8_agree 16 = .ok (.invokestatic 77, 3) := by decide +kernel
theorem dX8_agree_19 : decode cX8_agree 19 = .ok (.ifCond .ne 5, 3) := by decide +kernel
theorem dX8_agree_22 : decode cX8_agree 22 = .ok (.iconst (-1), 1) := by decide +kernel
theorem dX8_agree_23 : decode cX8_agree 23 = .ok (.ireturn, 1) := by decide +kernel
theorem dX8_agree_24 : decode cX8_agree 24 = .ok (.aload_n 0, 1) := by decide +kernel
theorem dX8_agree_25 : decode cX8_agree 25 = .ok (.getfield 35, 3) := by decide +kernel
theorem dX8_agree_28 : decode cX8_agree 28 = .ok (.aload_n 0, 1) := by decide +kernel
theorem dX8_agree_29 : decode cX8_agree 29 = .ok (.getfield 25, 3) := by decide +kernel
theorem dX8_agree_32 : decode cX8_agree 32 = .ok (.iload_n 1, 1) := by decide +kernel
theorem dX8_agree_33 : decode cX8_agree 33 = .ok (.aaload, 1) := by decide +kernel
theorem dX8_agree_34 : decode cX8_agree 34 = .ok (.iload_n 2, 1) := by decide +kernel
theorem dX8_agree_35 : decode cX8_agree 35 = .ok (.invokevirtual 136, 3) := by decide +kernel
theorem dX8_agree_38 : decode cX8_agree 38 = .ok (.aload_n 0, 1) := by decide +kernel
theorem dX8_agree_39 : decode cX8_agree 39 = .ok (.getfield 39, 3) := by decide +kernel
theorem dX8_agree_42 : decode cX8_agree 42 = .ok (.aload_n 0, 1) := by decide +kernel
theorem dX8_agree_43 : decode cX8_agree 43 = .ok (.getfield 25, 3) := by decide +kernel
theorem dX8_agree_46 : decode cX8_agree 46 = .ok (.iload_n 1, 1) := by decide +kernel
theorem dX8_agree_47 : decode cX8_agree 47 = .ok (.aaload, 1) := by decide +kernel
theorem dX8_agree_48 : decode cX8_agree 48 = .ok (.iload_n 3, 1) := by decide +kernel
theorem dX8_agree_49 : decode cX8_agree 49 = .ok (.invokevirtual 136, 3) := by decide +kernel
theorem dX8_agree_52 : decode cX8_agree 52 = .ok (.aload_n 0, 1) := by decide +kernel
theorem dX8_agree_53 : decode cX8_agree 53 = .ok (.getfield 35, 3) := by decide +kernel
theorem dX8_agree_56 : decode cX8_agree 56 = .ok (.getfield 139, 3) := by decide +kernel
theorem dX8_agree_59 : decode cX8_agree 59 = .ok (.aload_n 0, 1) := by decide +kernel
theorem dX8_agree_60 : decode cX8_agree 60 = .ok (.getfield 39, 3) := by decide +kernel
theorem dX8_agree_63 : decode cX8_agree 63 = .ok (.getfield 139, 3) := by decide +kernel
theorem dX8_agree_66 : decode cX8_agree 66 = .ok (.invokestatic 145, 3) := by decide +kernel
theorem dX8_agree_69 : decode cX8_agree 69 = .ok (.istore 4, 2) := by decide +kernel
theorem dX8_agree_71 : decode cX8_agree 71 = .ok (.iconst 0, 1) := by decide +kernel
theorem dX8_agree_72 : decode cX8_agree 72 = .ok (.istore 5, 2) := by decide +kernel
theorem dX8_agree_74 : decode cX8_agree 74 = .ok (.iload 5, 2) := by decide +kernel
theorem dX8_agree_76 : decode cX8_agree 76 = .ok (.iload 4, 2) := by decide +kernel
theorem dX8_agree_78 : decode cX8_agree 78 = .ok (.if_icmp .ge 18, 3) := by decide +kernel
theorem dX8_agree_81 : decode cX8_agree 81 = .ok (.aload_n 0, 1) := by decide +kernel
theorem dX8_agree_82 : decode cX8_agree 82 = .ok (.iload 5, 2) := by decide +kernel
theorem dX8_agree_84 : decode cX8_agree 84 = .ok (.invokevirtual 150, 3) := by decide +kernel
theorem dX8_agree_87 : decode cX8_agree 87 = .ok (.ifCond .eq 9, 3) := by decide +kernel
theorem dX8_agree_90 : decode cX8_agree 90 = .ok (.iinc 5 1, 3) := by decide +kernel
theorem dX8_agree_93 : decode cX8_agree 93 = .ok (.goto (-19), 3) := by decide +kernel
theorem dX8_agree_96 : decode cX8_agree 96 = .ok (.iload 5, 2) := by decide +kernel
theorem dX8_agree_98 : decode cX8_agree 98 = .ok (.ireturn, 1) := by decide +kernel
theorem dX8_sent_0 : decode cX8_sent 0 = .ok (.aload_n 0, 1) := by decide +kernel
theorem dX8_sent_1 : decode cX8_sent 1 = .ok (.iload_n 1, 1) := by decide +kernel
theorem dX8_sent_2 : decode cX8_sent 2 = .ok (.invokevirtual 122, 3) := by decide +kernel
theorem dX8_sent_5 : decode cX8_sent 5 = .ok (.ifCond .eq 17, 3) := by decide +kernel
theorem dX8_sent_8 : decode cX8_sent 8 = .ok (.iload_n 2, 1) := by decide +kernel
theorem dX8_sent_9 : decode cX8_sent 9 = .ok (.invokestatic 77, 3) := by decide +kernel
theorem dX8_sent_12 : decode cX8_sent 12 = .ok (.ifCond .eq 10, 3) := by decide +kernel
theorem dX8_sent_15 : decode cX8_sent 15 = .ok (.iload_n 3, 1) := by decide +kernel
theorem dX8_sent_16 : decode cX8_sent 16 = .ok (.invokestatic 77, 3) := by decide +kernel
theorem dX8_sent_19 : decode cX8_sent 19 = .ok (.ifCond .ne 5, 3) := by decide +kernel
theorem dX8_sent_22 : decode cX8_sent 22 = .ok (.iconst (-1), 1) := by decide +kernel
theorem dX8_sent_23 : decode cX8_sent 23 = .ok (.ireturn, 1) := by decide +kernel
theorem dX8_sent_24 : decode cX8_sent 24 = .ok (.aload_n 0, 1) := by decide +kernel
theorem dX8_sent_25 : decode cX8_sent 25 = .ok (.getfield 45, 3) := by decide +kernel
theorem dX8_sent_28 : decode cX8_sent 28 = .ok (.invokevirtual 153, 3) := by decide +kernel
theorem dX8_sent_31 : decode cX8_sent 31 = .ok (.aload_n 0, 1) := by decide +kernel
theorem dX8_sent_32 : decode cX8_sent 32 = .ok (.getfield 35, 3) := by decide +kernel
theorem dX8_sent_35 : decode cX8_sent 35 = .ok (.aload_n 0, 1) := by decide +kernel
theorem dX8_sent_36 : decode cX8_sent 36 = .ok (.getfield 25, 3) := by decide +kernel
theorem dX8_sent_39 : decode cX8_sent 39 = .ok (.iload_n 1, 1) := by decide +kernel
theorem dX8_sent_40 : decode cX8_sent 40 = .ok (.aaload, 1) := by decide +kernel
theorem dX8_sent_41 : decode cX8_sent 41 = .ok (.iload_n 2, 1) := by decide +kernel
theorem dX8_sent_42 : decode cX8_sent 42 = .ok (.invokevirtual 136, 3) := by decide +kernel
theorem dX8_sent_45 : decode cX8_sent 45 = .ok (.aload_n 0, 1) := by decide +kernel
theorem dX8_sent_46 : decode cX8_sent 46 = .ok (.getfield 45, 3) := by decide +kernel
theorem dX8_sent_49 : decode cX8_sent 49 = .ok (.aload_n 0, 1) := by decide +kernel
theorem dX8_sent_50 : decode cX8_sent 50 = .ok (.getfield 35, 3) := by decide +kernel
theorem dX8_sent_53 : decode cX8_sent 53 = .ok (.invokevirtual 156, 3) := by decide +kernel
theorem dX8_sent_56 : decode cX8_sent 56 = .ok (.pop, 1) := by decide +kernel
theorem dX8_sent_57 : decode cX8_sent 57 = .ok (.aload_n 0, 1) := by decide +kernel
theorem dX8_sent_58 : decode cX8_sent 58 = .ok (.getfield 35, 3) := by decide +kernel
theorem dX8_sent_61 : decode cX8_sent 61 = .ok (.aload_n 0, 1) := by decide +kernel
theorem dX8_sent_62 : decode cX8_sent 62 = .ok (.getfield 25, 3) := by decide +kernel
theorem dX8_sent_65 : decode cX8_sent 65 = .ok (.iload_n 1, 1) := by decide +kernel
theorem dX8_sent_66 : decode cX8_sent 66 = .ok (.aaload, 1) := by decide +kernel
theorem dX8_sent_67 : decode cX8_sent 67 = .ok (.iload_n 3, 1) := by decide +kernel
theorem dX8_sent_68 : decode cX8_sent 68 = .ok (.invokevirtual 136, 3) := by decide +kernel
theorem dX8_sent_71 : decode cX8_sent 71 = .ok (.aload_n 0, 1) := by decide +kernel
theorem dX8_sent_72 : decode cX8_sent 72 = .ok (.getfield 45, 3) := by decide +kernel
theorem dX8_sent_75 : decode cX8_sent 75 = .ok (.aload_n 0, 1) := by decide +kernel
theorem dX8_sent_76 : decode cX8_sent 76 = .ok (.getfield 35, 3) := by decide +kernel
theorem dX8_sent_79 : decode cX8_sent 79 = .ok (.invokevirtual 156, 3) := by decide +kernel
theorem dX8_sent_82 : decode cX8_sent 82 = .ok (.ireturn, 1) := by decide +kernel
theorem dX8_cost_0 : decode cX8_cost 0 = .ok (.aload_n 0, 1) := by decide +kernel
theorem dX8_cost_1 : decode cX8_cost 1 = .ok (.iload_n 1, 1) := by decide +kernel
theorem dX8_cost_2 : decode cX8_cost 2 = .ok (.invokevirtual 122, 3) := by decide +kernel
theorem dX8_cost_5 : decode cX8_cost 5 = .ok (.ifCond .eq 17, 3) := by decide +kernel
theorem dX8_cost_8 : decode cX8_cost 8 = .ok (.aload_n 0, 1) := by decide +kernel
theorem dX8_cost_9 : decode cX8_cost 9 = .ok (.aload_n 0, 1) := by decide +kernel
theorem dX8_cost_10 : decode cX8_cost 10 = .ok (.getfield 25, 3) := by decide +kernel
theorem dX8_cost_13 : decode cX8_cost 13 = .ok (.iload_n 1, 1) := by decide +kernel
theorem dX8_cost_14 : decode cX8_cost 14 = .ok (.aaload, 1) := by decide +kernel
theorem dX8_cost_15 : decode cX8_cost 15 = .ok (.iload_n 2, 1) := by decide +kernel
theorem dX8_cost_16 : decode cX8_cost 16 = .ok (.invokevirtual 160, 3) := by decide +kernel
theorem dX8_cost_19 : decode cX8_cost 19 = .ok (.goto 4, 3) := by decide +kernel
theorem dX8_cost_22 : decode cX8_cost 22 = .ok (.iconst (-1), 1) := by decide +kernel
theorem dX8_cost_23 : decode cX8_cost 23 = .ok (.ireturn, 1) := by decide +kernel
theorem dX8_best_0 : decode cX8_best 0 = .ok (.iconst (-1), 1) := by decide +kernel
theorem dX8_best_1 : decode cX8_best 1 = .ok (.istore_n 2, 1) := by decide +kernel
theorem dX8_best_2 : decode cX8_best 2 = .ok (.iconst 0, 1) := by decide +kernel
theorem dX8_best_3 : decode cX8_best 3 = .ok (.istore_n 3, 1) := by decide +kernel
theorem dX8_best_4 : decode cX8_best 4 = .ok (.iconst 0, 1) := by decide +kernel
theorem dX8_best_5 : decode cX8_best 5 = .ok (.istore 4, 2) := by decide +kernel
theorem dX8_best_7 : decode cX8_best 7 = .ok (.iload 4, 2) := by decide +kernel
theorem dX8_best_9 : decode cX8_best 9 = .ok (.bipush 6, 2) := by decide +kernel
theorem dX8_best_11 : decode cX8_best 11 = .ok (.if_icmp .ge 49, 3) := by decide +kernel
theorem dX8_best_14 : decode cX8_best 14 = .ok (.aload_n 0, 1) := by decide +kernel
theorem dX8_best_15 : decode cX8_best 15 = .ok (.iload 4, 2) := by decide +kernel
theorem dX8_best_17 : decode cX8_best 17 = .ok (.invokevirtual 122, 3) := by decide +kernel
theorem dX8_best_20 : decode cX8_best 20 = .ok (.ifCond .eq 34, 3) := by decide +kernel
theorem dX8_best_23 : decode cX8_best 23 = .ok (.aload_n 0, 1) := by decide +kernel
theorem dX8_best_24 : decode cX8_best 24 = .ok (.aload_n 0, 1) := by decide +kernel
theorem dX8_best_25 : decode cX8_best 25 = .ok (.getfield 25, 3) := by decide +kernel
theorem dX8_best_28 : decode cX8_best 28 = .ok (.iload 4, 2) := by decide +kernel
theorem dX8_best_30 : decode cX8_best 30 = .ok (.aaload, 1) := by decide +kernel
theorem dX8_best_31 : decode cX8_best 31 = .ok (.iload_n 1, 1) := by decide +kernel
theorem dX8_best_32 : decode cX8_best 32 = .ok (.invokevirtual 160, 3) := by decide +kernel
theorem dX8_best_35 : decode cX8_best 35 = .ok (.istore 5, 2) := by decide +kernel
theorem dX8_best_37 : decode cX8_best 37 = .ok (.iload_n 2, 1) := by decide +kernel
theorem dX8_best_38 : decode cX8_best 38 = .ok (.iconst (-1), 1) := by decide +kernel
theorem dX8_best_39 : decode cX8_best 39 = .ok (.if_icmp .eq 9, 3) := by decide +kernel
theorem dX8_best_42 : decode cX8_best 42 = .ok (.iload 5, 2) := by decide +kernel
theorem dX8_best_44 : decode cX8_best 44 = .ok (.iload_n 3, 1) := by decide +kernel
theorem dX8_best_45 : decode cX8_best 45 = .ok (.if_icmp .ge 9, 3) := by decide +kernel
theorem dX8_best_48 : decode cX8_best 48 = .ok (.iload 4, 2) := by decide +kernel
theorem dX8_best_50 : decode cX8_best 50 = .ok (.istore_n 2, 1) := by decide +kernel
theorem dX8_best_51 : decode cX8_best 51 = .ok (.iload 5, 2) := by decide +kernel
theorem dX8_best_53 : decode cX8_best 53 = .ok (.istore_n 3, 1) := by decide +kernel
theorem dX8_best_54 : decode cX8_best 54 = .ok (.iinc 4 1, 3) := by decide +kernel
theorem dX8_best_57 : decode cX8_best 57 = .ok (.goto (-50), 3) := by decide +kernel
theorem dX8_best_60 : decode cX8_best 60 = .ok (.iload_n 2, 1) := by decide +kernel
theorem dX8_best_61 : decode cX8_best 61 = .ok (.ireturn, 1) := by decide +kernel
theorem dX8_keep_0 : decode cX8_keep 0 = .ok (.aload_n 0, 1) := by decide +kernel
theorem dX8_keep_1 : decode cX8_keep 1 = .ok (.iload_n 1, 1) := by decide +kernel
theorem dX8_keep_2 : decode cX8_keep 2 = .ok (.invokevirtual 122, 3) := by decide +kernel
theorem dX8_keep_5 : decode cX8_keep 5 = .ok (.ifCond .eq 10, 3) := by decide +kernel
theorem dX8_keep_8 : decode cX8_keep 8 = .ok (.iload_n 2, 1) := by decide +kernel
theorem dX8_keep_9 : decode cX8_keep 9 = .ok (.invokestatic 77, 3) := by decide +kernel
theorem dX8_keep_12 : decode cX8_keep 12 = .ok (.ifCond .ne 5, 3) := by decide +kernel
theorem dX8_keep_15 : decode cX8_keep 15 = .ok (.iconst (-1), 1) := by decide +kernel
theorem dX8_keep_16 : decode cX8_keep 16 = .ok (.ireturn, 1) := by decide +kernel
theorem dX8_keep_17 : decode cX8_keep 17 = .ok (.aload_n 0, 1) := by decide +kernel
theorem dX8_keep_18 : decode cX8_keep 18 = .ok (.getfield 35, 3) := by decide +kernel
theorem dX8_keep_21 : decode cX8_keep 21 = .ok (.aload_n 0, 1) := by decide +kernel
theorem dX8_keep_22 : decode cX8_keep 22 = .ok (.getfield 25, 3) := by decide +kernel
theorem dX8_keep_25 : decode cX8_keep 25 = .ok (.iload_n 1, 1) := by decide +kernel
theorem dX8_keep_26 : decode cX8_keep 26 = .ok (.aaload, 1) := by decide +kernel
theorem dX8_keep_27 : decode cX8_keep 27 = .ok (.iload_n 2, 1) := by decide +kernel
theorem dX8_keep_28 : decode cX8_keep 28 = .ok (.invokevirtual 136, 3) := by decide +kernel
theorem dX8_keep_31 : decode cX8_keep 31 = .ok (.aload_n 0, 1) := by decide +kernel
theorem dX8_keep_32 : decode cX8_keep 32 = .ok (.getfield 52, 3) := by decide +kernel
theorem dX8_keep_35 : decode cX8_keep 35 = .ok (.aload_n 0, 1) := by decide +kernel
theorem dX8_keep_36 : decode cX8_keep 36 = .ok (.getfield 35, 3) := by decide +kernel
theorem dX8_keep_39 : decode cX8_keep 39 = .ok (.iload_n 2, 1) := by decide +kernel
theorem dX8_keep_40 : decode cX8_keep 40 = .ok (.invokevirtual 164, 3) := by decide +kernel
theorem dX8_keep_43 : decode cX8_keep 43 = .ok (.ireturn, 1) := by decide +kernel
theorem dX8_drop_0 : decode cX8_drop 0 = .ok (.aload_n 0, 1) := by decide +kernel
theorem dX8_drop_1 : decode cX8_drop 1 = .ok (.iload_n 1, 1) := by decide +kernel
theorem dX8_drop_2 : decode cX8_drop 2 = .ok (.invokevirtual 168, 3) := by decide +kernel
theorem dX8_drop_5 : decode cX8_drop 5 = .ok (.ifCond .eq 14, 3) := by decide +kernel
theorem dX8_drop_8 : decode cX8_drop 8 = .ok (.aload_n 0, 1) := by decide +kernel
theorem dX8_drop_9 : decode cX8_drop 9 = .ok (.getfield 52, 3) := by decide +kernel
theorem dX8_drop_12 : decode cX8_drop 12 = .ok (.iload_n 1, 1) := by decide +kernel
theorem dX8_drop_13 : decode cX8_drop 13 = .ok (.invokevirtual 171, 3) := by decide +kernel
theorem dX8_drop_16 : decode cX8_drop 16 = .ok (.goto 4, 3) := by decide +kernel
theorem dX8_drop_19 : decode cX8_drop 19 = .ok (.iconst (-1), 1) := by decide +kernel
theorem dX8_drop_20 : decode cX8_drop 20 = .ok (.ireturn, 1) := by decide +kernel
theorem dX8_bring_0 : decode cX8_bring 0 = .ok (.aload_n 0, 1) := by decide +kernel
theorem dX8_bring_1 : decode cX8_bring 1 = .ok (.iload_n 1, 1) := by decide +kernel
theorem dX8_bring_2 : decode cX8_bring 2 = .ok (.invokevirtual 168, 3) := by decide +kernel
theorem dX8_bring_5 : decode cX8_bring 5 = .ok (.ifCond .ne 5, 3) := by decide +kernel
theorem dX8_bring_8 : decode cX8_bring 8 = .ok (.iconst (-1), 1) := by decide +kernel
theorem dX8_bring_9 : decode cX8_bring 9 = .ok (.ireturn, 1) := by decide +kernel
theorem dX8_bring_10 : decode cX8_bring 10 = .ok (.aload_n 0, 1) := by decide +kernel
theorem dX8_bring_11 : decode cX8_bring 11 = .ok (.getfield 52, 3) := by decide +kernel
theorem dX8_bring_14 : decode cX8_bring 14 = .ok (.iload_n 1, 1) := by decide +kernel
theorem dX8_bring_15 : decode cX8_bring 15 = .ok (.invokevirtual 175, 3) := by decide +kernel
theorem dX8_bring_18 : decode cX8_bring 18 = .ok (.aload_n 0, 1) := by decide +kernel
theorem dX8_bring_19 : decode cX8_bring 19 = .ok (.getfield 12, 3) := by decide +kernel
theorem dX8_bring_22 : decode cX8_bring 22 = .ok (.getfield 81, 3) := by decide +kernel
theorem dX8_bring_25 : decode cX8_bring 25 = .ok (.iload_n 1, 1) := by decide +kernel
theorem dX8_bring_26 : decode cX8_bring 26 = .ok (.iaload, 1) := by decide +kernel
theorem dX8_bring_27 : decode cX8_bring 27 = .ok (.ireturn, 1) := by decide +kernel
theorem dX8_jumps_0 : decode cX8_jumps 0 = .ok (.aload_n 0, 1) := by decide +kernel
theorem dX8_jumps_1 : decode cX8_jumps 1 = .ok (.iload_n 1, 1) := by decide +kernel
theorem dX8_jumps_2 : decode cX8_jumps 2 = .ok (.invokevirtual 168, 3) := by decide +kernel
theorem dX8_jumps_5 : decode cX8_jumps 5 = .ok (.ifCond .eq 14, 3) := by decide +kernel
theorem dX8_jumps_8 : decode cX8_jumps 8 = .ok (.aload_n 0, 1) := by decide +kernel
theorem dX8_jumps_9 : decode cX8_jumps 9 = .ok (.getfield 52, 3) := by decide +kernel
theorem dX8_jumps_12 : decode cX8_jumps 12 = .ok (.iload_n 1, 1) := by decide +kernel
theorem dX8_jumps_13 : decode cX8_jumps 13 = .ok (.invokevirtual 178, 3) := by decide +kernel
theorem dX8_jumps_16 : decode cX8_jumps 16 = .ok (.goto 4, 3) := by decide +kernel
theorem dX8_jumps_19 : decode cX8_jumps 19 = .ok (.iconst (-1), 1) := by decide +kernel
theorem dX8_jumps_20 : decode cX8_jumps 20 = .ok (.ireturn, 1) := by decide +kernel
theorem dX8_number_0 : decode cX8_number 0 = .ok (.aload_n 0, 1) := by decide +kernel
theorem dX8_number_1 : decode cX8_number 1 = .ok (.iload_n 1, 1) := by decide +kernel
theorem dX8_number_2 : decode cX8_number 2 = .ok (.invokevirtual 168, 3) := by decide +kernel
theorem dX8_number_5 : decode cX8_number 5 = .ok (.ifCond .eq 36, 3) := by decide +kernel
theorem dX8_number_8 : decode cX8_number 8 = .ok (.iload_n 2, 1) := by decide +kernel
theorem dX8_number_9 : decode cX8_number 9 = .ok (.iconst 0, 1) := by decide +kernel
theorem dX8_number_10 : decode cX8_number 10 = .ok (.aload_n 0, 1) := by decide +kernel
theorem dX8_number_11 : decode cX8_number 11 = .ok (.getfield 52, 3) := by decide +kernel
theorem dX8_number_14 : decode cX8_number 14 = .ok (.getfield 181, 3) := by decide +kernel
theorem dX8_number_17 : decode cX8_number 17 = .ok (.iload_n 1, 1) := by decide +kernel
theorem dX8_number_18 : decode cX8_number 18 = .ok (.iaload, 1) := by decide +kernel
theorem dX8_number_19 : decode cX8_number 19 = .ok (.iconst 1, 1) := by decide +kernel
theorem dX8_number_20 : decode cX8_number 20 = .ok (.isub, 1) := by decide +kernel
theorem dX8_number_21 : decode cX8_number 21 = .ok (.invokestatic 85, 3) := by decide +kernel
theorem dX8_number_24 : decode cX8_number 24 = .ok (.ifCond .eq 17, 3) := by decide +kernel
theorem dX8_number_27 : decode cX8_number 27 = .ok (.aload_n 0, 1) := by decide +kernel
theorem dX8_number_28 : decode cX8_number 28 = .ok (.getfield 52, 3) := by decide +kernel
theorem dX8_number_31 : decode cX8_number 31 = .ok (.getfield 184, 3) := by decide +kernel
theorem dX8_number_34 : decode cX8_number 34 = .ok (.iload_n 1, 1) := by decide +kernel
theorem dX8_number_35 : decode cX8_number 35 = .ok (.aaload, 1) := by decide +kernel
theorem dX8_number_36 : decode cX8_number 36 = .ok (.iload_n 2, 1) := by decide +kernel
theorem dX8_number_37 : decode cX8_number 37 = .ok (.iaload, 1) := by decide +kernel
theorem dX8_number_38 : decode cX8_number 38 = .ok (.goto 4, 3) := by decide +kernel
theorem dX8_number_41 : decode cX8_number 41 = .ok (.iconst (-1), 1) := by decide +kernel
theorem dX8_number_42 : decode cX8_number 42 = .ok (.ireturn, 1) := by decide +kernel
theorem dX8_piece_0 : decode cX8_piece 0 = .ok (.iload_n 1, 1) := by decide +kernel
theorem dX8_piece_1 : decode cX8_piece 1 = .ok (.iconst 1, 1) := by decide +kernel
theorem dX8_piece_2 : decode cX8_piece 2 = .ok (.sipush 300, 3) := by decide +kernel
theorem dX8_piece_5 : decode cX8_piece 5 = .ok (.invokestatic 85, 3) := by decide +kernel
theorem dX8_piece_8 : decode cX8_piece 8 = .ok (.ifCond .eq 15, 3) := by decide +kernel
theorem dX8_piece_11 : decode cX8_piece 11 = .ok (.aload_n 0, 1) := by decide +kernel
theorem dX8_piece_12 : decode cX8_piece 12 = .ok (.getfield 52, 3) := by decide +kernel
theorem dX8_piece_15 : decode cX8_piece 15 = .ok (.getfield 188, 3) := by decide +kernel
theorem dX8_piece_18 : decode cX8_piece 18 = .ok (.iload_n 1, 1) := by decide +kernel
theorem dX8_piece_19 : decode cX8_piece 19 = .ok (.iaload, 1) := by decide +kernel
theorem dX8_piece_20 : decode cX8_piece 20 = .ok (.ifCond .ne 5, 3) := by decide +kernel
theorem dX8_piece_23 : decode cX8_piece 23 = .ok (.iconst (-1), 1) := by decide +kernel
theorem dX8_piece_24 : decode cX8_piece 24 = .ok (.ireturn, 1) := by decide +kernel
theorem dX8_piece_25 : decode cX8_piece 25 = .ok (.iload_n 2, 1) := by decide +kernel
theorem dX8_piece_26 : decode cX8_piece 26 = .ok (.tableswitch 56 0 2 #[26, 36, 46], 26) := by decide +kernel
theorem dX8_piece_52 : decode cX8_piece 52 = .ok (.aload_n 0, 1) := by decide +kernel
theorem dX8_piece_53 : decode cX8_piece 53 = .ok (.getfield 52, 3) := by decide +kernel
theorem dX8_piece_56 : decode cX8_piece 56 = .ok (.getfield 191, 3) := by decide +kernel
theorem dX8_piece_59 : decode cX8_piece 59 = .ok (.iload_n 1, 1) := by decide +kernel
theorem dX8_piece_60 : decode cX8_piece 60 = .ok (.iaload, 1) := by decide +kernel
theorem dX8_piece_61 : decode cX8_piece 61 = .ok (.ireturn, 1) := by decide +kernel
theorem dX8_piece_62 : decode cX8_piece 62 = .ok (.aload_n 0, 1) := by decide +kernel
theorem dX8_piece_63 : decode cX8_piece 63 = .ok (.getfield 52, 3) := by decide +kernel
theorem dX8_piece_66 : decode cX8_piece 66 = .ok (.getfield 188, 3) := by decide +kernel
theorem dX8_piece_69 : decode cX8_piece 69 = .ok (.iload_n 1, 1) := by decide +kernel
theorem dX8_piece_70 : decode cX8_piece 70 = .ok (.iaload, 1) := by decide +kernel
theorem dX8_piece_71 : decode cX8_piece 71 = .ok (.ireturn, 1) := by decide +kernel
theorem dX8_piece_72 : decode cX8_piece 72 = .ok (.aload_n 0, 1) := by decide +kernel
theorem dX8_piece_73 : decode cX8_piece 73 = .ok (.getfield 52, 3) := by decide +kernel
theorem dX8_piece_76 : decode cX8_piece 76 = .ok (.getfield 192, 3) := by decide +kernel
theorem dX8_piece_79 : decode cX8_piece 79 = .ok (.iload_n 1, 1) := by decide +kernel
theorem dX8_piece_80 : decode cX8_piece 80 = .ok (.iaload, 1) := by decide +kernel
theorem dX8_piece_81 : decode cX8_piece 81 = .ok (.ireturn, 1) := by decide +kernel
theorem dX8_piece_82 : decode cX8_piece 82 = .ok (.iconst (-1), 1) := by decide +kernel
theorem dX8_piece_83 : decode cX8_piece 83 = .ok (.ireturn, 1) := by decide +kernel
theorem dX8_count_0 : decode cX8_count 0 = .ok (.iload_n 1, 1) := by decide +kernel
theorem dX8_count_1 : decode cX8_count 1 = .ok (.tableswitch 105 0 5 #[39, 47, 55, 63, 89, 97], 39) := by decide +kernel
theorem dX8_count_40 : decode cX8_count 40 = .ok (.aload_n 0, 1) := by decide +kernel
theorem dX8_count_41 : decode cX8_count 41 = .ok (.getfield 52, 3) := by decide +kernel
theorem dX8_count_44 : decode cX8_count 44 = .ok (.getfield 195, 3) := by decide +kernel
theorem dX8_count_47 : decode cX8_count 47 = .ok (.ireturn, 1) := by decide +kernel
theorem dX8_count_48 : decode cX8_count 48 = .ok (.aload_n 0, 1) := by decide +kernel
theorem dX8_count_49 : decode cX8_count 49 = .ok (.getfield 52, 3) := by decide +kernel
theorem dX8_count_52 : decode cX8_count 52 = .ok (.getfield 196, 3) := by decide +kernel
theorem dX8_count_55 : decode cX8_count 55 = .ok (.ireturn, 1) := by decide +kernel
theorem dX8_count_56 : decode cX8_count 56 = .ok (.aload_n 0, 1) := by decide +kernel
theorem dX8_count_57 : decode cX8_count 57 = .ok (.getfield 52, 3) := by decide +kernel
theorem dX8_count_60 : decode cX8_count 60 = .ok (.invokevirtual 199, 3) := by decide +kernel
theorem dX8_count_63 : decode cX8_count 63 = .ok (.ireturn, 1) := by decide +kernel
theorem dX8_count_64 : decode cX8_count 64 = .ok (.aload_n 0, 1) := by decide +kernel
theorem dX8_count_65 : decode cX8_count 65 = .ok (.aload_n 0, 1) := by decide +kernel
theorem dX8_count_66 : decode cX8_count 66 = .ok (.getfield 52, 3) := by decide +kernel
theorem dX8_count_69 : decode cX8_count 69 = .ok (.getfield 196, 3) := by decide +kernel
theorem dX8_count_72 : decode cX8_count 72 = .ok (.aload_n 0, 1) := by decide +kernel
theorem dX8_count_73 : decode cX8_count 73 = .ok (.getfield 52, 3) := by decide +kernel
theorem dX8_count_76 : decode cX8_count 76 = .ok (.getfield 195, 3) := by decide +kernel
theorem dX8_count_79 : decode cX8_count 79 = .ok (.aload_n 0, 1) := by decide +kernel
theorem dX8_count_80 : decode cX8_count 80 = .ok (.getfield 52, 3) := by decide +kernel
theorem dX8_count_83 : decode cX8_count 83 = .ok (.invokevirtual 199, 3) := by decide +kernel
theorem dX8_count_86 : decode cX8_count 86 = .ok (.invokevirtual 203, 3) := by decide +kernel
theorem dX8_count_89 : decode cX8_count 89 = .ok (.ireturn, 1) := by decide +kernel
theorem dX8_count_90 : decode cX8_count 90 = .ok (.aload_n 0, 1) := by decide +kernel
theorem dX8_count_91 : decode cX8_count 91 = .ok (.getfield 52, 3) := by decide +kernel
theorem dX8_count_94 : decode cX8_count 94 = .ok (.getfield 207, 3) := by decide +kernel
theorem dX8_count_97 : decode cX8_count 97 = .ok (.ireturn, 1) := by decide +kernel
theorem dX8_count_98 : decode cX8_count 98 = .ok (.aload_n 0, 1) := by decide +kernel
theorem dX8_count_99 : decode cX8_count 99 = .ok (.getfield 52, 3) := by decide +kernel
theorem dX8_count_102 : decode cX8_count 102 = .ok (.invokevirtual 210, 3) := by decide +kernel
theorem dX8_count_105 : decode cX8_count 105 = .ok (.ireturn, 1) := by decide +kernel
theorem dX8_count_106 : decode cX8_count 106 = .ok (.iconst (-1), 1) := by decide +kernel
theorem dX8_count_107 : decode cX8_count 107 = .ok (.ireturn, 1) := by decide +kernel
theorem dX8_prices_0 : decode cX8_prices 0 = .ok (.iload_n 1, 1) := by decide +kernel
theorem dX8_prices_1 : decode cX8_prices 1 = .ok (.iconst 0, 1) := by decide +kernel
theorem dX8_prices_2 : decode cX8_prices 2 = .ok (.bipush 100, 2) := by decide +kernel
theorem dX8_prices_4 : decode cX8_prices 4 = .ok (.invokestatic 85, 3) := by decide +kernel
theorem dX8_prices_7 : decode cX8_prices 7 = .ok (.ifCond .eq 13, 3) := by decide +kernel
theorem dX8_prices_10 : decode cX8_prices 10 = .ok (.iload_n 2, 1) := by decide +kernel
theorem dX8_prices_11 : decode cX8_prices 11 = .ok (.iconst 0, 1) := by decide +kernel
theorem dX8_prices_12 : decode cX8_prices 12 = .ok (.bipush 100, 2) := by decide +kernel
theorem dX8_prices_14 : decode cX8_prices 14 = .ok (.invokestatic 85, 3) := by decide +kernel
theorem dX8_prices_17 : decode cX8_prices 17 = .ok (.ifCond .ne 5, 3) := by decide +kernel
theorem dX8_prices_20 : decode cX8_prices 20 = .ok (.iconst 0, 1) := by decide +kernel
theorem dX8_prices_21 : decode cX8_prices 21 = .ok (.ireturn, 1) := by decide +kernel
theorem dX8_prices_22 : decode cX8_prices 22 = .ok (.aload_n 0, 1) := by decide +kernel
theorem dX8_prices_23 : decode cX8_prices 23 = .ok (.iload_n 1, 1) := by decide +kernel
theorem dX8_prices_24 : decode cX8_prices 24 = .ok (.putfield 63, 3) := by decide +kernel
theorem dX8_prices_27 : decode cX8_prices 27 = .ok (.aload_n 0, 1) := by decide +kernel
theorem dX8_prices_28 : decode cX8_prices 28 = .ok (.iload_n 2, 1) := by decide +kernel
theorem dX8_prices_29 : decode cX8_prices 29 = .ok (.putfield 67, 3) := by decide +kernel
theorem dX8_prices_32 : decode cX8_prices 32 = .ok (.iconst 1, 1) := by decide +kernel
theorem dX8_prices_33 : decode cX8_prices 33 = .ok (.ireturn, 1) := by decide +kernel
theorem dX8_supers_0 : decode cX8_supers 0 = .ok (.aload_n 0, 1) := by decide +kernel
theorem dX8_supers_1 : decode cX8_supers 1 = .ok (.getfield 59, 3) := by decide +kernel
theorem dX8_supers_4 : decode cX8_supers 4 = .ok (.invokevirtual 213, 3) := by decide +kernel
theorem dX8_supers_7 : decode cX8_supers 7 = .ok (.iconst 0, 1) := by decide +kernel
theorem dX8_supers_8 : decode cX8_supers 8 = .ok (.istore_n 1, 1) := by decide +kernel
theorem dX8_supers_9 : decode cX8_supers 9 = .ok (.iload_n 1, 1) := by decide +kernel
theorem dX8_supers_10 : decode cX8_supers 10 = .ok (.bipush 8, 2) := by decide +kernel
theorem dX8_supers_12 : decode cX8_supers 12 = .ok (.if_icmp .ge 42, 3) := by decide +kernel
theorem dX8_supers_15 : decode cX8_supers 15 = .ok (.aload_n 0, 1) := by decide +kernel
theorem dX8_supers_16 : decode cX8_supers 16 = .ok (.iload_n 1, 1) := by decide +kernel
theorem dX8_supers_17 : decode cX8_supers 17 = .ok (.invokevirtual 168, 3) := by decide +kernel
theorem dX8_supers_20 : decode cX8_supers 20 = .ok (.ifCond .eq 28, 3) := by decide +kernel
theorem dX8_supers_23 : decode cX8_supers 23 = .ok (.aload_n 0, 1) := by decide +kernel
theorem dX8_supers_24 : decode cX8_supers 24 = .ok (.getfield 59, 3) := by decide +kernel
theorem dX8_supers_27 : decode cX8_supers 27 = .ok (.aload_n 0, 1) := by decide +kernel
theorem dX8_supers_28 : decode cX8_supers 28 = .ok (.getfield 52, 3) := by decide +kernel
theorem dX8_supers_31 : decode cX8_supers 31 = .ok (.getfield 184, 3) := by decide +kernel
theorem dX8_supers_34 : decode cX8_supers 34 = .ok (.iload_n 1, 1) := by decide +kernel
theorem dX8_supers_35 : decode cX8_supers 35 = .ok (.aaload, 1) := by decide +kernel
theorem dX8_supers_36 : decode cX8_supers 36 = .ok (.aload_n 0, 1) := by decide +kernel
theorem dX8_supers_37 : decode cX8_supers 37 = .ok (.getfield 52, 3) := by decide +kernel
theorem dX8_supers_40 : decode cX8_supers 40 = .ok (.getfield 181, 3) := by decide +kernel
theorem dX8_supers_43 : decode cX8_supers 43 = .ok (.iload_n 1, 1) := by decide +kernel
theorem dX8_supers_44 : decode cX8_supers 44 = .ok (.iaload, 1) := by decide +kernel
theorem dX8_supers_45 : decode cX8_supers 45 = .ok (.invokevirtual 214, 3) := by decide +kernel
theorem dX8_supers_48 : decode cX8_supers 48 = .ok (.iinc 1 1, 3) := by decide +kernel
theorem dX8_supers_51 : decode cX8_supers 51 = .ok (.goto (-42), 3) := by decide +kernel
theorem dX8_supers_54 : decode cX8_supers 54 = .ok (.aload_n 0, 1) := by decide +kernel
theorem dX8_supers_55 : decode cX8_supers 55 = .ok (.getfield 59, 3) := by decide +kernel
theorem dX8_supers_58 : decode cX8_supers 58 = .ok (.invokevirtual 218, 3) := by decide +kernel
theorem dX8_supers_61 : decode cX8_supers 61 = .ok (.aload_n 0, 1) := by decide +kernel
theorem dX8_supers_62 : decode cX8_supers 62 = .ok (.getfield 59, 3) := by decide +kernel
theorem dX8_supers_65 : decode cX8_supers 65 = .ok (.invokevirtual 221, 3) := by decide +kernel
theorem dX8_supers_68 : decode cX8_supers 68 = .ok (.ireturn, 1) := by decide +kernel
theorem dX8_pair_0 : decode cX8_pair 0 = .ok (.iload_n 1, 1) := by decide +kernel
theorem dX8_pair_1 : decode cX8_pair 1 = .ok (.iconst 0, 1) := by decide +kernel
theorem dX8_pair_2 : decode cX8_pair 2 = .ok (.aload_n 0, 1) := by decide +kernel
theorem dX8_pair_3 : decode cX8_pair 3 = .ok (.getfield 59, 3) := by decide +kernel
theorem dX8_pair_6 : decode cX8_pair 6 = .ok (.getfield 224, 3) := by decide +kernel
theorem dX8_pair_9 : decode cX8_pair 9 = .ok (.iconst 1, 1) := by decide +kernel
theorem dX8_pair_10 : decode cX8_pair 10 = .ok (.isub, 1) := by decide +kernel
theorem dX8_pair_11 : decode cX8_pair 11 = .ok (.invokestatic 85, 3) := by decide +kernel
theorem dX8_pair_14 : decode cX8_pair 14 = .ok (.ifCond .ne 5, 3) := by decide +kernel
theorem dX8_pair_17 : decode cX8_pair 17 = .ok (.iconst (-1), 1) := by decide +kernel
theorem dX8_pair_18 : decode cX8_pair 18 = .ok (.ireturn, 1) := by decide +kernel
theorem dX8_pair_19 : decode cX8_pair 19 = .ok (.iload_n 2, 1) := by decide +kernel
theorem dX8_pair_20 : decode cX8_pair 20 = .ok (.tableswitch 58 0 2 #[28, 38, 48], 28) := by decide +kernel
theorem dX8_pair_48 : decode cX8_pair 48 = .ok (.aload_n 0, 1) := by decide +kernel
theorem dX8_pair_49 : decode cX8_pair 49 = .ok (.getfield 59, 3) := by decide +kernel
theorem dX8_pair_52 : decode cX8_pair 52 = .ok (.getfield 227, 3) := by decide +kernel
theorem dX8_pair_55 : decode cX8_pair 55 = .ok (.iload_n 1, 1) := by decide +kernel
theorem dX8_pair_56 : decode cX8_pair 56 = .ok (.iaload, 1) := by decide +kernel
theorem dX8_pair_57 : decode cX8_pair 57 = .ok (.ireturn, 1) := by decide +kernel
theorem dX8_pair_58 : decode cX8_pair 58 = .ok (.aload_n 0, 1) := by decide +kernel
theorem dX8_pair_59 : decode cX8_pair 59 = .ok (.getfield 59, 3) := by decide +kernel
theorem dX8_pair_62 : decode cX8_pair 62 = .ok (.getfield 230, 3) := by decide +kernel
theorem dX8_pair_65 : decode cX8_pair 65 = .ok (.iload_n 1, 1) := by decide +kernel
theorem dX8_pair_66 : decode cX8_pair 66 = .ok (.iaload, 1) := by decide +kernel
theorem dX8_pair_67 : decode cX8_pair 67 = .ok (.ireturn, 1) := by decide +kernel
theorem dX8_pair_68 : decode cX8_pair 68 = .ok (.aload_n 0, 1) := by decide +kernel
theorem dX8_pair_69 : decode cX8_pair 69 = .ok (.getfield 59, 3) := by decide +kernel
theorem dX8_pair_72 : decode cX8_pair 72 = .ok (.getfield 233, 3) := by decide +kernel
theorem dX8_pair_75 : decode cX8_pair 75 = .ok (.iload_n 1, 1) := by decide +kernel
theorem dX8_pair_76 : decode cX8_pair 76 = .ok (.iaload, 1) := by decide +kernel
theorem dX8_pair_77 : decode cX8_pair 77 = .ok (.ireturn, 1) := by decide +kernel
theorem dX8_pair_78 : decode cX8_pair 78 = .ok (.iconst (-1), 1) := by decide +kernel
theorem dX8_pair_79 : decode cX8_pair 79 = .ok (.ireturn, 1) := by decide +kernel
theorem dX8_isWithin_0 : decode cX8_isWithin 0 = .ok (.iload_n 0, 1) := by decide +kernel
theorem dX8_isWithin_1 : decode cX8_isWithin 1 = .ok (.iload_n 1, 1) := by decide +kernel
theorem dX8_isWithin_2 : decode cX8_isWithin 2 = .ok (.if_icmp .lt 12, 3) := by decide +kernel
theorem dX8_isWithin_5 : decode cX8_isWithin 5 = .ok (.iload_n 0, 1) := by decide +kernel
theorem dX8_isWithin_6 : decode cX8_isWithin 6 = .ok (.iload_n 2, 1) := by decide +kernel
theorem dX8_isWithin_7 : decode cX8_isWithin 7 = .ok (.if_icmp .gt 7, 3) := by decide +kernel
theorem dX8_isWithin_10 : decode cX8_isWithin 10 = .ok (.iconst 1, 1) := by decide +kernel
theorem dX8_isWithin_11 : decode cX8_isWithin 11 = .ok (.goto 4, 3) := by decide +kernel
theorem dX8_isWithin_14 : decode cX8_isWithin 14 = .ok (.iconst 0, 1) := by decide +kernel
theorem dX8_isWithin_15 : decode cX8_isWithin 15 = .ok (.ireturn, 1) := by decide +kernel
theorem dX8_isFile_0 : decode cX8_isFile 0 = .ok (.iload_n 0, 1) := by decide +kernel
theorem dX8_isFile_1 : decode cX8_isFile 1 = .ok (.iconst 0, 1) := by decide +kernel
theorem dX8_isFile_2 : decode cX8_isFile 2 = .ok (.bipush 7, 2) := by decide +kernel
theorem dX8_isFile_4 : decode cX8_isFile 4 = .ok (.invokestatic 85, 3) := by decide +kernel
theorem dX8_isFile_7 : decode cX8_isFile 7 = .ok (.ireturn, 1) := by decide +kernel
theorem dX8_isRule_0 : decode cX8_isRule 0 = .ok (.iload_n 0, 1) := by decide +kernel
theorem dX8_isRule_1 : decode cX8_isRule 1 = .ok (.iconst 0, 1) := by decide +kernel
theorem dX8_isRule_2 : decode cX8_isRule 2 = .ok (.iconst 5, 1) := by decide +kernel
theorem dX8_isRule_3 : decode cX8_isRule 3 = .ok (.invokestatic 85, 3) := by decide +kernel
theorem dX8_isRule_6 : decode cX8_isRule 6 = .ok (.ireturn, 1) := by decide +kernel
theorem dX8_isMarkRule_0 : decode cX8_isMarkRule 0 = .ok (.iload_n 1, 1) := by decide +kernel
theorem dX8_isMarkRule_1 : decode cX8_isMarkRule 1 = .ok (.iconst 1, 1) := by decide +kernel
theorem dX8_isMarkRule_2 : decode cX8_isMarkRule 2 = .ok (.sipush 200, 3) := by decide +kernel
theorem dX8_isMarkRule_5 : decode cX8_isMarkRule 5 = .ok (.invokestatic 85, 3) := by decide +kernel
theorem dX8_isMarkRule_8 : decode cX8_isMarkRule 8 = .ok (.ifCond .eq 27, 3) := by decide +kernel
theorem dX8_isMarkRule_11 : decode cX8_isMarkRule 11 = .ok (.iload_n 0, 1) := by decide +kernel
theorem dX8_isMarkRule_12 : decode cX8_isMarkRule 12 = .ok (.iconst 1, 1) := by decide +kernel
theorem dX8_isMarkRule_13 : decode cX8_isMarkRule 13 = .ok (.iload_n 1, 1) := by decide +kernel
theorem dX8_isMarkRule_14 : decode cX8_isMarkRule 14 = .ok (.invokestatic 85, 3) := by decide +kernel
theorem dX8_isMarkRule_17 : decode cX8_isMarkRule 17 = .ok (.ifCond .eq 18, 3) := by decide +kernel
theorem dX8_isMarkRule_20 : decode cX8_isMarkRule 20 = .ok (.iload_n 2, 1) := by decide +kernel
theorem dX8_isMarkRule_21 : decode cX8_isMarkRule 21 = .ok (.iconst 0, 1) := by decide +kernel
theorem dX8_isMarkRule_22 : decode cX8_isMarkRule 22 = .ok (.sipush 255, 3) := by decide +kernel
theorem dX8_isMarkRule_25 : decode cX8_isMarkRule 25 = .ok (.invokestatic 85, 3) := by decide +kernel
theorem dX8_isMarkRule_28 : decode cX8_isMarkRule 28 = .ok (.ifCond .eq 7, 3) := by decide +kernel
theorem dX8_isMarkRule_31 : decode cX8_isMarkRule 31 = .ok (.iconst 1, 1) := by decide +kernel
theorem dX8_isMarkRule_32 : decode cX8_isMarkRule 32 = .ok (.goto 4, 3) := by decide +kernel
theorem dX8_isMarkRule_35 : decode cX8_isMarkRule 35 = .ok (.iconst 0, 1) := by decide +kernel
theorem dX8_isMarkRule_36 : decode cX8_isMarkRule 36 = .ok (.ireturn, 1) := by decide +kernel
theorem dX8_isSetRule_0 : decode cX8_isSetRule 0 = .ok (.iload_n 1, 1) := by decide +kernel
theorem dX8_isSetRule_1 : decode cX8_isSetRule 1 = .ok (.invokestatic 109, 3) := by decide +kernel
theorem dX8_isSetRule_4 : decode cX8_isSetRule 4 = .ok (.ifCond .eq 20, 3) := by decide +kernel
theorem dX8_isSetRule_7 : decode cX8_isSetRule 7 = .ok (.aload_n 0, 1) := by decide +kernel
theorem dX8_isSetRule_8 : decode cX8_isSetRule 8 = .ok (.getfield 25, 3) := by decide +kernel
theorem dX8_isSetRule_11 : decode cX8_isSetRule 11 = .ok (.iload_n 1, 1) := by decide +kernel
theorem dX8_isSetRule_12 : decode cX8_isSetRule 12 = .ok (.aaload, 1) := by decide +kernel
theorem dX8_isSetRule_13 : decode cX8_isSetRule 13 = .ok (.getfield 236, 3) := by decide +kernel
theorem dX8_isSetRule_16 : decode cX8_isSetRule 16 = .ok (.iconst (-1), 1) := by decide +kernel
theorem dX8_isSetRule_17 : decode cX8_isSetRule 17 = .ok (.if_icmp .eq 7, 3) := by decide +kernel
theorem dX8_isSetRule_20 : decode cX8_isSetRule 20 = .ok (.iconst 1, 1) := by decide +kernel
theorem dX8_isSetRule_21 : decode cX8_isSetRule 21 = .ok (.goto 4, 3) := by decide +kernel
theorem dX8_isSetRule_24 : decode cX8_isSetRule 24 = .ok (.iconst 0, 1) := by decide +kernel
theorem dX8_isSetRule_25 : decode cX8_isSetRule 25 = .ok (.ireturn, 1) := by decide +kernel
theorem dX8_isPlace_0 : decode cX8_isPlace 0 = .ok (.iload_n 1, 1) := by decide +kernel
theorem dX8_isPlace_1 : decode cX8_isPlace 1 = .ok (.invokestatic 77, 3) := by decide +kernel
theorem dX8_isPlace_4 : decode cX8_isPlace 4 = .ok (.ifCond .eq 26, 3) := by decide +kernel
theorem dX8_isPlace_7 : decode cX8_isPlace 7 = .ok (.iload_n 2, 1) := by decide +kernel
theorem dX8_isPlace_8 : decode cX8_isPlace 8 = .ok (.iconst 0, 1) := by decide +kernel
theorem dX8_isPlace_9 : decode cX8_isPlace 9 = .ok (.aload_n 0, 1) := by decide +kernel
theorem dX8_isPlace_10 : decode cX8_isPlace 10 = .ok (.getfield 12, 3) := by decide +kernel
theorem dX8_isPlace_13 : decode cX8_isPlace 13 = .ok (.getfield 81, 3) := by decide +kernel
theorem dX8_isPlace_16 : decode cX8_isPlace 16 = .ok (.iload_n 1, 1) := by decide +kernel
theorem dX8_isPlace_17 : decode cX8_isPlace 17 = .ok (.iaload, 1) := by decide +kernel
theorem dX8_isPlace_18 : decode cX8_isPlace 18 = .ok (.iconst 1, 1) := by decide +kernel
theorem dX8_isPlace_19 : decode cX8_isPlace 19 = .ok (.isub, 1) := by decide +kernel
theorem dX8_isPlace_20 : decode cX8_isPlace 20 = .ok (.invokestatic 85, 3) := by decide +kernel
theorem dX8_isPlace_23 : decode cX8_isPlace 23 = .ok (.ifCond .eq 7, 3) := by decide +kernel
theorem dX8_isPlace_26 : decode cX8_isPlace 26 = .ok (.iconst 1, 1) := by decide +kernel
theorem dX8_isPlace_27 : decode cX8_isPlace 27 = .ok (.goto 4, 3) := by decide +kernel
theorem dX8_isPlace_30 : decode cX8_isPlace 30 = .ok (.iconst 0, 1) := by decide +kernel
theorem dX8_isPlace_31 : decode cX8_isPlace 31 = .ok (.ireturn, 1) := by decide +kernel
end
section
theorem dX8_isKept_0 : decode cX8_isKept 0 = .ok (.iload_n 1, 1) := by decide +kernel
theorem dX8_isKept_1 : decode cX8_isKept 1 = .ok (.invokestatic 77, 3) := by decide +kernel
theorem dX8_isKept_4 : decode cX8_isKept 4 = .ok (.ifCond .eq 20, 3) := by decide +kernel
theorem dX8_isKept_7 : decode cX8_isKept 7 = .ok (.aload_n 0, 1) := by decide +kernel
theorem dX8_isKept_8 : decode cX8_isKept 8 = .ok (.getfield 52, 3) := by decide +kernel
theorem dX8_isKept_11 : decode cX8_isKept 11 = .ok (.getfield 181, 3) := by decide +kernel
theorem dX8_isKept_14 : decode cX8_isKept 14 = .ok (.iload_n 1, 1) := by decide +kernel
theorem dX8_isKept_15 : decode cX8_isKept 15 = .ok (.iaload, 1) := by decide +kernel
theorem dX8_isKept_16 : decode cX8_isKept 16 = .ok (.iconst (-1), 1) := by decide +kernel
theorem dX8_isKept_17 : decode cX8_isKept 17 = .ok (.if_icmp .eq 7, 3) := by decide +kernel
theorem dX8_isKept_20 : decode cX8_isKept 20 = .ok (.iconst 1, 1) := by decide +kernel
theorem dX8_isKept_21 : decode cX8_isKept 21 = .ok (.goto 4, 3) := by decide +kernel
theorem dX8_isKept_24 : decode cX8_isKept 24 = .ok (.iconst 0, 1) := by decide +kernel
theorem dX8_isKept_25 : decode cX8_isKept 25 = .ok (.ireturn, 1) := by decide +kernel
theorem dX8_agreesFromEnd_0 : decode cX8_agreesFromEnd 0 = .ok (.aload_n 0, 1) := by decide +kernel
theorem dX8_agreesFromEnd_1 : decode cX8_agreesFromEnd 1 = .ok (.getfield 35, 3) := by decide +kernel
theorem dX8_agreesFromEnd_4 : decode cX8_agreesFromEnd 4 = .ok (.getfield 139, 3) := by decide +kernel
theorem dX8_agreesFromEnd_7 : decode cX8_agreesFromEnd 7 = .ok (.iconst 1, 1) := by decide +kernel
theorem dX8_agreesFromEnd_8 : decode cX8_agreesFromEnd 8 = .ok (.isub, 1) := by decide +kernel
theorem dX8_agreesFromEnd_9 : decode cX8_agreesFromEnd 9 = .ok (.iload_n 1, 1) := by decide +kernel
theorem dX8_agreesFromEnd_10 : decode cX8_agreesFromEnd 10 = .ok (.isub, 1) := by decide +kernel
theorem dX8_agreesFromEnd_11 : decode cX8_agreesFromEnd 11 = .ok (.istore_n 2, 1) := by decide +kernel
theorem dX8_agreesFromEnd_12 : decode cX8_agreesFromEnd 12 = .ok (.aload_n 0, 1) := by decide +kernel
theorem dX8_agreesFromEnd_13 : decode cX8_agreesFromEnd 13 = .ok (.getfield 39, 3) := by decide +kernel
theorem dX8_agreesFromEnd_16 : decode cX8_agreesFromEnd 16 = .ok (.getfield 139, 3) := by decide +kernel
theorem dX8_agreesFromEnd_19 : decode cX8_agreesFromEnd 19 = .ok (.iconst 1, 1) := by decide +kernel
theorem dX8_agreesFromEnd_20 : decode cX8_agreesFromEnd 20 = .ok (.isub, 1) := by decide +kernel
theorem dX8_agreesFromEnd_21 : decode cX8_agreesFromEnd 21 = .ok (.iload_n 1, 1) := by decide +kernel
theorem dX8_agreesFromEnd_22 : decode cX8_agreesFromEnd 22 = .ok (.isub, 1) := by decide +kernel
theorem dX8_agreesFromEnd_23 : decode cX8_agreesFromEnd 23 = .ok (.istore_n 3, 1) := by decide +kernel
theorem dX8_agreesFromEnd_24 : decode cX8_agreesFromEnd 24 = .ok (.aload_n 0, 1) := by decide +kernel
theorem dX8_agreesFromEnd_25 : decode cX8_agreesFromEnd 25 = .ok (.getfield 35, 3) := by decide +kernel
theorem dX8_agreesFromEnd_28 : decode cX8_agreesFromEnd 28 = .ok (.iload_n 2, 1) := by decide +kernel
theorem dX8_agreesFromEnd_29 : decode cX8_agreesFromEnd 29 = .ok (.invokevirtual 239, 3) := by decide +kernel
theorem dX8_agreesFromEnd_32 : decode cX8_agreesFromEnd 32 = .ok (.istore 4, 2) := by decide +kernel
theorem dX8_agreesFromEnd_34 : decode cX8_agreesFromEnd 34 = .ok (.iload 4, 2) := by decide +kernel
theorem dX8_agreesFromEnd_36 : decode cX8_agreesFromEnd 36 = .ok (.aload_n 0, 1) := by decide +kernel
theorem dX8_agreesFromEnd_37 : decode cX8_agreesFromEnd 37 = .ok (.getfield 39, 3) := by decide +kernel
theorem dX8_agreesFromEnd_40 : decode cX8_agreesFromEnd 40 = .ok (.iload_n 3, 1) := by decide +kernel
theorem dX8_agreesFromEnd_41 : decode cX8_agreesFromEnd 41 = .ok (.invokevirtual 239, 3) := by decide +kernel
theorem dX8_agreesFromEnd_44 : decode cX8_agreesFromEnd 44 = .ok (.if_icmp .ne 45, 3) := by decide +kernel
theorem dX8_agreesFromEnd_47 : decode cX8_agreesFromEnd 47 = .ok (.aload_n 0, 1) := by decide +kernel
theorem dX8_agreesFromEnd_48 : decode cX8_agreesFromEnd 48 = .ok (.getfield 12, 3) := by decide +kernel
theorem dX8_agreesFromEnd_51 : decode cX8_agreesFromEnd 51 = .ok (.getfield 242, 3) := by decide +kernel
theorem dX8_agreesFromEnd_54 : decode cX8_agreesFromEnd 54 = .ok (.aload_n 0, 1) := by decide +kernel
theorem dX8_agreesFromEnd_55 : decode cX8_agreesFromEnd 55 = .ok (.getfield 35, 3) := by decide +kernel
theorem dX8_agreesFromEnd_58 : decode cX8_agreesFromEnd 58 = .ok (.iload_n 2, 1) := by decide +kernel
theorem dX8_agreesFromEnd_59 : decode cX8_agreesFromEnd 59 = .ok (.invokevirtual 246, 3) := by decide +kernel
theorem dX8_agreesFromEnd_62 : decode cX8_agreesFromEnd 62 = .ok (.aload_n 0, 1) := by decide +kernel
theorem dX8_agreesFromEnd_63 : decode cX8_agreesFromEnd 63 = .ok (.getfield 12, 3) := by decide +kernel
theorem dX8_agreesFromEnd_66 : decode cX8_agreesFromEnd 66 = .ok (.getfield 242, 3) := by decide +kernel
theorem dX8_agreesFromEnd_69 : decode cX8_agreesFromEnd 69 = .ok (.aload_n 0, 1) := by decide +kernel
theorem dX8_agreesFromEnd_70 : decode cX8_agreesFromEnd 70 = .ok (.getfield 39, 3) := by decide +kernel
theorem dX8_agreesFromEnd_73 : decode cX8_agreesFromEnd 73 = .ok (.iload_n 3, 1) := by decide +kernel
theorem dX8_agreesFromEnd_74 : decode cX8_agreesFromEnd 74 = .ok (.invokevirtual 246, 3) := by decide +kernel
theorem dX8_agreesFromEnd_77 : decode cX8_agreesFromEnd 77 = .ok (.iload 4, 2) := by decide +kernel
theorem dX8_agreesFromEnd_79 : decode cX8_agreesFromEnd 79 = .ok (.invokestatic 249, 3) := by decide +kernel
theorem dX8_agreesFromEnd_82 : decode cX8_agreesFromEnd 82 = .ok (.ifCond .eq 7, 3) := by decide +kernel
theorem dX8_agreesFromEnd_85 : decode cX8_agreesFromEnd 85 = .ok (.iconst 1, 1) := by decide +kernel
theorem dX8_agreesFromEnd_86 : decode cX8_agreesFromEnd 86 = .ok (.goto 4, 3) := by decide +kernel
theorem dX8_agreesFromEnd_89 : decode cX8_agreesFromEnd 89 = .ok (.iconst 0, 1) := by decide +kernel
theorem dX8_agreesFromEnd_90 : decode cX8_agreesFromEnd 90 = .ok (.ireturn, 1) := by decide +kernel
theorem dX8_roomByRule_0 : decode cX8_roomByRule 0 = .ok (.aload_n 0, 1) := by decide +kernel
theorem dX8_roomByRule_1 : decode cX8_roomByRule 1 = .ok (.getfield 45, 3) := by decide +kernel
theorem dX8_roomByRule_4 : decode cX8_roomByRule 4 = .ok (.invokevirtual 153, 3) := by decide +kernel
theorem dX8_roomByRule_7 : decode cX8_roomByRule 7 = .ok (.iconst 0, 1) := by decide +kernel
theorem dX8_roomByRule_8 : decode cX8_roomByRule 8 = .ok (.istore_n 3, 1) := by decide +kernel
theorem dX8_roomByRule_9 : decode cX8_roomByRule 9 = .ok (.iconst 0, 1) := by decide +kernel
theorem dX8_roomByRule_10 : decode cX8_roomByRule 10 = .ok (.istore 4, 2) := by decide +kernel
theorem dX8_roomByRule_12 : decode cX8_roomByRule 12 = .ok (.iconst 0, 1) := by decide +kernel
theorem dX8_roomByRule_13 : decode cX8_roomByRule 13 = .ok (.istore 5, 2) := by decide +kernel
theorem dX8_roomByRule_15 : decode cX8_roomByRule 15 = .ok (.iload 5, 2) := by decide +kernel
theorem dX8_roomByRule_17 : decode cX8_roomByRule 17 = .ok (.bipush 8, 2) := by decide +kernel
theorem dX8_roomByRule_19 : decode cX8_roomByRule 19 = .ok (.if_icmp .ge 55, 3) := by decide +kernel
theorem dX8_roomByRule_22 : decode cX8_roomByRule 22 = .ok (.iload_n 2, 1) := by decide +kernel
theorem dX8_roomByRule_23 : decode cX8_roomByRule 23 = .ok (.iload 5, 2) := by decide +kernel
theorem dX8_roomByRule_25 : decode cX8_roomByRule 25 = .ok (.ishr, 1) := by decide +kernel
theorem dX8_roomByRule_26 : decode cX8_roomByRule 26 = .ok (.iconst 1, 1) := by decide +kernel
theorem dX8_roomByRule_27 : decode cX8_roomByRule 27 = .ok (.iand, 1) := by decide +kernel
theorem dX8_roomByRule_28 : decode cX8_roomByRule 28 = .ok (.iconst 1, 1) := by decide +kernel
theorem dX8_roomByRule_29 : decode cX8_roomByRule 29 = .ok (.if_icmp .ne 39, 3) := by decide +kernel
theorem dX8_roomByRule_32 : decode cX8_roomByRule 32 = .ok (.aload_n 0, 1) := by decide +kernel
theorem dX8_roomByRule_33 : decode cX8_roomByRule 33 = .ok (.getfield 35, 3) := by decide +kernel
theorem dX8_roomByRule_36 : decode cX8_roomByRule 36 = .ok (.aload_n 1, 1) := by decide +kernel
theorem dX8_roomByRule_37 : decode cX8_roomByRule 37 = .ok (.iload 5, 2) := by decide +kernel
theorem dX8_roomByRule_39 : decode cX8_roomByRule 39 = .ok (.invokevirtual 136, 3) := by decide +kernel
theorem dX8_roomByRule_42 : decode cX8_roomByRule 42 = .ok (.iload_n 3, 1) := by decide +kernel
theorem dX8_roomByRule_43 : decode cX8_roomByRule 43 = .ok (.aload_n 0, 1) := by decide +kernel
theorem dX8_roomByRule_44 : decode cX8_roomByRule 44 = .ok (.getfield 45, 3) := by decide +kernel
theorem dX8_roomByRule_47 : decode cX8_roomByRule 47 = .ok (.aload_n 0, 1) := by decide +kernel
theorem dX8_roomByRule_48 : decode cX8_roomByRule 48 = .ok (.getfield 35, 3) := by decide +kernel
theorem dX8_roomByRule_51 : decode cX8_roomByRule 51 = .ok (.invokevirtual 156, 3) := by decide +kernel
theorem dX8_roomByRule_54 : decode cX8_roomByRule 54 = .ok (.iadd, 1) := by decide +kernel
theorem dX8_roomByRule_55 : decode cX8_roomByRule 55 = .ok (.istore_n 3, 1) := by decide +kernel
theorem dX8_roomByRule_56 : decode cX8_roomByRule 56 = .ok (.iload 4, 2) := by decide +kernel
theorem dX8_roomByRule_58 : decode cX8_roomByRule 58 = .ok (.aload_n 0, 1) := by decide +kernel
theorem dX8_roomByRule_59 : decode cX8_roomByRule 59 = .ok (.getfield 35, 3) := by decide +kernel
theorem dX8_roomByRule_62 : decode cX8_roomByRule 62 = .ok (.getfield 139, 3) := by decide +kernel
theorem dX8_roomByRule_65 : decode cX8_roomByRule 65 = .ok (.iadd, 1) := by decide +kernel
theorem dX8_roomByRule_66 : decode cX8_roomByRule 66 = .ok (.istore 4, 2) := by decide +kernel
theorem dX8_roomByRule_68 : decode cX8_roomByRule 68 = .ok (.iinc 5 1, 3) := by decide +kernel
theorem dX8_roomByRule_71 : decode cX8_roomByRule 71 = .ok (.goto (-56), 3) := by decide +kernel
theorem dX8_roomByRule_74 : decode cX8_roomByRule 74 = .ok (.aload_n 0, 1) := by decide +kernel
theorem dX8_roomByRule_75 : decode cX8_roomByRule 75 = .ok (.iload_n 3, 1) := by decide +kernel
theorem dX8_roomByRule_76 : decode cX8_roomByRule 76 = .ok (.aload_n 0, 1) := by decide +kernel
theorem dX8_roomByRule_77 : decode cX8_roomByRule 77 = .ok (.getfield 45, 3) := by decide +kernel
theorem dX8_roomByRule_80 : decode cX8_roomByRule 80 = .ok (.getfield 253, 3) := by decide +kernel
theorem dX8_roomByRule_83 : decode cX8_roomByRule 83 = .ok (.iload 4, 2) := by decide +kernel
theorem dX8_roomByRule_85 : decode cX8_roomByRule 85 = .ok (.invokevirtual 203, 3) := by decide +kernel
theorem dX8_roomByRule_88 : decode cX8_roomByRule 88 = .ok (.ireturn, 1) := by decide +kernel
theorem dX8_roomOf_0 : decode cX8_roomOf 0 = .ok (.iload_n 1, 1) := by decide +kernel
theorem dX8_roomOf_1 : decode cX8_roomOf 1 = .ok (.aload_n 0, 1) := by decide +kernel
theorem dX8_roomOf_2 : decode cX8_roomOf 2 = .ok (.getfield 63, 3) := by decide +kernel
theorem dX8_roomOf_5 : decode cX8_roomOf 5 = .ok (.iload_n 2, 1) := by decide +kernel
theorem dX8_roomOf_6 : decode cX8_roomOf 6 = .ok (.imul, 1) := by decide +kernel
theorem dX8_roomOf_7 : decode cX8_roomOf 7 = .ok (.iadd, 1) := by decide +kernel
theorem dX8_roomOf_8 : decode cX8_roomOf 8 = .ok (.aload_n 0, 1) := by decide +kernel
theorem dX8_roomOf_9 : decode cX8_roomOf 9 = .ok (.getfield 67, 3) := by decide +kernel
theorem dX8_roomOf_12 : decode cX8_roomOf 12 = .ok (.iload_n 3, 1) := by decide +kernel
theorem dX8_roomOf_13 : decode cX8_roomOf 13 = .ok (.imul, 1) := by decide +kernel
theorem dX8_roomOf_14 : decode cX8_roomOf 14 = .ok (.iadd, 1) := by decide +kernel
theorem dX8_roomOf_15 : decode cX8_roomOf 15 = .ok (.ireturn, 1) := by decide +kernel
theorem dX8_areAlike_0 : decode cX8_areAlike 0 = .ok (.iconst 0, 1) := by decide +kernel
theorem dX8_areAlike_1 : decode cX8_areAlike 1 = .ok (.istore 5, 2) := by decide +kernel
theorem dX8_areAlike_3 : decode cX8_areAlike 3 = .ok (.iload 5, 2) := by decide +kernel
theorem dX8_areAlike_5 : decode cX8_areAlike 5 = .ok (.iload 4, 2) := by decide +kernel
theorem dX8_areAlike_7 : decode cX8_areAlike 7 = .ok (.if_icmp .ge 26, 3) := by decide +kernel
theorem dX8_areAlike_10 : decode cX8_areAlike 10 = .ok (.aload_n 0, 1) := by decide +kernel
theorem dX8_areAlike_11 : decode cX8_areAlike 11 = .ok (.iload_n 1, 1) := by decide +kernel
theorem dX8_areAlike_12 : decode cX8_areAlike 12 = .ok (.iload 5, 2) := by decide +kernel
theorem dX8_areAlike_14 : decode cX8_areAlike 14 = .ok (.iadd, 1) := by decide +kernel
theorem dX8_areAlike_15 : decode cX8_areAlike 15 = .ok (.baload, 1) := by decide +kernel
theorem dX8_areAlike_16 : decode cX8_areAlike 16 = .ok (.aload_n 2, 1) := by decide +kernel
theorem dX8_areAlike_17 : decode cX8_areAlike 17 = .ok (.iload_n 3, 1) := by decide +kernel
theorem dX8_areAlike_18 : decode cX8_areAlike 18 = .ok (.iload 5, 2) := by decide +kernel
theorem dX8_areAlike_20 : decode cX8_areAlike 20 = .ok (.iadd, 1) := by decide +kernel
theorem dX8_areAlike_21 : decode cX8_areAlike 21 = .ok (.baload, 1) := by decide +kernel
theorem dX8_areAlike_22 : decode cX8_areAlike 22 = .ok (.if_icmp .eq 5, 3) := by decide +kernel
theorem dX8_areAlike_25 : decode cX8_areAlike 25 = .ok (.iconst 0, 1) := by decide +kernel
theorem dX8_areAlike_26 : decode cX8_areAlike 26 = .ok (.ireturn, 1) := by decide +kernel
theorem dX8_areAlike_27 : decode cX8_areAlike 27 = .ok (.iinc 5 1, 3) := by decide +kernel
theorem dX8_areAlike_30 : decode cX8_areAlike 30 = .ok (.goto (-27), 3) := by decide +kernel
theorem dX8_areAlike_33 : decode cX8_areAlike 33 = .ok (.iconst 1, 1) := by decide +kernel
theorem dX8_areAlike_34 : decode cX8_areAlike 34 = .ok (.ireturn, 1) := by decide +kernel
theorem dX8_spread_0 : decode cX8_spread 0 = .ok (.iload_n 0, 1) := by decide +kernel
theorem dX8_spread_1 : decode cX8_spread 1 = .ok (.ldc_w 256, 3) := by decide +kernel
theorem dX8_spread_4 : decode cX8_spread 4 = .ok (.imul, 1) := by decide +kernel
theorem dX8_spread_5 : decode cX8_spread 5 = .ok (.bipush 19, 2) := by decide +kernel
theorem dX8_spread_7 : decode cX8_spread 7 = .ok (.iushr, 1) := by decide +kernel
theorem dX8_spread_8 : decode cX8_spread 8 = .ok (.ireturn, 1) := by decide +kernel
theorem dX9_init_0 : decode cX9_init 0 = .ok (.aload_n 0, 1) := by decide +kernel
theorem dX9_init_1 : decode cX9_init 1 = .ok (.invokespecial 1, 3) := by decide +kernel
theorem dX9_init_4 : decode cX9_init 4 = .ok (.aload_n 0, 1) := by decide +kernel
theorem dX9_init_5 : decode cX9_init 5 = .ok (.bipush 8, 2) := by decide +kernel
theorem dX9_init_7 : decode cX9_init 7 = .ok (.newarray .int, 2) := by decide +kernel
theorem dX9_init_9 : decode cX9_init 9 = .ok (.putfield 7, 3) := by decide +kernel
theorem dX9_init_12 : decode cX9_init 12 = .ok (.aload_n 0, 1) := by decide +kernel
theorem dX9_init_13 : decode cX9_init 13 = .ok (.sipush 4800, 3) := by decide +kernel
theorem dX9_init_16 : decode cX9_init 16 = .ok (.newarray .int, 2) := by decide +kernel
theorem dX9_init_18 : decode cX9_init 18 = .ok (.putfield 13, 3) := by decide +kernel
theorem dX9_init_21 : decode cX9_init 21 = .ok (.aload_n 0, 1) := by decide +kernel
theorem dX9_init_22 : decode cX9_init 22 = .ok (.sipush 400, 3) := by decide +kernel
theorem dX9_init_25 : decode cX9_init 25 = .ok (.newarray .int, 2) := by decide +kernel
theorem dX9_init_27 : decode cX9_init 27 = .ok (.putfield 16, 3) := by decide +kernel
theorem dX9_init_30 : decode cX9_init 30 = .ok (.aload_n 0, 1) := by decide +kernel
theorem dX9_init_31 : decode cX9_init 31 = .ok (.bipush 6, 2) := by decide +kernel
theorem dX9_init_33 : decode cX9_init 33 = .ok (.newarray .int, 2) := by decide +kernel
theorem dX9_init_35 : decode cX9_init 35 = .ok (.putfield 19, 3) := by decide +kernel
theorem dX9_init_38 : decode cX9_init 38 = .ok (.aload_n 0, 1) := by decide +kernel
theorem dX9_init_39 : decode cX9_init 39 = .ok (.bipush 6, 2) := by decide +kernel
theorem dX9_init_41 : decode cX9_init 41 = .ok (.newarray .int, 2) := by decide +kernel
theorem dX9_init_43 : decode cX9_init 43 = .ok (.putfield 22, 3) := by decide +kernel
theorem dX9_init_46 : decode cX9_init 46 = .ok (.aload_n 0, 1) := by decide +kernel
theorem dX9_init_47 : decode cX9_init 47 = .ok (.bipush 6, 2) := by decide +kernel
theorem dX9_init_49 : decode cX9_init 49 = .ok (.newarray .int, 2) := by decide +kernel
theorem dX9_init_51 : decode cX9_init 51 = .ok (.putfield 25, 3) := by decide +kernel
theorem dX9_init_54 : decode cX9_init 54 = .ok (.aload_n 0, 1) := by decide +kernel
theorem dX9_init_55 : decode cX9_init 55 = .ok (.bipush 6, 2) := by decide +kernel
theorem dX9_init_57 : decode cX9_init 57 = .ok (.newarray .int, 2) := by decide +kernel
theorem dX9_init_59 : decode cX9_init 59 = .ok (.putfield 28, 3) := by decide +kernel
theorem dX9_init_62 : decode cX9_init 62 = .ok (.aload_n 0, 1) := by decide +kernel
theorem dX9_init_63 : decode cX9_init 63 = .ok (.bipush 6, 2) := by decide +kernel
theorem dX9_init_65 : decode cX9_init 65 = .ok (.newarray .int, 2) := by decide +kernel
theorem dX9_init_67 : decode cX9_init 67 = .ok (.putfield 31, 3) := by decide +kernel
theorem dX9_init_70 : decode cX9_init 70 = .ok (.aload_n 0, 1) := by decide +kernel
theorem dX9_init_71 : decode cX9_init 71 = .ok (.bipush 6, 2) := by decide +kernel
theorem dX9_init_73 : decode cX9_init 73 = .ok (.newarray .int, 2) := by decide +kernel
theorem dX9_init_75 : decode cX9_init 75 = .ok (.putfield 34, 3) := by decide +kernel
theorem dX9_init_78 : decode cX9_init 78 = .ok (.aload_n 0, 1) := by decide +kernel
theorem dX9_init_79 : decode cX9_init 79 = .ok (.sipush 601, 3) := by decide +kernel
theorem dX9_init_82 : decode cX9_init 82 = .ok (.newarray .int, 2) := by decide +kernel
theorem dX9_init_84 : decode cX9_init 84 = .ok (.putfield 37, 3) := by decide +kernel
theorem dX9_init_87 : decode cX9_init 87 = .ok (.aload_n 0, 1) := by decide +kernel
theorem dX9_init_88 : decode cX9_init 88 = .ok (.sipush 601, 3) := by decide +kernel
theorem dX9_init_91 : decode cX9_init 91 = .ok (.newarray .int, 2) := by decide +kernel
theorem dX9_init_93 : decode cX9_init 93 = .ok (.putfield 40, 3) := by decide +kernel
theorem dX9_init_96 : decode cX9_init 96 = .ok (.aload_n 0, 1) := by decide +kernel
theorem dX9_init_97 : decode cX9_init 97 = .ok (.bipush 8, 2) := by decide +kernel
theorem dX9_init_99 : decode cX9_init 99 = .ok (.putfield 43, 3) := by decide +kernel
theorem dX9_init_102 : decode cX9_init 102 = .ok (.aload_n 0, 1) := by decide +kernel
theorem dX9_init_103 : decode cX9_init 103 = .ok (.iconst 2, 1) := by decide +kernel
theorem dX9_init_104 : decode cX9_init 104 = .ok (.putfield 47, 3) := by decide +kernel
theorem dX9_init_107 : decode cX9_init 107 = .ok (.aload_n 0, 1) := by decide +kernel
theorem dX9_init_108 : decode cX9_init 108 = .ok (.sipush 4800, 3) := by decide +kernel
theorem dX9_init_111 : decode cX9_init 111 = .ok (.newarray .int, 2) := by decide +kernel
theorem dX9_init_113 : decode cX9_init 113 = .ok (.putfield 50, 3) := by decide +kernel
theorem dX9_init_116 : decode cX9_init 116 = .ok (.aload_n 0, 1) := by decide +kernel
theorem dX9_init_117 : decode cX9_init 117 = .ok (.sipush 4800, 3) := by decide +kernel
theorem dX9_init_120 : decode cX9_init 120 = .ok (.newarray .int, 2) := by decide +kernel
theorem dX9_init_122 : decode cX9_init 122 = .ok (.putfield 53, 3) := by decide +kernel
theorem dX9_init_125 : decode cX9_init 125 = .ok (.aload_n 0, 1) := by decide +kernel
theorem dX9_init_126 : decode cX9_init 126 = .ok (.sipush 4800, 3) := by decide +kernel
theorem dX9_init_129 : decode cX9_init 129 = .ok (.newarray .int, 2) := by decide +kernel
theorem dX9_init_131 : decode cX9_init 131 = .ok (.putfield 56, 3) := by decide +kernel
theorem dX9_init_134 : decode cX9_init 134 = .ok (.aload_n 0, 1) := by decide +kernel
theorem dX9_init_135 : decode cX9_init 135 = .ok (.sipush 4800, 3) := by decide +kernel
theorem dX9_init_138 : decode cX9_init 138 = .ok (.newarray .int, 2) := by decide +kernel
theorem dX9_init_140 : decode cX9_init 140 = .ok (.putfield 59, 3) := by decide +kernel
theorem dX9_init_143 : decode cX9_init 143 = .ok (.aload_n 0, 1) := by decide +kernel
theorem dX9_init_144 : decode cX9_init 144 = .ok (.sipush 301, 3) := by decide +kernel
theorem dX9_init_147 : decode cX9_init 147 = .ok (.newarray .int, 2) := by decide +kernel
theorem dX9_init_149 : decode cX9_init 149 = .ok (.putfield 62, 3) := by decide +kernel
theorem dX9_init_152 : decode cX9_init 152 = .ok (.aload_n 0, 1) := by decide +kernel
theorem dX9_init_153 : decode cX9_init 153 = .ok (.ldc 65, 2) := by decide +kernel
theorem dX9_init_155 : decode cX9_init 155 = .ok (.newarray .int, 2) := by decide +kernel
theorem dX9_init_157 : decode cX9_init 157 = .ok (.putfield 66, 3) := by decide +kernel
theorem dX9_init_160 : decode cX9_init 160 = .ok (.aload_n 0, 1) := by decide +kernel
theorem dX9_init_161 : decode cX9_init 161 = .ok (.sipush 301, 3) := by decide +kernel
theorem dX9_init_164 : decode cX9_init 164 = .ok (.newarray .int, 2) := by decide +kernel
theorem dX9_init_166 : decode cX9_init 166 = .ok (.putfield 69, 3) := by decide +kernel
theorem dX9_init_169 : decode cX9_init 169 = .ok (.aload_n 0, 1) := by decide +kernel
theorem dX9_init_170 : decode cX9_init 170 = .ok (.sipush 301, 3) := by decide +kernel
theorem dX9_init_173 : decode cX9_init 173 = .ok (.newarray .int, 2) := by decide +kernel
theorem dX9_init_175 : decode cX9_init 175 = .ok (.putfield 72, 3) := by decide +kernel
theorem dX9_init_178 : decode cX9_init 178 = .ok (.aload_n 0, 1) := by decide +kernel
theorem dX9_init_179 : decode cX9_init 179 = .ok (.bipush 8, 2) := by decide +kernel
theorem dX9_init_181 : decode cX9_init 181 = .ok (.newarray .boolean, 2) := by decide +kernel
theorem dX9_init_183 : decode cX9_init 183 = .ok (.putfield 75, 3) := by decide +kernel
theorem dX9_init_186 : decode cX9_init 186 = .ok (.aload_n 0, 1) := by decide +kernel
theorem dX9_init_187 : decode cX9_init 187 = .ok (.bipush 8, 2) := by decide +kernel
theorem dX9_init_189 : decode cX9_init 189 = .ok (.newarray .int, 2) := by decide +kernel
theorem dX9_init_191 : decode cX9_init 191 = .ok (.putfield 79, 3) := by decide +kernel
theorem dX9_init_194 : decode cX9_init 194 = .ok (.aload_n 0, 1) := by decide +kernel
theorem dX9_init_195 : decode cX9_init 195 = .ok (.sipush 4800, 3) := by decide +kernel
theorem dX9_init_198 : decode cX9_init 198 = .ok (.newarray .int, 2) := by decide +kernel
theorem dX9_init_200 : decode cX9_init 200 = .ok (.putfield 82, 3) := by decide +kernel
theorem dX9_init_203 : decode cX9_init 203 = .ok (.aload_n 0, 1) := by decide +kernel
theorem dX9_init_204 : decode cX9_init 204 = .ok (.sipush 600, 3) := by decide +kernel
theorem dX9_init_207 : decode cX9_init 207 = .ok (.newarray .int, 2) := by decide +kernel
theorem dX9_init_209 : decode cX9_init 209 = .ok (.putfield 85, 3) := by decide +kernel
theorem dX9_init_212 : decode cX9_init 212 = .ok (.aload_n 0, 1) := by decide +kernel
theorem dX9_init_213 : decode cX9_init 213 = .ok (.sipush 4800, 3) := by decide +kernel
theorem dX9_init_216 : decode cX9_init 216 = .ok (.newarray .int, 2) := by decide +kernel
theorem dX9_init_218 : decode cX9_init 218 = .ok (.putfield 88, 3) := by decide +kernel
theorem dX9_init_221 : decode cX9_init 221 = .ok (.aload_n 0, 1) := by decide +kernel
theorem dX9_init_222 : decode cX9_init 222 = .ok (.bipush 8, 2) := by decide +kernel
theorem dX9_init_224 : decode cX9_init 224 = .ok (.newarray .int, 2) := by decide +kernel
theorem dX9_init_226 : decode cX9_init 226 = .ok (.putfield 91, 3) := by decide +kernel
theorem dX9_init_229 : decode cX9_init 229 = .ok (.aload_n 0, 1) := by decide +kernel
theorem dX9_init_230 : decode cX9_init 230 = .ok (.ldc 94, 2) := by decide +kernel
theorem dX9_init_232 : decode cX9_init 232 = .ok (.newarray .int, 2) := by decide +kernel
theorem dX9_init_234 : decode cX9_init 234 = .ok (.putfield 95, 3) := by decide +kernel
theorem dX9_init_237 : decode cX9_init 237 = .ok (.aload_n 0, 1) := by decide +kernel
theorem dX9_init_238 : decode cX9_init 238 = .ok (.ldc 94, 2) := by decide +kernel
theorem dX9_init_240 : decode cX9_init 240 = .ok (.newarray .int, 2) := by decide +kernel
theorem dX9_init_242 : decode cX9_init 242 = .ok (.putfield 98, 3) := by decide +kernel
theorem dX9_init_245 : decode cX9_init 245 = .ok (.aload_n 0, 1) := by decide +kernel
theorem dX9_init_246 : decode cX9_init 246 = .ok (.sipush 200, 3) := by decide +kernel
theorem dX9_init_249 : decode cX9_init 249 = .ok (.newarray .int, 2) := by decide +kernel
theorem dX9_init_251 : decode cX9_init 251 = .ok (.putfield 101, 3) := by decide +kernel
theorem dX9_init_254 : decode cX9_init 254 = .ok (.aload_n 0, 1) := by decide +kernel
theorem dX9_init_255 : decode cX9_init 255 = .ok (.sipush 200, 3) := by decide +kernel
theorem dX9_init_258 : decode cX9_init 258 = .ok (.newarray .int, 2) := by decide +kernel
theorem dX9_init_260 : decode cX9_init 260 = .ok (.putfield 104, 3) := by decide +kernel
theorem dX9_init_263 : decode cX9_init 263 = .ok (.aload_n 0, 1) := by decide +kernel
theorem dX9_init_264 : decode cX9_init 264 = .ok (.sipush 200, 3) := by decide +kernel
theorem dX9_init_267 : decode cX9_init 267 = .ok (.newarray .int, 2) := by decide +kernel
theorem dX9_init_269 : decode cX9_init 269 = .ok (.putfield 107, 3) := by decide +kernel
theorem dX9_init_272 : decode cX9_init 272 = .ok (.return_, 1) := by decide +kernel
theorem dX9_feed_0 : decode cX9_feed 0 = .ok (.aload_n 0, 1) := by decide +kernel
theorem dX9_feed_1 : decode cX9_feed 1 = .ok (.getfield 110, 3) := by decide +kernel
theorem dX9_feed_4 : decode cX9_feed 4 = .ok (.bipush 20, 2) := by decide +kernel
theorem dX9_feed_6 : decode cX9_feed 6 = .ok (.iadd, 1) := by decide +kernel
theorem dX9_feed_7 : decode cX9_feed 7 = .ok (.sipush 400, 3) := by decide +kernel
theorem dX9_feed_10 : decode cX9_feed 10 = .ok (.if_icmp .le 5, 3) := by decide +kernel
theorem dX9_feed_13 : decode cX9_feed 13 = .ok (.iconst (-1), 1) := by decide +kernel
theorem dX9_feed_14 : decode cX9_feed 14 = .ok (.ireturn, 1) := by decide +kernel
theorem dX9_feed_15 : decode cX9_feed 15 = .ok (.iconst 0, 1) := by decide +kernel
theorem dX9_feed_16 : decode cX9_feed 16 = .ok (.istore 6, 2) := by decide +kernel
theorem dX9_feed_18 : decode cX9_feed 18 = .ok (.iload 6, 2) := by decide +kernel
theorem dX9_feed_20 : decode cX9_feed 20 = .ok (.bipush 20, 2) := by decide +kernel
theorem dX9_feed_22 : decode cX9_feed 22 = .ok (.if_icmp .ge 92, 3) := by decide +kernel
theorem dX9_feed_25 : decode cX9_feed 25 = .ok (.iload 6, 2) := by decide +kernel
theorem dX9_feed_27 : decode cX9_feed 27 = .ok (.iconst 4, 1) := by decide +kernel
theorem dX9_feed_28 : decode cX9_feed 28 = .ok (.if_icmp .ge 7, 3) := by decide +kernel
theorem dX9_feed_31 : decode cX9_feed 31 = .ok (.iload_n 1, 1) := by decide +kernel
theorem dX9_feed_32 : decode cX9_feed 32 = .ok (.goto 39, 3) := by decide +kernel
theorem dX9_feed_35 : decode cX9_feed 35 = .ok (.iload 6, 2) := by decide +kernel
theorem dX9_feed_37 : decode cX9_feed 37 = .ok (.bipush 8, 2) := by decide +kernel
theorem dX9_feed_39 : decode cX9_feed 39 = .ok (.if_icmp .ge 7, 3) := by decide +kernel
theorem dX9_feed_42 : decode cX9_feed 42 = .ok (.iload_n 2, 1) := by decide +kernel
theorem dX9_feed_43 : decode cX9_feed 43 = .ok (.goto 28, 3) := by decide +kernel
theorem dX9_feed_46 : decode cX9_feed 46 = .ok (.iload 6, 2) := by decide +kernel
theorem dX9_feed_48 : decode cX9_feed 48 = .ok (.bipush 12, 2) := by decide +kernel
theorem dX9_feed_50 : decode cX9_feed 50 = .ok (.if_icmp .ge 7, 3) := by decide +kernel
theorem dX9_feed_53 : decode cX9_feed 53 = .ok (.iload_n 3, 1) := by decide +kernel
theorem dX9_feed_54 : decode cX9_feed 54 = .ok (.goto 17, 3) := by decide +kernel
theorem dX9_feed_57 : decode cX9_feed 57 = .ok (.iload 6, 2) := by decide +kernel
theorem dX9_feed_59 : decode cX9_feed 59 = .ok (.bipush 16, 2) := by decide +kernel
theorem dX9_feed_61 : decode cX9_feed 61 = .ok (.if_icmp .ge 8, 3) := by decide +kernel
theorem dX9_feed_64 : decode cX9_feed 64 = .ok (.iload 4, 2) := by decide +kernel
theorem dX9_feed_66 : decode cX9_feed 66 = .ok (.goto 5, 3) := by decide +kernel
theorem dX9_feed_69 : decode cX9_feed 69 = .ok (.iload 5, 2) := by decide +kernel
theorem dX9_feed_71 : decode cX9_feed 71 = .ok (.istore 7, 2) := by decide +kernel
theorem dX9_feed_73 : decode cX9_feed 73 = .ok (.aload_n 0, 1) := by decide +kernel
theorem dX9_feed_74 : decode cX9_feed 74 = .ok (.getfield 16, 3) := by decide +kernel
theorem dX9_feed_77 : decode cX9_feed 77 = .ok (.aload_n 0, 1) := by decide +kernel
theorem dX9_feed_78 : decode cX9_feed 78 = .ok (.getfield 110, 3) := by decide +kernel
theorem dX9_feed_81 : decode cX9_feed 81 = .ok (.iload 7, 2) := by decide +kernel
theorem dX9_feed_83 : decode cX9_feed 83 = .ok (.bipush 8, 2) := by decide +kernel
theorem dX9_feed_85 : decode cX9_feed 85 = .ok (.iconst 3, 1) := by decide +kernel
theorem dX9_feed_86 : decode cX9_feed 86 = .ok (.iload 6, 2) := by decide +kernel
theorem dX9_feed_88 : decode cX9_feed 88 = .ok (.iconst 4, 1) := by decide +kernel
theorem dX9_feed_89 : decode cX9_feed 89 = .ok (.irem, 1) := by decide +kernel
theorem dX9_feed_90 : decode cX9_feed 90 = .ok (.isub, 1) := by decide +kernel
theorem dX9_feed_91 : decode cX9_feed 91 = .ok (.imul, 1) := by decide +kernel
theorem dX9_feed_92 : decode cX9_feed 92 = .ok (.ishr, 1) := by decide +kernel
theorem dX9_feed_93 : decode cX9_feed 93 = .ok (.sipush 255, 3) := by decide +kernel
theorem dX9_feed_96 : decode cX9_feed 96 = .ok (.iand, 1) := by decide +kernel
theorem dX9_feed_97 : decode cX9_feed 97 = .ok (.iastore, 1) := by decide +kernel
theorem dX9_feed_98 : decode cX9_feed 98 = .ok (.aload_n 0, 1) := by decide +kernel
theorem dX9_feed_99 : decode cX9_feed 99 = .ok (.dup, 1) := by decide +kernel
theorem dX9_feed_100 : decode cX9_feed 100 = .ok (.getfield 110, 3) := by decide +kernel
theorem dX9_feed_103 : decode cX9_feed 103 = .ok (.iconst 1, 1) := by decide +kernel
theorem dX9_feed_104 : decode cX9_feed 104 = .ok (.iadd, 1) := by decide +kernel
theorem dX9_feed_105 : decode cX9_feed 105 = .ok (.putfield 110, 3) := by decide +kernel
theorem dX9_feed_108 : decode cX9_feed 108 = .ok (.iinc 6 1, 3) := by decide +kernel
theorem dX9_feed_111 : decode cX9_feed 111 = .ok (.goto (-93), 3) := by decide +kernel
theorem dX9_feed_114 : decode cX9_feed 114 = .ok (.aload_n 0, 1) := by decide +kernel
theorem dX9_feed_115 : decode cX9_feed 115 = .ok (.getfield 110, 3) := by decide +kernel
theorem dX9_feed_118 : decode cX9_feed 118 = .ok (.ireturn, 1) := by decide +kernel
theorem dX9_end_0 : decode cX9_end 0 = .ok (.iload_n 1, 1) := by decide +kernel
theorem dX9_end_1 : decode cX9_end 1 = .ok (.ifCond .lt 11, 3) := by decide +kernel
theorem dX9_end_4 : decode cX9_end 4 = .ok (.iload_n 1, 1) := by decide +kernel
theorem dX9_end_5 : decode cX9_end 5 = .ok (.aload_n 0, 1) := by decide +kernel
theorem dX9_end_6 : decode cX9_end 6 = .ok (.getfield 110, 3) := by decide +kernel
theorem dX9_end_9 : decode cX9_end 9 = .ok (.if_icmp .le 5, 3) := by decide +kernel
theorem dX9_end_12 : decode cX9_end 12 = .ok (.iconst 0, 1) := by decide +kernel
theorem dX9_end_13 : decode cX9_end 13 = .ok (.ireturn, 1) := by decide +kernel
theorem dX9_end_14 : decode cX9_end 14 = .ok (.aload_n 0, 1) := by decide +kernel
theorem dX9_end_15 : decode cX9_end 15 = .ok (.iload_n 1, 1) := by decide +kernel
theorem dX9_end_16 : decode cX9_end 16 = .ok (.putfield 110, 3) := by decide +kernel
theorem dX9_end_19 : decode cX9_end 19 = .ok (.iconst 1, 1) := by decide +kernel
theorem dX9_end_20 : decode cX9_end 20 = .ok (.ireturn, 1) := by decide +kernel
theorem dX9_isFile_0 : decode cX9_isFile 0 = .ok (.iload_n 0, 1) := by decide +kernel
theorem dX9_isFile_1 : decode cX9_isFile 1 = .ok (.ifCond .lt 13, 3) := by decide +kernel
theorem dX9_isFile_4 : decode cX9_isFile 4 = .ok (.iload_n 0, 1) := by decide +kernel
theorem dX9_isFile_5 : decode cX9_isFile 5 = .ok (.bipush 8, 2) := by decide +kernel
theorem dX9_isFile_7 : decode cX9_isFile 7 = .ok (.if_icmp .ge 7, 3) := by decide +kernel
theorem dX9_isFile_10 : decode cX9_isFile 10 = .ok (.iconst 1, 1) := by decide +kernel
theorem dX9_isFile_11 : decode cX9_isFile 11 = .ok (.goto 4, 3) := by decide +kernel
theorem dX9_isFile_14 : decode cX9_isFile 14 = .ok (.iconst 0, 1) := by decide +kernel
theorem dX9_isFile_15 : decode cX9_isFile 15 = .ok (.ireturn, 1) := by decide +kernel
theorem dX9_isIn_0 : decode cX9_isIn 0 = .ok (.iload_n 0, 1) := by decide +kernel
theorem dX9_isIn_1 : decode cX9_isIn 1 = .ok (.iload_n 1, 1) := by decide +kernel
theorem dX9_isIn_2 : decode cX9_isIn 2 = .ok (.if_icmp .lt 12, 3) := by decide +kernel
theorem dX9_isIn_5 : decode cX9_isIn 5 = .ok (.iload_n 0, 1) := by decide +kernel
theorem dX9_isIn_6 : decode cX9_isIn 6 = .ok (.iload_n 2, 1) := by decide +kernel
theorem dX9_isIn_7 : decode cX9_isIn 7 = .ok (.if_icmp .gt 7, 3) := by decide +kernel
theorem dX9_isIn_10 : decode cX9_isIn 10 = .ok (.iconst 1, 1) := by decide +kernel
theorem dX9_isIn_11 : decode cX9_isIn 11 = .ok (.goto 4, 3) := by decide +kernel
theorem dX9_isIn_14 : decode cX9_isIn 14 = .ok (.iconst 0, 1) := by decide +kernel
theorem dX9_isIn_15 : decode cX9_isIn 15 = .ok (.ireturn, 1) := by decide +kernel
theorem dX9_edit_0 : decode cX9_edit 0 = .ok (.iload_n 1, 1) := by decide +kernel
theorem dX9_edit_1 : decode cX9_edit 1 = .ok (.invokestatic 113, 3) := by decide +kernel
theorem dX9_edit_4 : decode cX9_edit 4 = .ok (.ifCond .eq 33, 3) := by decide +kernel
theorem dX9_edit_7 : decode cX9_edit 7 = .ok (.iload_n 2, 1) := by decide +kernel
theorem dX9_edit_8 : decode cX9_edit 8 = .ok (.ifCond .lt 29, 3) := by decide +kernel
theorem dX9_edit_11 : decode cX9_edit 11 = .ok (.iload_n 2, 1) := by decide +kernel
theorem dX9_edit_12 : decode cX9_edit 12 = .ok (.aload_n 0, 1) := by decide +kernel
theorem dX9_edit_13 : decode cX9_edit 13 = .ok (.getfield 7, 3) := by decide +kernel
theorem dX9_edit_16 : decode cX9_edit 16 = .ok (.iload_n 1, 1) := by decide +kernel
theorem dX9_edit_17 : decode cX9_edit 17 = .ok (.iaload, 1) := by decide +kernel
theorem dX9_edit_18 : decode cX9_edit 18 = .ok (.if_icmp .gt 19, 3) := by decide +kernel
theorem dX9_edit_21 : decode cX9_edit 21 = .ok (.iload_n 3, 1) := by decide +kernel
theorem dX9_edit_22 : decode cX9_edit 22 = .ok (.ifCond .lt 15, 3) := by decide +kernel
theorem dX9_edit_25 : decode cX9_edit 25 = .ok (.iload_n 3, 1) := by decide +kernel
theorem dX9_edit_26 : decode cX9_edit 26 = .ok (.aload_n 0, 1) := by decide +kernel
theorem dX9_edit_27 : decode cX9_edit 27 = .ok (.getfield 7, 3) := by decide +kernel
theorem dX9_edit_30 : decode cX9_edit 30 = .ok (.iload_n 1, 1) := by decide +kernel
theorem dX9_edit_31 : decode cX9_edit 31 = .ok (.iaload, 1) := by decide +kernel
theorem dX9_edit_32 : decode cX9_edit 32 = .ok (.iload_n 2, 1) := by decide +kernel
theorem dX9_edit_33 : decode cX9_edit 33 = .ok (.isub, 1) := by decide +kernel
theorem dX9_edit_34 : decode cX9_edit 34 = .ok (.if_icmp .le 5, 3) := by decide +kernel
theorem dX9_edit_37 : decode cX9_edit 37 = .ok (.iconst (-1), 1) := by decide +kernel
theorem dX9_edit_38 : decode cX9_edit 38 = .ok (.ireturn, 1) := by decide +kernel
theorem dX9_edit_39 : decode cX9_edit 39 = .ok (.aload_n 0, 1) := by decide +kernel
theorem dX9_edit_40 : decode cX9_edit 40 = .ok (.getfield 7, 3) := by decide +kernel
theorem dX9_edit_43 : decode cX9_edit 43 = .ok (.iload_n 1, 1) := by decide +kernel
theorem dX9_edit_44 : decode cX9_edit 44 = .ok (.iaload, 1) := by decide +kernel
theorem dX9_edit_45 : decode cX9_edit 45 = .ok (.iload_n 3, 1) := by decide +kernel
theorem dX9_edit_46 : decode cX9_edit 46 = .ok (.isub, 1) := by decide +kernel
theorem dX9_edit_47 : decode cX9_edit 47 = .ok (.aload_n 0, 1) := by decide +kernel
theorem dX9_edit_48 : decode cX9_edit 48 = .ok (.getfield 110, 3) := by decide +kernel
theorem dX9_edit_51 : decode cX9_edit 51 = .ok (.iadd, 1) := by decide +kernel
theorem dX9_edit_52 : decode cX9_edit 52 = .ok (.istore 4, 2) := by decide +kernel
theorem dX9_edit_54 : decode cX9_edit 54 = .ok (.iload 4, 2) := by decide +kernel
theorem dX9_edit_56 : decode cX9_edit 56 = .ok (.sipush 600, 3) := by decide +kernel
theorem dX9_edit_59 : decode cX9_edit 59 = .ok (.if_icmp .le 6, 3) := by decide +kernel
theorem dX9_edit_62 : decode cX9_edit 62 = .ok (.bipush (-2), 2) := by decide +kernel
theorem dX9_edit_64 : decode cX9_edit 64 = .ok (.ireturn, 1) := by decide +kernel
theorem dX9_edit_65 : decode cX9_edit 65 = .ok (.aload_n 0, 1) := by decide +kernel
theorem dX9_edit_66 : decode cX9_edit 66 = .ok (.getfield 110, 3) := by decide +kernel
theorem dX9_edit_69 : decode cX9_edit 69 = .ok (.iload_n 3, 1) := by decide +kernel
theorem dX9_edit_70 : decode cX9_edit 70 = .ok (.isub, 1) := by decide +kernel
theorem dX9_edit_71 : decode cX9_edit 71 = .ok (.istore 5, 2) := by decide +kernel
theorem dX9_edit_73 : decode cX9_edit 73 = .ok (.sipush 600, 3) := by decide +kernel
theorem dX9_edit_76 : decode cX9_edit 76 = .ok (.iload_n 1, 1) := by decide +kernel
theorem dX9_edit_77 : decode cX9_edit 77 = .ok (.imul, 1) := by decide +kernel
theorem dX9_edit_78 : decode cX9_edit 78 = .ok (.istore 6, 2) := by decide +kernel
theorem dX9_edit_80 : decode cX9_edit 80 = .ok (.iload 5, 2) := by decide +kernel
theorem dX9_edit_82 : decode cX9_edit 82 = .ok (.ifCond .le 53, 3) := by decide +kernel
theorem dX9_edit_85 : decode cX9_edit 85 = .ok (.aload_n 0, 1) := by decide +kernel
theorem dX9_edit_86 : decode cX9_edit 86 = .ok (.getfield 7, 3) := by decide +kernel
theorem dX9_edit_89 : decode cX9_edit 89 = .ok (.iload_n 1, 1) := by decide +kernel
theorem dX9_edit_90 : decode cX9_edit 90 = .ok (.iaload, 1) := by decide +kernel
theorem dX9_edit_91 : decode cX9_edit 91 = .ok (.iconst 1, 1) := by decide +kernel
theorem dX9_edit_92 : decode cX9_edit 92 = .ok (.isub, 1) := by decide +kernel
theorem dX9_edit_93 : decode cX9_edit 93 = .ok (.istore 7, 2) := by decide +kernel
theorem dX9_edit_95 : decode cX9_edit 95 = .ok (.iload 7, 2) := by decide +kernel
theorem dX9_edit_97 : decode cX9_edit 97 = .ok (.iload_n 2, 1) := by decide +kernel
theorem dX9_edit_98 : decode cX9_edit 98 = .ok (.iload_n 3, 1) := by decide +kernel
theorem dX9_edit_99 : decode cX9_edit 99 = .ok (.iadd, 1) := by decide +kernel
theorem dX9_edit_100 : decode cX9_edit 100 = .ok (.if_icmp .lt 32, 3) := by decide +kernel
theorem dX9_edit_103 : decode cX9_edit 103 = .ok (.aload_n 0, 1) := by decide +kernel
theorem dX9_edit_104 : decode cX9_edit 104 = .ok (.getfield 13, 3) := by decide +kernel
theorem dX9_edit_107 : decode cX9_edit 107 = .ok (.iload 6, 2) := by decide +kernel
theorem dX9_edit_109 : decode cX9_edit 109 = .ok (.iload 7, 2) := by decide +kernel
theorem dX9_edit_111 : decode cX9_edit 111 = .ok (.iadd, 1) := by decide +kernel
theorem dX9_edit_112 : decode cX9_edit 112 = .ok (.iload 5, 2) := by decide +kernel
theorem dX9_edit_114 : decode cX9_edit 114 = .ok (.iadd, 1) := by decide +kernel
theorem dX9_edit_115 : decode cX9_edit 115 = .ok (.aload_n 0, 1) := by decide +kernel
theorem dX9_edit_116 : decode cX9_edit 116 = .ok (.getfield 13, 3) := by decide +kernel
theorem dX9_edit_119 : decode cX9_edit 119 = .ok (.iload 6, 2) := by decide +kernel
theorem dX9_edit_121 : decode cX9_edit 121 = .ok (.iload 7, 2) := by decide +kernel
theorem dX9_edit_123 : decode cX9_edit 123 = .ok (.iadd, 1) := by decide +kernel
theorem dX9_edit_124 : decode cX9_edit 124 = .ok (.iaload, 1) := by decide +kernel
theorem dX9_edit_125 : decode cX9_edit 125 = .ok (.iastore, 1) := by decide +kernel
theorem dX9_edit_126 : decode cX9_edit 126 = .ok (.iinc 7 (-1), 3) := by decide +kernel
theorem dX9_edit_129 : decode cX9_edit 129 = .ok (.goto (-34), 3) := by decide +kernel
theorem dX9_edit_132 : decode cX9_edit 132 = .ok (.goto 48, 3) := by decide +kernel
theorem dX9_edit_135 : decode cX9_edit 135 = .ok (.iload_n 2, 1) := by decide +kernel
theorem dX9_edit_136 : decode cX9_edit 136 = .ok (.iload_n 3, 1) := by decide +kernel
theorem dX9_edit_137 : decode cX9_edit 137 = .ok (.iadd, 1) := by decide +kernel
theorem dX9_edit_138 : decode cX9_edit 138 = .ok (.istore 7, 2) := by decide +kernel
theorem dX9_edit_140 : decode cX9_edit 140 = .ok (.iload 7, 2) := by decide +kernel
theorem dX9_edit_142 : decode cX9_edit 142 = .ok (.aload_n 0, 1) := by decide +kernel
theorem dX9_edit_143 : decode cX9_edit 143 = .ok (.getfield 7, 3) := by decide +kernel
theorem dX9_edit_146 : decode cX9_edit 146 = .ok (.iload_n 1, 1) := by decide +kernel
theorem dX9_edit_147 : decode cX9_edit 147 = .ok (.iaload, 1) := by decide +kernel
theorem dX9_edit_148 : decode cX9_edit 148 = .ok (.if_icmp .ge 32, 3) := by decide +kernel
theorem dX9_edit_151 : decode cX9_edit 151 = .ok (.aload_n 0, 1) := by decide +kernel
theorem dX9_edit_152 : decode cX9_edit 152 = .ok (.getfield 13, 3) := by decide +kernel
theorem dX9_edit_155 : decode cX9_edit 155 = .ok (.iload 6, 2) := by decide +kernel
theorem dX9_edit_157 : decode cX9_edit 157 = .ok (.iload 7, 2) := by decide +kernel
theorem dX9_edit_159 : decode cX9_edit 159 = .ok (.iadd, 1) := by decide +kernel
theorem dX9_edit_160 : decode cX9_edit 160 = .ok (.iload 5, 2) := by decide +kernel
theorem dX9_edit_162 : decode cX9_edit 162 = .ok (.iadd, 1) := by decide +kernel
theorem dX9_edit_163 : decode cX9_edit 163 = .ok (.aload_n 0, 1) := by decide +kernel
theorem dX9_edit_164 : decode cX9_edit 164 = .ok (.getfield 13, 3) := by decide +kernel
theorem dX9_edit_167 : decode cX9_edit 167 = .ok (.iload 6, 2) := by decide +kernel
theorem dX9_edit_169 : decode cX9_edit 169 = .ok (.iload 7, 2) := by decide +kernel
theorem dX9_edit_171 : decode cX9_edit 171 = .ok (.iadd, 1) := by decide +kernel
theorem dX9_edit_172 : decode cX9_edit 172 = .ok (.iaload, 1) := by decide +kernel
theorem dX9_edit_173 : decode cX9_edit 173 = .ok (.iastore, 1) := by decide +kernel
theorem dX9_edit_174 : decode cX9_edit 174 = .ok (.iinc 7 1, 3) := by decide +kernel
theorem dX9_edit_177 : decode cX9_edit 177 = .ok (.goto (-37), 3) := by decide +kernel
theorem dX9_edit_180 : decode cX9_edit 180 = .ok (.iconst 0, 1) := by decide +kernel
theorem dX9_edit_181 : decode cX9_edit 181 = .ok (.istore 7, 2) := by decide +kernel
theorem dX9_edit_183 : decode cX9_edit 183 = .ok (.iload 7, 2) := by decide +kernel
theorem dX9_edit_185 : decode cX9_edit 185 = .ok (.aload_n 0, 1) := by decide +kernel
theorem dX9_edit_186 : decode cX9_edit 186 = .ok (.getfield 110, 3) := by decide +kernel
theorem dX9_edit_189 : decode cX9_edit 189 = .ok (.if_icmp .ge 28, 3) := by decide +kernel
theorem dX9_edit_192 : decode cX9_edit 192 = .ok (.aload_n 0, 1) := by decide +kernel
theorem dX9_edit_193 : decode cX9_edit 193 = .ok (.getfield 13, 3) := by decide +kernel
theorem dX9_edit_196 : decode cX9_edit 196 = .ok (.iload 6, 2) := by decide +kernel
theorem dX9_edit_198 : decode cX9_edit 198 = .ok (.iload_n 2, 1) := by decide +kernel
theorem dX9_edit_199 : decode cX9_edit 199 = .ok (.iadd, 1) := by decide +kernel
theorem dX9_edit_200 : decode cX9_edit 200 = .ok (.iload 7, 2) := by decide +kernel
theorem dX9_edit_202 : decode cX9_edit 202 = .ok (.iadd, 1) := by decide +kernel
theorem dX9_edit_203 : decode cX9_edit 203 = .ok (.aload_n 0, 1) := by decide +kernel
theorem dX9_edit_204 : decode cX9_edit 204 = .ok (.getfield 16, 3) := by decide +kernel
theorem dX9_edit_207 : decode cX9_edit 207 = .ok (.iload 7, 2) := by decide +kernel
theorem dX9_edit_209 : decode cX9_edit 209 = .ok (.iaload, 1) := by decide +kernel
theorem dX9_edit_210 : decode cX9_edit 210 = .ok (.iastore, 1) := by decide +kernel
theorem dX9_edit_211 : decode cX9_edit 211 = .ok (.iinc 7 1, 3) := by decide +kernel
theorem dX9_edit_214 : decode cX9_edit 214 = .ok (.goto (-31), 3) := by decide +kernel
theorem dX9_edit_217 : decode cX9_edit 217 = .ok (.aload_n 0, 1) := by decide +kernel
theorem dX9_edit_218 : decode cX9_edit 218 = .ok (.getfield 7, 3) := by decide +kernel
theorem dX9_edit_221 : decode cX9_edit 221 = .ok (.iload_n 1, 1) := by decide +kernel
theorem dX9_edit_222 : decode cX9_edit 222 = .ok (.iload 4, 2) := by decide +kernel
theorem dX9_edit_224 : decode cX9_edit 224 = .ok (.iastore, 1) := by decide +kernel
theorem dX9_edit_225 : decode cX9_edit 225 = .ok (.aload_n 0, 1) := by decide +kernel
theorem dX9_edit_226 : decode cX9_edit 226 = .ok (.iconst 0, 1) := by decide +kernel
theorem dX9_edit_227 : decode cX9_edit 227 = .ok (.putfield 110, 3) := by decide +kernel
theorem dX9_edit_230 : decode cX9_edit 230 = .ok (.iload 4, 2) := by decide +kernel
theorem dX9_edit_232 : decode cX9_edit 232 = .ok (.ireturn, 1) := by decide +kernel
theorem dX9_sow_0 : decode cX9_sow 0 = .ok (.iload_n 1, 1) := by decide +kernel
theorem dX9_sow_1 : decode cX9_sow 1 = .ok (.invokestatic 113, 3) := by decide +kernel
theorem dX9_sow_4 : decode cX9_sow 4 = .ok (.ifCond .eq 40, 3) := by decide +kernel
theorem dX9_sow_7 : decode cX9_sow 7 = .ok (.iload_n 2, 1) := by decide +kernel
theorem dX9_sow_8 : decode cX9_sow 8 = .ok (.iconst 1, 1) := by decide +kernel
theorem dX9_sow_9 : decode cX9_sow 9 = .ok (.sipush 200, 3) := by decide +kernel
theorem dX9_sow_12 : decode cX9_sow 12 = .ok (.invokestatic 117, 3) := by decide +kernel
theorem dX9_sow_15 : decode cX9_sow 15 = .ok (.ifCond .eq 29, 3) := by decide +kernel
theorem dX9_sow_18 : decode cX9_sow 18 = .ok (.iload 4, 2) := by decide +kernel
theorem dX9_sow_20 : decode cX9_sow 20 = .ok (.iconst 1, 1) := by decide +kernel
theorem dX9_sow_21 : decode cX9_sow 21 = .ok (.sipush 256, 3) := by decide +kernel
theorem dX9_sow_24 : decode cX9_sow 24 = .ok (.invokestatic 117, 3) := by decide +kernel
theorem dX9_sow_27 : decode cX9_sow 27 = .ok (.ifCond .eq 17, 3) := by decide +kernel
theorem dX9_sow_30 : decode cX9_sow 30 = .ok (.aload_n 0, 1) := by decide +kernel
theorem dX9_sow_31 : decode cX9_sow 31 = .ok (.getfield 7, 3) := by decide +kernel
theorem dX9_sow_34 : decode cX9_sow 34 = .ok (.iload_n 1, 1) := by decide +kernel
theorem dX9_sow_35 : decode cX9_sow 35 = .ok (.iaload, 1) := by decide +kernel
theorem dX9_sow_36 : decode cX9_sow 36 = .ok (.iload_n 2, 1) := by decide +kernel
theorem dX9_sow_37 : decode cX9_sow 37 = .ok (.iadd, 1) := by decide +kernel
theorem dX9_sow_38 : decode cX9_sow 38 = .ok (.sipush 600, 3) := by decide +kernel
theorem dX9_sow_41 : decode cX9_sow 41 = .ok (.if_icmp .le 5, 3) := by decide +kernel
theorem dX9_sow_44 : decode cX9_sow 44 = .ok (.iconst (-1), 1) := by decide +kernel
theorem dX9_sow_45 : decode cX9_sow 45 = .ok (.ireturn, 1) := by decide +kernel
theorem dX9_sow_46 : decode cX9_sow 46 = .ok (.iload_n 3, 1) := by decide +kernel
theorem dX9_sow_47 : decode cX9_sow 47 = .ok (.istore 5, 2) := by decide +kernel
theorem dX9_sow_49 : decode cX9_sow 49 = .ok (.iconst 0, 1) := by decide +kernel
theorem dX9_sow_50 : decode cX9_sow 50 = .ok (.istore 6, 2) := by decide +kernel
theorem dX9_sow_52 : decode cX9_sow 52 = .ok (.iload 6, 2) := by decide +kernel
theorem dX9_sow_54 : decode cX9_sow 54 = .ok (.iload_n 2, 1) := by decide +kernel
theorem dX9_sow_55 : decode cX9_sow 55 = .ok (.if_icmp .ge 55, 3) := by decide +kernel
theorem dX9_sow_58 : decode cX9_sow 58 = .ok (.ldc 121, 2) := by decide +kernel
theorem dX9_sow_60 : decode cX9_sow 60 = .ok (.iload 5, 2) := by decide +kernel
theorem dX9_sow_62 : decode cX9_sow 62 = .ok (.imul, 1) := by decide +kernel
theorem dX9_sow_63 : decode cX9_sow 63 = .ok (.sipush 12345, 3) := by decide +kernel
theorem dX9_sow_66 : decode cX9_sow 66 = .ok (.iadd, 1) := by decide +kernel
theorem dX9_sow_67 : decode cX9_sow 67 = .ok (.istore 5, 2) := by decide +kernel
theorem dX9_sow_69 : decode cX9_sow 69 = .ok (.aload_n 0, 1) := by decide +kernel
theorem dX9_sow_70 : decode cX9_sow 70 = .ok (.getfield 13, 3) := by decide +kernel
theorem dX9_sow_73 : decode cX9_sow 73 = .ok (.sipush 600, 3) := by decide +kernel
theorem dX9_sow_76 : decode cX9_sow 76 = .ok (.iload_n 1, 1) := by decide +kernel
theorem dX9_sow_77 : decode cX9_sow 77 = .ok (.imul, 1) := by decide +kernel
theorem dX9_sow_78 : decode cX9_sow 78 = .ok (.aload_n 0, 1) := by decide +kernel
theorem dX9_sow_79 : decode cX9_sow 79 = .ok (.getfield 7, 3) := by decide +kernel
theorem dX9_sow_82 : decode cX9_sow 82 = .ok (.iload_n 1, 1) := by decide +kernel
theorem dX9_sow_83 : decode cX9_sow 83 = .ok (.iaload, 1) := by decide +kernel
theorem dX9_sow_84 : decode cX9_sow 84 = .ok (.iadd, 1) := by decide +kernel
theorem dX9_sow_85 : decode cX9_sow 85 = .ok (.iload 5, 2) := by decide +kernel
theorem dX9_sow_87 : decode cX9_sow 87 = .ok (.bipush 8, 2) := by decide +kernel
theorem dX9_sow_89 : decode cX9_sow 89 = .ok (.iushr, 1) := by decide +kernel
theorem dX9_sow_90 : decode cX9_sow 90 = .ok (.iload 4, 2) := by decide +kernel
theorem dX9_sow_92 : decode cX9_sow 92 = .ok (.irem, 1) := by decide +kernel
theorem dX9_sow_93 : decode cX9_sow 93 = .ok (.iastore, 1) := by decide +kernel
theorem dX9_sow_94 : decode cX9_sow 94 = .ok (.aload_n 0, 1) := by decide +kernel
theorem dX9_sow_95 : decode cX9_sow 95 = .ok (.getfield 7, 3) := by decide +kernel
theorem dX9_sow_98 : decode cX9_sow 98 = .ok (.iload_n 1, 1) := by decide +kernel
theorem dX9_sow_99 : decode cX9_sow 99 = .ok (.dup2, 1) := by decide +kernel
theorem dX9_sow_100 : decode cX9_sow 100 = .ok (.iaload, 1) := by decide +kernel
theorem dX9_sow_101 : decode cX9_sow 101 = .ok (.iconst 1, 1) := by decide +kernel
theorem dX9_sow_102 : decode cX9_sow 102 = .ok (.iadd, 1) := by decide +kernel
theorem dX9_sow_103 : decode cX9_sow 103 = .ok (.iastore, 1) := by decide +kernel
theorem dX9_sow_104 : decode cX9_sow 104 = .ok (.iinc 6 1, 3) := by decide +kernel
theorem dX9_sow_107 : decode cX9_sow 107 = .ok (.goto (-55), 3) := by decide +kernel
theorem dX9_sow_110 : decode cX9_sow 110 = .ok (.aload_n 0, 1) := by decide +kernel
theorem dX9_sow_111 : decode cX9_sow 111 = .ok (.getfield 7, 3) := by decide +kernel
theorem dX9_sow_114 : decode cX9_sow 114 = .ok (.iload_n 1, 1) := by decide +kernel
theorem dX9_sow_115 : decode cX9_sow 115 = .ok (.iaload, 1) := by decide +kernel
theorem dX9_sow_116 : decode cX9_sow 116 = .ok (.ireturn, 1) := by decide +kernel
theorem dX9_copy_0 : decode cX9_copy 0 = .ok (.iload_n 1, 1) := by decide +kernel
theorem dX9_copy_1 : decode cX9_copy 1 = .ok (.invokestatic 113, 3) := by decide +kernel
theorem dX9_copy_4 : decode cX9_copy 4 = .ok (.ifCond .eq 10, 3) := by decide +kernel
theorem dX9_copy_7 : decode cX9_copy 7 = .ok (.iload_n 2, 1) := by decide +kernel
theorem dX9_copy_8 : decode cX9_copy 8 = .ok (.invokestatic 113, 3) := by decide +kernel
theorem dX9_copy_11 : decode cX9_copy 11 = .ok (.ifCond .ne 5, 3) := by decide +kernel
theorem dX9_copy_14 : decode cX9_copy 14 = .ok (.iconst (-1), 1) := by decide +kernel
theorem dX9_copy_15 : decode cX9_copy 15 = .ok (.ireturn, 1) := by decide +kernel
theorem dX9_copy_16 : decode cX9_copy 16 = .ok (.iconst 0, 1) := by decide +kernel
theorem dX9_copy_17 : decode cX9_copy 17 = .ok (.istore_n 3, 1) := by decide +kernel
theorem dX9_copy_18 : decode cX9_copy 18 = .ok (.iload_n 3, 1) := by decide +kernel
theorem dX9_copy_19 : decode cX9_copy 19 = .ok (.aload_n 0, 1) := by decide +kernel
theorem dX9_copy_20 : decode cX9_copy 20 = .ok (.getfield 7, 3) := by decide +kernel
theorem dX9_copy_23 : decode cX9_copy 23 = .ok (.iload_n 1, 1) := by decide +kernel
theorem dX9_copy_24 : decode cX9_copy 24 = .ok (.iaload, 1) := by decide +kernel
theorem dX9_copy_25 : decode cX9_copy 25 = .ok (.if_icmp .ge 33, 3) := by decide +kernel
theorem dX9_copy_28 : decode cX9_copy 28 = .ok (.aload_n 0, 1) := by decide +kernel
theorem dX9_copy_29 : decode cX9_copy 29 = .ok (.getfield 13, 3) := by decide +kernel
theorem dX9_copy_32 : decode cX9_copy 32 = .ok (.sipush 600, 3) := by decide +kernel
theorem dX9_copy_35 : decode cX9_copy 35 = .ok (.iload_n 2, 1) := by decide +kernel
theorem dX9_copy_36 : decode cX9_copy 36 = .ok (.imul, 1) := by decide +kernel
theorem dX9_copy_37 : decode cX9_copy 37 = .ok (.iload_n 3, 1) := by decide +kernel
theorem dX9_copy_38 : decode cX9_copy 38 = .ok (.iadd, 1) := by decide +kernel
theorem dX9_copy_39 : decode cX9_copy 39 = .ok (.aload_n 0, 1) := by decide +kernel
theorem dX9_copy_40 : decode cX9_copy 40 = .ok (.getfield 13, 3) := by decide +kernel
theorem dX9_copy_43 : decode cX9_copy 43 = .ok (.sipush 600, 3) := by decide +kernel
theorem dX9_copy_46 : decode cX9_copy 46 = .ok (.iload_n 1, 1) := by decide +kernel
theorem dX9_copy_47 : decode cX9_copy 47 = .ok (.imul, 1) := by decide +kernel
theorem dX9_copy_48 : decode cX9_copy 48 = .ok (.iload_n 3, 1) := by decide +kernel
theorem dX9_copy_49 : decode cX9_copy 49 = .ok (.iadd, 1) := by decide +kernel
theorem dX9_copy_50 : decode cX9_copy 50 = .ok (.iaload, 1) := by decide +kernel
theorem dX9_copy_51 : decode cX9_copy 51 = .ok (.iastore, 1) := by decide +kernel
theorem dX9_copy_52 : decode cX9_copy 52 = .ok (.iinc 3 1, 3) := by decide +kernel
theorem dX9_copy_55 : decode cX9_copy 55 = .ok (.goto (-37), 3) := by decide +kernel
theorem dX9_copy_58 : decode cX9_copy 58 = .ok (.aload_n 0, 1) := by decide +kernel
theorem dX9_copy_59 : decode cX9_copy 59 = .ok (.getfield 7, 3) := by decide +kernel
theorem dX9_copy_62 : decode cX9_copy 62 = .ok (.iload_n 2, 1) := by decide +kernel
theorem dX9_copy_63 : decode cX9_copy 63 = .ok (.aload_n 0, 1) := by decide +kernel
theorem dX9_copy_64 : decode cX9_copy 64 = .ok (.getfield 7, 3) := by decide +kernel
theorem dX9_copy_67 : decode cX9_copy 67 = .ok (.iload_n 1, 1) := by decide +kernel
theorem dX9_copy_68 : decode cX9_copy 68 = .ok (.iaload, 1) := by decide +kernel
theorem dX9_copy_69 : decode cX9_copy 69 = .ok (.iastore, 1) := by decide +kernel
theorem dX9_copy_70 : decode cX9_copy 70 = .ok (.aload_n 0, 1) := by decide +kernel
theorem dX9_copy_71 : decode cX9_copy 71 = .ok (.getfield 7, 3) := by decide +kernel
theorem dX9_copy_74 : decode cX9_copy 74 = .ok (.iload_n 2, 1) := by decide +kernel
theorem dX9_copy_75 : decode cX9_copy 75 = .ok (.iaload, 1) := by decide +kernel
theorem dX9_copy_76 : decode cX9_copy 76 = .ok (.ireturn, 1) := by decide +kernel
theorem dX9_at_0 : decode cX9_at 0 = .ok (.iload_n 1, 1) := by decide +kernel
theorem dX9_at_1 : decode cX9_at 1 = .ok (.invokestatic 113, 3) := by decide +kernel
theorem dX9_at_4 : decode cX9_at 4 = .ok (.ifCond .eq 32, 3) := by decide +kernel
theorem dX9_at_7 : decode cX9_at 7 = .ok (.iload_n 2, 1) := by decide +kernel
theorem dX9_at_8 : decode cX9_at 8 = .ok (.ifCond .lt 28, 3) := by decide +kernel
theorem dX9_at_11 : decode cX9_at 11 = .ok (.iload_n 2, 1) := by decide +kernel
theorem dX9_at_12 : decode cX9_at 12 = .ok (.aload_n 0, 1) := by decide +kernel
theorem dX9_at_13 : decode cX9_at 13 = .ok (.getfield 7, 3) := by decide +kernel
theorem dX9_at_16 : decode cX9_at 16 = .ok (.iload_n 1, 1) := by decide +kernel
theorem dX9_at_17 : decode cX9_at 17 = .ok (.iaload, 1) := by decide +kernel
theorem dX9_at_18 : decode cX9_at 18 = .ok (.if_icmp .ge 18, 3) := by decide +kernel
theorem dX9_at_21 : decode cX9_at 21 = .ok (.aload_n 0, 1) := by decide +kernel
theorem dX9_at_22 : decode cX9_at 22 = .ok (.getfield 13, 3) := by decide +kernel
theorem dX9_at_25 : decode cX9_at 25 = .ok (.sipush 600, 3) := by decide +kernel
theorem dX9_at_28 : decode cX9_at 28 = .ok (.iload_n 1, 1) := by decide +kernel
theorem dX9_at_29 : decode cX9_at 29 = .ok (.imul, 1) := by decide +kernel
theorem dX9_at_30 : decode cX9_at 30 = .ok (.iload_n 2, 1) := by decide +kernel
theorem dX9_at_31 : decode cX9_at 31 = .ok (.iadd, 1) := by decide +kernel
theorem dX9_at_32 : decode cX9_at 32 = .ok (.iaload, 1) := by decide +kernel
theorem dX9_at_33 : decode cX9_at 33 = .ok (.goto 4, 3) := by decide +kernel
theorem dX9_at_36 : decode cX9_at 36 = .ok (.iconst (-1), 1) := by decide +kernel
theorem dX9_at_37 : decode cX9_at 37 = .ok (.ireturn, 1) := by decide +kernel
theorem dX9_isRule_0 : decode cX9_isRule 0 = .ok (.iload_n 1, 1) := by decide +kernel
theorem dX9_isRule_1 : decode cX9_isRule 1 = .ok (.ifCond .lt 22, 3) := by decide +kernel
theorem dX9_isRule_4 : decode cX9_isRule 4 = .ok (.iload_n 1, 1) := by decide +kernel
theorem dX9_isRule_5 : decode cX9_isRule 5 = .ok (.bipush 6, 2) := by decide +kernel
theorem dX9_isRule_7 : decode cX9_isRule 7 = .ok (.if_icmp .ge 16, 3) := by decide +kernel
theorem dX9_isRule_10 : decode cX9_isRule 10 = .ok (.aload_n 0, 1) := by decide +kernel
theorem dX9_isRule_11 : decode cX9_isRule 11 = .ok (.getfield 19, 3) := by decide +kernel
theorem dX9_isRule_14 : decode cX9_isRule 14 = .ok (.iload_n 1, 1) := by decide +kernel
theorem dX9_isRule_15 : decode cX9_isRule 15 = .ok (.iaload, 1) := by decide +kernel
theorem dX9_isRule_16 : decode cX9_isRule 16 = .ok (.ifCond .le 7, 3) := by decide +kernel
theorem dX9_isRule_19 : decode cX9_isRule 19 = .ok (.iconst 1, 1) := by decide +kernel
theorem dX9_isRule_20 : decode cX9_isRule 20 = .ok (.goto 4, 3) := by decide +kernel
theorem dX9_isRule_23 : decode cX9_isRule 23 = .ok (.iconst 0, 1) := by decide +kernel
theorem dX9_isRule_24 : decode cX9_isRule 24 = .ok (.ireturn, 1) := by decide +kernel
theorem dX9_rules_0 : decode cX9_rules 0 = .ok (.iload_n 1, 1) := by decide +kernel
theorem dX9_rules_1 : decode cX9_rules 1 = .ok (.ifCond .lt 66, 3) := by decide +kernel
theorem dX9_rules_4 : decode cX9_rules 4 = .ok (.iload_n 1, 1) := by decide +kernel
theorem dX9_rules_5 : decode cX9_rules 5 = .ok (.bipush 6, 2) := by decide +kernel
theorem dX9_rules_7 : decode cX9_rules 7 = .ok (.if_icmp .ge 60, 3) := by decide +kernel
theorem dX9_rules_10 : decode cX9_rules 10 = .ok (.iload_n 3, 1) := by decide +kernel
theorem dX9_rules_11 : decode cX9_rules 11 = .ok (.iconst 1, 1) := by decide +kernel
theorem dX9_rules_12 : decode cX9_rules 12 = .ok (.sipush 200, 3) := by decide +kernel
theorem dX9_rules_15 : decode cX9_rules 15 = .ok (.invokestatic 117, 3) := by decide +kernel
theorem dX9_rules_18 : decode cX9_rules 18 = .ok (.ifCond .eq 49, 3) := by decide +kernel
theorem dX9_rules_21 : decode cX9_rules 21 = .ok (.iload 4, 2) := by decide +kernel
theorem dX9_rules_23 : decode cX9_rules 23 = .ok (.iload_n 3, 1) := by decide +kernel
theorem dX9_rules_24 : decode cX9_rules 24 = .ok (.sipush 200, 3) := by decide +kernel
theorem dX9_rules_27 : decode cX9_rules 27 = .ok (.invokestatic 117, 3) := by decide +kernel
theorem dX9_rules_30 : decode cX9_rules 30 = .ok (.ifCond .eq 37, 3) := by decide +kernel
theorem dX9_rules_33 : decode cX9_rules 33 = .ok (.iload 5, 2) := by decide +kernel
theorem dX9_rules_35 : decode cX9_rules 35 = .ok (.iconst 1, 1) := by decide +kernel
theorem dX9_rules_36 : decode cX9_rules 36 = .ok (.bipush 16, 2) := by decide +kernel
theorem dX9_rules_38 : decode cX9_rules 38 = .ok (.invokestatic 117, 3) := by decide +kernel
theorem dX9_rules_41 : decode cX9_rules 41 = .ok (.ifCond .eq 26, 3) := by decide +kernel
theorem dX9_rules_44 : decode cX9_rules 44 = .ok (.iload 6, 2) := by decide +kernel
theorem dX9_rules_46 : decode cX9_rules 46 = .ok (.iconst 0, 1) := by decide +kernel
theorem dX9_rules_47 : decode cX9_rules 47 = .ok (.bipush 8, 2) := by decide +kernel
theorem dX9_rules_49 : decode cX9_rules 49 = .ok (.invokestatic 117, 3) := by decide +kernel
theorem dX9_rules_52 : decode cX9_rules 52 = .ok (.ifCond .eq 15, 3) := by decide +kernel
theorem dX9_rules_55 : decode cX9_rules 55 = .ok (.iload 7, 2) := by decide +kernel
theorem dX9_rules_57 : decode cX9_rules 57 = .ok (.iconst 0, 1) := by decide +kernel
theorem dX9_rules_58 : decode cX9_rules 58 = .ok (.sipush 255, 3) := by decide +kernel
theorem dX9_rules_61 : decode cX9_rules 61 = .ok (.invokestatic 117, 3) := by decide +kernel
theorem dX9_rules_64 : decode cX9_rules 64 = .ok (.ifCond .ne 5, 3) := by decide +kernel
theorem dX9_rules_67 : decode cX9_rules 67 = .ok (.iconst 0, 1) := by decide +kernel
theorem dX9_rules_68 : decode cX9_rules 68 = .ok (.ireturn, 1) := by decide +kernel
theorem dX9_rules_69 : decode cX9_rules 69 = .ok (.aload_n 0, 1) := by decide +kernel
theorem dX9_rules_70 : decode cX9_rules 70 = .ok (.getfield 19, 3) := by decide +kernel
theorem dX9_rules_73 : decode cX9_rules 73 = .ok (.iload_n 1, 1) := by decide +kernel
theorem dX9_rules_74 : decode cX9_rules 74 = .ok (.iload_n 2, 1) := by decide +kernel
theorem dX9_rules_75 : decode cX9_rules 75 = .ok (.iastore, 1) := by decide +kernel
theorem dX9_rules_76 : decode cX9_rules 76 = .ok (.aload_n 0, 1) := by decide +kernel
theorem dX9_rules_77 : decode cX9_rules 77 = .ok (.getfield 22, 3) := by decide +kernel
theorem dX9_rules_80 : decode cX9_rules 80 = .ok (.iload_n 1, 1) := by decide +kernel
theorem dX9_rules_81 : decode cX9_rules 81 = .ok (.iload_n 3, 1) := by decide +kernel
theorem dX9_rules_82 : decode cX9_rules 82 = .ok (.iastore, 1) := by decide +kernel
theorem dX9_rules_83 : decode cX9_rules 83 = .ok (.aload_n 0, 1) := by decide +kernel
theorem dX9_rules_84 : decode cX9_rules 84 = .ok (.getfield 25, 3) := by decide +kernel
theorem dX9_rules_87 : decode cX9_rules 87 = .ok (.iload_n 1, 1) := by decide +kernel
theorem dX9_rules_88 : decode cX9_rules 88 = .ok (.iload 4, 2) := by decide +kernel
theorem dX9_rules_90 : decode cX9_rules 90 = .ok (.iastore, 1) := by decide +kernel
theorem dX9_rules_91 : decode cX9_rules 91 = .ok (.aload_n 0, 1) := by decide +kernel
theorem dX9_rules_92 : decode cX9_rules 92 = .ok (.getfield 28, 3) := by decide +kernel
theorem dX9_rules_95 : decode cX9_rules 95 = .ok (.iload_n 1, 1) := by decide +kernel
theorem dX9_rules_96 : decode cX9_rules 96 = .ok (.iload 5, 2) := by decide +kernel
theorem dX9_rules_98 : decode cX9_rules 98 = .ok (.iastore, 1) := by decide +kernel
theorem dX9_rules_99 : decode cX9_rules 99 = .ok (.aload_n 0, 1) := by decide +kernel
theorem dX9_rules_100 : decode cX9_rules 100 = .ok (.getfield 31, 3) := by decide +kernel
theorem dX9_rules_103 : decode cX9_rules 103 = .ok (.iload_n 1, 1) := by decide +kernel
theorem dX9_rules_104 : decode cX9_rules 104 = .ok (.iload 6, 2) := by decide +kernel
theorem dX9_rules_106 : decode cX9_rules 106 = .ok (.iastore, 1) := by decide +kernel
theorem dX9_rules_107 : decode cX9_rules 107 = .ok (.aload_n 0, 1) := by decide +kernel
theorem dX9_rules_108 : decode cX9_rules 108 = .ok (.getfield 34, 3) := by decide +kernel
theorem dX9_rules_111 : decode cX9_rules 111 = .ok (.iload_n 1, 1) := by decide +kernel
theorem dX9_rules_112 : decode cX9_rules 112 = .ok (.iload 7, 2) := by decide +kernel
theorem dX9_rules_114 : decode cX9_rules 114 = .ok (.iastore, 1) := by decide +kernel
theorem dX9_rules_115 : decode cX9_rules 115 = .ok (.iconst 1, 1) := by decide +kernel
theorem dX9_rules_116 : decode cX9_rules 116 = .ok (.ireturn, 1) := by decide +kernel
theorem dX9_fixed_0 : decode cX9_fixed 0 = .ok (.aload_n 0, 1) := by decide +kernel
theorem dX9_fixed_1 : decode cX9_fixed 1 = .ok (.iload_n 1, 1) := by decide +kernel
theorem dX9_fixed_2 : decode cX9_fixed 2 = .ok (.iconst 1, 1) := by decide +kernel
theorem dX9_fixed_3 : decode cX9_fixed 3 = .ok (.iload_n 2, 1) := by decide +kernel
theorem dX9_fixed_4 : decode cX9_fixed 4 = .ok (.iload_n 2, 1) := by decide +kernel
theorem dX9_fixed_5 : decode cX9_fixed 5 = .ok (.iconst 1, 1) := by decide +kernel
theorem dX9_fixed_6 : decode cX9_fixed 6 = .ok (.iconst 0, 1) := by decide +kernel
theorem dX9_fixed_7 : decode cX9_fixed 7 = .ok (.iconst 0, 1) := by decide +kernel
theorem dX9_fixed_8 : decode cX9_fixed 8 = .ok (.invokevirtual 122, 3) := by decide +kernel
theorem dX9_fixed_11 : decode cX9_fixed 11 = .ok (.ireturn, 1) := by decide +kernel
theorem dX9_rolling_0 : decode cX9_rolling 0 = .ok (.aload_n 0, 1) := by decide +kernel
theorem dX9_rolling_1 : decode cX9_rolling 1 = .ok (.iload_n 1, 1) := by decide +kernel
theorem dX9_rolling_2 : decode cX9_rolling 2 = .ok (.iload_n 2, 1) := by decide +kernel
theorem dX9_rolling_3 : decode cX9_rolling 3 = .ok (.ifCond .eq 7, 3) := by decide +kernel
theorem dX9_rolling_6 : decode cX9_rolling 6 = .ok (.iconst 3, 1) := by decide +kernel
theorem dX9_rolling_7 : decode cX9_rolling 7 = .ok (.goto 4, 3) := by decide +kernel
theorem dX9_rolling_10 : decode cX9_rolling 10 = .ok (.iconst 2, 1) := by decide +kernel
theorem dX9_rolling_11 : decode cX9_rolling 11 = .ok (.iload_n 3, 1) := by decide +kernel
theorem dX9_rolling_12 : decode cX9_rolling 12 = .ok (.iload 4, 2) := by decide +kernel
theorem dX9_rolling_14 : decode cX9_rolling 14 = .ok (.iload 5, 2) := by decide +kernel
theorem dX9_rolling_16 : decode cX9_rolling 16 = .ok (.iload 6, 2) := by decide +kernel
theorem dX9_rolling_18 : decode cX9_rolling 18 = .ok (.iload 7, 2) := by decide +kernel
theorem dX9_rolling_20 : decode cX9_rolling 20 = .ok (.invokevirtual 122, 3) := by decide +kernel
theorem dX9_rolling_23 : decode cX9_rolling 23 = .ok (.ireturn, 1) := by decide +kernel
theorem dX9_told_0 : decode cX9_told 0 = .ok (.aload_n 0, 1) := by decide +kernel
theorem dX9_told_1 : decode cX9_told 1 = .ok (.iload_n 1, 1) := by decide +kernel
theorem dX9_told_2 : decode cX9_told 2 = .ok (.iconst 4, 1) := by decide +kernel
theorem dX9_told_3 : decode cX9_told 3 = .ok (.iload_n 2, 1) := by decide +kernel
theorem dX9_told_4 : decode cX9_told 4 = .ok (.iload_n 3, 1) := by decide +kernel
theorem dX9_told_5 : decode cX9_told 5 = .ok (.iconst 1, 1) := by decide +kernel
theorem dX9_told_6 : decode cX9_told 6 = .ok (.iconst 0, 1) := by decide +kernel
theorem dX9_told_7 : decode cX9_told 7 = .ok (.iload 4, 2) := by decide +kernel
theorem dX9_told_9 : decode cX9_told 9 = .ok (.invokevirtual 122, 3) := by decide +kernel
theorem dX9_told_12 : decode cX9_told 12 = .ok (.ireturn, 1) := by decide +kernel
theorem dX9_isRolling_0 : decode cX9_isRolling 0 = .ok (.aload_n 0, 1) := by decide +kernel
theorem dX9_isRolling_1 : decode cX9_isRolling 1 = .ok (.getfield 19, 3) := by decide +kernel
theorem dX9_isRolling_4 : decode cX9_isRolling 4 = .ok (.iload_n 1, 1) := by decide +kernel
theorem dX9_isRolling_5 : decode cX9_isRolling 5 = .ok (.iaload, 1) := by decide +kernel
theorem dX9_isRolling_6 : decode cX9_isRolling 6 = .ok (.iconst 2, 1) := by decide +kernel
theorem dX9_isRolling_7 : decode cX9_isRolling 7 = .ok (.if_icmp .eq 13, 3) := by decide +kernel
theorem dX9_isRolling_10 : decode cX9_isRolling 10 = .ok (.aload_n 0, 1) := by decide +kernel
theorem dX9_isRolling_11 : decode cX9_isRolling 11 = .ok (.getfield 19, 3) := by decide +kernel
theorem dX9_isRolling_14 : decode cX9_isRolling 14 = .ok (.iload_n 1, 1) := by decide +kernel
theorem dX9_isRolling_15 : decode cX9_isRolling 15 = .ok (.iaload, 1) := by decide +kernel
theorem dX9_isRolling_16 : decode cX9_isRolling 16 = .ok (.iconst 3, 1) := by decide +kernel
theorem dX9_isRolling_17 : decode cX9_isRolling 17 = .ok (.if_icmp .ne 7, 3) := by decide +kernel
theorem dX9_isRolling_20 : decode cX9_isRolling 20 = .ok (.iconst 1, 1) := by decide +kernel
theorem dX9_isRolling_21 : decode cX9_isRolling 21 = .ok (.goto 4, 3) := by decide +kernel
theorem dX9_isRolling_24 : decode cX9_isRolling 24 = .ok (.iconst 0, 1) := by decide +kernel
theorem dX9_isRolling_25 : decode cX9_isRolling 25 = .ok (.ireturn, 1) := by decide +kernel
theorem dX9_sumAt_0 : decode cX9_sumAt 0 = .ok (.iconst 0, 1) := by decide +kernel
theorem dX9_sumAt_1 : decode cX9_sumAt 1 = .ok (.istore 4, 2) := by decide +kernel
theorem dX9_sumAt_3 : decode cX9_sumAt 3 = .ok (.iconst 1, 1) := by decide +kernel
theorem dX9_sumAt_4 : decode cX9_sumAt 4 = .ok (.istore 5, 2) := by decide +kernel
theorem dX9_sumAt_6 : decode cX9_sumAt 6 = .ok (.iconst 0, 1) := by decide +kernel
theorem dX9_sumAt_7 : decode cX9_sumAt 7 = .ok (.istore 6, 2) := by decide +kernel
theorem dX9_sumAt_9 : decode cX9_sumAt 9 = .ok (.iload 6, 2) := by decide +kernel
theorem dX9_sumAt_11 : decode cX9_sumAt 11 = .ok (.aload_n 0, 1) := by decide +kernel
theorem dX9_sumAt_12 : decode cX9_sumAt 12 = .ok (.getfield 28, 3) := by decide +kernel
theorem dX9_sumAt_15 : decode cX9_sumAt 15 = .ok (.iload_n 1, 1) := by decide +kernel
theorem dX9_sumAt_16 : decode cX9_sumAt 16 = .ok (.iaload, 1) := by decide +kernel
theorem dX9_sumAt_17 : decode cX9_sumAt 17 = .ok (.if_icmp .ge 53, 3) := by decide +kernel
theorem dX9_sumAt_20 : decode cX9_sumAt 20 = .ok (.iload 6, 2) := by decide +kernel
theorem dX9_sumAt_22 : decode cX9_sumAt 22 = .ok (.iload_n 3, 1) := by decide +kernel
theorem dX9_sumAt_23 : decode cX9_sumAt 23 = .ok (.if_icmp .gt 47, 3) := by decide +kernel
theorem dX9_sumAt_26 : decode cX9_sumAt 26 = .ok (.iload 4, 2) := by decide +kernel
theorem dX9_sumAt_28 : decode cX9_sumAt 28 = .ok (.aload_n 0, 1) := by decide +kernel
theorem dX9_sumAt_29 : decode cX9_sumAt 29 = .ok (.getfield 13, 3) := by decide +kernel
theorem dX9_sumAt_32 : decode cX9_sumAt 32 = .ok (.sipush 600, 3) := by decide +kernel
theorem dX9_sumAt_35 : decode cX9_sumAt 35 = .ok (.iload_n 2, 1) := by decide +kernel
theorem dX9_sumAt_36 : decode cX9_sumAt 36 = .ok (.imul, 1) := by decide +kernel
theorem dX9_sumAt_37 : decode cX9_sumAt 37 = .ok (.iload_n 3, 1) := by decide +kernel
theorem dX9_sumAt_38 : decode cX9_sumAt 38 = .ok (.iadd, 1) := by decide +kernel
theorem dX9_sumAt_39 : decode cX9_sumAt 39 = .ok (.iload 6, 2) := by decide +kernel
theorem dX9_sumAt_41 : decode cX9_sumAt 41 = .ok (.isub, 1) := by decide +kernel
theorem dX9_sumAt_42 : decode cX9_sumAt 42 = .ok (.iaload, 1) := by decide +kernel
theorem dX9_sumAt_43 : decode cX9_sumAt 43 = .ok (.iconst 1, 1) := by decide +kernel
theorem dX9_sumAt_44 : decode cX9_sumAt 44 = .ok (.iadd, 1) := by decide +kernel
theorem dX9_sumAt_45 : decode cX9_sumAt 45 = .ok (.iload 5, 2) := by decide +kernel
theorem dX9_sumAt_47 : decode cX9_sumAt 47 = .ok (.imul, 1) := by decide +kernel
theorem dX9_sumAt_48 : decode cX9_sumAt 48 = .ok (.iadd, 1) := by decide +kernel
theorem dX9_sumAt_49 : decode cX9_sumAt 49 = .ok (.ldc 126, 2) := by decide +kernel
theorem dX9_sumAt_51 : decode cX9_sumAt 51 = .ok (.irem, 1) := by decide +kernel
theorem dX9_sumAt_52 : decode cX9_sumAt 52 = .ok (.istore 4, 2) := by decide +kernel
theorem dX9_sumAt_54 : decode cX9_sumAt 54 = .ok (.iload 5, 2) := by decide +kernel
theorem dX9_sumAt_56 : decode cX9_sumAt 56 = .ok (.bipush 31, 2) := by decide +kernel
theorem dX9_sumAt_58 : decode cX9_sumAt 58 = .ok (.imul, 1) := by decide +kernel
theorem dX9_sumAt_59 : decode cX9_sumAt 59 = .ok (.ldc 126, 2) := by decide +kernel
theorem dX9_sumAt_61 : decode cX9_sumAt 61 = .ok (.irem, 1) := by decide +kernel
theorem dX9_sumAt_62 : decode cX9_sumAt 62 = .ok (.istore 5, 2) := by decide +kernel
theorem dX9_sumAt_64 : decode cX9_sumAt 64 = .ok (.iinc 6 1, 3) := by decide +kernel
theorem dX9_sumAt_67 : decode cX9_sumAt 67 = .ok (.goto (-58), 3) := by decide +kernel
theorem dX9_sumAt_70 : decode cX9_sumAt 70 = .ok (.iload 4, 2) := by decide +kernel
theorem dX9_sumAt_72 : decode cX9_sumAt 72 = .ok (.ireturn, 1) := by decide +kernel
theorem dX9_isSign_0 : decode cX9_isSign 0 = .ok (.iload_n 1, 1) := by decide +kernel
theorem dX9_isSign_1 : decode cX9_isSign 1 = .ok (.iconst 4, 1) := by decide +kernel
theorem dX9_isSign_2 : decode cX9_isSign 2 = .ok (.ishr, 1) := by decide +kernel
theorem dX9_isSign_3 : decode cX9_isSign 3 = .ok (.iload_n 2, 1) := by decide +kernel
theorem dX9_isSign_4 : decode cX9_isSign 4 = .ok (.isub, 1) := by decide +kernel
theorem dX9_isSign_5 : decode cX9_isSign 5 = .ok (.iconst 1, 1) := by decide +kernel
theorem dX9_isSign_6 : decode cX9_isSign 6 = .ok (.iload_n 3, 1) := by decide +kernel
theorem dX9_isSign_7 : decode cX9_isSign 7 = .ok (.ishl, 1) := by decide +kernel
theorem dX9_isSign_8 : decode cX9_isSign 8 = .ok (.irem, 1) := by decide +kernel
theorem dX9_isSign_9 : decode cX9_isSign 9 = .ok (.ifCond .ne 7, 3) := by decide +kernel
theorem dX9_isSign_12 : decode cX9_isSign 12 = .ok (.iconst 1, 1) := by decide +kernel
theorem dX9_isSign_13 : decode cX9_isSign 13 = .ok (.goto 4, 3) := by decide +kernel
theorem dX9_isSign_16 : decode cX9_isSign 16 = .ok (.iconst 0, 1) := by decide +kernel
theorem dX9_isSign_17 : decode cX9_isSign 17 = .ok (.ireturn, 1) := by decide +kernel
theorem dX9_sum_0 : decode cX9_sum 0 = .ok (.aload_n 0, 1) := by decide +kernel
theorem dX9_sum_1 : decode cX9_sum 1 = .ok (.iload_n 1, 1) := by decide +kernel
theorem dX9_sum_2 : decode cX9_sum 2 = .ok (.invokevirtual 127, 3) := by decide +kernel
theorem dX9_sum_5 : decode cX9_sum 5 = .ok (.ifCond .eq 42, 3) := by decide +kernel
theorem dX9_sum_8 : decode cX9_sum 8 = .ok (.aload_n 0, 1) := by decide +kernel
theorem dX9_sum_9 : decode cX9_sum 9 = .ok (.iload_n 1, 1) := by decide +kernel
theorem dX9_sum_10 : decode cX9_sum 10 = .ok (.invokevirtual 130, 3) := by decide +kernel
theorem dX9_sum_13 : decode cX9_sum 13 = .ok (.ifCond .eq 34, 3) := by decide +kernel
theorem dX9_sum_16 : decode cX9_sum 16 = .ok (.iload_n 2, 1) := by decide +kernel
theorem dX9_sum_17 : decode cX9_sum 17 = .ok (.invokestatic 113, 3) := by decide +kernel
theorem dX9_sum_20 : decode cX9_sum 20 = .ok (.ifCond .eq 27, 3) := by decide +kernel
theorem dX9_sum_23 : decode cX9_sum 23 = .ok (.iload_n 3, 1) := by decide +kernel
theorem dX9_sum_24 : decode cX9_sum 24 = .ok (.ifCond .lt 23, 3) := by decide +kernel
theorem dX9_sum_27 : decode cX9_sum 27 = .ok (.iload_n 3, 1) := by decide +kernel
theorem dX9_sum_28 : decode cX9_sum 28 = .ok (.aload_n 0, 1) := by decide +kernel
theorem dX9_sum_29 : decode cX9_sum 29 = .ok (.getfield 7, 3) := by decide +kernel
theorem dX9_sum_32 : decode cX9_sum 32 = .ok (.iload_n 2, 1) := by decide +kernel
theorem dX9_sum_33 : decode cX9_sum 33 = .ok (.iaload, 1) := by decide +kernel
theorem dX9_sum_34 : decode cX9_sum 34 = .ok (.if_icmp .ge 13, 3) := by decide +kernel
theorem dX9_sum_37 : decode cX9_sum 37 = .ok (.aload_n 0, 1) := by decide +kernel
theorem dX9_sum_38 : decode cX9_sum 38 = .ok (.iload_n 1, 1) := by decide +kernel
theorem dX9_sum_39 : decode cX9_sum 39 = .ok (.iload_n 2, 1) := by decide +kernel
theorem dX9_sum_40 : decode cX9_sum 40 = .ok (.iload_n 3, 1) := by decide +kernel
theorem dX9_sum_41 : decode cX9_sum 41 = .ok (.invokevirtual 133, 3) := by decide +kernel
theorem dX9_sum_44 : decode cX9_sum 44 = .ok (.goto 4, 3) := by decide +kernel
theorem dX9_sum_47 : decode cX9_sum 47 = .ok (.iconst (-1), 1) := by decide +kernel
theorem dX9_sum_48 : decode cX9_sum 48 = .ok (.ireturn, 1) := by decide +kernel
theorem dX9_endOf_0 : decode cX9_endOf 0 = .ok (.iconst (-1), 1) := by decide +kernel
theorem dX9_endOf_1 : decode cX9_endOf 1 = .ok (.istore 4, 2) := by decide +kernel
theorem dX9_endOf_3 : decode cX9_endOf 3 = .ok (.iconst 1, 1) := by decide +kernel
theorem dX9_endOf_4 : decode cX9_endOf 4 = .ok (.istore 5, 2) := by decide +kernel
theorem dX9_endOf_6 : decode cX9_endOf 6 = .ok (.iload 5, 2) := by decide +kernel
theorem dX9_endOf_8 : decode cX9_endOf 8 = .ok (.aload_n 0, 1) := by decide +kernel
theorem dX9_endOf_9 : decode cX9_endOf 9 = .ok (.getfield 25, 3) := by decide +kernel
theorem dX9_endOf_12 : decode cX9_endOf 12 = .ok (.iload_n 1, 1) := by decide +kernel
theorem dX9_endOf_13 : decode cX9_endOf 13 = .ok (.iaload, 1) := by decide +kernel
theorem dX9_endOf_14 : decode cX9_endOf 14 = .ok (.if_icmp .ge 177, 3) := by decide +kernel
theorem dX9_endOf_17 : decode cX9_endOf 17 = .ok (.iload_n 3, 1) := by decide +kernel
theorem dX9_endOf_18 : decode cX9_endOf 18 = .ok (.iload 5, 2) := by decide +kernel
theorem dX9_endOf_20 : decode cX9_endOf 20 = .ok (.iadd, 1) := by decide +kernel
theorem dX9_endOf_21 : decode cX9_endOf 21 = .ok (.iconst 1, 1) := by decide +kernel
theorem dX9_endOf_22 : decode cX9_endOf 22 = .ok (.isub, 1) := by decide +kernel
theorem dX9_endOf_23 : decode cX9_endOf 23 = .ok (.istore 6, 2) := by decide +kernel
theorem dX9_endOf_25 : decode cX9_endOf 25 = .ok (.iload 6, 2) := by decide +kernel
theorem dX9_endOf_27 : decode cX9_endOf 27 = .ok (.iconst 1, 1) := by decide +kernel
theorem dX9_endOf_28 : decode cX9_endOf 28 = .ok (.iadd, 1) := by decide +kernel
theorem dX9_endOf_29 : decode cX9_endOf 29 = .ok (.aload_n 0, 1) := by decide +kernel
theorem dX9_endOf_30 : decode cX9_endOf 30 = .ok (.getfield 7, 3) := by decide +kernel
theorem dX9_endOf_33 : decode cX9_endOf 33 = .ok (.iload_n 2, 1) := by decide +kernel
theorem dX9_endOf_34 : decode cX9_endOf 34 = .ok (.iaload, 1) := by decide +kernel
theorem dX9_endOf_35 : decode cX9_endOf 35 = .ok (.if_icmp .lt 10, 3) := by decide +kernel
theorem dX9_endOf_38 : decode cX9_endOf 38 = .ok (.aload_n 0, 1) := by decide +kernel
theorem dX9_endOf_39 : decode cX9_endOf 39 = .ok (.getfield 7, 3) := by decide +kernel
theorem dX9_endOf_42 : decode cX9_endOf 42 = .ok (.iload_n 2, 1) := by decide +kernel
theorem dX9_endOf_43 : decode cX9_endOf 43 = .ok (.iaload, 1) := by decide +kernel
theorem dX9_endOf_44 : decode cX9_endOf 44 = .ok (.ireturn, 1) := by decide +kernel
theorem dX9_endOf_45 : decode cX9_endOf 45 = .ok (.iload 5, 2) := by decide +kernel
theorem dX9_endOf_47 : decode cX9_endOf 47 = .ok (.aload_n 0, 1) := by decide +kernel
theorem dX9_endOf_48 : decode cX9_endOf 48 = .ok (.getfield 22, 3) := by decide +kernel
theorem dX9_endOf_51 : decode cX9_endOf 51 = .ok (.iload_n 1, 1) := by decide +kernel
theorem dX9_endOf_52 : decode cX9_endOf 52 = .ok (.iaload, 1) := by decide +kernel
theorem dX9_endOf_53 : decode cX9_endOf 53 = .ok (.if_icmp .ge 6, 3) := by decide +kernel
theorem dX9_endOf_56 : decode cX9_endOf 56 = .ok (.goto 129, 3) := by decide +kernel
theorem dX9_endOf_59 : decode cX9_endOf 59 = .ok (.aload_n 0, 1) := by decide +kernel
theorem dX9_endOf_60 : decode cX9_endOf 60 = .ok (.getfield 19, 3) := by decide +kernel
theorem dX9_endOf_63 : decode cX9_endOf 63 = .ok (.iload_n 1, 1) := by decide +kernel
theorem dX9_endOf_64 : decode cX9_endOf 64 = .ok (.iaload, 1) := by decide +kernel
theorem dX9_endOf_65 : decode cX9_endOf 65 = .ok (.iconst 4, 1) := by decide +kernel
theorem dX9_endOf_66 : decode cX9_endOf 66 = .ok (.if_icmp .ne 30, 3) := by decide +kernel
theorem dX9_endOf_69 : decode cX9_endOf 69 = .ok (.aload_n 0, 1) := by decide +kernel
theorem dX9_endOf_70 : decode cX9_endOf 70 = .ok (.getfield 13, 3) := by decide +kernel
theorem dX9_endOf_73 : decode cX9_endOf 73 = .ok (.sipush 600, 3) := by decide +kernel
theorem dX9_endOf_76 : decode cX9_endOf 76 = .ok (.iload_n 2, 1) := by decide +kernel
theorem dX9_endOf_77 : decode cX9_endOf 77 = .ok (.imul, 1) := by decide +kernel
theorem dX9_endOf_78 : decode cX9_endOf 78 = .ok (.iload 6, 2) := by decide +kernel
theorem dX9_endOf_80 : decode cX9_endOf 80 = .ok (.iadd, 1) := by decide +kernel
theorem dX9_endOf_81 : decode cX9_endOf 81 = .ok (.iaload, 1) := by decide +kernel
theorem dX9_endOf_82 : decode cX9_endOf 82 = .ok (.aload_n 0, 1) := by decide +kernel
theorem dX9_endOf_83 : decode cX9_endOf 83 = .ok (.getfield 34, 3) := by decide +kernel
theorem dX9_endOf_86 : decode cX9_endOf 86 = .ok (.iload_n 1, 1) := by decide +kernel
theorem dX9_endOf_87 : decode cX9_endOf 87 = .ok (.iaload, 1) := by decide +kernel
theorem dX9_endOf_88 : decode cX9_endOf 88 = .ok (.if_icmp .ne 8, 3) := by decide +kernel
theorem dX9_endOf_91 : decode cX9_endOf 91 = .ok (.iload 6, 2) := by decide +kernel
theorem dX9_endOf_93 : decode cX9_endOf 93 = .ok (.iconst 1, 1) := by decide +kernel
theorem dX9_endOf_94 : decode cX9_endOf 94 = .ok (.iadd, 1) := by decide +kernel
theorem dX9_endOf_95 : decode cX9_endOf 95 = .ok (.ireturn, 1) := by decide +kernel
theorem dX9_endOf_96 : decode cX9_endOf 96 = .ok (.aload_n 0, 1) := by decide +kernel
theorem dX9_endOf_97 : decode cX9_endOf 97 = .ok (.iload_n 1, 1) := by decide +kernel
theorem dX9_endOf_98 : decode cX9_endOf 98 = .ok (.invokevirtual 130, 3) := by decide +kernel
theorem dX9_endOf_101 : decode cX9_endOf 101 = .ok (.ifCond .ne 6, 3) := by decide +kernel
theorem dX9_endOf_104 : decode cX9_endOf 104 = .ok (.goto 81, 3) := by decide +kernel
theorem dX9_endOf_107 : decode cX9_endOf 107 = .ok (.aload_n 0, 1) := by decide +kernel
theorem dX9_endOf_108 : decode cX9_endOf 108 = .ok (.iload_n 1, 1) := by decide +kernel
theorem dX9_endOf_109 : decode cX9_endOf 109 = .ok (.iload_n 2, 1) := by decide +kernel
theorem dX9_endOf_110 : decode cX9_endOf 110 = .ok (.iload 6, 2) := by decide +kernel
theorem dX9_endOf_112 : decode cX9_endOf 112 = .ok (.invokevirtual 133, 3) := by decide +kernel
theorem dX9_endOf_115 : decode cX9_endOf 115 = .ok (.istore 7, 2) := by decide +kernel
theorem dX9_endOf_117 : decode cX9_endOf 117 = .ok (.aload_n 0, 1) := by decide +kernel
theorem dX9_endOf_118 : decode cX9_endOf 118 = .ok (.iload 7, 2) := by decide +kernel
theorem dX9_endOf_120 : decode cX9_endOf 120 = .ok (.aload_n 0, 1) := by decide +kernel
theorem dX9_endOf_121 : decode cX9_endOf 121 = .ok (.getfield 34, 3) := by decide +kernel
theorem dX9_endOf_124 : decode cX9_endOf 124 = .ok (.iload_n 1, 1) := by decide +kernel
theorem dX9_endOf_125 : decode cX9_endOf 125 = .ok (.iaload, 1) := by decide +kernel
theorem dX9_endOf_126 : decode cX9_endOf 126 = .ok (.aload_n 0, 1) := by decide +kernel
theorem dX9_endOf_127 : decode cX9_endOf 127 = .ok (.getfield 31, 3) := by decide +kernel
theorem dX9_endOf_130 : decode cX9_endOf 130 = .ok (.iload_n 1, 1) := by decide +kernel
theorem dX9_endOf_131 : decode cX9_endOf 131 = .ok (.iaload, 1) := by decide +kernel
theorem dX9_endOf_132 : decode cX9_endOf 132 = .ok (.invokevirtual 137, 3) := by decide +kernel
theorem dX9_endOf_135 : decode cX9_endOf 135 = .ok (.ifCond .eq 8, 3) := by decide +kernel
theorem dX9_endOf_138 : decode cX9_endOf 138 = .ok (.iload 6, 2) := by decide +kernel
theorem dX9_endOf_140 : decode cX9_endOf 140 = .ok (.iconst 1, 1) := by decide +kernel
theorem dX9_endOf_141 : decode cX9_endOf 141 = .ok (.iadd, 1) := by decide +kernel
theorem dX9_endOf_142 : decode cX9_endOf 142 = .ok (.ireturn, 1) := by decide +kernel
theorem dX9_endOf_143 : decode cX9_endOf 143 = .ok (.aload_n 0, 1) := by decide +kernel
theorem dX9_endOf_144 : decode cX9_endOf 144 = .ok (.iload 7, 2) := by decide +kernel
theorem dX9_endOf_146 : decode cX9_endOf 146 = .ok (.aload_n 0, 1) := by decide +kernel
theorem dX9_endOf_147 : decode cX9_endOf 147 = .ok (.getfield 34, 3) := by decide +kernel
theorem dX9_endOf_150 : decode cX9_endOf 150 = .ok (.iload_n 1, 1) := by decide +kernel
theorem dX9_endOf_151 : decode cX9_endOf 151 = .ok (.iaload, 1) := by decide +kernel
theorem dX9_endOf_152 : decode cX9_endOf 152 = .ok (.aload_n 0, 1) := by decide +kernel
theorem dX9_endOf_153 : decode cX9_endOf 153 = .ok (.getfield 31, 3) := by decide +kernel
theorem dX9_endOf_156 : decode cX9_endOf 156 = .ok (.iload_n 1, 1) := by decide +kernel
theorem dX9_endOf_157 : decode cX9_endOf 157 = .ok (.iaload, 1) := by decide +kernel
theorem dX9_endOf_158 : decode cX9_endOf 158 = .ok (.ifCond .le 14, 3) := by decide +kernel
theorem dX9_endOf_161 : decode cX9_endOf 161 = .ok (.aload_n 0, 1) := by decide +kernel
theorem dX9_endOf_162 : decode cX9_endOf 162 = .ok (.getfield 31, 3) := by decide +kernel
theorem dX9_endOf_165 : decode cX9_endOf 165 = .ok (.iload_n 1, 1) := by decide +kernel
theorem dX9_endOf_166 : decode cX9_endOf 166 = .ok (.iaload, 1) := by decide +kernel
theorem dX9_endOf_167 : decode cX9_endOf 167 = .ok (.iconst 1, 1) := by decide +kernel
theorem dX9_endOf_168 : decode cX9_endOf 168 = .ok (.isub, 1) := by decide +kernel
theorem dX9_endOf_169 : decode cX9_endOf 169 = .ok (.goto 4, 3) := by decide +kernel
theorem dX9_endOf_172 : decode cX9_endOf 172 = .ok (.iconst 0, 1) := by decide +kernel
theorem dX9_endOf_173 : decode cX9_endOf 173 = .ok (.invokevirtual 137, 3) := by decide +kernel
theorem dX9_endOf_176 : decode cX9_endOf 176 = .ok (.ifCond .eq 9, 3) := by decide +kernel
theorem dX9_endOf_179 : decode cX9_endOf 179 = .ok (.iload 6, 2) := by decide +kernel
theorem dX9_endOf_181 : decode cX9_endOf 181 = .ok (.iconst 1, 1) := by decide +kernel
theorem dX9_endOf_182 : decode cX9_endOf 182 = .ok (.iadd, 1) := by decide +kernel
theorem dX9_endOf_183 : decode cX9_endOf 183 = .ok (.istore 4, 2) := by decide +kernel
theorem dX9_endOf_185 : decode cX9_endOf 185 = .ok (.iinc 5 1, 3) := by decide +kernel
theorem dX9_endOf_188 : decode cX9_endOf 188 = .ok (.goto (-182), 3) := by decide +kernel
theorem dX9_endOf_191 : decode cX9_endOf 191 = .ok (.iload_n 3, 1) := by decide +kernel
theorem dX9_endOf_192 : decode cX9_endOf 192 = .ok (.aload_n 0, 1) := by decide +kernel
theorem dX9_endOf_193 : decode cX9_endOf 193 = .ok (.getfield 25, 3) := by decide +kernel
theorem dX9_endOf_196 : decode cX9_endOf 196 = .ok (.iload_n 1, 1) := by decide +kernel
theorem dX9_endOf_197 : decode cX9_endOf 197 = .ok (.iaload, 1) := by decide +kernel
theorem dX9_endOf_198 : decode cX9_endOf 198 = .ok (.iadd, 1) := by decide +kernel
theorem dX9_endOf_199 : decode cX9_endOf 199 = .ok (.iconst 1, 1) := by decide +kernel
theorem dX9_endOf_200 : decode cX9_endOf 200 = .ok (.isub, 1) := by decide +kernel
theorem dX9_endOf_201 : decode cX9_endOf 201 = .ok (.istore 5, 2) := by decide +kernel
theorem dX9_endOf_203 : decode cX9_endOf 203 = .ok (.iload 5, 2) := by decide +kernel
theorem dX9_endOf_205 : decode cX9_endOf 205 = .ok (.iconst 1, 1) := by decide +kernel
theorem dX9_endOf_206 : decode cX9_endOf 206 = .ok (.iadd, 1) := by decide +kernel
theorem dX9_endOf_207 : decode cX9_endOf 207 = .ok (.aload_n 0, 1) := by decide +kernel
theorem dX9_endOf_208 : decode cX9_endOf 208 = .ok (.getfield 7, 3) := by decide +kernel
theorem dX9_endOf_211 : decode cX9_endOf 211 = .ok (.iload_n 2, 1) := by decide +kernel
theorem dX9_endOf_212 : decode cX9_endOf 212 = .ok (.iaload, 1) := by decide +kernel
theorem dX9_endOf_213 : decode cX9_endOf 213 = .ok (.if_icmp .le 10, 3) := by decide +kernel
theorem dX9_endOf_216 : decode cX9_endOf 216 = .ok (.aload_n 0, 1) := by decide +kernel
theorem dX9_endOf_217 : decode cX9_endOf 217 = .ok (.getfield 7, 3) := by decide +kernel
theorem dX9_endOf_220 : decode cX9_endOf 220 = .ok (.iload_n 2, 1) := by decide +kernel
theorem dX9_endOf_221 : decode cX9_endOf 221 = .ok (.iaload, 1) := by decide +kernel
theorem dX9_endOf_222 : decode cX9_endOf 222 = .ok (.ireturn, 1) := by decide +kernel
theorem dX9_endOf_223 : decode cX9_endOf 223 = .ok (.aload_n 0, 1) := by decide +kernel
theorem dX9_endOf_224 : decode cX9_endOf 224 = .ok (.getfield 19, 3) := by decide +kernel
theorem dX9_endOf_227 : decode cX9_endOf 227 = .ok (.iload_n 1, 1) := by decide +kernel
theorem dX9_endOf_228 : decode cX9_endOf 228 = .ok (.iaload, 1) := by decide +kernel
theorem dX9_endOf_229 : decode cX9_endOf 229 = .ok (.iconst 3, 1) := by decide +kernel
theorem dX9_endOf_230 : decode cX9_endOf 230 = .ok (.if_icmp .ne 9, 3) := by decide +kernel
theorem dX9_endOf_233 : decode cX9_endOf 233 = .ok (.iload 4, 2) := by decide +kernel
theorem dX9_endOf_235 : decode cX9_endOf 235 = .ok (.iconst (-1), 1) := by decide +kernel
theorem dX9_endOf_236 : decode cX9_endOf 236 = .ok (.if_icmp .ne 8, 3) := by decide +kernel
theorem dX9_endOf_239 : decode cX9_endOf 239 = .ok (.iload 5, 2) := by decide +kernel
theorem dX9_endOf_241 : decode cX9_endOf 241 = .ok (.iconst 1, 1) := by decide +kernel
theorem dX9_endOf_242 : decode cX9_endOf 242 = .ok (.iadd, 1) := by decide +kernel
theorem dX9_endOf_243 : decode cX9_endOf 243 = .ok (.ireturn, 1) := by decide +kernel
theorem dX9_endOf_244 : decode cX9_endOf 244 = .ok (.aload_n 0, 1) := by decide +kernel
theorem dX9_endOf_245 : decode cX9_endOf 245 = .ok (.iload_n 1, 1) := by decide +kernel
theorem dX9_endOf_246 : decode cX9_endOf 246 = .ok (.iload_n 2, 1) := by decide +kernel
theorem dX9_endOf_247 : decode cX9_endOf 247 = .ok (.iload 5, 2) := by decide +kernel
theorem dX9_endOf_249 : decode cX9_endOf 249 = .ok (.invokevirtual 133, 3) := by decide +kernel
theorem dX9_endOf_252 : decode cX9_endOf 252 = .ok (.istore 6, 2) := by decide +kernel
theorem dX9_endOf_254 : decode cX9_endOf 254 = .ok (.aload_n 0, 1) := by decide +kernel
theorem dX9_endOf_255 : decode cX9_endOf 255 = .ok (.iload 6, 2) := by decide +kernel
theorem dX9_endOf_257 : decode cX9_endOf 257 = .ok (.aload_n 0, 1) := by decide +kernel
theorem dX9_endOf_258 : decode cX9_endOf 258 = .ok (.getfield 34, 3) := by decide +kernel
theorem dX9_endOf_261 : decode cX9_endOf 261 = .ok (.iload_n 1, 1) := by decide +kernel
theorem dX9_endOf_262 : decode cX9_endOf 262 = .ok (.iaload, 1) := by decide +kernel
theorem dX9_endOf_263 : decode cX9_endOf 263 = .ok (.aload_n 0, 1) := by decide +kernel
theorem dX9_endOf_264 : decode cX9_endOf 264 = .ok (.getfield 31, 3) := by decide +kernel
theorem dX9_endOf_267 : decode cX9_endOf 267 = .ok (.iload_n 1, 1) := by decide +kernel
theorem dX9_endOf_268 : decode cX9_endOf 268 = .ok (.iaload, 1) := by decide +kernel
theorem dX9_endOf_269 : decode cX9_endOf 269 = .ok (.ifCond .le 14, 3) := by decide +kernel
theorem dX9_endOf_272 : decode cX9_endOf 272 = .ok (.aload_n 0, 1) := by decide +kernel
theorem dX9_endOf_273 : decode cX9_endOf 273 = .ok (.getfield 31, 3) := by decide +kernel
theorem dX9_endOf_276 : decode cX9_endOf 276 = .ok (.iload_n 1, 1) := by decide +kernel
theorem dX9_endOf_277 : decode cX9_endOf 277 = .ok (.iaload, 1) := by decide +kernel
theorem dX9_endOf_278 : decode cX9_endOf 278 = .ok (.iconst 1, 1) := by decide +kernel
theorem dX9_endOf_279 : decode cX9_endOf 279 = .ok (.isub, 1) := by decide +kernel
theorem dX9_endOf_280 : decode cX9_endOf 280 = .ok (.goto 4, 3) := by decide +kernel
theorem dX9_endOf_283 : decode cX9_endOf 283 = .ok (.iconst 0, 1) := by decide +kernel
theorem dX9_endOf_284 : decode cX9_endOf 284 = .ok (.invokevirtual 137, 3) := by decide +kernel
theorem dX9_endOf_287 : decode cX9_endOf 287 = .ok (.ifCond .eq 10, 3) := by decide +kernel
theorem dX9_endOf_290 : decode cX9_endOf 290 = .ok (.iload 5, 2) := by decide +kernel
theorem dX9_endOf_292 : decode cX9_endOf 292 = .ok (.iconst 1, 1) := by decide +kernel
theorem dX9_endOf_293 : decode cX9_endOf 293 = .ok (.iadd, 1) := by decide +kernel
theorem dX9_endOf_294 : decode cX9_endOf 294 = .ok (.goto 5, 3) := by decide +kernel
theorem dX9_endOf_297 : decode cX9_endOf 297 = .ok (.iload 4, 2) := by decide +kernel
theorem dX9_endOf_299 : decode cX9_endOf 299 = .ok (.ireturn, 1) := by decide +kernel
theorem dX9_cutsOf_0 : decode cX9_cutsOf 0 = .ok (.aload_n 0, 1) := by decide +kernel
theorem dX9_cutsOf_1 : decode cX9_cutsOf 1 = .ok (.iconst 0, 1) := by decide +kernel
theorem dX9_cutsOf_2 : decode cX9_cutsOf 2 = .ok (.putfield 140, 3) := by decide +kernel
theorem dX9_cutsOf_5 : decode cX9_cutsOf 5 = .ok (.aload_n 0, 1) := by decide +kernel
theorem dX9_cutsOf_6 : decode cX9_cutsOf 6 = .ok (.getfield 37, 3) := by decide +kernel
theorem dX9_cutsOf_9 : decode cX9_cutsOf 9 = .ok (.iconst 0, 1) := by decide +kernel
theorem dX9_cutsOf_10 : decode cX9_cutsOf 10 = .ok (.iconst 0, 1) := by decide +kernel
theorem dX9_cutsOf_11 : decode cX9_cutsOf 11 = .ok (.iastore, 1) := by decide +kernel
theorem dX9_cutsOf_12 : decode cX9_cutsOf 12 = .ok (.aload_n 0, 1) := by decide +kernel
theorem dX9_cutsOf_13 : decode cX9_cutsOf 13 = .ok (.getfield 37, 3) := by decide +kernel
theorem dX9_cutsOf_16 : decode cX9_cutsOf 16 = .ok (.aload_n 0, 1) := by decide +kernel
theorem dX9_cutsOf_17 : decode cX9_cutsOf 17 = .ok (.getfield 140, 3) := by decide +kernel
theorem dX9_cutsOf_20 : decode cX9_cutsOf 20 = .ok (.iaload, 1) := by decide +kernel
theorem dX9_cutsOf_21 : decode cX9_cutsOf 21 = .ok (.aload_n 0, 1) := by decide +kernel
theorem dX9_cutsOf_22 : decode cX9_cutsOf 22 = .ok (.getfield 7, 3) := by decide +kernel
theorem dX9_cutsOf_25 : decode cX9_cutsOf 25 = .ok (.iload_n 2, 1) := by decide +kernel
theorem dX9_cutsOf_26 : decode cX9_cutsOf 26 = .ok (.iaload, 1) := by decide +kernel
theorem dX9_cutsOf_27 : decode cX9_cutsOf 27 = .ok (.if_icmp .ge 42, 3) := by decide +kernel
theorem dX9_cutsOf_30 : decode cX9_cutsOf 30 = .ok (.aload_n 0, 1) := by decide +kernel
theorem dX9_cutsOf_31 : decode cX9_cutsOf 31 = .ok (.getfield 37, 3) := by decide +kernel
theorem dX9_cutsOf_34 : decode cX9_cutsOf 34 = .ok (.aload_n 0, 1) := by decide +kernel
theorem dX9_cutsOf_35 : decode cX9_cutsOf 35 = .ok (.getfield 140, 3) := by decide +kernel
theorem dX9_cutsOf_38 : decode cX9_cutsOf 38 = .ok (.iconst 1, 1) := by decide +kernel
theorem dX9_cutsOf_39 : decode cX9_cutsOf 39 = .ok (.iadd, 1) := by decide +kernel
theorem dX9_cutsOf_40 : decode cX9_cutsOf 40 = .ok (.aload_n 0, 1) := by decide +kernel
theorem dX9_cutsOf_41 : decode cX9_cutsOf 41 = .ok (.iload_n 1, 1) := by decide +kernel
theorem dX9_cutsOf_42 : decode cX9_cutsOf 42 = .ok (.iload_n 2, 1) := by decide +kernel
theorem dX9_cutsOf_43 : decode cX9_cutsOf 43 = .ok (.aload_n 0, 1) := by decide +kernel
theorem dX9_cutsOf_44 : decode cX9_cutsOf 44 = .ok (.getfield 37, 3) := by decide +kernel
theorem dX9_cutsOf_47 : decode cX9_cutsOf 47 = .ok (.aload_n 0, 1) := by decide +kernel
theorem dX9_cutsOf_48 : decode cX9_cutsOf 48 = .ok (.getfield 140, 3) := by decide +kernel
theorem dX9_cutsOf_51 : decode cX9_cutsOf 51 = .ok (.iaload, 1) := by decide +kernel
theorem dX9_cutsOf_52 : decode cX9_cutsOf 52 = .ok (.invokevirtual 143, 3) := by decide +kernel
theorem dX9_cutsOf_55 : decode cX9_cutsOf 55 = .ok (.iastore, 1) := by decide +kernel
theorem dX9_cutsOf_56 : decode cX9_cutsOf 56 = .ok (.aload_n 0, 1) := by decide +kernel
theorem dX9_cutsOf_57 : decode cX9_cutsOf 57 = .ok (.dup, 1) := by decide +kernel
theorem dX9_cutsOf_58 : decode cX9_cutsOf 58 = .ok (.getfield 140, 3) := by decide +kernel
theorem dX9_cutsOf_61 : decode cX9_cutsOf 61 = .ok (.iconst 1, 1) := by decide +kernel
theorem dX9_cutsOf_62 : decode cX9_cutsOf 62 = .ok (.iadd, 1) := by decide +kernel
theorem dX9_cutsOf_63 : decode cX9_cutsOf 63 = .ok (.putfield 140, 3) := by decide +kernel
theorem dX9_cutsOf_66 : decode cX9_cutsOf 66 = .ok (.goto (-54), 3) := by decide +kernel
theorem dX9_cutsOf_69 : decode cX9_cutsOf 69 = .ok (.return_, 1) := by decide +kernel
theorem dX9_cuts_0 : decode cX9_cuts 0 = .ok (.aload_n 0, 1) := by decide +kernel
theorem dX9_cuts_1 : decode cX9_cuts 1 = .ok (.iload_n 1, 1) := by decide +kernel
theorem dX9_cuts_2 : decode cX9_cuts 2 = .ok (.invokevirtual 127, 3) := by decide +kernel
theorem dX9_cuts_5 : decode cX9_cuts 5 = .ok (.ifCond .eq 10, 3) := by decide +kernel
theorem dX9_cuts_8 : decode cX9_cuts 8 = .ok (.iload_n 2, 1) := by decide +kernel
theorem dX9_cuts_9 : decode cX9_cuts 9 = .ok (.invokestatic 113, 3) := by decide +kernel
theorem dX9_cuts_12 : decode cX9_cuts 12 = .ok (.ifCond .ne 5, 3) := by decide +kernel
theorem dX9_cuts_15 : decode cX9_cuts 15 = .ok (.iconst (-1), 1) := by decide +kernel
theorem dX9_cuts_16 : decode cX9_cuts 16 = .ok (.ireturn, 1) := by decide +kernel
theorem dX9_cuts_17 : decode cX9_cuts 17 = .ok (.aload_n 0, 1) := by decide +kernel
theorem dX9_cuts_18 : decode cX9_cuts 18 = .ok (.iload_n 1, 1) := by decide +kernel
theorem dX9_cuts_19 : decode cX9_cuts 19 = .ok (.iload_n 2, 1) := by decide +kernel
theorem dX9_cuts_20 : decode cX9_cuts 20 = .ok (.invokevirtual 146, 3) := by decide +kernel
theorem dX9_cuts_23 : decode cX9_cuts 23 = .ok (.aload_n 0, 1) := by decide +kernel
theorem dX9_cuts_24 : decode cX9_cuts 24 = .ok (.getfield 140, 3) := by decide +kernel
theorem dX9_cuts_27 : decode cX9_cuts 27 = .ok (.ireturn, 1) := by decide +kernel
theorem dX9_cut_0 : decode cX9_cut 0 = .ok (.aload_n 0, 1) := by decide +kernel
theorem dX9_cut_1 : decode cX9_cut 1 = .ok (.iload_n 1, 1) := by decide +kernel
theorem dX9_cut_2 : decode cX9_cut 2 = .ok (.invokevirtual 127, 3) := by decide +kernel
theorem dX9_cut_5 : decode cX9_cut 5 = .ok (.ifCond .eq 14, 3) := by decide +kernel
theorem dX9_cut_8 : decode cX9_cut 8 = .ok (.iload_n 2, 1) := by decide +kernel
theorem dX9_cut_9 : decode cX9_cut 9 = .ok (.invokestatic 113, 3) := by decide +kernel
theorem dX9_cut_12 : decode cX9_cut 12 = .ok (.ifCond .eq 7, 3) := by decide +kernel
theorem dX9_cut_15 : decode cX9_cut 15 = .ok (.iload_n 3, 1) := by decide +kernel
theorem dX9_cut_16 : decode cX9_cut 16 = .ok (.ifCond .ge 5, 3) := by decide +kernel
theorem dX9_cut_19 : decode cX9_cut 19 = .ok (.iconst (-1), 1) := by decide +kernel
theorem dX9_cut_20 : decode cX9_cut 20 = .ok (.ireturn, 1) := by decide +kernel
theorem dX9_cut_21 : decode cX9_cut 21 = .ok (.aload_n 0, 1) := by decide +kernel
theorem dX9_cut_22 : decode cX9_cut 22 = .ok (.iload_n 1, 1) := by decide +kernel
theorem dX9_cut_23 : decode cX9_cut 23 = .ok (.iload_n 2, 1) := by decide +kernel
theorem dX9_cut_24 : decode cX9_cut 24 = .ok (.invokevirtual 146, 3) := by decide +kernel
theorem dX9_cut_27 : decode cX9_cut 27 = .ok (.iload_n 3, 1) := by decide +kernel
theorem dX9_cut_28 : decode cX9_cut 28 = .ok (.aload_n 0, 1) := by decide +kernel
theorem dX9_cut_29 : decode cX9_cut 29 = .ok (.getfield 140, 3) := by decide +kernel
theorem dX9_cut_32 : decode cX9_cut 32 = .ok (.if_icmp .gt 12, 3) := by decide +kernel
theorem dX9_cut_35 : decode cX9_cut 35 = .ok (.aload_n 0, 1) := by decide +kernel
theorem dX9_cut_36 : decode cX9_cut 36 = .ok (.getfield 37, 3) := by decide +kernel
theorem dX9_cut_39 : decode cX9_cut 39 = .ok (.iload_n 3, 1) := by decide +kernel
theorem dX9_cut_40 : decode cX9_cut 40 = .ok (.iaload, 1) := by decide +kernel
theorem dX9_cut_41 : decode cX9_cut 41 = .ok (.goto 4, 3) := by decide +kernel
theorem dX9_cut_44 : decode cX9_cut 44 = .ok (.iconst (-1), 1) := by decide +kernel
theorem dX9_cut_45 : decode cX9_cut 45 = .ok (.ireturn, 1) := by decide +kernel
theorem dX9_isAlike_0 : decode cX9_isAlike 0 = .ok (.iload_n 3, 1) := by decide +kernel
theorem dX9_isAlike_1 : decode cX9_isAlike 1 = .ok (.iload_n 2, 1) := by decide +kernel
theorem dX9_isAlike_2 : decode cX9_isAlike 2 = .ok (.isub, 1) := by decide +kernel
theorem dX9_isAlike_3 : decode cX9_isAlike 3 = .ok (.iload 6, 2) := by decide +kernel
theorem dX9_isAlike_5 : decode cX9_isAlike 5 = .ok (.iload 5, 2) := by decide +kernel
theorem dX9_isAlike_7 : decode cX9_isAlike 7 = .ok (.isub, 1) := by decide +kernel
theorem dX9_isAlike_8 : decode cX9_isAlike 8 = .ok (.if_icmp .eq 5, 3) := by decide +kernel
theorem dX9_isAlike_11 : decode cX9_isAlike 11 = .ok (.iconst 0, 1) := by decide +kernel
theorem dX9_isAlike_12 : decode cX9_isAlike 12 = .ok (.ireturn, 1) := by decide +kernel
theorem dX9_isAlike_13 : decode cX9_isAlike 13 = .ok (.iconst 0, 1) := by decide +kernel
theorem dX9_isAlike_14 : decode cX9_isAlike 14 = .ok (.istore 7, 2) := by decide +kernel
theorem dX9_isAlike_16 : decode cX9_isAlike 16 = .ok (.iload 7, 2) := by decide +kernel
theorem dX9_isAlike_18 : decode cX9_isAlike 18 = .ok (.iload_n 3, 1) := by decide +kernel
theorem dX9_isAlike_19 : decode cX9_isAlike 19 = .ok (.iload_n 2, 1) := by decide +kernel
theorem dX9_isAlike_20 : decode cX9_isAlike 20 = .ok (.isub, 1) := by decide +kernel
theorem dX9_isAlike_21 : decode cX9_isAlike 21 = .ok (.if_icmp .ge 46, 3) := by decide +kernel
theorem dX9_isAlike_24 : decode cX9_isAlike 24 = .ok (.aload_n 0, 1) := by decide +kernel
theorem dX9_isAlike_25 : decode cX9_isAlike 25 = .ok (.getfield 13, 3) := by decide +kernel
theorem dX9_isAlike_28 : decode cX9_isAlike 28 = .ok (.sipush 600, 3) := by decide +kernel
theorem dX9_isAlike_31 : decode cX9_isAlike 31 = .ok (.iload_n 1, 1) := by decide +kernel
theorem dX9_isAlike_32 : decode cX9_isAlike 32 = .ok (.imul, 1) := by decide +kernel
theorem dX9_isAlike_33 : decode cX9_isAlike 33 = .ok (.iload_n 2, 1) := by decide +kernel
theorem dX9_isAlike_34 : decode cX9_isAlike 34 = .ok (.iadd, 1) := by decide +kernel
theorem dX9_isAlike_35 : decode cX9_isAlike 35 = .ok (.iload 7, 2) := by decide +kernel
theorem dX9_isAlike_37 : decode cX9_isAlike 37 = .ok (.iadd, 1) := by decide +kernel
theorem dX9_isAlike_38 : decode cX9_isAlike 38 = .ok (.iaload, 1) := by decide +kernel
theorem dX9_isAlike_39 : decode cX9_isAlike 39 = .ok (.aload_n 0, 1) := by decide +kernel
theorem dX9_isAlike_40 : decode cX9_isAlike 40 = .ok (.getfield 13, 3) := by decide +kernel
theorem dX9_isAlike_43 : decode cX9_isAlike 43 = .ok (.sipush 600, 3) := by decide +kernel
theorem dX9_isAlike_46 : decode cX9_isAlike 46 = .ok (.iload 4, 2) := by decide +kernel
theorem dX9_isAlike_48 : decode cX9_isAlike 48 = .ok (.imul, 1) := by decide +kernel
theorem dX9_isAlike_49 : decode cX9_isAlike 49 = .ok (.iload 5, 2) := by decide +kernel
theorem dX9_isAlike_51 : decode cX9_isAlike 51 = .ok (.iadd, 1) := by decide +kernel
theorem dX9_isAlike_52 : decode cX9_isAlike 52 = .ok (.iload 7, 2) := by decide +kernel
theorem dX9_isAlike_54 : decode cX9_isAlike 54 = .ok (.iadd, 1) := by decide +kernel
theorem dX9_isAlike_55 : decode cX9_isAlike 55 = .ok (.iaload, 1) := by decide +kernel
theorem dX9_isAlike_56 : decode cX9_isAlike 56 = .ok (.if_icmp .eq 5, 3) := by decide +kernel
theorem dX9_isAlike_59 : decode cX9_isAlike 59 = .ok (.iconst 0, 1) := by decide +kernel
theorem dX9_isAlike_60 : decode cX9_isAlike 60 = .ok (.ireturn, 1) := by decide +kernel
theorem dX9_isAlike_61 : decode cX9_isAlike 61 = .ok (.iinc 7 1, 3) := by decide +kernel
theorem dX9_isAlike_64 : decode cX9_isAlike 64 = .ok (.goto (-48), 3) := by decide +kernel
theorem dX9_isAlike_67 : decode cX9_isAlike 67 = .ok (.iconst 1, 1) := by decide +kernel
theorem dX9_isAlike_68 : decode cX9_isAlike 68 = .ok (.ireturn, 1) := by decide +kernel
theorem dX9_othersOf_0 : decode cX9_othersOf 0 = .ok (.aload_n 0, 1) := by decide +kernel
theorem dX9_othersOf_1 : decode cX9_othersOf 1 = .ok (.iload_n 1, 1) := by decide +kernel
theorem dX9_othersOf_2 : decode cX9_othersOf 2 = .ok (.iload_n 2, 1) := by decide +kernel
theorem dX9_othersOf_3 : decode cX9_othersOf 3 = .ok (.invokevirtual 146, 3) := by decide +kernel
theorem dX9_othersOf_6 : decode cX9_othersOf 6 = .ok (.aload_n 0, 1) := by decide +kernel
theorem dX9_othersOf_7 : decode cX9_othersOf 7 = .ok (.aload_n 0, 1) := by decide +kernel
theorem dX9_othersOf_8 : decode cX9_othersOf 8 = .ok (.getfield 140, 3) := by decide +kernel
theorem dX9_othersOf_11 : decode cX9_othersOf 11 = .ok (.putfield 150, 3) := by decide +kernel
theorem dX9_othersOf_14 : decode cX9_othersOf 14 = .ok (.iconst 0, 1) := by decide +kernel
theorem dX9_othersOf_15 : decode cX9_othersOf 15 = .ok (.istore_n 3, 1) := by decide +kernel
theorem dX9_othersOf_16 : decode cX9_othersOf 16 = .ok (.iload_n 3, 1) := by decide +kernel
theorem dX9_othersOf_17 : decode cX9_othersOf 17 = .ok (.aload_n 0, 1) := by decide +kernel
theorem dX9_othersOf_18 : decode cX9_othersOf 18 = .ok (.getfield 140, 3) := by decide +kernel
theorem dX9_othersOf_21 : decode cX9_othersOf 21 = .ok (.if_icmp .gt 21, 3) := by decide +kernel
theorem dX9_othersOf_24 : decode cX9_othersOf 24 = .ok (.aload_n 0, 1) := by decide +kernel
theorem dX9_othersOf_25 : decode cX9_othersOf 25 = .ok (.getfield 40, 3) := by decide +kernel
theorem dX9_othersOf_28 : decode cX9_othersOf 28 = .ok (.iload_n 3, 1) := by decide +kernel
theorem dX9_othersOf_29 : decode cX9_othersOf 29 = .ok (.aload_n 0, 1) := by decide +kernel
theorem dX9_othersOf_30 : decode cX9_othersOf 30 = .ok (.getfield 37, 3) := by decide +kernel
theorem dX9_othersOf_33 : decode cX9_othersOf 33 = .ok (.iload_n 3, 1) := by decide +kernel
theorem dX9_othersOf_34 : decode cX9_othersOf 34 = .ok (.iaload, 1) := by decide +kernel
theorem dX9_othersOf_35 : decode cX9_othersOf 35 = .ok (.iastore, 1) := by decide +kernel
theorem dX9_othersOf_36 : decode cX9_othersOf 36 = .ok (.iinc 3 1, 3) := by decide +kernel
theorem dX9_othersOf_39 : decode cX9_othersOf 39 = .ok (.goto (-23), 3) := by decide +kernel
theorem dX9_othersOf_42 : decode cX9_othersOf 42 = .ok (.return_, 1) := by decide +kernel
theorem dX9_agree_0 : decode cX9_agree 0 = .ok (.aload_n 0, 1) := by decide +kernel
theorem dX9_agree_1 : decode cX9_agree 1 = .ok (.iload_n 1, 1) := by decide +kernel
theorem dX9_agree_2 : decode cX9_agree 2 = .ok (.invokevirtual 127, 3) := by decide +kernel
theorem dX9_agree_5 : decode cX9_agree 5 = .ok (.ifCond .eq 17, 3) := by decide +kernel
theorem dX9_agree_8 : decode cX9_agree 8 = .ok (.iload_n 2, 1) := by decide +kernel
theorem dX9_agree_9 : decode cX9_agree 9 = .ok (.invokestatic 113, 3) := by decide +kernel
theorem dX9_agree_12 : decode cX9_agree 12 = .ok (.ifCond .eq 10, 3) := by decide +kernel
theorem dX9_agree_15 : decode cX9_agree 15 = .ok (.iload_n 3, 1) := by decide +kernel
theorem dX9_agree_16 : decode cX9_agree 16 = .ok (.invokestatic 113, 3) := by decide +kernel
theorem dX9_agree_19 : decode cX9_agree 19 = .ok (.ifCond .ne 5, 3) := by decide +kernel
theorem dX9_agree_22 : decode cX9_agree 22 = .ok (.iconst (-1), 1) := by decide +kernel
end
section
theorem dX9_agree_23 : decode cX9_agree 23 = .ok (.ireturn, 1) := by decide +kernel
theorem dX9_agree_24 : decode cX9_agree 24 = .ok (.aload_n 0, 1) := by decide +kernel
theorem dX9_agree_25 : decode cX9_agree 25 = .ok (.iload_n 1, 1) := by decide +kernel
theorem dX9_agree_26 : decode cX9_agree 26 = .ok (.iload_n 2, 1) := by decide +kernel
theorem dX9_agree_27 : decode cX9_agree 27 = .ok (.invokevirtual 153, 3) := by decide +kernel
theorem dX9_agree_30 : decode cX9_agree 30 = .ok (.aload_n 0, 1) := by decide +kernel
theorem dX9_agree_31 : decode cX9_agree 31 = .ok (.iload_n 1, 1) := by decide +kernel
theorem dX9_agree_32 : decode cX9_agree 32 = .ok (.iload_n 3, 1) := by decide +kernel
theorem dX9_agree_33 : decode cX9_agree 33 = .ok (.invokevirtual 146, 3) := by decide +kernel
theorem dX9_agree_36 : decode cX9_agree 36 = .ok (.iconst 0, 1) := by decide +kernel
theorem dX9_agree_37 : decode cX9_agree 37 = .ok (.istore 4, 2) := by decide +kernel
theorem dX9_agree_39 : decode cX9_agree 39 = .ok (.iload 4, 2) := by decide +kernel
theorem dX9_agree_41 : decode cX9_agree 41 = .ok (.aload_n 0, 1) := by decide +kernel
theorem dX9_agree_42 : decode cX9_agree 42 = .ok (.getfield 140, 3) := by decide +kernel
theorem dX9_agree_45 : decode cX9_agree 45 = .ok (.if_icmp .ge 79, 3) := by decide +kernel
theorem dX9_agree_48 : decode cX9_agree 48 = .ok (.iload 4, 2) := by decide +kernel
theorem dX9_agree_50 : decode cX9_agree 50 = .ok (.aload_n 0, 1) := by decide +kernel
theorem dX9_agree_51 : decode cX9_agree 51 = .ok (.getfield 150, 3) := by decide +kernel
theorem dX9_agree_54 : decode cX9_agree 54 = .ok (.if_icmp .ge 70, 3) := by decide +kernel
theorem dX9_agree_57 : decode cX9_agree 57 = .ok (.aload_n 0, 1) := by decide +kernel
theorem dX9_agree_58 : decode cX9_agree 58 = .ok (.iload_n 2, 1) := by decide +kernel
theorem dX9_agree_59 : decode cX9_agree 59 = .ok (.aload_n 0, 1) := by decide +kernel
theorem dX9_agree_60 : decode cX9_agree 60 = .ok (.getfield 40, 3) := by decide +kernel
theorem dX9_agree_63 : decode cX9_agree 63 = .ok (.aload_n 0, 1) := by decide +kernel
theorem dX9_agree_64 : decode cX9_agree 64 = .ok (.getfield 150, 3) := by decide +kernel
theorem dX9_agree_67 : decode cX9_agree 67 = .ok (.iconst 1, 1) := by decide +kernel
theorem dX9_agree_68 : decode cX9_agree 68 = .ok (.isub, 1) := by decide +kernel
theorem dX9_agree_69 : decode cX9_agree 69 = .ok (.iload 4, 2) := by decide +kernel
theorem dX9_agree_71 : decode cX9_agree 71 = .ok (.isub, 1) := by decide +kernel
theorem dX9_agree_72 : decode cX9_agree 72 = .ok (.iaload, 1) := by decide +kernel
theorem dX9_agree_73 : decode cX9_agree 73 = .ok (.aload_n 0, 1) := by decide +kernel
theorem dX9_agree_74 : decode cX9_agree 74 = .ok (.getfield 40, 3) := by decide +kernel
theorem dX9_agree_77 : decode cX9_agree 77 = .ok (.aload_n 0, 1) := by decide +kernel
theorem dX9_agree_78 : decode cX9_agree 78 = .ok (.getfield 150, 3) := by decide +kernel
theorem dX9_agree_81 : decode cX9_agree 81 = .ok (.iload 4, 2) := by decide +kernel
theorem dX9_agree_83 : decode cX9_agree 83 = .ok (.isub, 1) := by decide +kernel
theorem dX9_agree_84 : decode cX9_agree 84 = .ok (.iaload, 1) := by decide +kernel
theorem dX9_agree_85 : decode cX9_agree 85 = .ok (.iload_n 3, 1) := by decide +kernel
theorem dX9_agree_86 : decode cX9_agree 86 = .ok (.aload_n 0, 1) := by decide +kernel
theorem dX9_agree_87 : decode cX9_agree 87 = .ok (.getfield 37, 3) := by decide +kernel
theorem dX9_agree_90 : decode cX9_agree 90 = .ok (.aload_n 0, 1) := by decide +kernel
theorem dX9_agree_91 : decode cX9_agree 91 = .ok (.getfield 140, 3) := by decide +kernel
theorem dX9_agree_94 : decode cX9_agree 94 = .ok (.iconst 1, 1) := by decide +kernel
theorem dX9_agree_95 : decode cX9_agree 95 = .ok (.isub, 1) := by decide +kernel
theorem dX9_agree_96 : decode cX9_agree 96 = .ok (.iload 4, 2) := by decide +kernel
theorem dX9_agree_98 : decode cX9_agree 98 = .ok (.isub, 1) := by decide +kernel
theorem dX9_agree_99 : decode cX9_agree 99 = .ok (.iaload, 1) := by decide +kernel
theorem dX9_agree_100 : decode cX9_agree 100 = .ok (.aload_n 0, 1) := by decide +kernel
theorem dX9_agree_101 : decode cX9_agree 101 = .ok (.getfield 37, 3) := by decide +kernel
theorem dX9_agree_104 : decode cX9_agree 104 = .ok (.aload_n 0, 1) := by decide +kernel
theorem dX9_agree_105 : decode cX9_agree 105 = .ok (.getfield 140, 3) := by decide +kernel
theorem dX9_agree_108 : decode cX9_agree 108 = .ok (.iload 4, 2) := by decide +kernel
theorem dX9_agree_110 : decode cX9_agree 110 = .ok (.isub, 1) := by decide +kernel
theorem dX9_agree_111 : decode cX9_agree 111 = .ok (.iaload, 1) := by decide +kernel
theorem dX9_agree_112 : decode cX9_agree 112 = .ok (.invokevirtual 156, 3) := by decide +kernel
theorem dX9_agree_115 : decode cX9_agree 115 = .ok (.ifCond .eq 9, 3) := by decide +kernel
theorem dX9_agree_118 : decode cX9_agree 118 = .ok (.iinc 4 1, 3) := by decide +kernel
theorem dX9_agree_121 : decode cX9_agree 121 = .ok (.goto (-82), 3) := by decide +kernel
theorem dX9_agree_124 : decode cX9_agree 124 = .ok (.iload 4, 2) := by decide +kernel
theorem dX9_agree_126 : decode cX9_agree 126 = .ok (.ireturn, 1) := by decide +kernel
theorem dX9_sent_0 : decode cX9_sent 0 = .ok (.aload_n 0, 1) := by decide +kernel
theorem dX9_sent_1 : decode cX9_sent 1 = .ok (.iload_n 1, 1) := by decide +kernel
theorem dX9_sent_2 : decode cX9_sent 2 = .ok (.invokevirtual 127, 3) := by decide +kernel
theorem dX9_sent_5 : decode cX9_sent 5 = .ok (.ifCond .eq 17, 3) := by decide +kernel
theorem dX9_sent_8 : decode cX9_sent 8 = .ok (.iload_n 2, 1) := by decide +kernel
theorem dX9_sent_9 : decode cX9_sent 9 = .ok (.invokestatic 113, 3) := by decide +kernel
theorem dX9_sent_12 : decode cX9_sent 12 = .ok (.ifCond .eq 10, 3) := by decide +kernel
theorem dX9_sent_15 : decode cX9_sent 15 = .ok (.iload_n 3, 1) := by decide +kernel
theorem dX9_sent_16 : decode cX9_sent 16 = .ok (.invokestatic 113, 3) := by decide +kernel
theorem dX9_sent_19 : decode cX9_sent 19 = .ok (.ifCond .ne 5, 3) := by decide +kernel
theorem dX9_sent_22 : decode cX9_sent 22 = .ok (.iconst (-1), 1) := by decide +kernel
theorem dX9_sent_23 : decode cX9_sent 23 = .ok (.ireturn, 1) := by decide +kernel
theorem dX9_sent_24 : decode cX9_sent 24 = .ok (.aload_n 0, 1) := by decide +kernel
theorem dX9_sent_25 : decode cX9_sent 25 = .ok (.iload_n 1, 1) := by decide +kernel
theorem dX9_sent_26 : decode cX9_sent 26 = .ok (.iload_n 2, 1) := by decide +kernel
theorem dX9_sent_27 : decode cX9_sent 27 = .ok (.invokevirtual 153, 3) := by decide +kernel
theorem dX9_sent_30 : decode cX9_sent 30 = .ok (.aload_n 0, 1) := by decide +kernel
theorem dX9_sent_31 : decode cX9_sent 31 = .ok (.iload_n 1, 1) := by decide +kernel
theorem dX9_sent_32 : decode cX9_sent 32 = .ok (.iload_n 3, 1) := by decide +kernel
theorem dX9_sent_33 : decode cX9_sent 33 = .ok (.invokevirtual 146, 3) := by decide +kernel
theorem dX9_sent_36 : decode cX9_sent 36 = .ok (.iconst 0, 1) := by decide +kernel
theorem dX9_sent_37 : decode cX9_sent 37 = .ok (.istore 4, 2) := by decide +kernel
theorem dX9_sent_39 : decode cX9_sent 39 = .ok (.iconst 0, 1) := by decide +kernel
theorem dX9_sent_40 : decode cX9_sent 40 = .ok (.istore 5, 2) := by decide +kernel
theorem dX9_sent_42 : decode cX9_sent 42 = .ok (.iload 5, 2) := by decide +kernel
theorem dX9_sent_44 : decode cX9_sent 44 = .ok (.aload_n 0, 1) := by decide +kernel
theorem dX9_sent_45 : decode cX9_sent 45 = .ok (.getfield 140, 3) := by decide +kernel
theorem dX9_sent_48 : decode cX9_sent 48 = .ok (.if_icmp .ge 163, 3) := by decide +kernel
theorem dX9_sent_51 : decode cX9_sent 51 = .ok (.iconst 0, 1) := by decide +kernel
theorem dX9_sent_52 : decode cX9_sent 52 = .ok (.istore 6, 2) := by decide +kernel
theorem dX9_sent_54 : decode cX9_sent 54 = .ok (.iconst 0, 1) := by decide +kernel
theorem dX9_sent_55 : decode cX9_sent 55 = .ok (.istore 7, 2) := by decide +kernel
theorem dX9_sent_57 : decode cX9_sent 57 = .ok (.iload 7, 2) := by decide +kernel
theorem dX9_sent_59 : decode cX9_sent 59 = .ok (.aload_n 0, 1) := by decide +kernel
theorem dX9_sent_60 : decode cX9_sent 60 = .ok (.getfield 150, 3) := by decide +kernel
theorem dX9_sent_63 : decode cX9_sent 63 = .ok (.if_icmp .ge 54, 3) := by decide +kernel
theorem dX9_sent_66 : decode cX9_sent 66 = .ok (.iload 6, 2) := by decide +kernel
theorem dX9_sent_68 : decode cX9_sent 68 = .ok (.ifCond .ne 49, 3) := by decide +kernel
theorem dX9_sent_71 : decode cX9_sent 71 = .ok (.aload_n 0, 1) := by decide +kernel
theorem dX9_sent_72 : decode cX9_sent 72 = .ok (.iload_n 2, 1) := by decide +kernel
theorem dX9_sent_73 : decode cX9_sent 73 = .ok (.aload_n 0, 1) := by decide +kernel
theorem dX9_sent_74 : decode cX9_sent 74 = .ok (.getfield 40, 3) := by decide +kernel
theorem dX9_sent_77 : decode cX9_sent 77 = .ok (.iload 7, 2) := by decide +kernel
theorem dX9_sent_79 : decode cX9_sent 79 = .ok (.iaload, 1) := by decide +kernel
theorem dX9_sent_80 : decode cX9_sent 80 = .ok (.aload_n 0, 1) := by decide +kernel
theorem dX9_sent_81 : decode cX9_sent 81 = .ok (.getfield 40, 3) := by decide +kernel
theorem dX9_sent_84 : decode cX9_sent 84 = .ok (.iload 7, 2) := by decide +kernel
theorem dX9_sent_86 : decode cX9_sent 86 = .ok (.iconst 1, 1) := by decide +kernel
theorem dX9_sent_87 : decode cX9_sent 87 = .ok (.iadd, 1) := by decide +kernel
theorem dX9_sent_88 : decode cX9_sent 88 = .ok (.iaload, 1) := by decide +kernel
theorem dX9_sent_89 : decode cX9_sent 89 = .ok (.iload_n 3, 1) := by decide +kernel
theorem dX9_sent_90 : decode cX9_sent 90 = .ok (.aload_n 0, 1) := by decide +kernel
theorem dX9_sent_91 : decode cX9_sent 91 = .ok (.getfield 37, 3) := by decide +kernel
theorem dX9_sent_94 : decode cX9_sent 94 = .ok (.iload 5, 2) := by decide +kernel
theorem dX9_sent_96 : decode cX9_sent 96 = .ok (.iaload, 1) := by decide +kernel
theorem dX9_sent_97 : decode cX9_sent 97 = .ok (.aload_n 0, 1) := by decide +kernel
theorem dX9_sent_98 : decode cX9_sent 98 = .ok (.getfield 37, 3) := by decide +kernel
theorem dX9_sent_101 : decode cX9_sent 101 = .ok (.iload 5, 2) := by decide +kernel
theorem dX9_sent_103 : decode cX9_sent 103 = .ok (.iconst 1, 1) := by decide +kernel
theorem dX9_sent_104 : decode cX9_sent 104 = .ok (.iadd, 1) := by decide +kernel
theorem dX9_sent_105 : decode cX9_sent 105 = .ok (.iaload, 1) := by decide +kernel
theorem dX9_sent_106 : decode cX9_sent 106 = .ok (.invokevirtual 156, 3) := by decide +kernel
theorem dX9_sent_109 : decode cX9_sent 109 = .ok (.istore 6, 2) := by decide +kernel
theorem dX9_sent_111 : decode cX9_sent 111 = .ok (.iinc 7 1, 3) := by decide +kernel
theorem dX9_sent_114 : decode cX9_sent 114 = .ok (.goto (-57), 3) := by decide +kernel
theorem dX9_sent_117 : decode cX9_sent 117 = .ok (.iconst 0, 1) := by decide +kernel
theorem dX9_sent_118 : decode cX9_sent 118 = .ok (.istore 7, 2) := by decide +kernel
theorem dX9_sent_120 : decode cX9_sent 120 = .ok (.iload 7, 2) := by decide +kernel
theorem dX9_sent_122 : decode cX9_sent 122 = .ok (.iload 5, 2) := by decide +kernel
theorem dX9_sent_124 : decode cX9_sent 124 = .ok (.if_icmp .ge 54, 3) := by decide +kernel
theorem dX9_sent_127 : decode cX9_sent 127 = .ok (.iload 6, 2) := by decide +kernel
theorem dX9_sent_129 : decode cX9_sent 129 = .ok (.ifCond .ne 49, 3) := by decide +kernel
theorem dX9_sent_132 : decode cX9_sent 132 = .ok (.aload_n 0, 1) := by decide +kernel
theorem dX9_sent_133 : decode cX9_sent 133 = .ok (.iload_n 3, 1) := by decide +kernel
theorem dX9_sent_134 : decode cX9_sent 134 = .ok (.aload_n 0, 1) := by decide +kernel
theorem dX9_sent_135 : decode cX9_sent 135 = .ok (.getfield 37, 3) := by decide +kernel
theorem dX9_sent_138 : decode cX9_sent 138 = .ok (.iload 7, 2) := by decide +kernel
theorem dX9_sent_140 : decode cX9_sent 140 = .ok (.iaload, 1) := by decide +kernel
theorem dX9_sent_141 : decode cX9_sent 141 = .ok (.aload_n 0, 1) := by decide +kernel
theorem dX9_sent_142 : decode cX9_sent 142 = .ok (.getfield 37, 3) := by decide +kernel
theorem dX9_sent_145 : decode cX9_sent 145 = .ok (.iload 7, 2) := by decide +kernel
theorem dX9_sent_147 : decode cX9_sent 147 = .ok (.iconst 1, 1) := by decide +kernel
theorem dX9_sent_148 : decode cX9_sent 148 = .ok (.iadd, 1) := by decide +kernel
theorem dX9_sent_149 : decode cX9_sent 149 = .ok (.iaload, 1) := by decide +kernel
theorem dX9_sent_150 : decode cX9_sent 150 = .ok (.iload_n 3, 1) := by decide +kernel
theorem dX9_sent_151 : decode cX9_sent 151 = .ok (.aload_n 0, 1) := by decide +kernel
theorem dX9_sent_152 : decode cX9_sent 152 = .ok (.getfield 37, 3) := by decide +kernel
theorem dX9_sent_155 : decode cX9_sent 155 = .ok (.iload 5, 2) := by decide +kernel
theorem dX9_sent_157 : decode cX9_sent 157 = .ok (.iaload, 1) := by decide +kernel
theorem dX9_sent_158 : decode cX9_sent 158 = .ok (.aload_n 0, 1) := by decide +kernel
theorem dX9_sent_159 : decode cX9_sent 159 = .ok (.getfield 37, 3) := by decide +kernel
theorem dX9_sent_162 : decode cX9_sent 162 = .ok (.iload 5, 2) := by decide +kernel
theorem dX9_sent_164 : decode cX9_sent 164 = .ok (.iconst 1, 1) := by decide +kernel
theorem dX9_sent_165 : decode cX9_sent 165 = .ok (.iadd, 1) := by decide +kernel
theorem dX9_sent_166 : decode cX9_sent 166 = .ok (.iaload, 1) := by decide +kernel
theorem dX9_sent_167 : decode cX9_sent 167 = .ok (.invokevirtual 156, 3) := by decide +kernel
theorem dX9_sent_170 : decode cX9_sent 170 = .ok (.istore 6, 2) := by decide +kernel
theorem dX9_sent_172 : decode cX9_sent 172 = .ok (.iinc 7 1, 3) := by decide +kernel
theorem dX9_sent_175 : decode cX9_sent 175 = .ok (.goto (-55), 3) := by decide +kernel
theorem dX9_sent_178 : decode cX9_sent 178 = .ok (.iload 6, 2) := by decide +kernel
theorem dX9_sent_180 : decode cX9_sent 180 = .ok (.ifCond .ne 25, 3) := by decide +kernel
theorem dX9_sent_183 : decode cX9_sent 183 = .ok (.iload 4, 2) := by decide +kernel
theorem dX9_sent_185 : decode cX9_sent 185 = .ok (.aload_n 0, 1) := by decide +kernel
theorem dX9_sent_186 : decode cX9_sent 186 = .ok (.getfield 37, 3) := by decide +kernel
theorem dX9_sent_189 : decode cX9_sent 189 = .ok (.iload 5, 2) := by decide +kernel
theorem dX9_sent_191 : decode cX9_sent 191 = .ok (.iconst 1, 1) := by decide +kernel
theorem dX9_sent_192 : decode cX9_sent 192 = .ok (.iadd, 1) := by decide +kernel
theorem dX9_sent_193 : decode cX9_sent 193 = .ok (.iaload, 1) := by decide +kernel
theorem dX9_sent_194 : decode cX9_sent 194 = .ok (.aload_n 0, 1) := by decide +kernel
theorem dX9_sent_195 : decode cX9_sent 195 = .ok (.getfield 37, 3) := by decide +kernel
theorem dX9_sent_198 : decode cX9_sent 198 = .ok (.iload 5, 2) := by decide +kernel
theorem dX9_sent_200 : decode cX9_sent 200 = .ok (.iaload, 1) := by decide +kernel
theorem dX9_sent_201 : decode cX9_sent 201 = .ok (.isub, 1) := by decide +kernel
theorem dX9_sent_202 : decode cX9_sent 202 = .ok (.iadd, 1) := by decide +kernel
theorem dX9_sent_203 : decode cX9_sent 203 = .ok (.istore 4, 2) := by decide +kernel
theorem dX9_sent_205 : decode cX9_sent 205 = .ok (.iinc 5 1, 3) := by decide +kernel
theorem dX9_sent_208 : decode cX9_sent 208 = .ok (.goto (-166), 3) := by decide +kernel
theorem dX9_sent_211 : decode cX9_sent 211 = .ok (.iload 4, 2) := by decide +kernel
theorem dX9_sent_213 : decode cX9_sent 213 = .ok (.ireturn, 1) := by decide +kernel
theorem dX9_printOf_0 : decode cX9_printOf 0 = .ok (.iconst 0, 1) := by decide +kernel
theorem dX9_printOf_1 : decode cX9_printOf 1 = .ok (.istore 4, 2) := by decide +kernel
theorem dX9_printOf_3 : decode cX9_printOf 3 = .ok (.iload_n 2, 1) := by decide +kernel
theorem dX9_printOf_4 : decode cX9_printOf 4 = .ok (.istore 5, 2) := by decide +kernel
theorem dX9_printOf_6 : decode cX9_printOf 6 = .ok (.iload 5, 2) := by decide +kernel
theorem dX9_printOf_8 : decode cX9_printOf 8 = .ok (.iload_n 3, 1) := by decide +kernel
theorem dX9_printOf_9 : decode cX9_printOf 9 = .ok (.if_icmp .ge 38, 3) := by decide +kernel
theorem dX9_printOf_12 : decode cX9_printOf 12 = .ok (.iload 4, 2) := by decide +kernel
theorem dX9_printOf_14 : decode cX9_printOf 14 = .ok (.aload_n 0, 1) := by decide +kernel
theorem dX9_printOf_15 : decode cX9_printOf 15 = .ok (.getfield 13, 3) := by decide +kernel
theorem dX9_printOf_18 : decode cX9_printOf 18 = .ok (.sipush 600, 3) := by decide +kernel
theorem dX9_printOf_21 : decode cX9_printOf 21 = .ok (.iload_n 1, 1) := by decide +kernel
theorem dX9_printOf_22 : decode cX9_printOf 22 = .ok (.imul, 1) := by decide +kernel
theorem dX9_printOf_23 : decode cX9_printOf 23 = .ok (.iload 5, 2) := by decide +kernel
theorem dX9_printOf_25 : decode cX9_printOf 25 = .ok (.iadd, 1) := by decide +kernel
theorem dX9_printOf_26 : decode cX9_printOf 26 = .ok (.iaload, 1) := by decide +kernel
theorem dX9_printOf_27 : decode cX9_printOf 27 = .ok (.iload 5, 2) := by decide +kernel
theorem dX9_printOf_29 : decode cX9_printOf 29 = .ok (.iload_n 2, 1) := by decide +kernel
theorem dX9_printOf_30 : decode cX9_printOf 30 = .ok (.isub, 1) := by decide +kernel
theorem dX9_printOf_31 : decode cX9_printOf 31 = .ok (.iconst 1, 1) := by decide +kernel
theorem dX9_printOf_32 : decode cX9_printOf 32 = .ok (.iadd, 1) := by decide +kernel
theorem dX9_printOf_33 : decode cX9_printOf 33 = .ok (.imul, 1) := by decide +kernel
theorem dX9_printOf_34 : decode cX9_printOf 34 = .ok (.iadd, 1) := by decide +kernel
theorem dX9_printOf_35 : decode cX9_printOf 35 = .ok (.sipush 256, 3) := by decide +kernel
theorem dX9_printOf_38 : decode cX9_printOf 38 = .ok (.irem, 1) := by decide +kernel
theorem dX9_printOf_39 : decode cX9_printOf 39 = .ok (.istore 4, 2) := by decide +kernel
theorem dX9_printOf_41 : decode cX9_printOf 41 = .ok (.iinc 5 1, 3) := by decide +kernel
theorem dX9_printOf_44 : decode cX9_printOf 44 = .ok (.goto (-38), 3) := by decide +kernel
theorem dX9_printOf_47 : decode cX9_printOf 47 = .ok (.iload 4, 2) := by decide +kernel
theorem dX9_printOf_49 : decode cX9_printOf 49 = .ok (.ireturn, 1) := by decide +kernel
theorem dX9_cost_0 : decode cX9_cost 0 = .ok (.aload_n 0, 1) := by decide +kernel
theorem dX9_cost_1 : decode cX9_cost 1 = .ok (.iload_n 1, 1) := by decide +kernel
theorem dX9_cost_2 : decode cX9_cost 2 = .ok (.invokevirtual 127, 3) := by decide +kernel
theorem dX9_cost_5 : decode cX9_cost 5 = .ok (.ifCond .ne 5, 3) := by decide +kernel
theorem dX9_cost_8 : decode cX9_cost 8 = .ok (.iconst (-1), 1) := by decide +kernel
theorem dX9_cost_9 : decode cX9_cost 9 = .ok (.ireturn, 1) := by decide +kernel
theorem dX9_cost_10 : decode cX9_cost 10 = .ok (.iconst 0, 1) := by decide +kernel
theorem dX9_cost_11 : decode cX9_cost 11 = .ok (.istore_n 3, 1) := by decide +kernel
theorem dX9_cost_12 : decode cX9_cost 12 = .ok (.iconst 0, 1) := by decide +kernel
theorem dX9_cost_13 : decode cX9_cost 13 = .ok (.istore 4, 2) := by decide +kernel
theorem dX9_cost_15 : decode cX9_cost 15 = .ok (.iconst 0, 1) := by decide +kernel
theorem dX9_cost_16 : decode cX9_cost 16 = .ok (.istore 5, 2) := by decide +kernel
theorem dX9_cost_18 : decode cX9_cost 18 = .ok (.iconst 0, 1) := by decide +kernel
theorem dX9_cost_19 : decode cX9_cost 19 = .ok (.istore 6, 2) := by decide +kernel
theorem dX9_cost_21 : decode cX9_cost 21 = .ok (.iload 6, 2) := by decide +kernel
theorem dX9_cost_23 : decode cX9_cost 23 = .ok (.bipush 8, 2) := by decide +kernel
theorem dX9_cost_25 : decode cX9_cost 25 = .ok (.if_icmp .ge 244, 3) := by decide +kernel
theorem dX9_cost_28 : decode cX9_cost 28 = .ok (.iload_n 2, 1) := by decide +kernel
theorem dX9_cost_29 : decode cX9_cost 29 = .ok (.iload 6, 2) := by decide +kernel
theorem dX9_cost_31 : decode cX9_cost 31 = .ok (.ishr, 1) := by decide +kernel
theorem dX9_cost_32 : decode cX9_cost 32 = .ok (.iconst 1, 1) := by decide +kernel
theorem dX9_cost_33 : decode cX9_cost 33 = .ok (.iand, 1) := by decide +kernel
theorem dX9_cost_34 : decode cX9_cost 34 = .ok (.ifCond .ne 6, 3) := by decide +kernel
theorem dX9_cost_37 : decode cX9_cost 37 = .ok (.goto 226, 3) := by decide +kernel
theorem dX9_cost_40 : decode cX9_cost 40 = .ok (.aload_n 0, 1) := by decide +kernel
theorem dX9_cost_41 : decode cX9_cost 41 = .ok (.iload_n 1, 1) := by decide +kernel
theorem dX9_cost_42 : decode cX9_cost 42 = .ok (.iload 6, 2) := by decide +kernel
theorem dX9_cost_44 : decode cX9_cost 44 = .ok (.invokevirtual 146, 3) := by decide +kernel
theorem dX9_cost_47 : decode cX9_cost 47 = .ok (.iload 4, 2) := by decide +kernel
theorem dX9_cost_49 : decode cX9_cost 49 = .ok (.aload_n 0, 1) := by decide +kernel
theorem dX9_cost_50 : decode cX9_cost 50 = .ok (.getfield 140, 3) := by decide +kernel
theorem dX9_cost_53 : decode cX9_cost 53 = .ok (.iadd, 1) := by decide +kernel
theorem dX9_cost_54 : decode cX9_cost 54 = .ok (.istore 4, 2) := by decide +kernel
theorem dX9_cost_56 : decode cX9_cost 56 = .ok (.iconst 0, 1) := by decide +kernel
theorem dX9_cost_57 : decode cX9_cost 57 = .ok (.istore 7, 2) := by decide +kernel
theorem dX9_cost_59 : decode cX9_cost 59 = .ok (.iload 7, 2) := by decide +kernel
theorem dX9_cost_61 : decode cX9_cost 61 = .ok (.aload_n 0, 1) := by decide +kernel
theorem dX9_cost_62 : decode cX9_cost 62 = .ok (.getfield 140, 3) := by decide +kernel
theorem dX9_cost_65 : decode cX9_cost 65 = .ok (.if_icmp .ge 198, 3) := by decide +kernel
theorem dX9_cost_68 : decode cX9_cost 68 = .ok (.aload_n 0, 1) := by decide +kernel
theorem dX9_cost_69 : decode cX9_cost 69 = .ok (.iload 6, 2) := by decide +kernel
theorem dX9_cost_71 : decode cX9_cost 71 = .ok (.aload_n 0, 1) := by decide +kernel
theorem dX9_cost_72 : decode cX9_cost 72 = .ok (.getfield 37, 3) := by decide +kernel
theorem dX9_cost_75 : decode cX9_cost 75 = .ok (.iload 7, 2) := by decide +kernel
theorem dX9_cost_77 : decode cX9_cost 77 = .ok (.iaload, 1) := by decide +kernel
theorem dX9_cost_78 : decode cX9_cost 78 = .ok (.aload_n 0, 1) := by decide +kernel
theorem dX9_cost_79 : decode cX9_cost 79 = .ok (.getfield 37, 3) := by decide +kernel
theorem dX9_cost_82 : decode cX9_cost 82 = .ok (.iload 7, 2) := by decide +kernel
theorem dX9_cost_84 : decode cX9_cost 84 = .ok (.iconst 1, 1) := by decide +kernel
theorem dX9_cost_85 : decode cX9_cost 85 = .ok (.iadd, 1) := by decide +kernel
theorem dX9_cost_86 : decode cX9_cost 86 = .ok (.iaload, 1) := by decide +kernel
theorem dX9_cost_87 : decode cX9_cost 87 = .ok (.invokevirtual 160, 3) := by decide +kernel
theorem dX9_cost_90 : decode cX9_cost 90 = .ok (.istore 8, 2) := by decide +kernel
theorem dX9_cost_92 : decode cX9_cost 92 = .ok (.iconst 0, 1) := by decide +kernel
theorem dX9_cost_93 : decode cX9_cost 93 = .ok (.istore 9, 2) := by decide +kernel
theorem dX9_cost_95 : decode cX9_cost 95 = .ok (.iconst 0, 1) := by decide +kernel
theorem dX9_cost_96 : decode cX9_cost 96 = .ok (.istore 10, 2) := by decide +kernel
theorem dX9_cost_98 : decode cX9_cost 98 = .ok (.iload 10, 2) := by decide +kernel
theorem dX9_cost_100 : decode cX9_cost 100 = .ok (.iload_n 3, 1) := by decide +kernel
theorem dX9_cost_101 : decode cX9_cost 101 = .ok (.if_icmp .ge 79, 3) := by decide +kernel
theorem dX9_cost_104 : decode cX9_cost 104 = .ok (.iload 9, 2) := by decide +kernel
theorem dX9_cost_106 : decode cX9_cost 106 = .ok (.ifCond .ne 74, 3) := by decide +kernel
theorem dX9_cost_109 : decode cX9_cost 109 = .ok (.aload_n 0, 1) := by decide +kernel
theorem dX9_cost_110 : decode cX9_cost 110 = .ok (.getfield 59, 3) := by decide +kernel
theorem dX9_cost_113 : decode cX9_cost 113 = .ok (.iload 10, 2) := by decide +kernel
theorem dX9_cost_115 : decode cX9_cost 115 = .ok (.iaload, 1) := by decide +kernel
theorem dX9_cost_116 : decode cX9_cost 116 = .ok (.iload 8, 2) := by decide +kernel
theorem dX9_cost_118 : decode cX9_cost 118 = .ok (.if_icmp .ne 53, 3) := by decide +kernel
theorem dX9_cost_121 : decode cX9_cost 121 = .ok (.aload_n 0, 1) := by decide +kernel
theorem dX9_cost_122 : decode cX9_cost 122 = .ok (.aload_n 0, 1) := by decide +kernel
theorem dX9_cost_123 : decode cX9_cost 123 = .ok (.getfield 50, 3) := by decide +kernel
theorem dX9_cost_126 : decode cX9_cost 126 = .ok (.iload 10, 2) := by decide +kernel
theorem dX9_cost_128 : decode cX9_cost 128 = .ok (.iaload, 1) := by decide +kernel
theorem dX9_cost_129 : decode cX9_cost 129 = .ok (.aload_n 0, 1) := by decide +kernel
theorem dX9_cost_130 : decode cX9_cost 130 = .ok (.getfield 53, 3) := by decide +kernel
theorem dX9_cost_133 : decode cX9_cost 133 = .ok (.iload 10, 2) := by decide +kernel
theorem dX9_cost_135 : decode cX9_cost 135 = .ok (.iaload, 1) := by decide +kernel
theorem dX9_cost_136 : decode cX9_cost 136 = .ok (.aload_n 0, 1) := by decide +kernel
theorem dX9_cost_137 : decode cX9_cost 137 = .ok (.getfield 56, 3) := by decide +kernel
theorem dX9_cost_140 : decode cX9_cost 140 = .ok (.iload 10, 2) := by decide +kernel
theorem dX9_cost_142 : decode cX9_cost 142 = .ok (.iaload, 1) := by decide +kernel
theorem dX9_cost_143 : decode cX9_cost 143 = .ok (.iload 6, 2) := by decide +kernel
theorem dX9_cost_145 : decode cX9_cost 145 = .ok (.aload_n 0, 1) := by decide +kernel
theorem dX9_cost_146 : decode cX9_cost 146 = .ok (.getfield 37, 3) := by decide +kernel
theorem dX9_cost_149 : decode cX9_cost 149 = .ok (.iload 7, 2) := by decide +kernel
theorem dX9_cost_151 : decode cX9_cost 151 = .ok (.iaload, 1) := by decide +kernel
theorem dX9_cost_152 : decode cX9_cost 152 = .ok (.aload_n 0, 1) := by decide +kernel
theorem dX9_cost_153 : decode cX9_cost 153 = .ok (.getfield 37, 3) := by decide +kernel
theorem dX9_cost_156 : decode cX9_cost 156 = .ok (.iload 7, 2) := by decide +kernel
theorem dX9_cost_158 : decode cX9_cost 158 = .ok (.iconst 1, 1) := by decide +kernel
theorem dX9_cost_159 : decode cX9_cost 159 = .ok (.iadd, 1) := by decide +kernel
theorem dX9_cost_160 : decode cX9_cost 160 = .ok (.iaload, 1) := by decide +kernel
theorem dX9_cost_161 : decode cX9_cost 161 = .ok (.invokevirtual 156, 3) := by decide +kernel
theorem dX9_cost_164 : decode cX9_cost 164 = .ok (.ifCond .eq 7, 3) := by decide +kernel
theorem dX9_cost_167 : decode cX9_cost 167 = .ok (.iconst 1, 1) := by decide +kernel
theorem dX9_cost_168 : decode cX9_cost 168 = .ok (.goto 4, 3) := by decide +kernel
theorem dX9_cost_171 : decode cX9_cost 171 = .ok (.iconst 0, 1) := by decide +kernel
theorem dX9_cost_172 : decode cX9_cost 172 = .ok (.istore 9, 2) := by decide +kernel
theorem dX9_cost_174 : decode cX9_cost 174 = .ok (.iinc 10 1, 3) := by decide +kernel
theorem dX9_cost_177 : decode cX9_cost 177 = .ok (.goto (-79), 3) := by decide +kernel
theorem dX9_cost_180 : decode cX9_cost 180 = .ok (.iload 9, 2) := by decide +kernel
theorem dX9_cost_182 : decode cX9_cost 182 = .ok (.ifCond .eq 6, 3) := by decide +kernel
theorem dX9_cost_185 : decode cX9_cost 185 = .ok (.goto 72, 3) := by decide +kernel
theorem dX9_cost_188 : decode cX9_cost 188 = .ok (.aload_n 0, 1) := by decide +kernel
theorem dX9_cost_189 : decode cX9_cost 189 = .ok (.getfield 50, 3) := by decide +kernel
theorem dX9_cost_192 : decode cX9_cost 192 = .ok (.iload_n 3, 1) := by decide +kernel
theorem dX9_cost_193 : decode cX9_cost 193 = .ok (.iload 6, 2) := by decide +kernel
theorem dX9_cost_195 : decode cX9_cost 195 = .ok (.iastore, 1) := by decide +kernel
theorem dX9_cost_196 : decode cX9_cost 196 = .ok (.aload_n 0, 1) := by decide +kernel
theorem dX9_cost_197 : decode cX9_cost 197 = .ok (.getfield 53, 3) := by decide +kernel
theorem dX9_cost_200 : decode cX9_cost 200 = .ok (.iload_n 3, 1) := by decide +kernel
theorem dX9_cost_201 : decode cX9_cost 201 = .ok (.aload_n 0, 1) := by decide +kernel
theorem dX9_cost_202 : decode cX9_cost 202 = .ok (.getfield 37, 3) := by decide +kernel
theorem dX9_cost_205 : decode cX9_cost 205 = .ok (.iload 7, 2) := by decide +kernel
theorem dX9_cost_207 : decode cX9_cost 207 = .ok (.iaload, 1) := by decide +kernel
theorem dX9_cost_208 : decode cX9_cost 208 = .ok (.iastore, 1) := by decide +kernel
theorem dX9_cost_209 : decode cX9_cost 209 = .ok (.aload_n 0, 1) := by decide +kernel
theorem dX9_cost_210 : decode cX9_cost 210 = .ok (.getfield 56, 3) := by decide +kernel
theorem dX9_cost_213 : decode cX9_cost 213 = .ok (.iload_n 3, 1) := by decide +kernel
theorem dX9_cost_214 : decode cX9_cost 214 = .ok (.aload_n 0, 1) := by decide +kernel
theorem dX9_cost_215 : decode cX9_cost 215 = .ok (.getfield 37, 3) := by decide +kernel
theorem dX9_cost_218 : decode cX9_cost 218 = .ok (.iload 7, 2) := by decide +kernel
theorem dX9_cost_220 : decode cX9_cost 220 = .ok (.iconst 1, 1) := by decide +kernel
theorem dX9_cost_221 : decode cX9_cost 221 = .ok (.iadd, 1) := by decide +kernel
theorem dX9_cost_222 : decode cX9_cost 222 = .ok (.iaload, 1) := by decide +kernel
theorem dX9_cost_223 : decode cX9_cost 223 = .ok (.iastore, 1) := by decide +kernel
theorem dX9_cost_224 : decode cX9_cost 224 = .ok (.aload_n 0, 1) := by decide +kernel
theorem dX9_cost_225 : decode cX9_cost 225 = .ok (.getfield 59, 3) := by decide +kernel
theorem dX9_cost_228 : decode cX9_cost 228 = .ok (.iload_n 3, 1) := by decide +kernel
theorem dX9_cost_229 : decode cX9_cost 229 = .ok (.iload 8, 2) := by decide +kernel
theorem dX9_cost_231 : decode cX9_cost 231 = .ok (.iastore, 1) := by decide +kernel
theorem dX9_cost_232 : decode cX9_cost 232 = .ok (.iinc 3 1, 3) := by decide +kernel
theorem dX9_cost_235 : decode cX9_cost 235 = .ok (.iload 5, 2) := by decide +kernel
theorem dX9_cost_237 : decode cX9_cost 237 = .ok (.aload_n 0, 1) := by decide +kernel
theorem dX9_cost_238 : decode cX9_cost 238 = .ok (.getfield 37, 3) := by decide +kernel
theorem dX9_cost_241 : decode cX9_cost 241 = .ok (.iload 7, 2) := by decide +kernel
theorem dX9_cost_243 : decode cX9_cost 243 = .ok (.iconst 1, 1) := by decide +kernel
theorem dX9_cost_244 : decode cX9_cost 244 = .ok (.iadd, 1) := by decide +kernel
theorem dX9_cost_245 : decode cX9_cost 245 = .ok (.iaload, 1) := by decide +kernel
theorem dX9_cost_246 : decode cX9_cost 246 = .ok (.aload_n 0, 1) := by decide +kernel
theorem dX9_cost_247 : decode cX9_cost 247 = .ok (.getfield 37, 3) := by decide +kernel
theorem dX9_cost_250 : decode cX9_cost 250 = .ok (.iload 7, 2) := by decide +kernel
theorem dX9_cost_252 : decode cX9_cost 252 = .ok (.iaload, 1) := by decide +kernel
theorem dX9_cost_253 : decode cX9_cost 253 = .ok (.isub, 1) := by decide +kernel
theorem dX9_cost_254 : decode cX9_cost 254 = .ok (.iadd, 1) := by decide +kernel
theorem dX9_cost_255 : decode cX9_cost 255 = .ok (.istore 5, 2) := by decide +kernel
theorem dX9_cost_257 : decode cX9_cost 257 = .ok (.iinc 7 1, 3) := by decide +kernel
theorem dX9_cost_260 : decode cX9_cost 260 = .ok (.goto (-201), 3) := by decide +kernel
theorem dX9_cost_263 : decode cX9_cost 263 = .ok (.iinc 6 1, 3) := by decide +kernel
theorem dX9_cost_266 : decode cX9_cost 266 = .ok (.goto (-245), 3) := by decide +kernel
theorem dX9_cost_269 : decode cX9_cost 269 = .ok (.iload 5, 2) := by decide +kernel
theorem dX9_cost_271 : decode cX9_cost 271 = .ok (.aload_n 0, 1) := by decide +kernel
theorem dX9_cost_272 : decode cX9_cost 272 = .ok (.getfield 43, 3) := by decide +kernel
theorem dX9_cost_275 : decode cX9_cost 275 = .ok (.iload_n 3, 1) := by decide +kernel
theorem dX9_cost_276 : decode cX9_cost 276 = .ok (.imul, 1) := by decide +kernel
theorem dX9_cost_277 : decode cX9_cost 277 = .ok (.iadd, 1) := by decide +kernel
theorem dX9_cost_278 : decode cX9_cost 278 = .ok (.aload_n 0, 1) := by decide +kernel
theorem dX9_cost_279 : decode cX9_cost 279 = .ok (.getfield 47, 3) := by decide +kernel
theorem dX9_cost_282 : decode cX9_cost 282 = .ok (.iload 4, 2) := by decide +kernel
theorem dX9_cost_284 : decode cX9_cost 284 = .ok (.imul, 1) := by decide +kernel
theorem dX9_cost_285 : decode cX9_cost 285 = .ok (.iadd, 1) := by decide +kernel
theorem dX9_cost_286 : decode cX9_cost 286 = .ok (.ireturn, 1) := by decide +kernel
theorem dX9_best_0 : decode cX9_best 0 = .ok (.iconst (-1), 1) := by decide +kernel
theorem dX9_best_1 : decode cX9_best 1 = .ok (.istore_n 2, 1) := by decide +kernel
theorem dX9_best_2 : decode cX9_best 2 = .ok (.iconst 0, 1) := by decide +kernel
theorem dX9_best_3 : decode cX9_best 3 = .ok (.istore_n 3, 1) := by decide +kernel
theorem dX9_best_4 : decode cX9_best 4 = .ok (.iconst 0, 1) := by decide +kernel
theorem dX9_best_5 : decode cX9_best 5 = .ok (.istore 4, 2) := by decide +kernel
theorem dX9_best_7 : decode cX9_best 7 = .ok (.iload 4, 2) := by decide +kernel
theorem dX9_best_9 : decode cX9_best 9 = .ok (.bipush 6, 2) := by decide +kernel
theorem dX9_best_11 : decode cX9_best 11 = .ok (.if_icmp .ge 50, 3) := by decide +kernel
theorem dX9_best_14 : decode cX9_best 14 = .ok (.aload_n 0, 1) := by decide +kernel
theorem dX9_best_15 : decode cX9_best 15 = .ok (.iload 4, 2) := by decide +kernel
theorem dX9_best_17 : decode cX9_best 17 = .ok (.invokevirtual 127, 3) := by decide +kernel
theorem dX9_best_20 : decode cX9_best 20 = .ok (.ifCond .ne 6, 3) := by decide +kernel
theorem dX9_best_23 : decode cX9_best 23 = .ok (.goto 32, 3) := by decide +kernel
theorem dX9_best_26 : decode cX9_best 26 = .ok (.aload_n 0, 1) := by decide +kernel
theorem dX9_best_27 : decode cX9_best 27 = .ok (.iload 4, 2) := by decide +kernel
theorem dX9_best_29 : decode cX9_best 29 = .ok (.iload_n 1, 1) := by decide +kernel
theorem dX9_best_30 : decode cX9_best 30 = .ok (.invokevirtual 163, 3) := by decide +kernel
theorem dX9_best_33 : decode cX9_best 33 = .ok (.istore 5, 2) := by decide +kernel
theorem dX9_best_35 : decode cX9_best 35 = .ok (.iload_n 2, 1) := by decide +kernel
theorem dX9_best_36 : decode cX9_best 36 = .ok (.iconst (-1), 1) := by decide +kernel
theorem dX9_best_37 : decode cX9_best 37 = .ok (.if_icmp .eq 12, 3) := by decide +kernel
theorem dX9_best_40 : decode cX9_best 40 = .ok (.iload 5, 2) := by decide +kernel
theorem dX9_best_42 : decode cX9_best 42 = .ok (.iload_n 3, 1) := by decide +kernel
theorem dX9_best_43 : decode cX9_best 43 = .ok (.if_icmp .lt 6, 3) := by decide +kernel
theorem dX9_best_46 : decode cX9_best 46 = .ok (.goto 9, 3) := by decide +kernel
theorem dX9_best_49 : decode cX9_best 49 = .ok (.iload 4, 2) := by decide +kernel
theorem dX9_best_51 : decode cX9_best 51 = .ok (.istore_n 2, 1) := by decide +kernel
theorem dX9_best_52 : decode cX9_best 52 = .ok (.iload 5, 2) := by decide +kernel
theorem dX9_best_54 : decode cX9_best 54 = .ok (.istore_n 3, 1) := by decide +kernel
theorem dX9_best_55 : decode cX9_best 55 = .ok (.iinc 4 1, 3) := by decide +kernel
theorem dX9_best_58 : decode cX9_best 58 = .ok (.goto (-51), 3) := by decide +kernel
theorem dX9_best_61 : decode cX9_best 61 = .ok (.iload_n 2, 1) := by decide +kernel
theorem dX9_best_62 : decode cX9_best 62 = .ok (.ireturn, 1) := by decide +kernel
theorem dX9_isPiece_0 : decode cX9_isPiece 0 = .ok (.iload_n 1, 1) := by decide +kernel
theorem dX9_isPiece_1 : decode cX9_isPiece 1 = .ok (.ifCond .le 23, 3) := by decide +kernel
theorem dX9_isPiece_4 : decode cX9_isPiece 4 = .ok (.iload_n 1, 1) := by decide +kernel
theorem dX9_isPiece_5 : decode cX9_isPiece 5 = .ok (.sipush 300, 3) := by decide +kernel
theorem dX9_isPiece_8 : decode cX9_isPiece 8 = .ok (.if_icmp .gt 16, 3) := by decide +kernel
theorem dX9_isPiece_11 : decode cX9_isPiece 11 = .ok (.aload_n 0, 1) := by decide +kernel
theorem dX9_isPiece_12 : decode cX9_isPiece 12 = .ok (.getfield 62, 3) := by decide +kernel
theorem dX9_isPiece_15 : decode cX9_isPiece 15 = .ok (.iload_n 1, 1) := by decide +kernel
theorem dX9_isPiece_16 : decode cX9_isPiece 16 = .ok (.iaload, 1) := by decide +kernel
theorem dX9_isPiece_17 : decode cX9_isPiece 17 = .ok (.ifCond .le 7, 3) := by decide +kernel
theorem dX9_isPiece_20 : decode cX9_isPiece 20 = .ok (.iconst 1, 1) := by decide +kernel
theorem dX9_isPiece_21 : decode cX9_isPiece 21 = .ok (.goto 4, 3) := by decide +kernel
theorem dX9_isPiece_24 : decode cX9_isPiece 24 = .ok (.iconst 0, 1) := by decide +kernel
theorem dX9_isPiece_25 : decode cX9_isPiece 25 = .ok (.ireturn, 1) := by decide +kernel
theorem dX9_isThat_0 : decode cX9_isThat 0 = .ok (.aload_n 0, 1) := by decide +kernel
theorem dX9_isThat_1 : decode cX9_isThat 1 = .ok (.getfield 62, 3) := by decide +kernel
theorem dX9_isThat_4 : decode cX9_isThat 4 = .ok (.iload_n 1, 1) := by decide +kernel
theorem dX9_isThat_5 : decode cX9_isThat 5 = .ok (.iaload, 1) := by decide +kernel
theorem dX9_isThat_6 : decode cX9_isThat 6 = .ok (.iload 4, 2) := by decide +kernel
theorem dX9_isThat_8 : decode cX9_isThat 8 = .ok (.iload_n 3, 1) := by decide +kernel
theorem dX9_isThat_9 : decode cX9_isThat 9 = .ok (.isub, 1) := by decide +kernel
theorem dX9_isThat_10 : decode cX9_isThat 10 = .ok (.if_icmp .eq 5, 3) := by decide +kernel
theorem dX9_isThat_13 : decode cX9_isThat 13 = .ok (.iconst 0, 1) := by decide +kernel
theorem dX9_isThat_14 : decode cX9_isThat 14 = .ok (.ireturn, 1) := by decide +kernel
theorem dX9_isThat_15 : decode cX9_isThat 15 = .ok (.iload_n 3, 1) := by decide +kernel
theorem dX9_isThat_16 : decode cX9_isThat 16 = .ok (.istore 5, 2) := by decide +kernel
theorem dX9_isThat_18 : decode cX9_isThat 18 = .ok (.iload 5, 2) := by decide +kernel
theorem dX9_isThat_20 : decode cX9_isThat 20 = .ok (.iload 4, 2) := by decide +kernel
theorem dX9_isThat_22 : decode cX9_isThat 22 = .ok (.if_icmp .ge 42, 3) := by decide +kernel
theorem dX9_isThat_25 : decode cX9_isThat 25 = .ok (.aload_n 0, 1) := by decide +kernel
theorem dX9_isThat_26 : decode cX9_isThat 26 = .ok (.getfield 66, 3) := by decide +kernel
theorem dX9_isThat_29 : decode cX9_isThat 29 = .ok (.sipush 200, 3) := by decide +kernel
theorem dX9_isThat_32 : decode cX9_isThat 32 = .ok (.iload_n 1, 1) := by decide +kernel
theorem dX9_isThat_33 : decode cX9_isThat 33 = .ok (.imul, 1) := by decide +kernel
theorem dX9_isThat_34 : decode cX9_isThat 34 = .ok (.iload 5, 2) := by decide +kernel
theorem dX9_isThat_36 : decode cX9_isThat 36 = .ok (.iadd, 1) := by decide +kernel
theorem dX9_isThat_37 : decode cX9_isThat 37 = .ok (.iload_n 3, 1) := by decide +kernel
theorem dX9_isThat_38 : decode cX9_isThat 38 = .ok (.isub, 1) := by decide +kernel
theorem dX9_isThat_39 : decode cX9_isThat 39 = .ok (.iaload, 1) := by decide +kernel
theorem dX9_isThat_40 : decode cX9_isThat 40 = .ok (.aload_n 0, 1) := by decide +kernel
theorem dX9_isThat_41 : decode cX9_isThat 41 = .ok (.getfield 13, 3) := by decide +kernel
theorem dX9_isThat_44 : decode cX9_isThat 44 = .ok (.sipush 600, 3) := by decide +kernel
theorem dX9_isThat_47 : decode cX9_isThat 47 = .ok (.iload_n 2, 1) := by decide +kernel
theorem dX9_isThat_48 : decode cX9_isThat 48 = .ok (.imul, 1) := by decide +kernel
theorem dX9_isThat_49 : decode cX9_isThat 49 = .ok (.iload 5, 2) := by decide +kernel
theorem dX9_isThat_51 : decode cX9_isThat 51 = .ok (.iadd, 1) := by decide +kernel
theorem dX9_isThat_52 : decode cX9_isThat 52 = .ok (.iaload, 1) := by decide +kernel
theorem dX9_isThat_53 : decode cX9_isThat 53 = .ok (.if_icmp .eq 5, 3) := by decide +kernel
theorem dX9_isThat_56 : decode cX9_isThat 56 = .ok (.iconst 0, 1) := by decide +kernel
theorem dX9_isThat_57 : decode cX9_isThat 57 = .ok (.ireturn, 1) := by decide +kernel
theorem dX9_isThat_58 : decode cX9_isThat 58 = .ok (.iinc 5 1, 3) := by decide +kernel
theorem dX9_isThat_61 : decode cX9_isThat 61 = .ok (.goto (-43), 3) := by decide +kernel
theorem dX9_isThat_64 : decode cX9_isThat 64 = .ok (.iconst 1, 1) := by decide +kernel
theorem dX9_isThat_65 : decode cX9_isThat 65 = .ok (.ireturn, 1) := by decide +kernel
theorem dX9_there_0 : decode cX9_there 0 = .ok (.iconst 0, 1) := by decide +kernel
theorem dX9_there_1 : decode cX9_there 1 = .ok (.istore_n 1, 1) := by decide +kernel
theorem dX9_there_2 : decode cX9_there 2 = .ok (.iconst 1, 1) := by decide +kernel
theorem dX9_there_3 : decode cX9_there 3 = .ok (.istore_n 2, 1) := by decide +kernel
theorem dX9_there_4 : decode cX9_there 4 = .ok (.iload_n 2, 1) := by decide +kernel
theorem dX9_there_5 : decode cX9_there 5 = .ok (.sipush 300, 3) := by decide +kernel
theorem dX9_there_8 : decode cX9_there 8 = .ok (.if_icmp .gt 20, 3) := by decide +kernel
theorem dX9_there_11 : decode cX9_there 11 = .ok (.aload_n 0, 1) := by decide +kernel
theorem dX9_there_12 : decode cX9_there 12 = .ok (.iload_n 2, 1) := by decide +kernel
theorem dX9_there_13 : decode cX9_there 13 = .ok (.invokevirtual 167, 3) := by decide +kernel
theorem dX9_there_16 : decode cX9_there 16 = .ok (.ifCond .eq 6, 3) := by decide +kernel
theorem dX9_there_19 : decode cX9_there 19 = .ok (.iinc 1 1, 3) := by decide +kernel
theorem dX9_there_22 : decode cX9_there 22 = .ok (.iinc 2 1, 3) := by decide +kernel
theorem dX9_there_25 : decode cX9_there 25 = .ok (.goto (-21), 3) := by decide +kernel
theorem dX9_there_28 : decode cX9_there 28 = .ok (.iload_n 1, 1) := by decide +kernel
theorem dX9_there_29 : decode cX9_there 29 = .ok (.ireturn, 1) := by decide +kernel
theorem dX9_lacks_0 : decode cX9_lacks 0 = .ok (.iconst 0, 1) := by decide +kernel
theorem dX9_lacks_1 : decode cX9_lacks 1 = .ok (.istore_n 2, 1) := by decide +kernel
theorem dX9_lacks_2 : decode cX9_lacks 2 = .ok (.iconst 0, 1) := by decide +kernel
theorem dX9_lacks_3 : decode cX9_lacks 3 = .ok (.istore_n 3, 1) := by decide +kernel
theorem dX9_lacks_4 : decode cX9_lacks 4 = .ok (.iload_n 3, 1) := by decide +kernel
theorem dX9_lacks_5 : decode cX9_lacks 5 = .ok (.aload_n 0, 1) := by decide +kernel
theorem dX9_lacks_6 : decode cX9_lacks 6 = .ok (.getfield 140, 3) := by decide +kernel
theorem dX9_lacks_9 : decode cX9_lacks 9 = .ok (.if_icmp .ge 140, 3) := by decide +kernel
theorem dX9_lacks_12 : decode cX9_lacks 12 = .ok (.iconst 0, 1) := by decide +kernel
theorem dX9_lacks_13 : decode cX9_lacks 13 = .ok (.istore 4, 2) := by decide +kernel
theorem dX9_lacks_15 : decode cX9_lacks 15 = .ok (.iconst 1, 1) := by decide +kernel
theorem dX9_lacks_16 : decode cX9_lacks 16 = .ok (.istore 5, 2) := by decide +kernel
theorem dX9_lacks_18 : decode cX9_lacks 18 = .ok (.iload 5, 2) := by decide +kernel
theorem dX9_lacks_20 : decode cX9_lacks 20 = .ok (.sipush 300, 3) := by decide +kernel
theorem dX9_lacks_23 : decode cX9_lacks 23 = .ok (.if_icmp .gt 54, 3) := by decide +kernel
theorem dX9_lacks_26 : decode cX9_lacks 26 = .ok (.iload 4, 2) := by decide +kernel
theorem dX9_lacks_28 : decode cX9_lacks 28 = .ok (.ifCond .ne 49, 3) := by decide +kernel
theorem dX9_lacks_31 : decode cX9_lacks 31 = .ok (.aload_n 0, 1) := by decide +kernel
theorem dX9_lacks_32 : decode cX9_lacks 32 = .ok (.iload 5, 2) := by decide +kernel
theorem dX9_lacks_34 : decode cX9_lacks 34 = .ok (.invokevirtual 167, 3) := by decide +kernel
theorem dX9_lacks_37 : decode cX9_lacks 37 = .ok (.ifCond .eq 31, 3) := by decide +kernel
theorem dX9_lacks_40 : decode cX9_lacks 40 = .ok (.aload_n 0, 1) := by decide +kernel
theorem dX9_lacks_41 : decode cX9_lacks 41 = .ok (.iload 5, 2) := by decide +kernel
theorem dX9_lacks_43 : decode cX9_lacks 43 = .ok (.iload_n 1, 1) := by decide +kernel
theorem dX9_lacks_44 : decode cX9_lacks 44 = .ok (.aload_n 0, 1) := by decide +kernel
theorem dX9_lacks_45 : decode cX9_lacks 45 = .ok (.getfield 37, 3) := by decide +kernel
theorem dX9_lacks_48 : decode cX9_lacks 48 = .ok (.iload_n 3, 1) := by decide +kernel
theorem dX9_lacks_49 : decode cX9_lacks 49 = .ok (.iaload, 1) := by decide +kernel
theorem dX9_lacks_50 : decode cX9_lacks 50 = .ok (.aload_n 0, 1) := by decide +kernel
theorem dX9_lacks_51 : decode cX9_lacks 51 = .ok (.getfield 37, 3) := by decide +kernel
theorem dX9_lacks_54 : decode cX9_lacks 54 = .ok (.iload_n 3, 1) := by decide +kernel
theorem dX9_lacks_55 : decode cX9_lacks 55 = .ok (.iconst 1, 1) := by decide +kernel
theorem dX9_lacks_56 : decode cX9_lacks 56 = .ok (.iadd, 1) := by decide +kernel
theorem dX9_lacks_57 : decode cX9_lacks 57 = .ok (.iaload, 1) := by decide +kernel
theorem dX9_lacks_58 : decode cX9_lacks 58 = .ok (.invokevirtual 170, 3) := by decide +kernel
theorem dX9_lacks_61 : decode cX9_lacks 61 = .ok (.ifCond .eq 7, 3) := by decide +kernel
theorem dX9_lacks_64 : decode cX9_lacks 64 = .ok (.iconst 1, 1) := by decide +kernel
theorem dX9_lacks_65 : decode cX9_lacks 65 = .ok (.goto 4, 3) := by decide +kernel
theorem dX9_lacks_68 : decode cX9_lacks 68 = .ok (.iconst 0, 1) := by decide +kernel
theorem dX9_lacks_69 : decode cX9_lacks 69 = .ok (.istore 4, 2) := by decide +kernel
theorem dX9_lacks_71 : decode cX9_lacks 71 = .ok (.iinc 5 1, 3) := by decide +kernel
theorem dX9_lacks_74 : decode cX9_lacks 74 = .ok (.goto (-56), 3) := by decide +kernel
theorem dX9_lacks_77 : decode cX9_lacks 77 = .ok (.iconst 0, 1) := by decide +kernel
theorem dX9_lacks_78 : decode cX9_lacks 78 = .ok (.istore 5, 2) := by decide +kernel
theorem dX9_lacks_80 : decode cX9_lacks 80 = .ok (.iload 5, 2) := by decide +kernel
theorem dX9_lacks_82 : decode cX9_lacks 82 = .ok (.iload_n 3, 1) := by decide +kernel
theorem dX9_lacks_83 : decode cX9_lacks 83 = .ok (.if_icmp .ge 52, 3) := by decide +kernel
theorem dX9_lacks_86 : decode cX9_lacks 86 = .ok (.iload 4, 2) := by decide +kernel
theorem dX9_lacks_88 : decode cX9_lacks 88 = .ok (.ifCond .ne 47, 3) := by decide +kernel
theorem dX9_lacks_91 : decode cX9_lacks 91 = .ok (.aload_n 0, 1) := by decide +kernel
theorem dX9_lacks_92 : decode cX9_lacks 92 = .ok (.iload_n 1, 1) := by decide +kernel
theorem dX9_lacks_93 : decode cX9_lacks 93 = .ok (.aload_n 0, 1) := by decide +kernel
theorem dX9_lacks_94 : decode cX9_lacks 94 = .ok (.getfield 37, 3) := by decide +kernel
theorem dX9_lacks_97 : decode cX9_lacks 97 = .ok (.iload 5, 2) := by decide +kernel
theorem dX9_lacks_99 : decode cX9_lacks 99 = .ok (.iaload, 1) := by decide +kernel
theorem dX9_lacks_100 : decode cX9_lacks 100 = .ok (.aload_n 0, 1) := by decide +kernel
theorem dX9_lacks_101 : decode cX9_lacks 101 = .ok (.getfield 37, 3) := by decide +kernel
theorem dX9_lacks_104 : decode cX9_lacks 104 = .ok (.iload 5, 2) := by decide +kernel
theorem dX9_lacks_106 : decode cX9_lacks 106 = .ok (.iconst 1, 1) := by decide +kernel
theorem dX9_lacks_107 : decode cX9_lacks 107 = .ok (.iadd, 1) := by decide +kernel
theorem dX9_lacks_108 : decode cX9_lacks 108 = .ok (.iaload, 1) := by decide +kernel
theorem dX9_lacks_109 : decode cX9_lacks 109 = .ok (.iload_n 1, 1) := by decide +kernel
theorem dX9_lacks_110 : decode cX9_lacks 110 = .ok (.aload_n 0, 1) := by decide +kernel
theorem dX9_lacks_111 : decode cX9_lacks 111 = .ok (.getfield 37, 3) := by decide +kernel
theorem dX9_lacks_114 : decode cX9_lacks 114 = .ok (.iload_n 3, 1) := by decide +kernel
theorem dX9_lacks_115 : decode cX9_lacks 115 = .ok (.iaload, 1) := by decide +kernel
theorem dX9_lacks_116 : decode cX9_lacks 116 = .ok (.aload_n 0, 1) := by decide +kernel
theorem dX9_lacks_117 : decode cX9_lacks 117 = .ok (.getfield 37, 3) := by decide +kernel
theorem dX9_lacks_120 : decode cX9_lacks 120 = .ok (.iload_n 3, 1) := by decide +kernel
theorem dX9_lacks_121 : decode cX9_lacks 121 = .ok (.iconst 1, 1) := by decide +kernel
theorem dX9_lacks_122 : decode cX9_lacks 122 = .ok (.iadd, 1) := by decide +kernel
theorem dX9_lacks_123 : decode cX9_lacks 123 = .ok (.iaload, 1) := by decide +kernel
theorem dX9_lacks_124 : decode cX9_lacks 124 = .ok (.invokevirtual 156, 3) := by decide +kernel
theorem dX9_lacks_127 : decode cX9_lacks 127 = .ok (.istore 4, 2) := by decide +kernel
theorem dX9_lacks_129 : decode cX9_lacks 129 = .ok (.iinc 5 1, 3) := by decide +kernel
theorem dX9_lacks_132 : decode cX9_lacks 132 = .ok (.goto (-52), 3) := by decide +kernel
theorem dX9_lacks_135 : decode cX9_lacks 135 = .ok (.iload 4, 2) := by decide +kernel
theorem dX9_lacks_137 : decode cX9_lacks 137 = .ok (.ifCond .ne 6, 3) := by decide +kernel
theorem dX9_lacks_140 : decode cX9_lacks 140 = .ok (.iinc 2 1, 3) := by decide +kernel
theorem dX9_lacks_143 : decode cX9_lacks 143 = .ok (.iinc 3 1, 3) := by decide +kernel
theorem dX9_lacks_146 : decode cX9_lacks 146 = .ok (.goto (-142), 3) := by decide +kernel
theorem dX9_lacks_149 : decode cX9_lacks 149 = .ok (.iload_n 2, 1) := by decide +kernel
theorem dX9_lacks_150 : decode cX9_lacks 150 = .ok (.ireturn, 1) := by decide +kernel
theorem dX9_comes_0 : decode cX9_comes 0 = .ok (.aload_n 0, 1) := by decide +kernel
theorem dX9_comes_1 : decode cX9_comes 1 = .ok (.iload_n 1, 1) := by decide +kernel
theorem dX9_comes_2 : decode cX9_comes 2 = .ok (.iload_n 2, 1) := by decide +kernel
theorem dX9_comes_3 : decode cX9_comes 3 = .ok (.iload_n 3, 1) := by decide +kernel
theorem dX9_comes_4 : decode cX9_comes 4 = .ok (.invokevirtual 160, 3) := by decide +kernel
theorem dX9_comes_7 : decode cX9_comes 7 = .ok (.istore 4, 2) := by decide +kernel
theorem dX9_comes_9 : decode cX9_comes 9 = .ok (.iconst (-1), 1) := by decide +kernel
theorem dX9_comes_10 : decode cX9_comes 10 = .ok (.istore 5, 2) := by decide +kernel
theorem dX9_comes_12 : decode cX9_comes 12 = .ok (.iconst (-1), 1) := by decide +kernel
theorem dX9_comes_13 : decode cX9_comes 13 = .ok (.istore 6, 2) := by decide +kernel
theorem dX9_comes_15 : decode cX9_comes 15 = .ok (.iconst 1, 1) := by decide +kernel
theorem dX9_comes_16 : decode cX9_comes 16 = .ok (.istore 7, 2) := by decide +kernel
theorem dX9_comes_18 : decode cX9_comes 18 = .ok (.iload 7, 2) := by decide +kernel
theorem dX9_comes_20 : decode cX9_comes 20 = .ok (.sipush 300, 3) := by decide +kernel
theorem dX9_comes_23 : decode cX9_comes 23 = .ok (.if_icmp .gt 94, 3) := by decide +kernel
theorem dX9_comes_26 : decode cX9_comes 26 = .ok (.iload 5, 2) := by decide +kernel
theorem dX9_comes_28 : decode cX9_comes 28 = .ok (.iconst (-1), 1) := by decide +kernel
theorem dX9_comes_29 : decode cX9_comes 29 = .ok (.if_icmp .ne 88, 3) := by decide +kernel
theorem dX9_comes_32 : decode cX9_comes 32 = .ok (.aload_n 0, 1) := by decide +kernel
theorem dX9_comes_33 : decode cX9_comes 33 = .ok (.iload 7, 2) := by decide +kernel
theorem dX9_comes_35 : decode cX9_comes 35 = .ok (.invokevirtual 167, 3) := by decide +kernel
theorem dX9_comes_38 : decode cX9_comes 38 = .ok (.ifCond .ne 16, 3) := by decide +kernel
theorem dX9_comes_41 : decode cX9_comes 41 = .ok (.iload 6, 2) := by decide +kernel
theorem dX9_comes_43 : decode cX9_comes 43 = .ok (.iconst (-1), 1) := by decide +kernel
theorem dX9_comes_44 : decode cX9_comes 44 = .ok (.if_icmp .ne 67, 3) := by decide +kernel
theorem dX9_comes_47 : decode cX9_comes 47 = .ok (.iload 7, 2) := by decide +kernel
theorem dX9_comes_49 : decode cX9_comes 49 = .ok (.istore 6, 2) := by decide +kernel
theorem dX9_comes_51 : decode cX9_comes 51 = .ok (.goto 60, 3) := by decide +kernel
theorem dX9_comes_54 : decode cX9_comes 54 = .ok (.aload_n 0, 1) := by decide +kernel
theorem dX9_comes_55 : decode cX9_comes 55 = .ok (.getfield 69, 3) := by decide +kernel
theorem dX9_comes_58 : decode cX9_comes 58 = .ok (.iload 7, 2) := by decide +kernel
theorem dX9_comes_60 : decode cX9_comes 60 = .ok (.iaload, 1) := by decide +kernel
theorem dX9_comes_61 : decode cX9_comes 61 = .ok (.iload 4, 2) := by decide +kernel
theorem dX9_comes_63 : decode cX9_comes 63 = .ok (.if_icmp .ne 48, 3) := by decide +kernel
theorem dX9_comes_66 : decode cX9_comes 66 = .ok (.aload_n 0, 1) := by decide +kernel
theorem dX9_comes_67 : decode cX9_comes 67 = .ok (.getfield 62, 3) := by decide +kernel
theorem dX9_comes_70 : decode cX9_comes 70 = .ok (.iload 7, 2) := by decide +kernel
theorem dX9_comes_72 : decode cX9_comes 72 = .ok (.iaload, 1) := by decide +kernel
theorem dX9_comes_73 : decode cX9_comes 73 = .ok (.iload_n 3, 1) := by decide +kernel
theorem dX9_comes_74 : decode cX9_comes 74 = .ok (.iload_n 2, 1) := by decide +kernel
theorem dX9_comes_75 : decode cX9_comes 75 = .ok (.isub, 1) := by decide +kernel
theorem dX9_comes_76 : decode cX9_comes 76 = .ok (.if_icmp .eq 6, 3) := by decide +kernel
theorem dX9_comes_79 : decode cX9_comes 79 = .ok (.goto 32, 3) := by decide +kernel
theorem dX9_comes_82 : decode cX9_comes 82 = .ok (.aload_n 0, 1) := by decide +kernel
theorem dX9_comes_83 : decode cX9_comes 83 = .ok (.iload 7, 2) := by decide +kernel
theorem dX9_comes_85 : decode cX9_comes 85 = .ok (.iload_n 1, 1) := by decide +kernel
theorem dX9_comes_86 : decode cX9_comes 86 = .ok (.iload_n 2, 1) := by decide +kernel
theorem dX9_comes_87 : decode cX9_comes 87 = .ok (.iload_n 3, 1) := by decide +kernel
theorem dX9_comes_88 : decode cX9_comes 88 = .ok (.invokevirtual 170, 3) := by decide +kernel
theorem dX9_comes_91 : decode cX9_comes 91 = .ok (.ifCond .eq 10, 3) := by decide +kernel
theorem dX9_comes_94 : decode cX9_comes 94 = .ok (.iload 7, 2) := by decide +kernel
theorem dX9_comes_96 : decode cX9_comes 96 = .ok (.istore 5, 2) := by decide +kernel
theorem dX9_comes_98 : decode cX9_comes 98 = .ok (.goto 13, 3) := by decide +kernel
theorem dX9_comes_101 : decode cX9_comes 101 = .ok (.aload_n 0, 1) := by decide +kernel
theorem dX9_comes_102 : decode cX9_comes 102 = .ok (.dup, 1) := by decide +kernel
theorem dX9_comes_103 : decode cX9_comes 103 = .ok (.getfield 174, 3) := by decide +kernel
theorem dX9_comes_106 : decode cX9_comes 106 = .ok (.iconst 1, 1) := by decide +kernel
theorem dX9_comes_107 : decode cX9_comes 107 = .ok (.iadd, 1) := by decide +kernel
theorem dX9_comes_108 : decode cX9_comes 108 = .ok (.putfield 174, 3) := by decide +kernel
theorem dX9_comes_111 : decode cX9_comes 111 = .ok (.iinc 7 1, 3) := by decide +kernel
theorem dX9_comes_114 : decode cX9_comes 114 = .ok (.goto (-96), 3) := by decide +kernel
theorem dX9_comes_117 : decode cX9_comes 117 = .ok (.iload 5, 2) := by decide +kernel
theorem dX9_comes_119 : decode cX9_comes 119 = .ok (.iconst (-1), 1) := by decide +kernel
theorem dX9_comes_120 : decode cX9_comes 120 = .ok (.if_icmp .eq 6, 3) := by decide +kernel
theorem dX9_comes_123 : decode cX9_comes 123 = .ok (.iload 5, 2) := by decide +kernel
theorem dX9_comes_125 : decode cX9_comes 125 = .ok (.ireturn, 1) := by decide +kernel
theorem dX9_comes_126 : decode cX9_comes 126 = .ok (.aload_n 0, 1) := by decide +kernel
theorem dX9_comes_127 : decode cX9_comes 127 = .ok (.getfield 62, 3) := by decide +kernel
theorem dX9_comes_130 : decode cX9_comes 130 = .ok (.iload 6, 2) := by decide +kernel
theorem dX9_comes_132 : decode cX9_comes 132 = .ok (.iload_n 3, 1) := by decide +kernel
theorem dX9_comes_133 : decode cX9_comes 133 = .ok (.iload_n 2, 1) := by decide +kernel
theorem dX9_comes_134 : decode cX9_comes 134 = .ok (.isub, 1) := by decide +kernel
theorem dX9_comes_135 : decode cX9_comes 135 = .ok (.iastore, 1) := by decide +kernel
theorem dX9_comes_136 : decode cX9_comes 136 = .ok (.aload_n 0, 1) := by decide +kernel
theorem dX9_comes_137 : decode cX9_comes 137 = .ok (.getfield 69, 3) := by decide +kernel
theorem dX9_comes_140 : decode cX9_comes 140 = .ok (.iload 6, 2) := by decide +kernel
theorem dX9_comes_142 : decode cX9_comes 142 = .ok (.iload 4, 2) := by decide +kernel
theorem dX9_comes_144 : decode cX9_comes 144 = .ok (.iastore, 1) := by decide +kernel
theorem dX9_comes_145 : decode cX9_comes 145 = .ok (.aload_n 0, 1) := by decide +kernel
theorem dX9_comes_146 : decode cX9_comes 146 = .ok (.getfield 72, 3) := by decide +kernel
theorem dX9_comes_149 : decode cX9_comes 149 = .ok (.iload 6, 2) := by decide +kernel
theorem dX9_comes_151 : decode cX9_comes 151 = .ok (.iconst 0, 1) := by decide +kernel
theorem dX9_comes_152 : decode cX9_comes 152 = .ok (.iastore, 1) := by decide +kernel
theorem dX9_comes_153 : decode cX9_comes 153 = .ok (.iload_n 2, 1) := by decide +kernel
theorem dX9_comes_154 : decode cX9_comes 154 = .ok (.istore 7, 2) := by decide +kernel
theorem dX9_comes_156 : decode cX9_comes 156 = .ok (.iload 7, 2) := by decide +kernel
theorem dX9_comes_158 : decode cX9_comes 158 = .ok (.iload_n 3, 1) := by decide +kernel
theorem dX9_comes_159 : decode cX9_comes 159 = .ok (.if_icmp .ge 38, 3) := by decide +kernel
theorem dX9_comes_162 : decode cX9_comes 162 = .ok (.aload_n 0, 1) := by decide +kernel
theorem dX9_comes_163 : decode cX9_comes 163 = .ok (.getfield 66, 3) := by decide +kernel
theorem dX9_comes_166 : decode cX9_comes 166 = .ok (.sipush 200, 3) := by decide +kernel
theorem dX9_comes_169 : decode cX9_comes 169 = .ok (.iload 6, 2) := by decide +kernel
theorem dX9_comes_171 : decode cX9_comes 171 = .ok (.imul, 1) := by decide +kernel
theorem dX9_comes_172 : decode cX9_comes 172 = .ok (.iload 7, 2) := by decide +kernel
theorem dX9_comes_174 : decode cX9_comes 174 = .ok (.iadd, 1) := by decide +kernel
theorem dX9_comes_175 : decode cX9_comes 175 = .ok (.iload_n 2, 1) := by decide +kernel
theorem dX9_comes_176 : decode cX9_comes 176 = .ok (.isub, 1) := by decide +kernel
theorem dX9_comes_177 : decode cX9_comes 177 = .ok (.aload_n 0, 1) := by decide +kernel
theorem dX9_comes_178 : decode cX9_comes 178 = .ok (.getfield 13, 3) := by decide +kernel
theorem dX9_comes_181 : decode cX9_comes 181 = .ok (.sipush 600, 3) := by decide +kernel
theorem dX9_comes_184 : decode cX9_comes 184 = .ok (.iload_n 1, 1) := by decide +kernel
theorem dX9_comes_185 : decode cX9_comes 185 = .ok (.imul, 1) := by decide +kernel
theorem dX9_comes_186 : decode cX9_comes 186 = .ok (.iload 7, 2) := by decide +kernel
theorem dX9_comes_188 : decode cX9_comes 188 = .ok (.iadd, 1) := by decide +kernel
theorem dX9_comes_189 : decode cX9_comes 189 = .ok (.iaload, 1) := by decide +kernel
theorem dX9_comes_190 : decode cX9_comes 190 = .ok (.iastore, 1) := by decide +kernel
theorem dX9_comes_191 : decode cX9_comes 191 = .ok (.iinc 7 1, 3) := by decide +kernel
theorem dX9_comes_194 : decode cX9_comes 194 = .ok (.goto (-38), 3) := by decide +kernel
theorem dX9_comes_197 : decode cX9_comes 197 = .ok (.iload 6, 2) := by decide +kernel
theorem dX9_comes_199 : decode cX9_comes 199 = .ok (.ireturn, 1) := by decide +kernel
theorem dX9_goes_0 : decode cX9_goes 0 = .ok (.iconst 0, 1) := by decide +kernel
theorem dX9_goes_1 : decode cX9_goes 1 = .ok (.istore 4, 2) := by decide +kernel
theorem dX9_goes_3 : decode cX9_goes 3 = .ok (.iconst 0, 1) := by decide +kernel
theorem dX9_goes_4 : decode cX9_goes 4 = .ok (.istore 5, 2) := by decide +kernel
theorem dX9_goes_6 : decode cX9_goes 6 = .ok (.iload 5, 2) := by decide +kernel
theorem dX9_goes_8 : decode cX9_goes 8 = .ok (.iload_n 3, 1) := by decide +kernel
theorem dX9_goes_9 : decode cX9_goes 9 = .ok (.if_icmp .ge 52, 3) := by decide +kernel
theorem dX9_goes_12 : decode cX9_goes 12 = .ok (.aload_n 1, 1) := by decide +kernel
theorem dX9_goes_13 : decode cX9_goes 13 = .ok (.iload_n 2, 1) := by decide +kernel
theorem dX9_goes_14 : decode cX9_goes 14 = .ok (.iload 5, 2) := by decide +kernel
theorem dX9_goes_16 : decode cX9_goes 16 = .ok (.iadd, 1) := by decide +kernel
theorem dX9_goes_17 : decode cX9_goes 17 = .ok (.iaload, 1) := by decide +kernel
theorem dX9_goes_18 : decode cX9_goes 18 = .ok (.istore 6, 2) := by decide +kernel
theorem dX9_goes_20 : decode cX9_goes 20 = .ok (.aload_n 0, 1) := by decide +kernel
theorem dX9_goes_21 : decode cX9_goes 21 = .ok (.getfield 72, 3) := by decide +kernel
theorem dX9_goes_24 : decode cX9_goes 24 = .ok (.iload 6, 2) := by decide +kernel
theorem dX9_goes_26 : decode cX9_goes 26 = .ok (.dup2, 1) := by decide +kernel
theorem dX9_goes_27 : decode cX9_goes 27 = .ok (.iaload, 1) := by decide +kernel
theorem dX9_goes_28 : decode cX9_goes 28 = .ok (.iconst 1, 1) := by decide +kernel
theorem dX9_goes_29 : decode cX9_goes 29 = .ok (.isub, 1) := by decide +kernel
theorem dX9_goes_30 : decode cX9_goes 30 = .ok (.iastore, 1) := by decide +kernel
theorem dX9_goes_31 : decode cX9_goes 31 = .ok (.aload_n 0, 1) := by decide +kernel
theorem dX9_goes_32 : decode cX9_goes 32 = .ok (.getfield 72, 3) := by decide +kernel
theorem dX9_goes_35 : decode cX9_goes 35 = .ok (.iload 6, 2) := by decide +kernel
theorem dX9_goes_37 : decode cX9_goes 37 = .ok (.iaload, 1) := by decide +kernel
theorem dX9_goes_38 : decode cX9_goes 38 = .ok (.ifCond .le 6, 3) := by decide +kernel
theorem dX9_goes_41 : decode cX9_goes 41 = .ok (.goto 14, 3) := by decide +kernel
theorem dX9_goes_44 : decode cX9_goes 44 = .ok (.aload_n 0, 1) := by decide +kernel
theorem dX9_goes_45 : decode cX9_goes 45 = .ok (.getfield 62, 3) := by decide +kernel
theorem dX9_goes_48 : decode cX9_goes 48 = .ok (.iload 6, 2) := by decide +kernel
theorem dX9_goes_50 : decode cX9_goes 50 = .ok (.iconst 0, 1) := by decide +kernel
theorem dX9_goes_51 : decode cX9_goes 51 = .ok (.iastore, 1) := by decide +kernel
theorem dX9_goes_52 : decode cX9_goes 52 = .ok (.iinc 4 1, 3) := by decide +kernel
theorem dX9_goes_55 : decode cX9_goes 55 = .ok (.iinc 5 1, 3) := by decide +kernel
theorem dX9_goes_58 : decode cX9_goes 58 = .ok (.goto (-52), 3) := by decide +kernel
theorem dX9_goes_61 : decode cX9_goes 61 = .ok (.iload 4, 2) := by decide +kernel
theorem dX9_goes_63 : decode cX9_goes 63 = .ok (.ireturn, 1) := by decide +kernel
theorem dX9_keep_0 : decode cX9_keep 0 = .ok (.aload_n 0, 1) := by decide +kernel
theorem dX9_keep_1 : decode cX9_keep 1 = .ok (.iload_n 1, 1) := by decide +kernel
theorem dX9_keep_2 : decode cX9_keep 2 = .ok (.invokevirtual 127, 3) := by decide +kernel
theorem dX9_keep_5 : decode cX9_keep 5 = .ok (.ifCond .eq 10, 3) := by decide +kernel
theorem dX9_keep_8 : decode cX9_keep 8 = .ok (.iload_n 2, 1) := by decide +kernel
theorem dX9_keep_9 : decode cX9_keep 9 = .ok (.invokestatic 113, 3) := by decide +kernel
theorem dX9_keep_12 : decode cX9_keep 12 = .ok (.ifCond .ne 5, 3) := by decide +kernel
theorem dX9_keep_15 : decode cX9_keep 15 = .ok (.iconst (-1), 1) := by decide +kernel
theorem dX9_keep_16 : decode cX9_keep 16 = .ok (.ireturn, 1) := by decide +kernel
theorem dX9_keep_17 : decode cX9_keep 17 = .ok (.aload_n 0, 1) := by decide +kernel
theorem dX9_keep_18 : decode cX9_keep 18 = .ok (.iload_n 1, 1) := by decide +kernel
theorem dX9_keep_19 : decode cX9_keep 19 = .ok (.iload_n 2, 1) := by decide +kernel
theorem dX9_keep_20 : decode cX9_keep 20 = .ok (.invokevirtual 146, 3) := by decide +kernel
theorem dX9_keep_23 : decode cX9_keep 23 = .ok (.aload_n 0, 1) := by decide +kernel
theorem dX9_keep_24 : decode cX9_keep 24 = .ok (.iload_n 2, 1) := by decide +kernel
theorem dX9_keep_25 : decode cX9_keep 25 = .ok (.invokevirtual 177, 3) := by decide +kernel
theorem dX9_keep_28 : decode cX9_keep 28 = .ok (.istore_n 3, 1) := by decide +kernel
theorem dX9_keep_29 : decode cX9_keep 29 = .ok (.aload_n 0, 1) := by decide +kernel
theorem dX9_keep_30 : decode cX9_keep 30 = .ok (.invokevirtual 181, 3) := by decide +kernel
theorem dX9_keep_33 : decode cX9_keep 33 = .ok (.iload_n 3, 1) := by decide +kernel
theorem dX9_keep_34 : decode cX9_keep 34 = .ok (.iadd, 1) := by decide +kernel
theorem dX9_keep_35 : decode cX9_keep 35 = .ok (.sipush 300, 3) := by decide +kernel
theorem dX9_keep_38 : decode cX9_keep 38 = .ok (.if_icmp .le 6, 3) := by decide +kernel
theorem dX9_keep_41 : decode cX9_keep 41 = .ok (.bipush (-2), 2) := by decide +kernel
theorem dX9_keep_43 : decode cX9_keep 43 = .ok (.ireturn, 1) := by decide +kernel
theorem dX9_keep_44 : decode cX9_keep 44 = .ok (.aload_n 0, 1) := by decide +kernel
theorem dX9_keep_45 : decode cX9_keep 45 = .ok (.getfield 75, 3) := by decide +kernel
theorem dX9_keep_48 : decode cX9_keep 48 = .ok (.iload_n 2, 1) := by decide +kernel
theorem dX9_keep_49 : decode cX9_keep 49 = .ok (.baload, 1) := by decide +kernel
theorem dX9_keep_50 : decode cX9_keep 50 = .ok (.ifCond .eq 12, 3) := by decide +kernel
theorem dX9_keep_53 : decode cX9_keep 53 = .ok (.aload_n 0, 1) := by decide +kernel
theorem dX9_keep_54 : decode cX9_keep 54 = .ok (.getfield 79, 3) := by decide +kernel
theorem dX9_keep_57 : decode cX9_keep 57 = .ok (.iload_n 2, 1) := by decide +kernel
theorem dX9_keep_58 : decode cX9_keep 58 = .ok (.iaload, 1) := by decide +kernel
theorem dX9_keep_59 : decode cX9_keep 59 = .ok (.goto 4, 3) := by decide +kernel
theorem dX9_keep_62 : decode cX9_keep 62 = .ok (.iconst 0, 1) := by decide +kernel
theorem dX9_keep_63 : decode cX9_keep 63 = .ok (.istore 4, 2) := by decide +kernel
theorem dX9_keep_65 : decode cX9_keep 65 = .ok (.iconst 0, 1) := by decide +kernel
theorem dX9_keep_66 : decode cX9_keep 66 = .ok (.istore 5, 2) := by decide +kernel
theorem dX9_keep_68 : decode cX9_keep 68 = .ok (.iload 5, 2) := by decide +kernel
theorem dX9_keep_70 : decode cX9_keep 70 = .ok (.iload 4, 2) := by decide +kernel
theorem dX9_keep_72 : decode cX9_keep 72 = .ok (.if_icmp .ge 29, 3) := by decide +kernel
theorem dX9_keep_75 : decode cX9_keep 75 = .ok (.aload_n 0, 1) := by decide +kernel
theorem dX9_keep_76 : decode cX9_keep 76 = .ok (.getfield 85, 3) := by decide +kernel
theorem dX9_keep_79 : decode cX9_keep 79 = .ok (.iload 5, 2) := by decide +kernel
theorem dX9_keep_81 : decode cX9_keep 81 = .ok (.aload_n 0, 1) := by decide +kernel
theorem dX9_keep_82 : decode cX9_keep 82 = .ok (.getfield 82, 3) := by decide +kernel
theorem dX9_keep_85 : decode cX9_keep 85 = .ok (.sipush 600, 3) := by decide +kernel
theorem dX9_keep_88 : decode cX9_keep 88 = .ok (.iload_n 2, 1) := by decide +kernel
theorem dX9_keep_89 : decode cX9_keep 89 = .ok (.imul, 1) := by decide +kernel
theorem dX9_keep_90 : decode cX9_keep 90 = .ok (.iload 5, 2) := by decide +kernel
theorem dX9_keep_92 : decode cX9_keep 92 = .ok (.iadd, 1) := by decide +kernel
theorem dX9_keep_93 : decode cX9_keep 93 = .ok (.iaload, 1) := by decide +kernel
theorem dX9_keep_94 : decode cX9_keep 94 = .ok (.iastore, 1) := by decide +kernel
theorem dX9_keep_95 : decode cX9_keep 95 = .ok (.iinc 5 1, 3) := by decide +kernel
theorem dX9_keep_98 : decode cX9_keep 98 = .ok (.goto (-30), 3) := by decide +kernel
theorem dX9_keep_101 : decode cX9_keep 101 = .ok (.iconst 0, 1) := by decide +kernel
theorem dX9_keep_102 : decode cX9_keep 102 = .ok (.istore 5, 2) := by decide +kernel
theorem dX9_keep_104 : decode cX9_keep 104 = .ok (.iload 5, 2) := by decide +kernel
theorem dX9_keep_106 : decode cX9_keep 106 = .ok (.aload_n 0, 1) := by decide +kernel
theorem dX9_keep_107 : decode cX9_keep 107 = .ok (.getfield 140, 3) := by decide +kernel
theorem dX9_keep_110 : decode cX9_keep 110 = .ok (.if_icmp .ge 58, 3) := by decide +kernel
theorem dX9_keep_113 : decode cX9_keep 113 = .ok (.aload_n 0, 1) := by decide +kernel
theorem dX9_keep_114 : decode cX9_keep 114 = .ok (.iload_n 2, 1) := by decide +kernel
theorem dX9_keep_115 : decode cX9_keep 115 = .ok (.aload_n 0, 1) := by decide +kernel
theorem dX9_keep_116 : decode cX9_keep 116 = .ok (.getfield 37, 3) := by decide +kernel
theorem dX9_keep_119 : decode cX9_keep 119 = .ok (.iload 5, 2) := by decide +kernel
theorem dX9_keep_121 : decode cX9_keep 121 = .ok (.iaload, 1) := by decide +kernel
theorem dX9_keep_122 : decode cX9_keep 122 = .ok (.aload_n 0, 1) := by decide +kernel
theorem dX9_keep_123 : decode cX9_keep 123 = .ok (.getfield 37, 3) := by decide +kernel
theorem dX9_keep_126 : decode cX9_keep 126 = .ok (.iload 5, 2) := by decide +kernel
theorem dX9_keep_128 : decode cX9_keep 128 = .ok (.iconst 1, 1) := by decide +kernel
theorem dX9_keep_129 : decode cX9_keep 129 = .ok (.iadd, 1) := by decide +kernel
theorem dX9_keep_130 : decode cX9_keep 130 = .ok (.iaload, 1) := by decide +kernel
theorem dX9_keep_131 : decode cX9_keep 131 = .ok (.invokevirtual 185, 3) := by decide +kernel
theorem dX9_keep_134 : decode cX9_keep 134 = .ok (.istore 6, 2) := by decide +kernel
theorem dX9_keep_136 : decode cX9_keep 136 = .ok (.aload_n 0, 1) := by decide +kernel
theorem dX9_keep_137 : decode cX9_keep 137 = .ok (.getfield 82, 3) := by decide +kernel
theorem dX9_keep_140 : decode cX9_keep 140 = .ok (.sipush 600, 3) := by decide +kernel
theorem dX9_keep_143 : decode cX9_keep 143 = .ok (.iload_n 2, 1) := by decide +kernel
theorem dX9_keep_144 : decode cX9_keep 144 = .ok (.imul, 1) := by decide +kernel
theorem dX9_keep_145 : decode cX9_keep 145 = .ok (.iload 5, 2) := by decide +kernel
theorem dX9_keep_147 : decode cX9_keep 147 = .ok (.iadd, 1) := by decide +kernel
theorem dX9_keep_148 : decode cX9_keep 148 = .ok (.iload 6, 2) := by decide +kernel
theorem dX9_keep_150 : decode cX9_keep 150 = .ok (.iastore, 1) := by decide +kernel
theorem dX9_keep_151 : decode cX9_keep 151 = .ok (.aload_n 0, 1) := by decide +kernel
theorem dX9_keep_152 : decode cX9_keep 152 = .ok (.getfield 72, 3) := by decide +kernel
theorem dX9_keep_155 : decode cX9_keep 155 = .ok (.iload 6, 2) := by decide +kernel
theorem dX9_keep_157 : decode cX9_keep 157 = .ok (.dup2, 1) := by decide +kernel
theorem dX9_keep_158 : decode cX9_keep 158 = .ok (.iaload, 1) := by decide +kernel
theorem dX9_keep_159 : decode cX9_keep 159 = .ok (.iconst 1, 1) := by decide +kernel
theorem dX9_keep_160 : decode cX9_keep 160 = .ok (.iadd, 1) := by decide +kernel
theorem dX9_keep_161 : decode cX9_keep 161 = .ok (.iastore, 1) := by decide +kernel
theorem dX9_keep_162 : decode cX9_keep 162 = .ok (.iinc 5 1, 3) := by decide +kernel
theorem dX9_keep_165 : decode cX9_keep 165 = .ok (.goto (-61), 3) := by decide +kernel
theorem dX9_keep_168 : decode cX9_keep 168 = .ok (.aload_n 0, 1) := by decide +kernel
theorem dX9_keep_169 : decode cX9_keep 169 = .ok (.getfield 75, 3) := by decide +kernel
theorem dX9_keep_172 : decode cX9_keep 172 = .ok (.iload_n 2, 1) := by decide +kernel
theorem dX9_keep_173 : decode cX9_keep 173 = .ok (.iconst 1, 1) := by decide +kernel
theorem dX9_keep_174 : decode cX9_keep 174 = .ok (.bastore, 1) := by decide +kernel
theorem dX9_keep_175 : decode cX9_keep 175 = .ok (.aload_n 0, 1) := by decide +kernel
theorem dX9_keep_176 : decode cX9_keep 176 = .ok (.getfield 79, 3) := by decide +kernel
theorem dX9_keep_179 : decode cX9_keep 179 = .ok (.iload_n 2, 1) := by decide +kernel
theorem dX9_keep_180 : decode cX9_keep 180 = .ok (.aload_n 0, 1) := by decide +kernel
theorem dX9_keep_181 : decode cX9_keep 181 = .ok (.getfield 140, 3) := by decide +kernel
theorem dX9_keep_184 : decode cX9_keep 184 = .ok (.iastore, 1) := by decide +kernel
theorem dX9_keep_185 : decode cX9_keep 185 = .ok (.aload_n 0, 1) := by decide +kernel
theorem dX9_keep_186 : decode cX9_keep 186 = .ok (.aload_n 0, 1) := by decide +kernel
theorem dX9_keep_187 : decode cX9_keep 187 = .ok (.getfield 85, 3) := by decide +kernel
theorem dX9_keep_190 : decode cX9_keep 190 = .ok (.iconst 0, 1) := by decide +kernel
theorem dX9_keep_191 : decode cX9_keep 191 = .ok (.iload 4, 2) := by decide +kernel
theorem dX9_keep_193 : decode cX9_keep 193 = .ok (.invokevirtual 188, 3) := by decide +kernel
theorem dX9_keep_196 : decode cX9_keep 196 = .ok (.pop, 1) := by decide +kernel
theorem dX9_keep_197 : decode cX9_keep 197 = .ok (.iload_n 3, 1) := by decide +kernel
theorem dX9_keep_198 : decode cX9_keep 198 = .ok (.ireturn, 1) := by decide +kernel
theorem dX9_drop_0 : decode cX9_drop 0 = .ok (.iload_n 1, 1) := by decide +kernel
theorem dX9_drop_1 : decode cX9_drop 1 = .ok (.invokestatic 113, 3) := by decide +kernel
theorem dX9_drop_4 : decode cX9_drop 4 = .ok (.ifCond .eq 12, 3) := by decide +kernel
theorem dX9_drop_7 : decode cX9_drop 7 = .ok (.aload_n 0, 1) := by decide +kernel
theorem dX9_drop_8 : decode cX9_drop 8 = .ok (.getfield 75, 3) := by decide +kernel
theorem dX9_drop_11 : decode cX9_drop 11 = .ok (.iload_n 1, 1) := by decide +kernel
theorem dX9_drop_12 : decode cX9_drop 12 = .ok (.baload, 1) := by decide +kernel
theorem dX9_drop_13 : decode cX9_drop 13 = .ok (.ifCond .ne 5, 3) := by decide +kernel
theorem dX9_drop_16 : decode cX9_drop 16 = .ok (.iconst (-1), 1) := by decide +kernel
theorem dX9_drop_17 : decode cX9_drop 17 = .ok (.ireturn, 1) := by decide +kernel
theorem dX9_drop_18 : decode cX9_drop 18 = .ok (.aload_n 0, 1) := by decide +kernel
theorem dX9_drop_19 : decode cX9_drop 19 = .ok (.getfield 75, 3) := by decide +kernel
theorem dX9_drop_22 : decode cX9_drop 22 = .ok (.iload_n 1, 1) := by decide +kernel
theorem dX9_drop_23 : decode cX9_drop 23 = .ok (.iconst 0, 1) := by decide +kernel
theorem dX9_drop_24 : decode cX9_drop 24 = .ok (.bastore, 1) := by decide +kernel
theorem dX9_drop_25 : decode cX9_drop 25 = .ok (.aload_n 0, 1) := by decide +kernel
theorem dX9_drop_26 : decode cX9_drop 26 = .ok (.aload_n 0, 1) := by decide +kernel
theorem dX9_drop_27 : decode cX9_drop 27 = .ok (.getfield 82, 3) := by decide +kernel
theorem dX9_drop_30 : decode cX9_drop 30 = .ok (.sipush 600, 3) := by decide +kernel
theorem dX9_drop_33 : decode cX9_drop 33 = .ok (.iload_n 1, 1) := by decide +kernel
theorem dX9_drop_34 : decode cX9_drop 34 = .ok (.imul, 1) := by decide +kernel
theorem dX9_drop_35 : decode cX9_drop 35 = .ok (.aload_n 0, 1) := by decide +kernel
theorem dX9_drop_36 : decode cX9_drop 36 = .ok (.getfield 79, 3) := by decide +kernel
theorem dX9_drop_39 : decode cX9_drop 39 = .ok (.iload_n 1, 1) := by decide +kernel
theorem dX9_drop_40 : decode cX9_drop 40 = .ok (.iaload, 1) := by decide +kernel
theorem dX9_drop_41 : decode cX9_drop 41 = .ok (.invokevirtual 188, 3) := by decide +kernel
theorem dX9_drop_44 : decode cX9_drop 44 = .ok (.ireturn, 1) := by decide +kernel
theorem dX9_bring_0 : decode cX9_bring 0 = .ok (.iload_n 1, 1) := by decide +kernel
theorem dX9_bring_1 : decode cX9_bring 1 = .ok (.invokestatic 113, 3) := by decide +kernel
theorem dX9_bring_4 : decode cX9_bring 4 = .ok (.ifCond .eq 12, 3) := by decide +kernel
theorem dX9_bring_7 : decode cX9_bring 7 = .ok (.aload_n 0, 1) := by decide +kernel
theorem dX9_bring_8 : decode cX9_bring 8 = .ok (.getfield 75, 3) := by decide +kernel
theorem dX9_bring_11 : decode cX9_bring 11 = .ok (.iload_n 1, 1) := by decide +kernel
theorem dX9_bring_12 : decode cX9_bring 12 = .ok (.baload, 1) := by decide +kernel
theorem dX9_bring_13 : decode cX9_bring 13 = .ok (.ifCond .ne 5, 3) := by decide +kernel
theorem dX9_bring_16 : decode cX9_bring 16 = .ok (.iconst (-1), 1) := by decide +kernel
theorem dX9_bring_17 : decode cX9_bring 17 = .ok (.ireturn, 1) := by decide +kernel
theorem dX9_bring_18 : decode cX9_bring 18 = .ok (.aload_n 0, 1) := by decide +kernel
theorem dX9_bring_19 : decode cX9_bring 19 = .ok (.getfield 7, 3) := by decide +kernel
theorem dX9_bring_22 : decode cX9_bring 22 = .ok (.iload_n 1, 1) := by decide +kernel
theorem dX9_bring_23 : decode cX9_bring 23 = .ok (.iconst 0, 1) := by decide +kernel
theorem dX9_bring_24 : decode cX9_bring 24 = .ok (.iastore, 1) := by decide +kernel
theorem dX9_bring_25 : decode cX9_bring 25 = .ok (.iconst 0, 1) := by decide +kernel
theorem dX9_bring_26 : decode cX9_bring 26 = .ok (.istore_n 2, 1) := by decide +kernel
theorem dX9_bring_27 : decode cX9_bring 27 = .ok (.iload_n 2, 1) := by decide +kernel
theorem dX9_bring_28 : decode cX9_bring 28 = .ok (.aload_n 0, 1) := by decide +kernel
theorem dX9_bring_29 : decode cX9_bring 29 = .ok (.getfield 79, 3) := by decide +kernel
theorem dX9_bring_32 : decode cX9_bring 32 = .ok (.iload_n 1, 1) := by decide +kernel
theorem dX9_bring_33 : decode cX9_bring 33 = .ok (.iaload, 1) := by decide +kernel
theorem dX9_bring_34 : decode cX9_bring 34 = .ok (.if_icmp .ge 82, 3) := by decide +kernel
theorem dX9_bring_37 : decode cX9_bring 37 = .ok (.aload_n 0, 1) := by decide +kernel
theorem dX9_bring_38 : decode cX9_bring 38 = .ok (.getfield 82, 3) := by decide +kernel
theorem dX9_bring_41 : decode cX9_bring 41 = .ok (.sipush 600, 3) := by decide +kernel
theorem dX9_bring_44 : decode cX9_bring 44 = .ok (.iload_n 1, 1) := by decide +kernel
theorem dX9_bring_45 : decode cX9_bring 45 = .ok (.imul, 1) := by decide +kernel
theorem dX9_bring_46 : decode cX9_bring 46 = .ok (.iload_n 2, 1) := by decide +kernel
theorem dX9_bring_47 : decode cX9_bring 47 = .ok (.iadd, 1) := by decide +kernel
theorem dX9_bring_48 : decode cX9_bring 48 = .ok (.iaload, 1) := by decide +kernel
theorem dX9_bring_49 : decode cX9_bring 49 = .ok (.istore_n 3, 1) := by decide +kernel
theorem dX9_bring_50 : decode cX9_bring 50 = .ok (.iconst 0, 1) := by decide +kernel
theorem dX9_bring_51 : decode cX9_bring 51 = .ok (.istore 4, 2) := by decide +kernel
theorem dX9_bring_53 : decode cX9_bring 53 = .ok (.iload 4, 2) := by decide +kernel
theorem dX9_bring_55 : decode cX9_bring 55 = .ok (.aload_n 0, 1) := by decide +kernel
theorem dX9_bring_56 : decode cX9_bring 56 = .ok (.getfield 62, 3) := by decide +kernel
theorem dX9_bring_59 : decode cX9_bring 59 = .ok (.iload_n 3, 1) := by decide +kernel
theorem dX9_bring_60 : decode cX9_bring 60 = .ok (.iaload, 1) := by decide +kernel
theorem dX9_bring_61 : decode cX9_bring 61 = .ok (.if_icmp .ge 49, 3) := by decide +kernel
theorem dX9_bring_64 : decode cX9_bring 64 = .ok (.aload_n 0, 1) := by decide +kernel
theorem dX9_bring_65 : decode cX9_bring 65 = .ok (.getfield 13, 3) := by decide +kernel
theorem dX9_bring_68 : decode cX9_bring 68 = .ok (.sipush 600, 3) := by decide +kernel
theorem dX9_bring_71 : decode cX9_bring 71 = .ok (.iload_n 1, 1) := by decide +kernel
theorem dX9_bring_72 : decode cX9_bring 72 = .ok (.imul, 1) := by decide +kernel
theorem dX9_bring_73 : decode cX9_bring 73 = .ok (.aload_n 0, 1) := by decide +kernel
theorem dX9_bring_74 : decode cX9_bring 74 = .ok (.getfield 7, 3) := by decide +kernel
theorem dX9_bring_77 : decode cX9_bring 77 = .ok (.iload_n 1, 1) := by decide +kernel
theorem dX9_bring_78 : decode cX9_bring 78 = .ok (.iaload, 1) := by decide +kernel
theorem dX9_bring_79 : decode cX9_bring 79 = .ok (.iadd, 1) := by decide +kernel
theorem dX9_bring_80 : decode cX9_bring 80 = .ok (.aload_n 0, 1) := by decide +kernel
theorem dX9_bring_81 : decode cX9_bring 81 = .ok (.getfield 66, 3) := by decide +kernel
theorem dX9_bring_84 : decode cX9_bring 84 = .ok (.sipush 200, 3) := by decide +kernel
theorem dX9_bring_87 : decode cX9_bring 87 = .ok (.iload_n 3, 1) := by decide +kernel
theorem dX9_bring_88 : decode cX9_bring 88 = .ok (.imul, 1) := by decide +kernel
theorem dX9_bring_89 : decode cX9_bring 89 = .ok (.iload 4, 2) := by decide +kernel
theorem dX9_bring_91 : decode cX9_bring 91 = .ok (.iadd, 1) := by decide +kernel
theorem dX9_bring_92 : decode cX9_bring 92 = .ok (.iaload, 1) := by decide +kernel
theorem dX9_bring_93 : decode cX9_bring 93 = .ok (.iastore, 1) := by decide +kernel
theorem dX9_bring_94 : decode cX9_bring 94 = .ok (.aload_n 0, 1) := by decide +kernel
theorem dX9_bring_95 : decode cX9_bring 95 = .ok (.getfield 7, 3) := by decide +kernel
theorem dX9_bring_98 : decode cX9_bring 98 = .ok (.iload_n 1, 1) := by decide +kernel
theorem dX9_bring_99 : decode cX9_bring 99 = .ok (.dup2, 1) := by decide +kernel
theorem dX9_bring_100 : decode cX9_bring 100 = .ok (.iaload, 1) := by decide +kernel
theorem dX9_bring_101 : decode cX9_bring 101 = .ok (.iconst 1, 1) := by decide +kernel
theorem dX9_bring_102 : decode cX9_bring 102 = .ok (.iadd, 1) := by decide +kernel
theorem dX9_bring_103 : decode cX9_bring 103 = .ok (.iastore, 1) := by decide +kernel
theorem dX9_bring_104 : decode cX9_bring 104 = .ok (.iinc 4 1, 3) := by decide +kernel
theorem dX9_bring_107 : decode cX9_bring 107 = .ok (.goto (-54), 3) := by decide +kernel
theorem dX9_bring_110 : decode cX9_bring 110 = .ok (.iinc 2 1, 3) := by decide +kernel
theorem dX9_bring_113 : decode cX9_bring 113 = .ok (.goto (-86), 3) := by decide +kernel
theorem dX9_bring_116 : decode cX9_bring 116 = .ok (.aload_n 0, 1) := by decide +kernel
theorem dX9_bring_117 : decode cX9_bring 117 = .ok (.getfield 7, 3) := by decide +kernel
theorem dX9_bring_120 : decode cX9_bring 120 = .ok (.iload_n 1, 1) := by decide +kernel
theorem dX9_bring_121 : decode cX9_bring 121 = .ok (.iaload, 1) := by decide +kernel
theorem dX9_bring_122 : decode cX9_bring 122 = .ok (.ireturn, 1) := by decide +kernel
theorem dX9_jumps_0 : decode cX9_jumps 0 = .ok (.iload_n 1, 1) := by decide +kernel
theorem dX9_jumps_1 : decode cX9_jumps 1 = .ok (.invokestatic 113, 3) := by decide +kernel
theorem dX9_jumps_4 : decode cX9_jumps 4 = .ok (.ifCond .eq 12, 3) := by decide +kernel
theorem dX9_jumps_7 : decode cX9_jumps 7 = .ok (.aload_n 0, 1) := by decide +kernel
theorem dX9_jumps_8 : decode cX9_jumps 8 = .ok (.getfield 75, 3) := by decide +kernel
theorem dX9_jumps_11 : decode cX9_jumps 11 = .ok (.iload_n 1, 1) := by decide +kernel
theorem dX9_jumps_12 : decode cX9_jumps 12 = .ok (.baload, 1) := by decide +kernel
theorem dX9_jumps_13 : decode cX9_jumps 13 = .ok (.ifCond .ne 5, 3) := by decide +kernel
theorem dX9_jumps_16 : decode cX9_jumps 16 = .ok (.iconst (-1), 1) := by decide +kernel
theorem dX9_jumps_17 : decode cX9_jumps 17 = .ok (.ireturn, 1) := by decide +kernel
theorem dX9_jumps_18 : decode cX9_jumps 18 = .ok (.iconst 0, 1) := by decide +kernel
theorem dX9_jumps_19 : decode cX9_jumps 19 = .ok (.istore_n 2, 1) := by decide +kernel
theorem dX9_jumps_20 : decode cX9_jumps 20 = .ok (.iconst 0, 1) := by decide +kernel
theorem dX9_jumps_21 : decode cX9_jumps 21 = .ok (.istore_n 3, 1) := by decide +kernel
theorem dX9_jumps_22 : decode cX9_jumps 22 = .ok (.iload_n 3, 1) := by decide +kernel
theorem dX9_jumps_23 : decode cX9_jumps 23 = .ok (.aload_n 0, 1) := by decide +kernel
theorem dX9_jumps_24 : decode cX9_jumps 24 = .ok (.getfield 79, 3) := by decide +kernel
theorem dX9_jumps_27 : decode cX9_jumps 27 = .ok (.iload_n 1, 1) := by decide +kernel
theorem dX9_jumps_28 : decode cX9_jumps 28 = .ok (.iaload, 1) := by decide +kernel
theorem dX9_jumps_29 : decode cX9_jumps 29 = .ok (.if_icmp .ge 47, 3) := by decide +kernel
theorem dX9_jumps_32 : decode cX9_jumps 32 = .ok (.iload_n 3, 1) := by decide +kernel
theorem dX9_jumps_33 : decode cX9_jumps 33 = .ok (.ifCond .eq 34, 3) := by decide +kernel
theorem dX9_jumps_36 : decode cX9_jumps 36 = .ok (.aload_n 0, 1) := by decide +kernel
theorem dX9_jumps_37 : decode cX9_jumps 37 = .ok (.getfield 82, 3) := by decide +kernel
theorem dX9_jumps_40 : decode cX9_jumps 40 = .ok (.sipush 600, 3) := by decide +kernel
theorem dX9_jumps_43 : decode cX9_jumps 43 = .ok (.iload_n 1, 1) := by decide +kernel
theorem dX9_jumps_44 : decode cX9_jumps 44 = .ok (.imul, 1) := by decide +kernel
theorem dX9_jumps_45 : decode cX9_jumps 45 = .ok (.iload_n 3, 1) := by decide +kernel
theorem dX9_jumps_46 : decode cX9_jumps 46 = .ok (.iadd, 1) := by decide +kernel
theorem dX9_jumps_47 : decode cX9_jumps 47 = .ok (.iaload, 1) := by decide +kernel
theorem dX9_jumps_48 : decode cX9_jumps 48 = .ok (.aload_n 0, 1) := by decide +kernel
theorem dX9_jumps_49 : decode cX9_jumps 49 = .ok (.getfield 82, 3) := by decide +kernel
theorem dX9_jumps_52 : decode cX9_jumps 52 = .ok (.sipush 600, 3) := by decide +kernel
theorem dX9_jumps_55 : decode cX9_jumps 55 = .ok (.iload_n 1, 1) := by decide +kernel
theorem dX9_jumps_56 : decode cX9_jumps 56 = .ok (.imul, 1) := by decide +kernel
theorem dX9_jumps_57 : decode cX9_jumps 57 = .ok (.iload_n 3, 1) := by decide +kernel
theorem dX9_jumps_58 : decode cX9_jumps 58 = .ok (.iadd, 1) := by decide +kernel
theorem dX9_jumps_59 : decode cX9_jumps 59 = .ok (.iconst 1, 1) := by decide +kernel
theorem dX9_jumps_60 : decode cX9_jumps 60 = .ok (.isub, 1) := by decide +kernel
theorem dX9_jumps_61 : decode cX9_jumps 61 = .ok (.iaload, 1) := by decide +kernel
theorem dX9_jumps_62 : decode cX9_jumps 62 = .ok (.iconst 1, 1) := by decide +kernel
theorem dX9_jumps_63 : decode cX9_jumps 63 = .ok (.iadd, 1) := by decide +kernel
theorem dX9_jumps_64 : decode cX9_jumps 64 = .ok (.if_icmp .eq 6, 3) := by decide +kernel
theorem dX9_jumps_67 : decode cX9_jumps 67 = .ok (.iinc 2 1, 3) := by decide +kernel
theorem dX9_jumps_70 : decode cX9_jumps 70 = .ok (.iinc 3 1, 3) := by decide +kernel
theorem dX9_jumps_73 : decode cX9_jumps 73 = .ok (.goto (-51), 3) := by decide +kernel
theorem dX9_jumps_76 : decode cX9_jumps 76 = .ok (.iload_n 2, 1) := by decide +kernel
theorem dX9_jumps_77 : decode cX9_jumps 77 = .ok (.ireturn, 1) := by decide +kernel
theorem dX9_number_0 : decode cX9_number 0 = .ok (.iload_n 1, 1) := by decide +kernel
theorem dX9_number_1 : decode cX9_number 1 = .ok (.invokestatic 113, 3) := by decide +kernel
theorem dX9_number_4 : decode cX9_number 4 = .ok (.ifCond .eq 41, 3) := by decide +kernel
theorem dX9_number_7 : decode cX9_number 7 = .ok (.aload_n 0, 1) := by decide +kernel
theorem dX9_number_8 : decode cX9_number 8 = .ok (.getfield 75, 3) := by decide +kernel
theorem dX9_number_11 : decode cX9_number 11 = .ok (.iload_n 1, 1) := by decide +kernel
theorem dX9_number_12 : decode cX9_number 12 = .ok (.baload, 1) := by decide +kernel
theorem dX9_number_13 : decode cX9_number 13 = .ok (.ifCond .eq 32, 3) := by decide +kernel
theorem dX9_number_16 : decode cX9_number 16 = .ok (.iload_n 2, 1) := by decide +kernel
theorem dX9_number_17 : decode cX9_number 17 = .ok (.ifCond .lt 28, 3) := by decide +kernel
theorem dX9_number_20 : decode cX9_number 20 = .ok (.iload_n 2, 1) := by decide +kernel
theorem dX9_number_21 : decode cX9_number 21 = .ok (.aload_n 0, 1) := by decide +kernel
theorem dX9_number_22 : decode cX9_number 22 = .ok (.getfield 79, 3) := by decide +kernel
theorem dX9_number_25 : decode cX9_number 25 = .ok (.iload_n 1, 1) := by decide +kernel
theorem dX9_number_26 : decode cX9_number 26 = .ok (.iaload, 1) := by decide +kernel
theorem dX9_number_27 : decode cX9_number 27 = .ok (.if_icmp .ge 18, 3) := by decide +kernel
theorem dX9_number_30 : decode cX9_number 30 = .ok (.aload_n 0, 1) := by decide +kernel
theorem dX9_number_31 : decode cX9_number 31 = .ok (.getfield 82, 3) := by decide +kernel
theorem dX9_number_34 : decode cX9_number 34 = .ok (.sipush 600, 3) := by decide +kernel
theorem dX9_number_37 : decode cX9_number 37 = .ok (.iload_n 1, 1) := by decide +kernel
theorem dX9_number_38 : decode cX9_number 38 = .ok (.imul, 1) := by decide +kernel
theorem dX9_number_39 : decode cX9_number 39 = .ok (.iload_n 2, 1) := by decide +kernel
theorem dX9_number_40 : decode cX9_number 40 = .ok (.iadd, 1) := by decide +kernel
theorem dX9_number_41 : decode cX9_number 41 = .ok (.iaload, 1) := by decide +kernel
theorem dX9_number_42 : decode cX9_number 42 = .ok (.goto 4, 3) := by decide +kernel
theorem dX9_number_45 : decode cX9_number 45 = .ok (.iconst (-1), 1) := by decide +kernel
theorem dX9_number_46 : decode cX9_number 46 = .ok (.ireturn, 1) := by decide +kernel
theorem dX9_piece_0 : decode cX9_piece 0 = .ok (.aload_n 0, 1) := by decide +kernel
theorem dX9_piece_1 : decode cX9_piece 1 = .ok (.iload_n 1, 1) := by decide +kernel
theorem dX9_piece_2 : decode cX9_piece 2 = .ok (.invokevirtual 167, 3) := by decide +kernel
theorem dX9_piece_5 : decode cX9_piece 5 = .ok (.ifCond .ne 5, 3) := by decide +kernel
theorem dX9_piece_8 : decode cX9_piece 8 = .ok (.iconst (-1), 1) := by decide +kernel
theorem dX9_piece_9 : decode cX9_piece 9 = .ok (.ireturn, 1) := by decide +kernel
theorem dX9_piece_10 : decode cX9_piece 10 = .ok (.iload_n 2, 1) := by decide +kernel
theorem dX9_piece_11 : decode cX9_piece 11 = .ok (.ifCond .ne 12, 3) := by decide +kernel
theorem dX9_piece_14 : decode cX9_piece 14 = .ok (.aload_n 0, 1) := by decide +kernel
theorem dX9_piece_15 : decode cX9_piece 15 = .ok (.getfield 62, 3) := by decide +kernel
theorem dX9_piece_18 : decode cX9_piece 18 = .ok (.iload_n 1, 1) := by decide +kernel
theorem dX9_piece_19 : decode cX9_piece 19 = .ok (.iaload, 1) := by decide +kernel
theorem dX9_piece_20 : decode cX9_piece 20 = .ok (.goto 32, 3) := by decide +kernel
theorem dX9_piece_23 : decode cX9_piece 23 = .ok (.iload_n 2, 1) := by decide +kernel
theorem dX9_piece_24 : decode cX9_piece 24 = .ok (.iconst 1, 1) := by decide +kernel
theorem dX9_piece_25 : decode cX9_piece 25 = .ok (.if_icmp .ne 12, 3) := by decide +kernel
theorem dX9_piece_28 : decode cX9_piece 28 = .ok (.aload_n 0, 1) := by decide +kernel
theorem dX9_piece_29 : decode cX9_piece 29 = .ok (.getfield 72, 3) := by decide +kernel
theorem dX9_piece_32 : decode cX9_piece 32 = .ok (.iload_n 1, 1) := by decide +kernel
theorem dX9_piece_33 : decode cX9_piece 33 = .ok (.iaload, 1) := by decide +kernel
theorem dX9_piece_34 : decode cX9_piece 34 = .ok (.goto 18, 3) := by decide +kernel
theorem dX9_piece_37 : decode cX9_piece 37 = .ok (.iload_n 2, 1) := by decide +kernel
theorem dX9_piece_38 : decode cX9_piece 38 = .ok (.iconst 2, 1) := by decide +kernel
theorem dX9_piece_39 : decode cX9_piece 39 = .ok (.if_icmp .ne 12, 3) := by decide +kernel
theorem dX9_piece_42 : decode cX9_piece 42 = .ok (.aload_n 0, 1) := by decide +kernel
theorem dX9_piece_43 : decode cX9_piece 43 = .ok (.getfield 69, 3) := by decide +kernel
theorem dX9_piece_46 : decode cX9_piece 46 = .ok (.iload_n 1, 1) := by decide +kernel
theorem dX9_piece_47 : decode cX9_piece 47 = .ok (.iaload, 1) := by decide +kernel
theorem dX9_piece_48 : decode cX9_piece 48 = .ok (.goto 4, 3) := by decide +kernel
theorem dX9_piece_51 : decode cX9_piece 51 = .ok (.iconst (-1), 1) := by decide +kernel
theorem dX9_piece_52 : decode cX9_piece 52 = .ok (.ireturn, 1) := by decide +kernel
theorem dX9_count_0 : decode cX9_count 0 = .ok (.iconst 0, 1) := by decide +kernel
theorem dX9_count_1 : decode cX9_count 1 = .ok (.istore_n 2, 1) := by decide +kernel
theorem dX9_count_2 : decode cX9_count 2 = .ok (.iconst 1, 1) := by decide +kernel
theorem dX9_count_3 : decode cX9_count 3 = .ok (.istore_n 3, 1) := by decide +kernel
theorem dX9_count_4 : decode cX9_count 4 = .ok (.iload_n 3, 1) := by decide +kernel
theorem dX9_count_5 : decode cX9_count 5 = .ok (.sipush 300, 3) := by decide +kernel
theorem dX9_count_8 : decode cX9_count 8 = .ok (.if_icmp .gt 18, 3) := by decide +kernel
theorem dX9_count_11 : decode cX9_count 11 = .ok (.iload_n 2, 1) := by decide +kernel
theorem dX9_count_12 : decode cX9_count 12 = .ok (.aload_n 0, 1) := by decide +kernel
theorem dX9_count_13 : decode cX9_count 13 = .ok (.getfield 62, 3) := by decide +kernel
theorem dX9_count_16 : decode cX9_count 16 = .ok (.iload_n 3, 1) := by decide +kernel
theorem dX9_count_17 : decode cX9_count 17 = .ok (.iaload, 1) := by decide +kernel
theorem dX9_count_18 : decode cX9_count 18 = .ok (.iadd, 1) := by decide +kernel
theorem dX9_count_19 : decode cX9_count 19 = .ok (.istore_n 2, 1) := by decide +kernel
theorem dX9_count_20 : decode cX9_count 20 = .ok (.iinc 3 1, 3) := by decide +kernel
theorem dX9_count_23 : decode cX9_count 23 = .ok (.goto (-19), 3) := by decide +kernel
theorem dX9_count_26 : decode cX9_count 26 = .ok (.iconst 0, 1) := by decide +kernel
theorem dX9_count_27 : decode cX9_count 27 = .ok (.istore_n 3, 1) := by decide +kernel
theorem dX9_count_28 : decode cX9_count 28 = .ok (.iconst 0, 1) := by decide +kernel
theorem dX9_count_29 : decode cX9_count 29 = .ok (.istore 4, 2) := by decide +kernel
theorem dX9_count_31 : decode cX9_count 31 = .ok (.iconst 0, 1) := by decide +kernel
theorem dX9_count_32 : decode cX9_count 32 = .ok (.istore 5, 2) := by decide +kernel
theorem dX9_count_34 : decode cX9_count 34 = .ok (.iload 5, 2) := by decide +kernel
theorem dX9_count_36 : decode cX9_count 36 = .ok (.bipush 8, 2) := by decide +kernel
theorem dX9_count_38 : decode cX9_count 38 = .ok (.if_icmp .ge 35, 3) := by decide +kernel
theorem dX9_count_41 : decode cX9_count 41 = .ok (.aload_n 0, 1) := by decide +kernel
theorem dX9_count_42 : decode cX9_count 42 = .ok (.getfield 75, 3) := by decide +kernel
theorem dX9_count_45 : decode cX9_count 45 = .ok (.iload 5, 2) := by decide +kernel
theorem dX9_count_47 : decode cX9_count 47 = .ok (.baload, 1) := by decide +kernel
theorem dX9_count_48 : decode cX9_count 48 = .ok (.ifCond .ne 6, 3) := by decide +kernel
theorem dX9_count_51 : decode cX9_count 51 = .ok (.goto 16, 3) := by decide +kernel
theorem dX9_count_54 : decode cX9_count 54 = .ok (.iload_n 3, 1) := by decide +kernel
theorem dX9_count_55 : decode cX9_count 55 = .ok (.aload_n 0, 1) := by decide +kernel
theorem dX9_count_56 : decode cX9_count 56 = .ok (.getfield 79, 3) := by decide +kernel
theorem dX9_count_59 : decode cX9_count 59 = .ok (.iload 5, 2) := by decide +kernel
theorem dX9_count_61 : decode cX9_count 61 = .ok (.iaload, 1) := by decide +kernel
theorem dX9_count_62 : decode cX9_count 62 = .ok (.iadd, 1) := by decide +kernel
theorem dX9_count_63 : decode cX9_count 63 = .ok (.istore_n 3, 1) := by decide +kernel
theorem dX9_count_64 : decode cX9_count 64 = .ok (.iinc 4 1, 3) := by decide +kernel
theorem dX9_count_67 : decode cX9_count 67 = .ok (.iinc 5 1, 3) := by decide +kernel
theorem dX9_count_70 : decode cX9_count 70 = .ok (.goto (-36), 3) := by decide +kernel
theorem dX9_count_73 : decode cX9_count 73 = .ok (.iload_n 1, 1) := by decide +kernel
theorem dX9_count_74 : decode cX9_count 74 = .ok (.tableswitch 74 0 5 #[38, 43, 45, 47, 66, 71], 38) := by decide +kernel
theorem dX9_count_112 : decode cX9_count 112 = .ok (.aload_n 0, 1) := by decide +kernel
theorem dX9_count_113 : decode cX9_count 113 = .ok (.invokevirtual 181, 3) := by decide +kernel
theorem dX9_count_116 : decode cX9_count 116 = .ok (.ireturn, 1) := by decide +kernel
theorem dX9_count_117 : decode cX9_count 117 = .ok (.iload_n 2, 1) := by decide +kernel
theorem dX9_count_118 : decode cX9_count 118 = .ok (.ireturn, 1) := by decide +kernel
theorem dX9_count_119 : decode cX9_count 119 = .ok (.iload_n 3, 1) := by decide +kernel
theorem dX9_count_120 : decode cX9_count 120 = .ok (.ireturn, 1) := by decide +kernel
theorem dX9_count_121 : decode cX9_count 121 = .ok (.iload_n 2, 1) := by decide +kernel
theorem dX9_count_122 : decode cX9_count 122 = .ok (.aload_n 0, 1) := by decide +kernel
theorem dX9_count_123 : decode cX9_count 123 = .ok (.getfield 43, 3) := by decide +kernel
theorem dX9_count_126 : decode cX9_count 126 = .ok (.aload_n 0, 1) := by decide +kernel
theorem dX9_count_127 : decode cX9_count 127 = .ok (.invokevirtual 181, 3) := by decide +kernel
theorem dX9_count_130 : decode cX9_count 130 = .ok (.imul, 1) := by decide +kernel
theorem dX9_count_131 : decode cX9_count 131 = .ok (.iadd, 1) := by decide +kernel
theorem dX9_count_132 : decode cX9_count 132 = .ok (.aload_n 0, 1) := by decide +kernel
theorem dX9_count_133 : decode cX9_count 133 = .ok (.getfield 47, 3) := by decide +kernel
theorem dX9_count_136 : decode cX9_count 136 = .ok (.iload_n 3, 1) := by decide +kernel
theorem dX9_count_137 : decode cX9_count 137 = .ok (.imul, 1) := by decide +kernel
theorem dX9_count_138 : decode cX9_count 138 = .ok (.iadd, 1) := by decide +kernel
theorem dX9_count_139 : decode cX9_count 139 = .ok (.ireturn, 1) := by decide +kernel
theorem dX9_count_140 : decode cX9_count 140 = .ok (.aload_n 0, 1) := by decide +kernel
theorem dX9_count_141 : decode cX9_count 141 = .ok (.getfield 174, 3) := by decide +kernel
theorem dX9_count_144 : decode cX9_count 144 = .ok (.ireturn, 1) := by decide +kernel
theorem dX9_count_145 : decode cX9_count 145 = .ok (.iload 4, 2) := by decide +kernel
theorem dX9_count_147 : decode cX9_count 147 = .ok (.ireturn, 1) := by decide +kernel
theorem dX9_count_148 : decode cX9_count 148 = .ok (.iconst (-1), 1) := by decide +kernel
theorem dX9_count_149 : decode cX9_count 149 = .ok (.ireturn, 1) := by decide +kernel
theorem dX9_prices_0 : decode cX9_prices 0 = .ok (.iload_n 1, 1) := by decide +kernel
theorem dX9_prices_1 : decode cX9_prices 1 = .ok (.iconst 0, 1) := by decide +kernel
theorem dX9_prices_2 : decode cX9_prices 2 = .ok (.bipush 100, 2) := by decide +kernel
theorem dX9_prices_4 : decode cX9_prices 4 = .ok (.invokestatic 117, 3) := by decide +kernel
theorem dX9_prices_7 : decode cX9_prices 7 = .ok (.ifCond .eq 13, 3) := by decide +kernel
theorem dX9_prices_10 : decode cX9_prices 10 = .ok (.iload_n 2, 1) := by decide +kernel
theorem dX9_prices_11 : decode cX9_prices 11 = .ok (.iconst 0, 1) := by decide +kernel
theorem dX9_prices_12 : decode cX9_prices 12 = .ok (.bipush 100, 2) := by decide +kernel
theorem dX9_prices_14 : decode cX9_prices 14 = .ok (.invokestatic 117, 3) := by decide +kernel
theorem dX9_prices_17 : decode cX9_prices 17 = .ok (.ifCond .ne 5, 3) := by decide +kernel
theorem dX9_prices_20 : decode cX9_prices 20 = .ok (.iconst 0, 1) := by decide +kernel
theorem dX9_prices_21 : decode cX9_prices 21 = .ok (.ireturn, 1) := by decide +kernel
theorem dX9_prices_22 : decode cX9_prices 22 = .ok (.aload_n 0, 1) := by decide +kernel
theorem dX9_prices_23 : decode cX9_prices 23 = .ok (.iload_n 1, 1) := by decide +kernel
theorem dX9_prices_24 : decode cX9_prices 24 = .ok (.putfield 43, 3) := by decide +kernel
theorem dX9_prices_27 : decode cX9_prices 27 = .ok (.aload_n 0, 1) := by decide +kernel
theorem dX9_prices_28 : decode cX9_prices 28 = .ok (.iload_n 2, 1) := by decide +kernel
theorem dX9_prices_29 : decode cX9_prices 29 = .ok (.putfield 47, 3) := by decide +kernel
theorem dX9_prices_32 : decode cX9_prices 32 = .ok (.iconst 1, 1) := by decide +kernel
theorem dX9_prices_33 : decode cX9_prices 33 = .ok (.ireturn, 1) := by decide +kernel
theorem dX9_pairAt_0 : decode cX9_pairAt 0 = .ok (.sipush 512, 3) := by decide +kernel
theorem dX9_pairAt_3 : decode cX9_pairAt 3 = .ok (.iload_n 0, 1) := by decide +kernel
theorem dX9_pairAt_4 : decode cX9_pairAt 4 = .ok (.imul, 1) := by decide +kernel
theorem dX9_pairAt_5 : decode cX9_pairAt 5 = .ok (.iload_n 1, 1) := by decide +kernel
theorem dX9_pairAt_6 : decode cX9_pairAt 6 = .ok (.iadd, 1) := by decide +kernel
theorem dX9_pairAt_7 : decode cX9_pairAt 7 = .ok (.ireturn, 1) := by decide +kernel
theorem dX9_mostOften_0 : decode cX9_mostOften 0 = .ok (.iconst (-1), 1) := by decide +kernel
theorem dX9_mostOften_1 : decode cX9_mostOften 1 = .ok (.istore_n 1, 1) := by decide +kernel
theorem dX9_mostOften_2 : decode cX9_mostOften 2 = .ok (.iconst 0, 1) := by decide +kernel
theorem dX9_mostOften_3 : decode cX9_mostOften 3 = .ok (.istore_n 2, 1) := by decide +kernel
theorem dX9_mostOften_4 : decode cX9_mostOften 4 = .ok (.iconst 0, 1) := by decide +kernel
theorem dX9_mostOften_5 : decode cX9_mostOften 5 = .ok (.istore_n 3, 1) := by decide +kernel
theorem dX9_mostOften_6 : decode cX9_mostOften 6 = .ok (.iload_n 3, 1) := by decide +kernel
theorem dX9_mostOften_7 : decode cX9_mostOften 7 = .ok (.bipush 8, 2) := by decide +kernel
theorem dX9_mostOften_9 : decode cX9_mostOften 9 = .ok (.if_icmp .ge 75, 3) := by decide +kernel
theorem dX9_mostOften_12 : decode cX9_mostOften 12 = .ok (.iload_n 2, 1) := by decide +kernel
theorem dX9_mostOften_13 : decode cX9_mostOften 13 = .ok (.istore 4, 2) := by decide +kernel
theorem dX9_mostOften_15 : decode cX9_mostOften 15 = .ok (.iload 4, 2) := by decide +kernel
theorem dX9_mostOften_17 : decode cX9_mostOften 17 = .ok (.iconst 1, 1) := by decide +kernel
theorem dX9_mostOften_18 : decode cX9_mostOften 18 = .ok (.iadd, 1) := by decide +kernel
theorem dX9_mostOften_19 : decode cX9_mostOften 19 = .ok (.aload_n 0, 1) := by decide +kernel
theorem dX9_mostOften_20 : decode cX9_mostOften 20 = .ok (.getfield 91, 3) := by decide +kernel
theorem dX9_mostOften_23 : decode cX9_mostOften 23 = .ok (.iload_n 3, 1) := by decide +kernel
theorem dX9_mostOften_24 : decode cX9_mostOften 24 = .ok (.iaload, 1) := by decide +kernel
theorem dX9_mostOften_25 : decode cX9_mostOften 25 = .ok (.if_icmp .ge 46, 3) := by decide +kernel
theorem dX9_mostOften_28 : decode cX9_mostOften 28 = .ok (.aload_n 0, 1) := by decide +kernel
theorem dX9_mostOften_29 : decode cX9_mostOften 29 = .ok (.getfield 88, 3) := by decide +kernel
theorem dX9_mostOften_32 : decode cX9_mostOften 32 = .ok (.iload 4, 2) := by decide +kernel
theorem dX9_mostOften_34 : decode cX9_mostOften 34 = .ok (.iaload, 1) := by decide +kernel
theorem dX9_mostOften_35 : decode cX9_mostOften 35 = .ok (.aload_n 0, 1) := by decide +kernel
theorem dX9_mostOften_36 : decode cX9_mostOften 36 = .ok (.getfield 88, 3) := by decide +kernel
theorem dX9_mostOften_39 : decode cX9_mostOften 39 = .ok (.iload 4, 2) := by decide +kernel
theorem dX9_mostOften_41 : decode cX9_mostOften 41 = .ok (.iconst 1, 1) := by decide +kernel
theorem dX9_mostOften_42 : decode cX9_mostOften 42 = .ok (.iadd, 1) := by decide +kernel
theorem dX9_mostOften_43 : decode cX9_mostOften 43 = .ok (.iaload, 1) := by decide +kernel
theorem dX9_mostOften_44 : decode cX9_mostOften 44 = .ok (.invokestatic 192, 3) := by decide +kernel
theorem dX9_mostOften_47 : decode cX9_mostOften 47 = .ok (.istore 5, 2) := by decide +kernel
theorem dX9_mostOften_49 : decode cX9_mostOften 49 = .ok (.aload_n 0, 1) := by decide +kernel
theorem dX9_mostOften_50 : decode cX9_mostOften 50 = .ok (.getfield 95, 3) := by decide +kernel
theorem dX9_mostOften_53 : decode cX9_mostOften 53 = .ok (.iload 5, 2) := by decide +kernel
theorem dX9_mostOften_55 : decode cX9_mostOften 55 = .ok (.iconst 0, 1) := by decide +kernel
theorem dX9_mostOften_56 : decode cX9_mostOften 56 = .ok (.iastore, 1) := by decide +kernel
theorem dX9_mostOften_57 : decode cX9_mostOften 57 = .ok (.aload_n 0, 1) := by decide +kernel
theorem dX9_mostOften_58 : decode cX9_mostOften 58 = .ok (.getfield 98, 3) := by decide +kernel
theorem dX9_mostOften_61 : decode cX9_mostOften 61 = .ok (.iload 5, 2) := by decide +kernel
theorem dX9_mostOften_63 : decode cX9_mostOften 63 = .ok (.iconst (-1), 1) := by decide +kernel
theorem dX9_mostOften_64 : decode cX9_mostOften 64 = .ok (.iastore, 1) := by decide +kernel
theorem dX9_mostOften_65 : decode cX9_mostOften 65 = .ok (.iinc 4 1, 3) := by decide +kernel
theorem dX9_mostOften_68 : decode cX9_mostOften 68 = .ok (.goto (-53), 3) := by decide +kernel
theorem dX9_mostOften_71 : decode cX9_mostOften 71 = .ok (.aload_n 0, 1) := by decide +kernel
theorem dX9_mostOften_72 : decode cX9_mostOften 72 = .ok (.getfield 91, 3) := by decide +kernel
theorem dX9_mostOften_75 : decode cX9_mostOften 75 = .ok (.iload_n 3, 1) := by decide +kernel
theorem dX9_mostOften_76 : decode cX9_mostOften 76 = .ok (.iaload, 1) := by decide +kernel
theorem dX9_mostOften_77 : decode cX9_mostOften 77 = .ok (.istore_n 2, 1) := by decide +kernel
theorem dX9_mostOften_78 : decode cX9_mostOften 78 = .ok (.iinc 3 1, 3) := by decide +kernel
theorem dX9_mostOften_81 : decode cX9_mostOften 81 = .ok (.goto (-75), 3) := by decide +kernel
theorem dX9_mostOften_84 : decode cX9_mostOften 84 = .ok (.iconst 0, 1) := by decide +kernel
theorem dX9_mostOften_85 : decode cX9_mostOften 85 = .ok (.istore_n 2, 1) := by decide +kernel
theorem dX9_mostOften_86 : decode cX9_mostOften 86 = .ok (.iconst 0, 1) := by decide +kernel
theorem dX9_mostOften_87 : decode cX9_mostOften 87 = .ok (.istore_n 3, 1) := by decide +kernel
theorem dX9_mostOften_88 : decode cX9_mostOften 88 = .ok (.iload_n 3, 1) := by decide +kernel
theorem dX9_mostOften_89 : decode cX9_mostOften 89 = .ok (.bipush 8, 2) := by decide +kernel
theorem dX9_mostOften_91 : decode cX9_mostOften 91 = .ok (.if_icmp .ge 164, 3) := by decide +kernel
theorem dX9_mostOften_94 : decode cX9_mostOften 94 = .ok (.iload_n 2, 1) := by decide +kernel
theorem dX9_mostOften_95 : decode cX9_mostOften 95 = .ok (.istore 4, 2) := by decide +kernel
theorem dX9_mostOften_97 : decode cX9_mostOften 97 = .ok (.iload 4, 2) := by decide +kernel
theorem dX9_mostOften_99 : decode cX9_mostOften 99 = .ok (.iconst 1, 1) := by decide +kernel
theorem dX9_mostOften_100 : decode cX9_mostOften 100 = .ok (.iadd, 1) := by decide +kernel
theorem dX9_mostOften_101 : decode cX9_mostOften 101 = .ok (.aload_n 0, 1) := by decide +kernel
theorem dX9_mostOften_102 : decode cX9_mostOften 102 = .ok (.getfield 91, 3) := by decide +kernel
theorem dX9_mostOften_105 : decode cX9_mostOften 105 = .ok (.iload_n 3, 1) := by decide +kernel
theorem dX9_mostOften_106 : decode cX9_mostOften 106 = .ok (.iaload, 1) := by decide +kernel
theorem dX9_mostOften_107 : decode cX9_mostOften 107 = .ok (.if_icmp .ge 135, 3) := by decide +kernel
theorem dX9_mostOften_110 : decode cX9_mostOften 110 = .ok (.aload_n 0, 1) := by decide +kernel
theorem dX9_mostOften_111 : decode cX9_mostOften 111 = .ok (.getfield 88, 3) := by decide +kernel
theorem dX9_mostOften_114 : decode cX9_mostOften 114 = .ok (.iload 4, 2) := by decide +kernel
theorem dX9_mostOften_116 : decode cX9_mostOften 116 = .ok (.iaload, 1) := by decide +kernel
theorem dX9_mostOften_117 : decode cX9_mostOften 117 = .ok (.aload_n 0, 1) := by decide +kernel
theorem dX9_mostOften_118 : decode cX9_mostOften 118 = .ok (.getfield 88, 3) := by decide +kernel
theorem dX9_mostOften_121 : decode cX9_mostOften 121 = .ok (.iload 4, 2) := by decide +kernel
theorem dX9_mostOften_123 : decode cX9_mostOften 123 = .ok (.iconst 1, 1) := by decide +kernel
end
section
theorem dX9_mostOften_124 : decode cX9_mostOften 124 = .ok (.iadd, 1) := by decide +kernel
theorem dX9_mostOften_125 : decode cX9_mostOften 125 = .ok (.iaload, 1) := by decide +kernel
theorem dX9_mostOften_126 : decode cX9_mostOften 126 = .ok (.invokestatic 192, 3) := by decide +kernel
theorem dX9_mostOften_129 : decode cX9_mostOften 129 = .ok (.istore 5, 2) := by decide +kernel
theorem dX9_mostOften_131 : decode cX9_mostOften 131 = .ok (.aload_n 0, 1) := by decide +kernel
theorem dX9_mostOften_132 : decode cX9_mostOften 132 = .ok (.getfield 98, 3) := by decide +kernel
theorem dX9_mostOften_135 : decode cX9_mostOften 135 = .ok (.iload 5, 2) := by decide +kernel
theorem dX9_mostOften_137 : decode cX9_mostOften 137 = .ok (.iaload, 1) := by decide +kernel
theorem dX9_mostOften_138 : decode cX9_mostOften 138 = .ok (.iconst (-1), 1) := by decide +kernel
theorem dX9_mostOften_139 : decode cX9_mostOften 139 = .ok (.if_icmp .eq 20, 3) := by decide +kernel
theorem dX9_mostOften_142 : decode cX9_mostOften 142 = .ok (.aload_n 0, 1) := by decide +kernel
theorem dX9_mostOften_143 : decode cX9_mostOften 143 = .ok (.getfield 98, 3) := by decide +kernel
theorem dX9_mostOften_146 : decode cX9_mostOften 146 = .ok (.iload 5, 2) := by decide +kernel
theorem dX9_mostOften_148 : decode cX9_mostOften 148 = .ok (.iaload, 1) := by decide +kernel
theorem dX9_mostOften_149 : decode cX9_mostOften 149 = .ok (.iload 4, 2) := by decide +kernel
theorem dX9_mostOften_151 : decode cX9_mostOften 151 = .ok (.iconst 1, 1) := by decide +kernel
theorem dX9_mostOften_152 : decode cX9_mostOften 152 = .ok (.isub, 1) := by decide +kernel
theorem dX9_mostOften_153 : decode cX9_mostOften 153 = .ok (.if_icmp .ne 6, 3) := by decide +kernel
theorem dX9_mostOften_156 : decode cX9_mostOften 156 = .ok (.goto 80, 3) := by decide +kernel
theorem dX9_mostOften_159 : decode cX9_mostOften 159 = .ok (.aload_n 0, 1) := by decide +kernel
theorem dX9_mostOften_160 : decode cX9_mostOften 160 = .ok (.getfield 98, 3) := by decide +kernel
theorem dX9_mostOften_163 : decode cX9_mostOften 163 = .ok (.iload 5, 2) := by decide +kernel
theorem dX9_mostOften_165 : decode cX9_mostOften 165 = .ok (.iload 4, 2) := by decide +kernel
theorem dX9_mostOften_167 : decode cX9_mostOften 167 = .ok (.iastore, 1) := by decide +kernel
theorem dX9_mostOften_168 : decode cX9_mostOften 168 = .ok (.aload_n 0, 1) := by decide +kernel
theorem dX9_mostOften_169 : decode cX9_mostOften 169 = .ok (.getfield 95, 3) := by decide +kernel
theorem dX9_mostOften_172 : decode cX9_mostOften 172 = .ok (.iload 5, 2) := by decide +kernel
theorem dX9_mostOften_174 : decode cX9_mostOften 174 = .ok (.dup2, 1) := by decide +kernel
theorem dX9_mostOften_175 : decode cX9_mostOften 175 = .ok (.iaload, 1) := by decide +kernel
theorem dX9_mostOften_176 : decode cX9_mostOften 176 = .ok (.iconst 1, 1) := by decide +kernel
theorem dX9_mostOften_177 : decode cX9_mostOften 177 = .ok (.iadd, 1) := by decide +kernel
theorem dX9_mostOften_178 : decode cX9_mostOften 178 = .ok (.iastore, 1) := by decide +kernel
theorem dX9_mostOften_179 : decode cX9_mostOften 179 = .ok (.aload_n 0, 1) := by decide +kernel
theorem dX9_mostOften_180 : decode cX9_mostOften 180 = .ok (.getfield 95, 3) := by decide +kernel
theorem dX9_mostOften_183 : decode cX9_mostOften 183 = .ok (.iload 5, 2) := by decide +kernel
theorem dX9_mostOften_185 : decode cX9_mostOften 185 = .ok (.iaload, 1) := by decide +kernel
theorem dX9_mostOften_186 : decode cX9_mostOften 186 = .ok (.iconst 1, 1) := by decide +kernel
theorem dX9_mostOften_187 : decode cX9_mostOften 187 = .ok (.if_icmp .le 49, 3) := by decide +kernel
theorem dX9_mostOften_190 : decode cX9_mostOften 190 = .ok (.iload_n 1, 1) := by decide +kernel
theorem dX9_mostOften_191 : decode cX9_mostOften 191 = .ok (.iconst (-1), 1) := by decide +kernel
theorem dX9_mostOften_192 : decode cX9_mostOften 192 = .ok (.if_icmp .eq 41, 3) := by decide +kernel
theorem dX9_mostOften_195 : decode cX9_mostOften 195 = .ok (.aload_n 0, 1) := by decide +kernel
theorem dX9_mostOften_196 : decode cX9_mostOften 196 = .ok (.getfield 95, 3) := by decide +kernel
theorem dX9_mostOften_199 : decode cX9_mostOften 199 = .ok (.iload 5, 2) := by decide +kernel
theorem dX9_mostOften_201 : decode cX9_mostOften 201 = .ok (.iaload, 1) := by decide +kernel
theorem dX9_mostOften_202 : decode cX9_mostOften 202 = .ok (.aload_n 0, 1) := by decide +kernel
theorem dX9_mostOften_203 : decode cX9_mostOften 203 = .ok (.getfield 95, 3) := by decide +kernel
theorem dX9_mostOften_206 : decode cX9_mostOften 206 = .ok (.iload_n 1, 1) := by decide +kernel
theorem dX9_mostOften_207 : decode cX9_mostOften 207 = .ok (.iaload, 1) := by decide +kernel
theorem dX9_mostOften_208 : decode cX9_mostOften 208 = .ok (.if_icmp .gt 25, 3) := by decide +kernel
theorem dX9_mostOften_211 : decode cX9_mostOften 211 = .ok (.aload_n 0, 1) := by decide +kernel
theorem dX9_mostOften_212 : decode cX9_mostOften 212 = .ok (.getfield 95, 3) := by decide +kernel
theorem dX9_mostOften_215 : decode cX9_mostOften 215 = .ok (.iload 5, 2) := by decide +kernel
theorem dX9_mostOften_217 : decode cX9_mostOften 217 = .ok (.iaload, 1) := by decide +kernel
theorem dX9_mostOften_218 : decode cX9_mostOften 218 = .ok (.aload_n 0, 1) := by decide +kernel
theorem dX9_mostOften_219 : decode cX9_mostOften 219 = .ok (.getfield 95, 3) := by decide +kernel
theorem dX9_mostOften_222 : decode cX9_mostOften 222 = .ok (.iload_n 1, 1) := by decide +kernel
theorem dX9_mostOften_223 : decode cX9_mostOften 223 = .ok (.iaload, 1) := by decide +kernel
theorem dX9_mostOften_224 : decode cX9_mostOften 224 = .ok (.if_icmp .ne 12, 3) := by decide +kernel
theorem dX9_mostOften_227 : decode cX9_mostOften 227 = .ok (.iload 5, 2) := by decide +kernel
theorem dX9_mostOften_229 : decode cX9_mostOften 229 = .ok (.iload_n 1, 1) := by decide +kernel
theorem dX9_mostOften_230 : decode cX9_mostOften 230 = .ok (.if_icmp .ge 6, 3) := by decide +kernel
theorem dX9_mostOften_233 : decode cX9_mostOften 233 = .ok (.iload 5, 2) := by decide +kernel
theorem dX9_mostOften_235 : decode cX9_mostOften 235 = .ok (.istore_n 1, 1) := by decide +kernel
theorem dX9_mostOften_236 : decode cX9_mostOften 236 = .ok (.iinc 4 1, 3) := by decide +kernel
theorem dX9_mostOften_239 : decode cX9_mostOften 239 = .ok (.goto (-142), 3) := by decide +kernel
theorem dX9_mostOften_242 : decode cX9_mostOften 242 = .ok (.aload_n 0, 1) := by decide +kernel
theorem dX9_mostOften_243 : decode cX9_mostOften 243 = .ok (.getfield 91, 3) := by decide +kernel
theorem dX9_mostOften_246 : decode cX9_mostOften 246 = .ok (.iload_n 3, 1) := by decide +kernel
theorem dX9_mostOften_247 : decode cX9_mostOften 247 = .ok (.iaload, 1) := by decide +kernel
theorem dX9_mostOften_248 : decode cX9_mostOften 248 = .ok (.istore_n 2, 1) := by decide +kernel
theorem dX9_mostOften_249 : decode cX9_mostOften 249 = .ok (.iinc 3 1, 3) := by decide +kernel
theorem dX9_mostOften_252 : decode cX9_mostOften 252 = .ok (.goto (-164), 3) := by decide +kernel
theorem dX9_mostOften_255 : decode cX9_mostOften 255 = .ok (.iload_n 1, 1) := by decide +kernel
theorem dX9_mostOften_256 : decode cX9_mostOften 256 = .ok (.ireturn, 1) := by decide +kernel
theorem dX9_gives_0 : decode cX9_gives 0 = .ok (.iconst 0, 1) := by decide +kernel
theorem dX9_gives_1 : decode cX9_gives 1 = .ok (.istore_n 3, 1) := by decide +kernel
theorem dX9_gives_2 : decode cX9_gives 2 = .ok (.iconst 0, 1) := by decide +kernel
theorem dX9_gives_3 : decode cX9_gives 3 = .ok (.istore 4, 2) := by decide +kernel
theorem dX9_gives_5 : decode cX9_gives 5 = .ok (.iconst 0, 1) := by decide +kernel
theorem dX9_gives_6 : decode cX9_gives 6 = .ok (.istore 5, 2) := by decide +kernel
theorem dX9_gives_8 : decode cX9_gives 8 = .ok (.iconst 0, 1) := by decide +kernel
theorem dX9_gives_9 : decode cX9_gives 9 = .ok (.istore 6, 2) := by decide +kernel
theorem dX9_gives_11 : decode cX9_gives 11 = .ok (.iload 6, 2) := by decide +kernel
theorem dX9_gives_13 : decode cX9_gives 13 = .ok (.bipush 8, 2) := by decide +kernel
theorem dX9_gives_15 : decode cX9_gives 15 = .ok (.if_icmp .ge 133, 3) := by decide +kernel
theorem dX9_gives_18 : decode cX9_gives 18 = .ok (.aload_n 0, 1) := by decide +kernel
theorem dX9_gives_19 : decode cX9_gives 19 = .ok (.getfield 91, 3) := by decide +kernel
theorem dX9_gives_22 : decode cX9_gives 22 = .ok (.iload 6, 2) := by decide +kernel
theorem dX9_gives_24 : decode cX9_gives 24 = .ok (.iaload, 1) := by decide +kernel
theorem dX9_gives_25 : decode cX9_gives 25 = .ok (.istore 7, 2) := by decide +kernel
theorem dX9_gives_27 : decode cX9_gives 27 = .ok (.iload 5, 2) := by decide +kernel
theorem dX9_gives_29 : decode cX9_gives 29 = .ok (.istore 8, 2) := by decide +kernel
theorem dX9_gives_31 : decode cX9_gives 31 = .ok (.iload 8, 2) := by decide +kernel
theorem dX9_gives_33 : decode cX9_gives 33 = .ok (.iload 7, 2) := by decide +kernel
theorem dX9_gives_35 : decode cX9_gives 35 = .ok (.if_icmp .ge 94, 3) := by decide +kernel
theorem dX9_gives_38 : decode cX9_gives 38 = .ok (.iload 8, 2) := by decide +kernel
theorem dX9_gives_40 : decode cX9_gives 40 = .ok (.iconst 1, 1) := by decide +kernel
theorem dX9_gives_41 : decode cX9_gives 41 = .ok (.iadd, 1) := by decide +kernel
theorem dX9_gives_42 : decode cX9_gives 42 = .ok (.iload 7, 2) := by decide +kernel
theorem dX9_gives_44 : decode cX9_gives 44 = .ok (.if_icmp .ge 30, 3) := by decide +kernel
theorem dX9_gives_47 : decode cX9_gives 47 = .ok (.aload_n 0, 1) := by decide +kernel
theorem dX9_gives_48 : decode cX9_gives 48 = .ok (.getfield 88, 3) := by decide +kernel
theorem dX9_gives_51 : decode cX9_gives 51 = .ok (.iload 8, 2) := by decide +kernel
theorem dX9_gives_53 : decode cX9_gives 53 = .ok (.iaload, 1) := by decide +kernel
theorem dX9_gives_54 : decode cX9_gives 54 = .ok (.aload_n 0, 1) := by decide +kernel
theorem dX9_gives_55 : decode cX9_gives 55 = .ok (.getfield 88, 3) := by decide +kernel
theorem dX9_gives_58 : decode cX9_gives 58 = .ok (.iload 8, 2) := by decide +kernel
theorem dX9_gives_60 : decode cX9_gives 60 = .ok (.iconst 1, 1) := by decide +kernel
theorem dX9_gives_61 : decode cX9_gives 61 = .ok (.iadd, 1) := by decide +kernel
theorem dX9_gives_62 : decode cX9_gives 62 = .ok (.iaload, 1) := by decide +kernel
theorem dX9_gives_63 : decode cX9_gives 63 = .ok (.invokestatic 192, 3) := by decide +kernel
theorem dX9_gives_66 : decode cX9_gives 66 = .ok (.iload_n 1, 1) := by decide +kernel
theorem dX9_gives_67 : decode cX9_gives 67 = .ok (.if_icmp .ne 7, 3) := by decide +kernel
theorem dX9_gives_70 : decode cX9_gives 70 = .ok (.iconst 1, 1) := by decide +kernel
theorem dX9_gives_71 : decode cX9_gives 71 = .ok (.goto 4, 3) := by decide +kernel
theorem dX9_gives_74 : decode cX9_gives 74 = .ok (.iconst 0, 1) := by decide +kernel
theorem dX9_gives_75 : decode cX9_gives 75 = .ok (.istore 9, 2) := by decide +kernel
theorem dX9_gives_77 : decode cX9_gives 77 = .ok (.aload_n 0, 1) := by decide +kernel
theorem dX9_gives_78 : decode cX9_gives 78 = .ok (.getfield 88, 3) := by decide +kernel
theorem dX9_gives_81 : decode cX9_gives 81 = .ok (.iload 4, 2) := by decide +kernel
theorem dX9_gives_83 : decode cX9_gives 83 = .ok (.iload 9, 2) := by decide +kernel
theorem dX9_gives_85 : decode cX9_gives 85 = .ok (.ifCond .eq 7, 3) := by decide +kernel
theorem dX9_gives_88 : decode cX9_gives 88 = .ok (.iload_n 2, 1) := by decide +kernel
theorem dX9_gives_89 : decode cX9_gives 89 = .ok (.goto 10, 3) := by decide +kernel
theorem dX9_gives_92 : decode cX9_gives 92 = .ok (.aload_n 0, 1) := by decide +kernel
theorem dX9_gives_93 : decode cX9_gives 93 = .ok (.getfield 88, 3) := by decide +kernel
theorem dX9_gives_96 : decode cX9_gives 96 = .ok (.iload 8, 2) := by decide +kernel
theorem dX9_gives_98 : decode cX9_gives 98 = .ok (.iaload, 1) := by decide +kernel
theorem dX9_gives_99 : decode cX9_gives 99 = .ok (.iastore, 1) := by decide +kernel
theorem dX9_gives_100 : decode cX9_gives 100 = .ok (.iinc 4 1, 3) := by decide +kernel
theorem dX9_gives_103 : decode cX9_gives 103 = .ok (.iload 8, 2) := by decide +kernel
theorem dX9_gives_105 : decode cX9_gives 105 = .ok (.iload 9, 2) := by decide +kernel
theorem dX9_gives_107 : decode cX9_gives 107 = .ok (.ifCond .eq 7, 3) := by decide +kernel
theorem dX9_gives_110 : decode cX9_gives 110 = .ok (.iconst 2, 1) := by decide +kernel
theorem dX9_gives_111 : decode cX9_gives 111 = .ok (.goto 4, 3) := by decide +kernel
theorem dX9_gives_114 : decode cX9_gives 114 = .ok (.iconst 1, 1) := by decide +kernel
theorem dX9_gives_115 : decode cX9_gives 115 = .ok (.iadd, 1) := by decide +kernel
theorem dX9_gives_116 : decode cX9_gives 116 = .ok (.istore 8, 2) := by decide +kernel
theorem dX9_gives_118 : decode cX9_gives 118 = .ok (.iload 9, 2) := by decide +kernel
theorem dX9_gives_120 : decode cX9_gives 120 = .ok (.ifCond .eq 6, 3) := by decide +kernel
theorem dX9_gives_123 : decode cX9_gives 123 = .ok (.iinc 3 1, 3) := by decide +kernel
theorem dX9_gives_126 : decode cX9_gives 126 = .ok (.goto (-95), 3) := by decide +kernel
theorem dX9_gives_129 : decode cX9_gives 129 = .ok (.iload 7, 2) := by decide +kernel
theorem dX9_gives_131 : decode cX9_gives 131 = .ok (.istore 5, 2) := by decide +kernel
theorem dX9_gives_133 : decode cX9_gives 133 = .ok (.aload_n 0, 1) := by decide +kernel
theorem dX9_gives_134 : decode cX9_gives 134 = .ok (.getfield 91, 3) := by decide +kernel
theorem dX9_gives_137 : decode cX9_gives 137 = .ok (.iload 6, 2) := by decide +kernel
theorem dX9_gives_139 : decode cX9_gives 139 = .ok (.iload 4, 2) := by decide +kernel
theorem dX9_gives_141 : decode cX9_gives 141 = .ok (.iastore, 1) := by decide +kernel
theorem dX9_gives_142 : decode cX9_gives 142 = .ok (.iinc 6 1, 3) := by decide +kernel
theorem dX9_gives_145 : decode cX9_gives 145 = .ok (.goto (-134), 3) := by decide +kernel
theorem dX9_gives_148 : decode cX9_gives 148 = .ok (.iload_n 3, 1) := by decide +kernel
theorem dX9_gives_149 : decode cX9_gives 149 = .ok (.ireturn, 1) := by decide +kernel
theorem dX9_told__0 : decode cX9_told_ 0 = .ok (.iload_n 0, 1) := by decide +kernel
theorem dX9_told__1 : decode cX9_told_ 1 = .ok (.sipush 300, 3) := by decide +kernel
theorem dX9_told__4 : decode cX9_told_ 4 = .ok (.if_icmp .le 15, 3) := by decide +kernel
theorem dX9_told__7 : decode cX9_told_ 7 = .ok (.iload_n 0, 1) := by decide +kernel
theorem dX9_told__8 : decode cX9_told_ 8 = .ok (.sipush 1000, 3) := by decide +kernel
theorem dX9_told__11 : decode cX9_told_ 11 = .ok (.iadd, 1) := by decide +kernel
theorem dX9_told__12 : decode cX9_told_ 12 = .ok (.sipush 300, 3) := by decide +kernel
theorem dX9_told__15 : decode cX9_told_ 15 = .ok (.isub, 1) := by decide +kernel
theorem dX9_told__16 : decode cX9_told_ 16 = .ok (.goto 4, 3) := by decide +kernel
theorem dX9_told__19 : decode cX9_told_ 19 = .ok (.iload_n 0, 1) := by decide +kernel
theorem dX9_told__20 : decode cX9_told_ 20 = .ok (.ireturn, 1) := by decide +kernel
theorem dX9_supers_0 : decode cX9_supers 0 = .ok (.iconst 0, 1) := by decide +kernel
theorem dX9_supers_1 : decode cX9_supers 1 = .ok (.istore_n 1, 1) := by decide +kernel
theorem dX9_supers_2 : decode cX9_supers 2 = .ok (.iconst 0, 1) := by decide +kernel
theorem dX9_supers_3 : decode cX9_supers 3 = .ok (.istore_n 2, 1) := by decide +kernel
theorem dX9_supers_4 : decode cX9_supers 4 = .ok (.iload_n 2, 1) := by decide +kernel
theorem dX9_supers_5 : decode cX9_supers 5 = .ok (.bipush 8, 2) := by decide +kernel
theorem dX9_supers_7 : decode cX9_supers 7 = .ok (.if_icmp .ge 64, 3) := by decide +kernel
theorem dX9_supers_10 : decode cX9_supers 10 = .ok (.iconst 0, 1) := by decide +kernel
theorem dX9_supers_11 : decode cX9_supers 11 = .ok (.istore_n 3, 1) := by decide +kernel
theorem dX9_supers_12 : decode cX9_supers 12 = .ok (.aload_n 0, 1) := by decide +kernel
theorem dX9_supers_13 : decode cX9_supers 13 = .ok (.getfield 75, 3) := by decide +kernel
theorem dX9_supers_16 : decode cX9_supers 16 = .ok (.iload_n 2, 1) := by decide +kernel
theorem dX9_supers_17 : decode cX9_supers 17 = .ok (.baload, 1) := by decide +kernel
theorem dX9_supers_18 : decode cX9_supers 18 = .ok (.ifCond .eq 40, 3) := by decide +kernel
theorem dX9_supers_21 : decode cX9_supers 21 = .ok (.iload_n 3, 1) := by decide +kernel
theorem dX9_supers_22 : decode cX9_supers 22 = .ok (.aload_n 0, 1) := by decide +kernel
theorem dX9_supers_23 : decode cX9_supers 23 = .ok (.getfield 79, 3) := by decide +kernel
theorem dX9_supers_26 : decode cX9_supers 26 = .ok (.iload_n 2, 1) := by decide +kernel
theorem dX9_supers_27 : decode cX9_supers 27 = .ok (.iaload, 1) := by decide +kernel
theorem dX9_supers_28 : decode cX9_supers 28 = .ok (.if_icmp .ge 30, 3) := by decide +kernel
theorem dX9_supers_31 : decode cX9_supers 31 = .ok (.aload_n 0, 1) := by decide +kernel
theorem dX9_supers_32 : decode cX9_supers 32 = .ok (.getfield 88, 3) := by decide +kernel
theorem dX9_supers_35 : decode cX9_supers 35 = .ok (.iload_n 1, 1) := by decide +kernel
theorem dX9_supers_36 : decode cX9_supers 36 = .ok (.aload_n 0, 1) := by decide +kernel
theorem dX9_supers_37 : decode cX9_supers 37 = .ok (.getfield 82, 3) := by decide +kernel
theorem dX9_supers_40 : decode cX9_supers 40 = .ok (.sipush 600, 3) := by decide +kernel
theorem dX9_supers_43 : decode cX9_supers 43 = .ok (.iload_n 2, 1) := by decide +kernel
theorem dX9_supers_44 : decode cX9_supers 44 = .ok (.imul, 1) := by decide +kernel
theorem dX9_supers_45 : decode cX9_supers 45 = .ok (.iload_n 3, 1) := by decide +kernel
theorem dX9_supers_46 : decode cX9_supers 46 = .ok (.iadd, 1) := by decide +kernel
theorem dX9_supers_47 : decode cX9_supers 47 = .ok (.iaload, 1) := by decide +kernel
theorem dX9_supers_48 : decode cX9_supers 48 = .ok (.iastore, 1) := by decide +kernel
theorem dX9_supers_49 : decode cX9_supers 49 = .ok (.iinc 1 1, 3) := by decide +kernel
theorem dX9_supers_52 : decode cX9_supers 52 = .ok (.iinc 3 1, 3) := by decide +kernel
theorem dX9_supers_55 : decode cX9_supers 55 = .ok (.goto (-43), 3) := by decide +kernel
theorem dX9_supers_58 : decode cX9_supers 58 = .ok (.aload_n 0, 1) := by decide +kernel
theorem dX9_supers_59 : decode cX9_supers 59 = .ok (.getfield 91, 3) := by decide +kernel
theorem dX9_supers_62 : decode cX9_supers 62 = .ok (.iload_n 2, 1) := by decide +kernel
theorem dX9_supers_63 : decode cX9_supers 63 = .ok (.iload_n 1, 1) := by decide +kernel
theorem dX9_supers_64 : decode cX9_supers 64 = .ok (.iastore, 1) := by decide +kernel
theorem dX9_supers_65 : decode cX9_supers 65 = .ok (.iinc 2 1, 3) := by decide +kernel
theorem dX9_supers_68 : decode cX9_supers 68 = .ok (.goto (-64), 3) := by decide +kernel
theorem dX9_supers_71 : decode cX9_supers 71 = .ok (.aload_n 0, 1) := by decide +kernel
theorem dX9_supers_72 : decode cX9_supers 72 = .ok (.iconst 0, 1) := by decide +kernel
theorem dX9_supers_73 : decode cX9_supers 73 = .ok (.putfield 195, 3) := by decide +kernel
theorem dX9_supers_76 : decode cX9_supers 76 = .ok (.iconst 1, 1) := by decide +kernel
theorem dX9_supers_77 : decode cX9_supers 77 = .ok (.istore_n 2, 1) := by decide +kernel
theorem dX9_supers_78 : decode cX9_supers 78 = .ok (.iload_n 2, 1) := by decide +kernel
theorem dX9_supers_79 : decode cX9_supers 79 = .ok (.ifCond .eq 105, 3) := by decide +kernel
theorem dX9_supers_82 : decode cX9_supers 82 = .ok (.aload_n 0, 1) := by decide +kernel
theorem dX9_supers_83 : decode cX9_supers 83 = .ok (.getfield 195, 3) := by decide +kernel
theorem dX9_supers_86 : decode cX9_supers 86 = .ok (.sipush 200, 3) := by decide +kernel
theorem dX9_supers_89 : decode cX9_supers 89 = .ok (.if_icmp .ge 95, 3) := by decide +kernel
theorem dX9_supers_92 : decode cX9_supers 92 = .ok (.aload_n 0, 1) := by decide +kernel
theorem dX9_supers_93 : decode cX9_supers 93 = .ok (.invokevirtual 198, 3) := by decide +kernel
theorem dX9_supers_96 : decode cX9_supers 96 = .ok (.istore_n 3, 1) := by decide +kernel
theorem dX9_supers_97 : decode cX9_supers 97 = .ok (.iload_n 3, 1) := by decide +kernel
theorem dX9_supers_98 : decode cX9_supers 98 = .ok (.iconst (-1), 1) := by decide +kernel
theorem dX9_supers_99 : decode cX9_supers 99 = .ok (.if_icmp .eq 7, 3) := by decide +kernel
theorem dX9_supers_102 : decode cX9_supers 102 = .ok (.iconst 1, 1) := by decide +kernel
theorem dX9_supers_103 : decode cX9_supers 103 = .ok (.goto 4, 3) := by decide +kernel
theorem dX9_supers_106 : decode cX9_supers 106 = .ok (.iconst 0, 1) := by decide +kernel
theorem dX9_supers_107 : decode cX9_supers 107 = .ok (.istore_n 2, 1) := by decide +kernel
theorem dX9_supers_108 : decode cX9_supers 108 = .ok (.iload_n 2, 1) := by decide +kernel
theorem dX9_supers_109 : decode cX9_supers 109 = .ok (.ifCond .ne 6, 3) := by decide +kernel
theorem dX9_supers_112 : decode cX9_supers 112 = .ok (.goto (-34), 3) := by decide +kernel
theorem dX9_supers_115 : decode cX9_supers 115 = .ok (.aload_n 0, 1) := by decide +kernel
theorem dX9_supers_116 : decode cX9_supers 116 = .ok (.getfield 101, 3) := by decide +kernel
theorem dX9_supers_119 : decode cX9_supers 119 = .ok (.aload_n 0, 1) := by decide +kernel
theorem dX9_supers_120 : decode cX9_supers 120 = .ok (.getfield 195, 3) := by decide +kernel
theorem dX9_supers_123 : decode cX9_supers 123 = .ok (.iload_n 3, 1) := by decide +kernel
theorem dX9_supers_124 : decode cX9_supers 124 = .ok (.sipush 512, 3) := by decide +kernel
theorem dX9_supers_127 : decode cX9_supers 127 = .ok (.idiv, 1) := by decide +kernel
theorem dX9_supers_128 : decode cX9_supers 128 = .ok (.invokestatic 201, 3) := by decide +kernel
theorem dX9_supers_131 : decode cX9_supers 131 = .ok (.iastore, 1) := by decide +kernel
theorem dX9_supers_132 : decode cX9_supers 132 = .ok (.aload_n 0, 1) := by decide +kernel
theorem dX9_supers_133 : decode cX9_supers 133 = .ok (.getfield 104, 3) := by decide +kernel
theorem dX9_supers_136 : decode cX9_supers 136 = .ok (.aload_n 0, 1) := by decide +kernel
theorem dX9_supers_137 : decode cX9_supers 137 = .ok (.getfield 195, 3) := by decide +kernel
theorem dX9_supers_140 : decode cX9_supers 140 = .ok (.iload_n 3, 1) := by decide +kernel
theorem dX9_supers_141 : decode cX9_supers 141 = .ok (.sipush 512, 3) := by decide +kernel
theorem dX9_supers_144 : decode cX9_supers 144 = .ok (.irem, 1) := by decide +kernel
theorem dX9_supers_145 : decode cX9_supers 145 = .ok (.invokestatic 201, 3) := by decide +kernel
theorem dX9_supers_148 : decode cX9_supers 148 = .ok (.iastore, 1) := by decide +kernel
theorem dX9_supers_149 : decode cX9_supers 149 = .ok (.aload_n 0, 1) := by decide +kernel
theorem dX9_supers_150 : decode cX9_supers 150 = .ok (.getfield 107, 3) := by decide +kernel
theorem dX9_supers_153 : decode cX9_supers 153 = .ok (.aload_n 0, 1) := by decide +kernel
theorem dX9_supers_154 : decode cX9_supers 154 = .ok (.getfield 195, 3) := by decide +kernel
theorem dX9_supers_157 : decode cX9_supers 157 = .ok (.aload_n 0, 1) := by decide +kernel
theorem dX9_supers_158 : decode cX9_supers 158 = .ok (.iload_n 3, 1) := by decide +kernel
theorem dX9_supers_159 : decode cX9_supers 159 = .ok (.sipush 301, 3) := by decide +kernel
theorem dX9_supers_162 : decode cX9_supers 162 = .ok (.aload_n 0, 1) := by decide +kernel
theorem dX9_supers_163 : decode cX9_supers 163 = .ok (.getfield 195, 3) := by decide +kernel
theorem dX9_supers_166 : decode cX9_supers 166 = .ok (.iadd, 1) := by decide +kernel
theorem dX9_supers_167 : decode cX9_supers 167 = .ok (.invokevirtual 204, 3) := by decide +kernel
theorem dX9_supers_170 : decode cX9_supers 170 = .ok (.iastore, 1) := by decide +kernel
theorem dX9_supers_171 : decode cX9_supers 171 = .ok (.aload_n 0, 1) := by decide +kernel
theorem dX9_supers_172 : decode cX9_supers 172 = .ok (.dup, 1) := by decide +kernel
theorem dX9_supers_173 : decode cX9_supers 173 = .ok (.getfield 195, 3) := by decide +kernel
theorem dX9_supers_176 : decode cX9_supers 176 = .ok (.iconst 1, 1) := by decide +kernel
theorem dX9_supers_177 : decode cX9_supers 177 = .ok (.iadd, 1) := by decide +kernel
theorem dX9_supers_178 : decode cX9_supers 178 = .ok (.putfield 195, 3) := by decide +kernel
theorem dX9_supers_181 : decode cX9_supers 181 = .ok (.goto (-103), 3) := by decide +kernel
theorem dX9_supers_184 : decode cX9_supers 184 = .ok (.aload_n 0, 1) := by decide +kernel
theorem dX9_supers_185 : decode cX9_supers 185 = .ok (.getfield 91, 3) := by decide +kernel
theorem dX9_supers_188 : decode cX9_supers 188 = .ok (.bipush 7, 2) := by decide +kernel
theorem dX9_supers_190 : decode cX9_supers 190 = .ok (.iaload, 1) := by decide +kernel
theorem dX9_supers_191 : decode cX9_supers 191 = .ok (.iconst 2, 1) := by decide +kernel
theorem dX9_supers_192 : decode cX9_supers 192 = .ok (.aload_n 0, 1) := by decide +kernel
theorem dX9_supers_193 : decode cX9_supers 193 = .ok (.getfield 195, 3) := by decide +kernel
theorem dX9_supers_196 : decode cX9_supers 196 = .ok (.imul, 1) := by decide +kernel
theorem dX9_supers_197 : decode cX9_supers 197 = .ok (.iadd, 1) := by decide +kernel
theorem dX9_supers_198 : decode cX9_supers 198 = .ok (.ireturn, 1) := by decide +kernel
theorem dX9_pair_0 : decode cX9_pair 0 = .ok (.iload_n 1, 1) := by decide +kernel
theorem dX9_pair_1 : decode cX9_pair 1 = .ok (.ifCond .lt 11, 3) := by decide +kernel
theorem dX9_pair_4 : decode cX9_pair 4 = .ok (.iload_n 1, 1) := by decide +kernel
theorem dX9_pair_5 : decode cX9_pair 5 = .ok (.aload_n 0, 1) := by decide +kernel
theorem dX9_pair_6 : decode cX9_pair 6 = .ok (.getfield 195, 3) := by decide +kernel
theorem dX9_pair_9 : decode cX9_pair 9 = .ok (.if_icmp .lt 5, 3) := by decide +kernel
theorem dX9_pair_12 : decode cX9_pair 12 = .ok (.iconst (-1), 1) := by decide +kernel
theorem dX9_pair_13 : decode cX9_pair 13 = .ok (.ireturn, 1) := by decide +kernel
theorem dX9_pair_14 : decode cX9_pair 14 = .ok (.iload_n 2, 1) := by decide +kernel
theorem dX9_pair_15 : decode cX9_pair 15 = .ok (.ifCond .ne 12, 3) := by decide +kernel
theorem dX9_pair_18 : decode cX9_pair 18 = .ok (.aload_n 0, 1) := by decide +kernel
theorem dX9_pair_19 : decode cX9_pair 19 = .ok (.getfield 101, 3) := by decide +kernel
theorem dX9_pair_22 : decode cX9_pair 22 = .ok (.iload_n 1, 1) := by decide +kernel
theorem dX9_pair_23 : decode cX9_pair 23 = .ok (.iaload, 1) := by decide +kernel
theorem dX9_pair_24 : decode cX9_pair 24 = .ok (.goto 32, 3) := by decide +kernel
theorem dX9_pair_27 : decode cX9_pair 27 = .ok (.iload_n 2, 1) := by decide +kernel
theorem dX9_pair_28 : decode cX9_pair 28 = .ok (.iconst 1, 1) := by decide +kernel
theorem dX9_pair_29 : decode cX9_pair 29 = .ok (.if_icmp .ne 12, 3) := by decide +kernel
theorem dX9_pair_32 : decode cX9_pair 32 = .ok (.aload_n 0, 1) := by decide +kernel
theorem dX9_pair_33 : decode cX9_pair 33 = .ok (.getfield 104, 3) := by decide +kernel
theorem dX9_pair_36 : decode cX9_pair 36 = .ok (.iload_n 1, 1) := by decide +kernel
theorem dX9_pair_37 : decode cX9_pair 37 = .ok (.iaload, 1) := by decide +kernel
theorem dX9_pair_38 : decode cX9_pair 38 = .ok (.goto 18, 3) := by decide +kernel
theorem dX9_pair_41 : decode cX9_pair 41 = .ok (.iload_n 2, 1) := by decide +kernel
theorem dX9_pair_42 : decode cX9_pair 42 = .ok (.iconst 2, 1) := by decide +kernel
theorem dX9_pair_43 : decode cX9_pair 43 = .ok (.if_icmp .ne 12, 3) := by decide +kernel
theorem dX9_pair_46 : decode cX9_pair 46 = .ok (.aload_n 0, 1) := by decide +kernel
theorem dX9_pair_47 : decode cX9_pair 47 = .ok (.getfield 107, 3) := by decide +kernel
theorem dX9_pair_50 : decode cX9_pair 50 = .ok (.iload_n 1, 1) := by decide +kernel
theorem dX9_pair_51 : decode cX9_pair 51 = .ok (.iaload, 1) := by decide +kernel
theorem dX9_pair_52 : decode cX9_pair 52 = .ok (.goto 4, 3) := by decide +kernel
theorem dX9_pair_55 : decode cX9_pair 55 = .ok (.iconst (-1), 1) := by decide +kernel
theorem dX9_pair_56 : decode cX9_pair 56 = .ok (.ireturn, 1) := by decide +kernel
theorem dJ9_max_7cf53_0 : decode cJ9_max_7cf53 0 = .ok (.iload_n 0, 1) := by decide +kernel
theorem dJ9_max_7cf53_1 : decode cJ9_max_7cf53 1 = .ok (.iload_n 1, 1) := by decide +kernel
theorem dJ9_max_7cf53_2 : decode cJ9_max_7cf53 2 = .ok (.if_icmp .lt 7, 3) := by decide +kernel
theorem dJ9_max_7cf53_5 : decode cJ9_max_7cf53 5 = .ok (.iload_n 0, 1) := by decide +kernel
theorem dJ9_max_7cf53_6 : decode cJ9_max_7cf53 6 = .ok (.goto 4, 3) := by decide +kernel
theorem dJ9_max_7cf53_9 : decode cJ9_max_7cf53 9 = .ok (.iload_n 1, 1) := by decide +kernel
theorem dJ9_max_7cf53_10 : decode cJ9_max_7cf53 10 = .ok (.ireturn, 1) := by decide +kernel
theorem dJ9_min_7cf53_0 : decode cJ9_min_7cf53 0 = .ok (.iload_n 0, 1) := by decide +kernel
theorem dJ9_min_7cf53_1 : decode cJ9_min_7cf53 1 = .ok (.iload_n 1, 1) := by decide +kernel
theorem dJ9_min_7cf53_2 : decode cJ9_min_7cf53 2 = .ok (.if_icmp .gt 7, 3) := by decide +kernel
theorem dJ9_min_7cf53_5 : decode cJ9_min_7cf53 5 = .ok (.iload_n 0, 1) := by decide +kernel
theorem dJ9_min_7cf53_6 : decode cJ9_min_7cf53 6 = .ok (.goto 4, 3) := by decide +kernel
theorem dJ9_min_7cf53_9 : decode cJ9_min_7cf53 9 = .ok (.iload_n 1, 1) := by decide +kernel
theorem dJ9_min_7cf53_10 : decode cJ9_min_7cf53 10 = .ok (.ireturn, 1) := by decide +kernel
theorem dJ7_fill_53178_0 : decode cJ7_fill_53178 0 = .ok (.iconst 0, 1) := by decide +kernel
theorem dJ7_fill_53178_1 : decode cJ7_fill_53178 1 = .ok (.istore_n 2, 1) := by decide +kernel
theorem dJ7_fill_53178_2 : decode cJ7_fill_53178 2 = .ok (.aload_n 0, 1) := by decide +kernel
theorem dJ7_fill_53178_3 : decode cJ7_fill_53178 3 = .ok (.arraylength, 1) := by decide +kernel
theorem dJ7_fill_53178_4 : decode cJ7_fill_53178 4 = .ok (.istore_n 3, 1) := by decide +kernel
theorem dJ7_fill_53178_5 : decode cJ7_fill_53178 5 = .ok (.iload_n 2, 1) := by decide +kernel
theorem dJ7_fill_53178_6 : decode cJ7_fill_53178 6 = .ok (.iload_n 3, 1) := by decide +kernel
theorem dJ7_fill_53178_7 : decode cJ7_fill_53178 7 = .ok (.if_icmp .ge 13, 3) := by decide +kernel
theorem dJ7_fill_53178_10 : decode cJ7_fill_53178 10 = .ok (.aload_n 0, 1) := by decide +kernel
theorem dJ7_fill_53178_11 : decode cJ7_fill_53178 11 = .ok (.iload_n 2, 1) := by decide +kernel
theorem dJ7_fill_53178_12 : decode cJ7_fill_53178 12 = .ok (.iload_n 1, 1) := by decide +kernel
theorem dJ7_fill_53178_13 : decode cJ7_fill_53178 13 = .ok (.iastore, 1) := by decide +kernel
theorem dJ7_fill_53178_14 : decode cJ7_fill_53178 14 = .ok (.iinc 2 1, 3) := by decide +kernel
theorem dJ7_fill_53178_17 : decode cJ7_fill_53178 17 = .ok (.goto (-12), 3) := by decide +kernel
theorem dJ7_fill_53178_20 : decode cJ7_fill_53178 20 = .ok (.return_, 1) := by decide +kernel
theorem dL_law_0 : decode cL_law 0 = .ok (.new 7, 3) := by decide +kernel
theorem dL_law_3 : decode cL_law 3 = .ok (.dup, 1) := by decide +kernel
theorem dL_law_4 : decode cL_law 4 = .ok (.invokespecial 9, 3) := by decide +kernel
theorem dL_law_7 : decode cL_law 7 = .ok (.astore_n 1, 1) := by decide +kernel
theorem dL_law_8 : decode cL_law 8 = .ok (.new 10, 3) := by decide +kernel
theorem dL_law_11 : decode cL_law 11 = .ok (.dup, 1) := by decide +kernel
theorem dL_law_12 : decode cL_law 12 = .ok (.invokespecial 12, 3) := by decide +kernel
theorem dL_law_15 : decode cL_law 15 = .ok (.astore_n 2, 1) := by decide +kernel
theorem dL_law_16 : decode cL_law 16 = .ok (.iconst 0, 1) := by decide +kernel
theorem dL_law_17 : decode cL_law 17 = .ok (.istore_n 3, 1) := by decide +kernel
theorem dL_law_18 : decode cL_law 18 = .ok (.iload_n 3, 1) := by decide +kernel
theorem dL_law_19 : decode cL_law 19 = .ok (.aload_n 0, 1) := by decide +kernel
theorem dL_law_20 : decode cL_law 20 = .ok (.arraylength, 1) := by decide +kernel
theorem dL_law_21 : decode cL_law 21 = .ok (.bipush 8, 2) := by decide +kernel
theorem dL_law_23 : decode cL_law 23 = .ok (.isub, 1) := by decide +kernel
theorem dL_law_24 : decode cL_law 24 = .ok (.if_icmp .gt 1102, 3) := by decide +kernel
theorem dL_law_27 : decode cL_law 27 = .ok (.aload_n 0, 1) := by decide +kernel
theorem dL_law_28 : decode cL_law 28 = .ok (.iload_n 3, 1) := by decide +kernel
theorem dL_law_29 : decode cL_law 29 = .ok (.iaload, 1) := by decide +kernel
theorem dL_law_30 : decode cL_law 30 = .ok (.bipush 31, 2) := by decide +kernel
theorem dL_law_32 : decode cL_law 32 = .ok (.iand, 1) := by decide +kernel
theorem dL_law_33 : decode cL_law 33 = .ok (.tableswitch 1087 0 25 #[119, 182, 205, 248, 301, 334, 367, 400, 503, 556, 599, 632, 675, 718, 761, 794, 817, 850, 873, 896, 919, 952, 985, 1008, 1041, 1054], 119) := by decide +kernel
theorem dL_law_152 : decode cL_law 152 = .ok (.aload_n 1, 1) := by decide +kernel
theorem dL_law_153 : decode cL_law 153 = .ok (.aload_n 0, 1) := by decide +kernel
theorem dL_law_154 : decode cL_law 154 = .ok (.iload_n 3, 1) := by decide +kernel
theorem dL_law_155 : decode cL_law 155 = .ok (.iconst 1, 1) := by decide +kernel
theorem dL_law_156 : decode cL_law 156 = .ok (.iadd, 1) := by decide +kernel
theorem dL_law_157 : decode cL_law 157 = .ok (.iaload, 1) := by decide +kernel
theorem dL_law_158 : decode cL_law 158 = .ok (.aload_n 0, 1) := by decide +kernel
theorem dL_law_159 : decode cL_law 159 = .ok (.iload_n 3, 1) := by decide +kernel
theorem dL_law_160 : decode cL_law 160 = .ok (.iconst 2, 1) := by decide +kernel
theorem dL_law_161 : decode cL_law 161 = .ok (.iadd, 1) := by decide +kernel
theorem dL_law_162 : decode cL_law 162 = .ok (.iaload, 1) := by decide +kernel
theorem dL_law_163 : decode cL_law 163 = .ok (.aload_n 0, 1) := by decide +kernel
theorem dL_law_164 : decode cL_law 164 = .ok (.iload_n 3, 1) := by decide +kernel
theorem dL_law_165 : decode cL_law 165 = .ok (.iconst 3, 1) := by decide +kernel
theorem dL_law_166 : decode cL_law 166 = .ok (.iadd, 1) := by decide +kernel
theorem dL_law_167 : decode cL_law 167 = .ok (.iaload, 1) := by decide +kernel
theorem dL_law_168 : decode cL_law 168 = .ok (.aload_n 0, 1) := by decide +kernel
theorem dL_law_169 : decode cL_law 169 = .ok (.iload_n 3, 1) := by decide +kernel
theorem dL_law_170 : decode cL_law 170 = .ok (.iconst 4, 1) := by decide +kernel
theorem dL_law_171 : decode cL_law 171 = .ok (.iadd, 1) := by decide +kernel
theorem dL_law_172 : decode cL_law 172 = .ok (.iaload, 1) := by decide +kernel
theorem dL_law_173 : decode cL_law 173 = .ok (.aload_n 0, 1) := by decide +kernel
theorem dL_law_174 : decode cL_law 174 = .ok (.iload_n 3, 1) := by decide +kernel
theorem dL_law_175 : decode cL_law 175 = .ok (.iconst 5, 1) := by decide +kernel
theorem dL_law_176 : decode cL_law 176 = .ok (.iadd, 1) := by decide +kernel
theorem dL_law_177 : decode cL_law 177 = .ok (.iaload, 1) := by decide +kernel
theorem dL_law_178 : decode cL_law 178 = .ok (.invokevirtual 13, 3) := by decide +kernel
theorem dL_law_181 : decode cL_law 181 = .ok (.aload_n 2, 1) := by decide +kernel
theorem dL_law_182 : decode cL_law 182 = .ok (.aload_n 0, 1) := by decide +kernel
theorem dL_law_183 : decode cL_law 183 = .ok (.iload_n 3, 1) := by decide +kernel
theorem dL_law_184 : decode cL_law 184 = .ok (.iconst 1, 1) := by decide +kernel
theorem dL_law_185 : decode cL_law 185 = .ok (.iadd, 1) := by decide +kernel
theorem dL_law_186 : decode cL_law 186 = .ok (.iaload, 1) := by decide +kernel
theorem dL_law_187 : decode cL_law 187 = .ok (.aload_n 0, 1) := by decide +kernel
theorem dL_law_188 : decode cL_law 188 = .ok (.iload_n 3, 1) := by decide +kernel
theorem dL_law_189 : decode cL_law 189 = .ok (.iconst 2, 1) := by decide +kernel
theorem dL_law_190 : decode cL_law 190 = .ok (.iadd, 1) := by decide +kernel
theorem dL_law_191 : decode cL_law 191 = .ok (.iaload, 1) := by decide +kernel
theorem dL_law_192 : decode cL_law 192 = .ok (.aload_n 0, 1) := by decide +kernel
theorem dL_law_193 : decode cL_law 193 = .ok (.iload_n 3, 1) := by decide +kernel
theorem dL_law_194 : decode cL_law 194 = .ok (.iconst 3, 1) := by decide +kernel
theorem dL_law_195 : decode cL_law 195 = .ok (.iadd, 1) := by decide +kernel
theorem dL_law_196 : decode cL_law 196 = .ok (.iaload, 1) := by decide +kernel
theorem dL_law_197 : decode cL_law 197 = .ok (.aload_n 0, 1) := by decide +kernel
theorem dL_law_198 : decode cL_law 198 = .ok (.iload_n 3, 1) := by decide +kernel
theorem dL_law_199 : decode cL_law 199 = .ok (.iconst 4, 1) := by decide +kernel
theorem dL_law_200 : decode cL_law 200 = .ok (.iadd, 1) := by decide +kernel
theorem dL_law_201 : decode cL_law 201 = .ok (.iaload, 1) := by decide +kernel
theorem dL_law_202 : decode cL_law 202 = .ok (.aload_n 0, 1) := by decide +kernel
theorem dL_law_203 : decode cL_law 203 = .ok (.iload_n 3, 1) := by decide +kernel
theorem dL_law_204 : decode cL_law 204 = .ok (.iconst 5, 1) := by decide +kernel
theorem dL_law_205 : decode cL_law 205 = .ok (.iadd, 1) := by decide +kernel
theorem dL_law_206 : decode cL_law 206 = .ok (.iaload, 1) := by decide +kernel
theorem dL_law_207 : decode cL_law 207 = .ok (.invokevirtual 17, 3) := by decide +kernel
theorem dL_law_210 : decode cL_law 210 = .ok (.if_icmp .eq 910, 3) := by decide +kernel
theorem dL_law_213 : decode cL_law 213 = .ok (.iconst 0, 1) := by decide +kernel
theorem dL_law_214 : decode cL_law 214 = .ok (.ireturn, 1) := by decide +kernel
theorem dL_law_215 : decode cL_law 215 = .ok (.aload_n 1, 1) := by decide +kernel
theorem dL_law_216 : decode cL_law 216 = .ok (.aload_n 0, 1) := by decide +kernel
theorem dL_law_217 : decode cL_law 217 = .ok (.iload_n 3, 1) := by decide +kernel
theorem dL_law_218 : decode cL_law 218 = .ok (.iconst 1, 1) := by decide +kernel
theorem dL_law_219 : decode cL_law 219 = .ok (.iadd, 1) := by decide +kernel
theorem dL_law_220 : decode cL_law 220 = .ok (.iaload, 1) := by decide +kernel
theorem dL_law_221 : decode cL_law 221 = .ok (.invokevirtual 18, 3) := by decide +kernel
theorem dL_law_224 : decode cL_law 224 = .ok (.aload_n 2, 1) := by decide +kernel
theorem dL_law_225 : decode cL_law 225 = .ok (.aload_n 0, 1) := by decide +kernel
theorem dL_law_226 : decode cL_law 226 = .ok (.iload_n 3, 1) := by decide +kernel
theorem dL_law_227 : decode cL_law 227 = .ok (.iconst 1, 1) := by decide +kernel
theorem dL_law_228 : decode cL_law 228 = .ok (.iadd, 1) := by decide +kernel
theorem dL_law_229 : decode cL_law 229 = .ok (.iaload, 1) := by decide +kernel
theorem dL_law_230 : decode cL_law 230 = .ok (.invokevirtual 22, 3) := by decide +kernel
theorem dL_law_233 : decode cL_law 233 = .ok (.if_icmp .eq 887, 3) := by decide +kernel
theorem dL_law_236 : decode cL_law 236 = .ok (.iconst 0, 1) := by decide +kernel
theorem dL_law_237 : decode cL_law 237 = .ok (.ireturn, 1) := by decide +kernel
theorem dL_law_238 : decode cL_law 238 = .ok (.aload_n 1, 1) := by decide +kernel
theorem dL_law_239 : decode cL_law 239 = .ok (.aload_n 0, 1) := by decide +kernel
theorem dL_law_240 : decode cL_law 240 = .ok (.iload_n 3, 1) := by decide +kernel
theorem dL_law_241 : decode cL_law 241 = .ok (.iconst 1, 1) := by decide +kernel
theorem dL_law_242 : decode cL_law 242 = .ok (.iadd, 1) := by decide +kernel
theorem dL_law_243 : decode cL_law 243 = .ok (.iaload, 1) := by decide +kernel
theorem dL_law_244 : decode cL_law 244 = .ok (.aload_n 0, 1) := by decide +kernel
theorem dL_law_245 : decode cL_law 245 = .ok (.iload_n 3, 1) := by decide +kernel
theorem dL_law_246 : decode cL_law 246 = .ok (.iconst 2, 1) := by decide +kernel
theorem dL_law_247 : decode cL_law 247 = .ok (.iadd, 1) := by decide +kernel
theorem dL_law_248 : decode cL_law 248 = .ok (.iaload, 1) := by decide +kernel
theorem dL_law_249 : decode cL_law 249 = .ok (.aload_n 0, 1) := by decide +kernel
theorem dL_law_250 : decode cL_law 250 = .ok (.iload_n 3, 1) := by decide +kernel
theorem dL_law_251 : decode cL_law 251 = .ok (.iconst 3, 1) := by decide +kernel
theorem dL_law_252 : decode cL_law 252 = .ok (.iadd, 1) := by decide +kernel
theorem dL_law_253 : decode cL_law 253 = .ok (.iaload, 1) := by decide +kernel
theorem dL_law_254 : decode cL_law 254 = .ok (.invokevirtual 23, 3) := by decide +kernel
theorem dL_law_257 : decode cL_law 257 = .ok (.aload_n 2, 1) := by decide +kernel
theorem dL_law_258 : decode cL_law 258 = .ok (.aload_n 0, 1) := by decide +kernel
theorem dL_law_259 : decode cL_law 259 = .ok (.iload_n 3, 1) := by decide +kernel
theorem dL_law_260 : decode cL_law 260 = .ok (.iconst 1, 1) := by decide +kernel
theorem dL_law_261 : decode cL_law 261 = .ok (.iadd, 1) := by decide +kernel
theorem dL_law_262 : decode cL_law 262 = .ok (.iaload, 1) := by decide +kernel
theorem dL_law_263 : decode cL_law 263 = .ok (.aload_n 0, 1) := by decide +kernel
theorem dL_law_264 : decode cL_law 264 = .ok (.iload_n 3, 1) := by decide +kernel
theorem dL_law_265 : decode cL_law 265 = .ok (.iconst 2, 1) := by decide +kernel
theorem dL_law_266 : decode cL_law 266 = .ok (.iadd, 1) := by decide +kernel
theorem dL_law_267 : decode cL_law 267 = .ok (.iaload, 1) := by decide +kernel
theorem dL_law_268 : decode cL_law 268 = .ok (.aload_n 0, 1) := by decide +kernel
theorem dL_law_269 : decode cL_law 269 = .ok (.iload_n 3, 1) := by decide +kernel
theorem dL_law_270 : decode cL_law 270 = .ok (.iconst 3, 1) := by decide +kernel
theorem dL_law_271 : decode cL_law 271 = .ok (.iadd, 1) := by decide +kernel
theorem dL_law_272 : decode cL_law 272 = .ok (.iaload, 1) := by decide +kernel
theorem dL_law_273 : decode cL_law 273 = .ok (.invokevirtual 27, 3) := by decide +kernel
theorem dL_law_276 : decode cL_law 276 = .ok (.if_icmp .eq 844, 3) := by decide +kernel
theorem dL_law_279 : decode cL_law 279 = .ok (.iconst 0, 1) := by decide +kernel
theorem dL_law_280 : decode cL_law 280 = .ok (.ireturn, 1) := by decide +kernel
theorem dL_law_281 : decode cL_law 281 = .ok (.aload_n 1, 1) := by decide +kernel
theorem dL_law_282 : decode cL_law 282 = .ok (.aload_n 0, 1) := by decide +kernel
theorem dL_law_283 : decode cL_law 283 = .ok (.iload_n 3, 1) := by decide +kernel
theorem dL_law_284 : decode cL_law 284 = .ok (.iconst 1, 1) := by decide +kernel
theorem dL_law_285 : decode cL_law 285 = .ok (.iadd, 1) := by decide +kernel
theorem dL_law_286 : decode cL_law 286 = .ok (.iaload, 1) := by decide +kernel
theorem dL_law_287 : decode cL_law 287 = .ok (.aload_n 0, 1) := by decide +kernel
theorem dL_law_288 : decode cL_law 288 = .ok (.iload_n 3, 1) := by decide +kernel
theorem dL_law_289 : decode cL_law 289 = .ok (.iconst 2, 1) := by decide +kernel
theorem dL_law_290 : decode cL_law 290 = .ok (.iadd, 1) := by decide +kernel
theorem dL_law_291 : decode cL_law 291 = .ok (.iaload, 1) := by decide +kernel
theorem dL_law_292 : decode cL_law 292 = .ok (.aload_n 0, 1) := by decide +kernel
theorem dL_law_293 : decode cL_law 293 = .ok (.iload_n 3, 1) := by decide +kernel
theorem dL_law_294 : decode cL_law 294 = .ok (.iconst 3, 1) := by decide +kernel
theorem dL_law_295 : decode cL_law 295 = .ok (.iadd, 1) := by decide +kernel
theorem dL_law_296 : decode cL_law 296 = .ok (.iaload, 1) := by decide +kernel
theorem dL_law_297 : decode cL_law 297 = .ok (.aload_n 0, 1) := by decide +kernel
theorem dL_law_298 : decode cL_law 298 = .ok (.iload_n 3, 1) := by decide +kernel
theorem dL_law_299 : decode cL_law 299 = .ok (.iconst 4, 1) := by decide +kernel
theorem dL_law_300 : decode cL_law 300 = .ok (.iadd, 1) := by decide +kernel
theorem dL_law_301 : decode cL_law 301 = .ok (.iaload, 1) := by decide +kernel
theorem dL_law_302 : decode cL_law 302 = .ok (.invokevirtual 28, 3) := by decide +kernel
theorem dL_law_305 : decode cL_law 305 = .ok (.aload_n 2, 1) := by decide +kernel
theorem dL_law_306 : decode cL_law 306 = .ok (.aload_n 0, 1) := by decide +kernel
theorem dL_law_307 : decode cL_law 307 = .ok (.iload_n 3, 1) := by decide +kernel
theorem dL_law_308 : decode cL_law 308 = .ok (.iconst 1, 1) := by decide +kernel
theorem dL_law_309 : decode cL_law 309 = .ok (.iadd, 1) := by decide +kernel
theorem dL_law_310 : decode cL_law 310 = .ok (.iaload, 1) := by decide +kernel
theorem dL_law_311 : decode cL_law 311 = .ok (.aload_n 0, 1) := by decide +kernel
theorem dL_law_312 : decode cL_law 312 = .ok (.iload_n 3, 1) := by decide +kernel
theorem dL_law_313 : decode cL_law 313 = .ok (.iconst 2, 1) := by decide +kernel
theorem dL_law_314 : decode cL_law 314 = .ok (.iadd, 1) := by decide +kernel
theorem dL_law_315 : decode cL_law 315 = .ok (.iaload, 1) := by decide +kernel
theorem dL_law_316 : decode cL_law 316 = .ok (.aload_n 0, 1) := by decide +kernel
theorem dL_law_317 : decode cL_law 317 = .ok (.iload_n 3, 1) := by decide +kernel
theorem dL_law_318 : decode cL_law 318 = .ok (.iconst 3, 1) := by decide +kernel
theorem dL_law_319 : decode cL_law 319 = .ok (.iadd, 1) := by decide +kernel
theorem dL_law_320 : decode cL_law 320 = .ok (.iaload, 1) := by decide +kernel
theorem dL_law_321 : decode cL_law 321 = .ok (.aload_n 0, 1) := by decide +kernel
theorem dL_law_322 : decode cL_law 322 = .ok (.iload_n 3, 1) := by decide +kernel
theorem dL_law_323 : decode cL_law 323 = .ok (.iconst 4, 1) := by decide +kernel
theorem dL_law_324 : decode cL_law 324 = .ok (.iadd, 1) := by decide +kernel
theorem dL_law_325 : decode cL_law 325 = .ok (.iaload, 1) := by decide +kernel
theorem dL_law_326 : decode cL_law 326 = .ok (.invokevirtual 32, 3) := by decide +kernel
theorem dL_law_329 : decode cL_law 329 = .ok (.if_icmp .eq 791, 3) := by decide +kernel
theorem dL_law_332 : decode cL_law 332 = .ok (.iconst 0, 1) := by decide +kernel
theorem dL_law_333 : decode cL_law 333 = .ok (.ireturn, 1) := by decide +kernel
theorem dL_law_334 : decode cL_law 334 = .ok (.aload_n 1, 1) := by decide +kernel
theorem dL_law_335 : decode cL_law 335 = .ok (.aload_n 0, 1) := by decide +kernel
theorem dL_law_336 : decode cL_law 336 = .ok (.iload_n 3, 1) := by decide +kernel
theorem dL_law_337 : decode cL_law 337 = .ok (.iconst 1, 1) := by decide +kernel
theorem dL_law_338 : decode cL_law 338 = .ok (.iadd, 1) := by decide +kernel
theorem dL_law_339 : decode cL_law 339 = .ok (.iaload, 1) := by decide +kernel
theorem dL_law_340 : decode cL_law 340 = .ok (.aload_n 0, 1) := by decide +kernel
theorem dL_law_341 : decode cL_law 341 = .ok (.iload_n 3, 1) := by decide +kernel
theorem dL_law_342 : decode cL_law 342 = .ok (.iconst 2, 1) := by decide +kernel
theorem dL_law_343 : decode cL_law 343 = .ok (.iadd, 1) := by decide +kernel
theorem dL_law_344 : decode cL_law 344 = .ok (.iaload, 1) := by decide +kernel
theorem dL_law_345 : decode cL_law 345 = .ok (.invokevirtual 33, 3) := by decide +kernel
theorem dL_law_348 : decode cL_law 348 = .ok (.aload_n 2, 1) := by decide +kernel
theorem dL_law_349 : decode cL_law 349 = .ok (.aload_n 0, 1) := by decide +kernel
theorem dL_law_350 : decode cL_law 350 = .ok (.iload_n 3, 1) := by decide +kernel
theorem dL_law_351 : decode cL_law 351 = .ok (.iconst 1, 1) := by decide +kernel
theorem dL_law_352 : decode cL_law 352 = .ok (.iadd, 1) := by decide +kernel
theorem dL_law_353 : decode cL_law 353 = .ok (.iaload, 1) := by decide +kernel
theorem dL_law_354 : decode cL_law 354 = .ok (.aload_n 0, 1) := by decide +kernel
theorem dL_law_355 : decode cL_law 355 = .ok (.iload_n 3, 1) := by decide +kernel
theorem dL_law_356 : decode cL_law 356 = .ok (.iconst 2, 1) := by decide +kernel
theorem dL_law_357 : decode cL_law 357 = .ok (.iadd, 1) := by decide +kernel
theorem dL_law_358 : decode cL_law 358 = .ok (.iaload, 1) := by decide +kernel
theorem dL_law_359 : decode cL_law 359 = .ok (.invokevirtual 37, 3) := by decide +kernel
theorem dL_law_362 : decode cL_law 362 = .ok (.if_icmp .eq 758, 3) := by decide +kernel
theorem dL_law_365 : decode cL_law 365 = .ok (.iconst 0, 1) := by decide +kernel
theorem dL_law_366 : decode cL_law 366 = .ok (.ireturn, 1) := by decide +kernel
theorem dL_law_367 : decode cL_law 367 = .ok (.aload_n 1, 1) := by decide +kernel
theorem dL_law_368 : decode cL_law 368 = .ok (.aload_n 0, 1) := by decide +kernel
theorem dL_law_369 : decode cL_law 369 = .ok (.iload_n 3, 1) := by decide +kernel
theorem dL_law_370 : decode cL_law 370 = .ok (.iconst 1, 1) := by decide +kernel
theorem dL_law_371 : decode cL_law 371 = .ok (.iadd, 1) := by decide +kernel
theorem dL_law_372 : decode cL_law 372 = .ok (.iaload, 1) := by decide +kernel
theorem dL_law_373 : decode cL_law 373 = .ok (.aload_n 0, 1) := by decide +kernel
theorem dL_law_374 : decode cL_law 374 = .ok (.iload_n 3, 1) := by decide +kernel
theorem dL_law_375 : decode cL_law 375 = .ok (.iconst 2, 1) := by decide +kernel
theorem dL_law_376 : decode cL_law 376 = .ok (.iadd, 1) := by decide +kernel
theorem dL_law_377 : decode cL_law 377 = .ok (.iaload, 1) := by decide +kernel
theorem dL_law_378 : decode cL_law 378 = .ok (.invokevirtual 38, 3) := by decide +kernel
theorem dL_law_381 : decode cL_law 381 = .ok (.aload_n 2, 1) := by decide +kernel
theorem dL_law_382 : decode cL_law 382 = .ok (.aload_n 0, 1) := by decide +kernel
theorem dL_law_383 : decode cL_law 383 = .ok (.iload_n 3, 1) := by decide +kernel
theorem dL_law_384 : decode cL_law 384 = .ok (.iconst 1, 1) := by decide +kernel
theorem dL_law_385 : decode cL_law 385 = .ok (.iadd, 1) := by decide +kernel
theorem dL_law_386 : decode cL_law 386 = .ok (.iaload, 1) := by decide +kernel
theorem dL_law_387 : decode cL_law 387 = .ok (.aload_n 0, 1) := by decide +kernel
theorem dL_law_388 : decode cL_law 388 = .ok (.iload_n 3, 1) := by decide +kernel
theorem dL_law_389 : decode cL_law 389 = .ok (.iconst 2, 1) := by decide +kernel
theorem dL_law_390 : decode cL_law 390 = .ok (.iadd, 1) := by decide +kernel
theorem dL_law_391 : decode cL_law 391 = .ok (.iaload, 1) := by decide +kernel
theorem dL_law_392 : decode cL_law 392 = .ok (.invokevirtual 41, 3) := by decide +kernel
theorem dL_law_395 : decode cL_law 395 = .ok (.if_icmp .eq 725, 3) := by decide +kernel
theorem dL_law_398 : decode cL_law 398 = .ok (.iconst 0, 1) := by decide +kernel
theorem dL_law_399 : decode cL_law 399 = .ok (.ireturn, 1) := by decide +kernel
theorem dL_law_400 : decode cL_law 400 = .ok (.aload_n 1, 1) := by decide +kernel
theorem dL_law_401 : decode cL_law 401 = .ok (.aload_n 0, 1) := by decide +kernel
theorem dL_law_402 : decode cL_law 402 = .ok (.iload_n 3, 1) := by decide +kernel
theorem dL_law_403 : decode cL_law 403 = .ok (.iconst 1, 1) := by decide +kernel
theorem dL_law_404 : decode cL_law 404 = .ok (.iadd, 1) := by decide +kernel
theorem dL_law_405 : decode cL_law 405 = .ok (.iaload, 1) := by decide +kernel
theorem dL_law_406 : decode cL_law 406 = .ok (.aload_n 0, 1) := by decide +kernel
theorem dL_law_407 : decode cL_law 407 = .ok (.iload_n 3, 1) := by decide +kernel
theorem dL_law_408 : decode cL_law 408 = .ok (.iconst 2, 1) := by decide +kernel
theorem dL_law_409 : decode cL_law 409 = .ok (.iadd, 1) := by decide +kernel
theorem dL_law_410 : decode cL_law 410 = .ok (.iaload, 1) := by decide +kernel
theorem dL_law_411 : decode cL_law 411 = .ok (.invokevirtual 42, 3) := by decide +kernel
theorem dL_law_414 : decode cL_law 414 = .ok (.aload_n 2, 1) := by decide +kernel
theorem dL_law_415 : decode cL_law 415 = .ok (.aload_n 0, 1) := by decide +kernel
theorem dL_law_416 : decode cL_law 416 = .ok (.iload_n 3, 1) := by decide +kernel
theorem dL_law_417 : decode cL_law 417 = .ok (.iconst 1, 1) := by decide +kernel
theorem dL_law_418 : decode cL_law 418 = .ok (.iadd, 1) := by decide +kernel
theorem dL_law_419 : decode cL_law 419 = .ok (.iaload, 1) := by decide +kernel
theorem dL_law_420 : decode cL_law 420 = .ok (.aload_n 0, 1) := by decide +kernel
theorem dL_law_421 : decode cL_law 421 = .ok (.iload_n 3, 1) := by decide +kernel
theorem dL_law_422 : decode cL_law 422 = .ok (.iconst 2, 1) := by decide +kernel
theorem dL_law_423 : decode cL_law 423 = .ok (.iadd, 1) := by decide +kernel
theorem dL_law_424 : decode cL_law 424 = .ok (.iaload, 1) := by decide +kernel
theorem dL_law_425 : decode cL_law 425 = .ok (.invokevirtual 46, 3) := by decide +kernel
theorem dL_law_428 : decode cL_law 428 = .ok (.if_icmp .eq 692, 3) := by decide +kernel
theorem dL_law_431 : decode cL_law 431 = .ok (.iconst 0, 1) := by decide +kernel
theorem dL_law_432 : decode cL_law 432 = .ok (.ireturn, 1) := by decide +kernel
theorem dL_law_433 : decode cL_law 433 = .ok (.aload_n 1, 1) := by decide +kernel
theorem dL_law_434 : decode cL_law 434 = .ok (.aload_n 0, 1) := by decide +kernel
theorem dL_law_435 : decode cL_law 435 = .ok (.iload_n 3, 1) := by decide +kernel
theorem dL_law_436 : decode cL_law 436 = .ok (.iconst 1, 1) := by decide +kernel
theorem dL_law_437 : decode cL_law 437 = .ok (.iadd, 1) := by decide +kernel
theorem dL_law_438 : decode cL_law 438 = .ok (.iaload, 1) := by decide +kernel
theorem dL_law_439 : decode cL_law 439 = .ok (.aload_n 0, 1) := by decide +kernel
theorem dL_law_440 : decode cL_law 440 = .ok (.iload_n 3, 1) := by decide +kernel
theorem dL_law_441 : decode cL_law 441 = .ok (.iconst 2, 1) := by decide +kernel
theorem dL_law_442 : decode cL_law 442 = .ok (.iadd, 1) := by decide +kernel
theorem dL_law_443 : decode cL_law 443 = .ok (.iaload, 1) := by decide +kernel
theorem dL_law_444 : decode cL_law 444 = .ok (.ifCond .eq 7, 3) := by decide +kernel
theorem dL_law_447 : decode cL_law 447 = .ok (.iconst 1, 1) := by decide +kernel
theorem dL_law_448 : decode cL_law 448 = .ok (.goto 4, 3) := by decide +kernel
theorem dL_law_451 : decode cL_law 451 = .ok (.iconst 0, 1) := by decide +kernel
theorem dL_law_452 : decode cL_law 452 = .ok (.aload_n 0, 1) := by decide +kernel
theorem dL_law_453 : decode cL_law 453 = .ok (.iload_n 3, 1) := by decide +kernel
theorem dL_law_454 : decode cL_law 454 = .ok (.iconst 3, 1) := by decide +kernel
theorem dL_law_455 : decode cL_law 455 = .ok (.iadd, 1) := by decide +kernel
theorem dL_law_456 : decode cL_law 456 = .ok (.iaload, 1) := by decide +kernel
theorem dL_law_457 : decode cL_law 457 = .ok (.aload_n 0, 1) := by decide +kernel
theorem dL_law_458 : decode cL_law 458 = .ok (.iload_n 3, 1) := by decide +kernel
theorem dL_law_459 : decode cL_law 459 = .ok (.iconst 4, 1) := by decide +kernel
theorem dL_law_460 : decode cL_law 460 = .ok (.iadd, 1) := by decide +kernel
theorem dL_law_461 : decode cL_law 461 = .ok (.iaload, 1) := by decide +kernel
theorem dL_law_462 : decode cL_law 462 = .ok (.aload_n 0, 1) := by decide +kernel
theorem dL_law_463 : decode cL_law 463 = .ok (.iload_n 3, 1) := by decide +kernel
theorem dL_law_464 : decode cL_law 464 = .ok (.iconst 5, 1) := by decide +kernel
theorem dL_law_465 : decode cL_law 465 = .ok (.iadd, 1) := by decide +kernel
theorem dL_law_466 : decode cL_law 466 = .ok (.iaload, 1) := by decide +kernel
theorem dL_law_467 : decode cL_law 467 = .ok (.aload_n 0, 1) := by decide +kernel
theorem dL_law_468 : decode cL_law 468 = .ok (.iload_n 3, 1) := by decide +kernel
theorem dL_law_469 : decode cL_law 469 = .ok (.bipush 6, 2) := by decide +kernel
theorem dL_law_471 : decode cL_law 471 = .ok (.iadd, 1) := by decide +kernel
theorem dL_law_472 : decode cL_law 472 = .ok (.iaload, 1) := by decide +kernel
theorem dL_law_473 : decode cL_law 473 = .ok (.aload_n 0, 1) := by decide +kernel
theorem dL_law_474 : decode cL_law 474 = .ok (.iload_n 3, 1) := by decide +kernel
theorem dL_law_475 : decode cL_law 475 = .ok (.bipush 7, 2) := by decide +kernel
theorem dL_law_477 : decode cL_law 477 = .ok (.iadd, 1) := by decide +kernel
theorem dL_law_478 : decode cL_law 478 = .ok (.iaload, 1) := by decide +kernel
theorem dL_law_479 : decode cL_law 479 = .ok (.invokevirtual 47, 3) := by decide +kernel
theorem dL_law_482 : decode cL_law 482 = .ok (.aload_n 2, 1) := by decide +kernel
theorem dL_law_483 : decode cL_law 483 = .ok (.aload_n 0, 1) := by decide +kernel
theorem dL_law_484 : decode cL_law 484 = .ok (.iload_n 3, 1) := by decide +kernel
theorem dL_law_485 : decode cL_law 485 = .ok (.iconst 1, 1) := by decide +kernel
theorem dL_law_486 : decode cL_law 486 = .ok (.iadd, 1) := by decide +kernel
theorem dL_law_487 : decode cL_law 487 = .ok (.iaload, 1) := by decide +kernel
theorem dL_law_488 : decode cL_law 488 = .ok (.aload_n 0, 1) := by decide +kernel
theorem dL_law_489 : decode cL_law 489 = .ok (.iload_n 3, 1) := by decide +kernel
theorem dL_law_490 : decode cL_law 490 = .ok (.iconst 2, 1) := by decide +kernel
theorem dL_law_491 : decode cL_law 491 = .ok (.iadd, 1) := by decide +kernel
theorem dL_law_492 : decode cL_law 492 = .ok (.iaload, 1) := by decide +kernel
theorem dL_law_493 : decode cL_law 493 = .ok (.ifCond .eq 7, 3) := by decide +kernel
theorem dL_law_496 : decode cL_law 496 = .ok (.iconst 1, 1) := by decide +kernel
theorem dL_law_497 : decode cL_law 497 = .ok (.goto 4, 3) := by decide +kernel
theorem dL_law_500 : decode cL_law 500 = .ok (.iconst 0, 1) := by decide +kernel
theorem dL_law_501 : decode cL_law 501 = .ok (.aload_n 0, 1) := by decide +kernel
theorem dL_law_502 : decode cL_law 502 = .ok (.iload_n 3, 1) := by decide +kernel
theorem dL_law_503 : decode cL_law 503 = .ok (.iconst 3, 1) := by decide +kernel
theorem dL_law_504 : decode cL_law 504 = .ok (.iadd, 1) := by decide +kernel
theorem dL_law_505 : decode cL_law 505 = .ok (.iaload, 1) := by decide +kernel
theorem dL_law_506 : decode cL_law 506 = .ok (.aload_n 0, 1) := by decide +kernel
theorem dL_law_507 : decode cL_law 507 = .ok (.iload_n 3, 1) := by decide +kernel
theorem dL_law_508 : decode cL_law 508 = .ok (.iconst 4, 1) := by decide +kernel
theorem dL_law_509 : decode cL_law 509 = .ok (.iadd, 1) := by decide +kernel
theorem dL_law_510 : decode cL_law 510 = .ok (.iaload, 1) := by decide +kernel
theorem dL_law_511 : decode cL_law 511 = .ok (.aload_n 0, 1) := by decide +kernel
theorem dL_law_512 : decode cL_law 512 = .ok (.iload_n 3, 1) := by decide +kernel
theorem dL_law_513 : decode cL_law 513 = .ok (.iconst 5, 1) := by decide +kernel
theorem dL_law_514 : decode cL_law 514 = .ok (.iadd, 1) := by decide +kernel
theorem dL_law_515 : decode cL_law 515 = .ok (.iaload, 1) := by decide +kernel
theorem dL_law_516 : decode cL_law 516 = .ok (.aload_n 0, 1) := by decide +kernel
theorem dL_law_517 : decode cL_law 517 = .ok (.iload_n 3, 1) := by decide +kernel
theorem dL_law_518 : decode cL_law 518 = .ok (.bipush 6, 2) := by decide +kernel
theorem dL_law_520 : decode cL_law 520 = .ok (.iadd, 1) := by decide +kernel
theorem dL_law_521 : decode cL_law 521 = .ok (.iaload, 1) := by decide +kernel
theorem dL_law_522 : decode cL_law 522 = .ok (.aload_n 0, 1) := by decide +kernel
theorem dL_law_523 : decode cL_law 523 = .ok (.iload_n 3, 1) := by decide +kernel
theorem dL_law_524 : decode cL_law 524 = .ok (.bipush 7, 2) := by decide +kernel
theorem dL_law_526 : decode cL_law 526 = .ok (.iadd, 1) := by decide +kernel
theorem dL_law_527 : decode cL_law 527 = .ok (.iaload, 1) := by decide +kernel
theorem dL_law_528 : decode cL_law 528 = .ok (.invokevirtual 51, 3) := by decide +kernel
theorem dL_law_531 : decode cL_law 531 = .ok (.if_icmp .eq 589, 3) := by decide +kernel
theorem dL_law_534 : decode cL_law 534 = .ok (.iconst 0, 1) := by decide +kernel
theorem dL_law_535 : decode cL_law 535 = .ok (.ireturn, 1) := by decide +kernel
theorem dL_law_536 : decode cL_law 536 = .ok (.aload_n 1, 1) := by decide +kernel
theorem dL_law_537 : decode cL_law 537 = .ok (.aload_n 0, 1) := by decide +kernel
theorem dL_law_538 : decode cL_law 538 = .ok (.iload_n 3, 1) := by decide +kernel
theorem dL_law_539 : decode cL_law 539 = .ok (.iconst 1, 1) := by decide +kernel
theorem dL_law_540 : decode cL_law 540 = .ok (.iadd, 1) := by decide +kernel
theorem dL_law_541 : decode cL_law 541 = .ok (.iaload, 1) := by decide +kernel
theorem dL_law_542 : decode cL_law 542 = .ok (.aload_n 0, 1) := by decide +kernel
theorem dL_law_543 : decode cL_law 543 = .ok (.iload_n 3, 1) := by decide +kernel
theorem dL_law_544 : decode cL_law 544 = .ok (.iconst 2, 1) := by decide +kernel
theorem dL_law_545 : decode cL_law 545 = .ok (.iadd, 1) := by decide +kernel
theorem dL_law_546 : decode cL_law 546 = .ok (.iaload, 1) := by decide +kernel
theorem dL_law_547 : decode cL_law 547 = .ok (.aload_n 0, 1) := by decide +kernel
theorem dL_law_548 : decode cL_law 548 = .ok (.iload_n 3, 1) := by decide +kernel
theorem dL_law_549 : decode cL_law 549 = .ok (.iconst 3, 1) := by decide +kernel
theorem dL_law_550 : decode cL_law 550 = .ok (.iadd, 1) := by decide +kernel
theorem dL_law_551 : decode cL_law 551 = .ok (.iaload, 1) := by decide +kernel
theorem dL_law_552 : decode cL_law 552 = .ok (.aload_n 0, 1) := by decide +kernel
theorem dL_law_553 : decode cL_law 553 = .ok (.iload_n 3, 1) := by decide +kernel
theorem dL_law_554 : decode cL_law 554 = .ok (.iconst 4, 1) := by decide +kernel
theorem dL_law_555 : decode cL_law 555 = .ok (.iadd, 1) := by decide +kernel
theorem dL_law_556 : decode cL_law 556 = .ok (.iaload, 1) := by decide +kernel
theorem dL_law_557 : decode cL_law 557 = .ok (.invokevirtual 52, 3) := by decide +kernel
theorem dL_law_560 : decode cL_law 560 = .ok (.aload_n 2, 1) := by decide +kernel
theorem dL_law_561 : decode cL_law 561 = .ok (.aload_n 0, 1) := by decide +kernel
theorem dL_law_562 : decode cL_law 562 = .ok (.iload_n 3, 1) := by decide +kernel
theorem dL_law_563 : decode cL_law 563 = .ok (.iconst 1, 1) := by decide +kernel
theorem dL_law_564 : decode cL_law 564 = .ok (.iadd, 1) := by decide +kernel
theorem dL_law_565 : decode cL_law 565 = .ok (.iaload, 1) := by decide +kernel
theorem dL_law_566 : decode cL_law 566 = .ok (.aload_n 0, 1) := by decide +kernel
theorem dL_law_567 : decode cL_law 567 = .ok (.iload_n 3, 1) := by decide +kernel
theorem dL_law_568 : decode cL_law 568 = .ok (.iconst 2, 1) := by decide +kernel
theorem dL_law_569 : decode cL_law 569 = .ok (.iadd, 1) := by decide +kernel
theorem dL_law_570 : decode cL_law 570 = .ok (.iaload, 1) := by decide +kernel
theorem dL_law_571 : decode cL_law 571 = .ok (.aload_n 0, 1) := by decide +kernel
theorem dL_law_572 : decode cL_law 572 = .ok (.iload_n 3, 1) := by decide +kernel
theorem dL_law_573 : decode cL_law 573 = .ok (.iconst 3, 1) := by decide +kernel
theorem dL_law_574 : decode cL_law 574 = .ok (.iadd, 1) := by decide +kernel
theorem dL_law_575 : decode cL_law 575 = .ok (.iaload, 1) := by decide +kernel
theorem dL_law_576 : decode cL_law 576 = .ok (.aload_n 0, 1) := by decide +kernel
theorem dL_law_577 : decode cL_law 577 = .ok (.iload_n 3, 1) := by decide +kernel
theorem dL_law_578 : decode cL_law 578 = .ok (.iconst 4, 1) := by decide +kernel
theorem dL_law_579 : decode cL_law 579 = .ok (.iadd, 1) := by decide +kernel
theorem dL_law_580 : decode cL_law 580 = .ok (.iaload, 1) := by decide +kernel
theorem dL_law_581 : decode cL_law 581 = .ok (.invokevirtual 56, 3) := by decide +kernel
theorem dL_law_584 : decode cL_law 584 = .ok (.if_icmp .eq 536, 3) := by decide +kernel
theorem dL_law_587 : decode cL_law 587 = .ok (.iconst 0, 1) := by decide +kernel
theorem dL_law_588 : decode cL_law 588 = .ok (.ireturn, 1) := by decide +kernel
theorem dL_law_589 : decode cL_law 589 = .ok (.aload_n 1, 1) := by decide +kernel
theorem dL_law_590 : decode cL_law 590 = .ok (.aload_n 0, 1) := by decide +kernel
theorem dL_law_591 : decode cL_law 591 = .ok (.iload_n 3, 1) := by decide +kernel
theorem dL_law_592 : decode cL_law 592 = .ok (.iconst 1, 1) := by decide +kernel
theorem dL_law_593 : decode cL_law 593 = .ok (.iadd, 1) := by decide +kernel
theorem dL_law_594 : decode cL_law 594 = .ok (.iaload, 1) := by decide +kernel
theorem dL_law_595 : decode cL_law 595 = .ok (.aload_n 0, 1) := by decide +kernel
theorem dL_law_596 : decode cL_law 596 = .ok (.iload_n 3, 1) := by decide +kernel
theorem dL_law_597 : decode cL_law 597 = .ok (.iconst 2, 1) := by decide +kernel
theorem dL_law_598 : decode cL_law 598 = .ok (.iadd, 1) := by decide +kernel
theorem dL_law_599 : decode cL_law 599 = .ok (.iaload, 1) := by decide +kernel
theorem dL_law_600 : decode cL_law 600 = .ok (.aload_n 0, 1) := by decide +kernel
theorem dL_law_601 : decode cL_law 601 = .ok (.iload_n 3, 1) := by decide +kernel
theorem dL_law_602 : decode cL_law 602 = .ok (.iconst 3, 1) := by decide +kernel
theorem dL_law_603 : decode cL_law 603 = .ok (.iadd, 1) := by decide +kernel
theorem dL_law_604 : decode cL_law 604 = .ok (.iaload, 1) := by decide +kernel
theorem dL_law_605 : decode cL_law 605 = .ok (.invokevirtual 57, 3) := by decide +kernel
theorem dL_law_608 : decode cL_law 608 = .ok (.aload_n 2, 1) := by decide +kernel
theorem dL_law_609 : decode cL_law 609 = .ok (.aload_n 0, 1) := by decide +kernel
theorem dL_law_610 : decode cL_law 610 = .ok (.iload_n 3, 1) := by decide +kernel
theorem dL_law_611 : decode cL_law 611 = .ok (.iconst 1, 1) := by decide +kernel
theorem dL_law_612 : decode cL_law 612 = .ok (.iadd, 1) := by decide +kernel
theorem dL_law_613 : decode cL_law 613 = .ok (.iaload, 1) := by decide +kernel
theorem dL_law_614 : decode cL_law 614 = .ok (.aload_n 0, 1) := by decide +kernel
theorem dL_law_615 : decode cL_law 615 = .ok (.iload_n 3, 1) := by decide +kernel
theorem dL_law_616 : decode cL_law 616 = .ok (.iconst 2, 1) := by decide +kernel
theorem dL_law_617 : decode cL_law 617 = .ok (.iadd, 1) := by decide +kernel
theorem dL_law_618 : decode cL_law 618 = .ok (.iaload, 1) := by decide +kernel
theorem dL_law_619 : decode cL_law 619 = .ok (.aload_n 0, 1) := by decide +kernel
theorem dL_law_620 : decode cL_law 620 = .ok (.iload_n 3, 1) := by decide +kernel
theorem dL_law_621 : decode cL_law 621 = .ok (.iconst 3, 1) := by decide +kernel
theorem dL_law_622 : decode cL_law 622 = .ok (.iadd, 1) := by decide +kernel
theorem dL_law_623 : decode cL_law 623 = .ok (.iaload, 1) := by decide +kernel
theorem dL_law_624 : decode cL_law 624 = .ok (.invokevirtual 60, 3) := by decide +kernel
theorem dL_law_627 : decode cL_law 627 = .ok (.if_icmp .eq 493, 3) := by decide +kernel
theorem dL_law_630 : decode cL_law 630 = .ok (.iconst 0, 1) := by decide +kernel
theorem dL_law_631 : decode cL_law 631 = .ok (.ireturn, 1) := by decide +kernel
theorem dL_law_632 : decode cL_law 632 = .ok (.aload_n 1, 1) := by decide +kernel
theorem dL_law_633 : decode cL_law 633 = .ok (.aload_n 0, 1) := by decide +kernel
theorem dL_law_634 : decode cL_law 634 = .ok (.iload_n 3, 1) := by decide +kernel
theorem dL_law_635 : decode cL_law 635 = .ok (.iconst 1, 1) := by decide +kernel
theorem dL_law_636 : decode cL_law 636 = .ok (.iadd, 1) := by decide +kernel
theorem dL_law_637 : decode cL_law 637 = .ok (.iaload, 1) := by decide +kernel
theorem dL_law_638 : decode cL_law 638 = .ok (.aload_n 0, 1) := by decide +kernel
theorem dL_law_639 : decode cL_law 639 = .ok (.iload_n 3, 1) := by decide +kernel
theorem dL_law_640 : decode cL_law 640 = .ok (.iconst 2, 1) := by decide +kernel
theorem dL_law_641 : decode cL_law 641 = .ok (.iadd, 1) := by decide +kernel
theorem dL_law_642 : decode cL_law 642 = .ok (.iaload, 1) := by decide +kernel
theorem dL_law_643 : decode cL_law 643 = .ok (.invokevirtual 61, 3) := by decide +kernel
theorem dL_law_646 : decode cL_law 646 = .ok (.aload_n 2, 1) := by decide +kernel
theorem dL_law_647 : decode cL_law 647 = .ok (.aload_n 0, 1) := by decide +kernel
theorem dL_law_648 : decode cL_law 648 = .ok (.iload_n 3, 1) := by decide +kernel
theorem dL_law_649 : decode cL_law 649 = .ok (.iconst 1, 1) := by decide +kernel
theorem dL_law_650 : decode cL_law 650 = .ok (.iadd, 1) := by decide +kernel
theorem dL_law_651 : decode cL_law 651 = .ok (.iaload, 1) := by decide +kernel
theorem dL_law_652 : decode cL_law 652 = .ok (.aload_n 0, 1) := by decide +kernel
theorem dL_law_653 : decode cL_law 653 = .ok (.iload_n 3, 1) := by decide +kernel
theorem dL_law_654 : decode cL_law 654 = .ok (.iconst 2, 1) := by decide +kernel
theorem dL_law_655 : decode cL_law 655 = .ok (.iadd, 1) := by decide +kernel
theorem dL_law_656 : decode cL_law 656 = .ok (.iaload, 1) := by decide +kernel
theorem dL_law_657 : decode cL_law 657 = .ok (.invokevirtual 64, 3) := by decide +kernel
theorem dL_law_660 : decode cL_law 660 = .ok (.if_icmp .eq 460, 3) := by decide +kernel
theorem dL_law_663 : decode cL_law 663 = .ok (.iconst 0, 1) := by decide +kernel
theorem dL_law_664 : decode cL_law 664 = .ok (.ireturn, 1) := by decide +kernel
theorem dL_law_665 : decode cL_law 665 = .ok (.aload_n 1, 1) := by decide +kernel
theorem dL_law_666 : decode cL_law 666 = .ok (.aload_n 0, 1) := by decide +kernel
theorem dL_law_667 : decode cL_law 667 = .ok (.iload_n 3, 1) := by decide +kernel
theorem dL_law_668 : decode cL_law 668 = .ok (.iconst 1, 1) := by decide +kernel
theorem dL_law_669 : decode cL_law 669 = .ok (.iadd, 1) := by decide +kernel
theorem dL_law_670 : decode cL_law 670 = .ok (.iaload, 1) := by decide +kernel
theorem dL_law_671 : decode cL_law 671 = .ok (.aload_n 0, 1) := by decide +kernel
theorem dL_law_672 : decode cL_law 672 = .ok (.iload_n 3, 1) := by decide +kernel
theorem dL_law_673 : decode cL_law 673 = .ok (.iconst 2, 1) := by decide +kernel
theorem dL_law_674 : decode cL_law 674 = .ok (.iadd, 1) := by decide +kernel
theorem dL_law_675 : decode cL_law 675 = .ok (.iaload, 1) := by decide +kernel
theorem dL_law_676 : decode cL_law 676 = .ok (.aload_n 0, 1) := by decide +kernel
theorem dL_law_677 : decode cL_law 677 = .ok (.iload_n 3, 1) := by decide +kernel
theorem dL_law_678 : decode cL_law 678 = .ok (.iconst 3, 1) := by decide +kernel
theorem dL_law_679 : decode cL_law 679 = .ok (.iadd, 1) := by decide +kernel
theorem dL_law_680 : decode cL_law 680 = .ok (.iaload, 1) := by decide +kernel
theorem dL_law_681 : decode cL_law 681 = .ok (.invokevirtual 65, 3) := by decide +kernel
theorem dL_law_684 : decode cL_law 684 = .ok (.aload_n 2, 1) := by decide +kernel
theorem dL_law_685 : decode cL_law 685 = .ok (.aload_n 0, 1) := by decide +kernel
theorem dL_law_686 : decode cL_law 686 = .ok (.iload_n 3, 1) := by decide +kernel
theorem dL_law_687 : decode cL_law 687 = .ok (.iconst 1, 1) := by decide +kernel
theorem dL_law_688 : decode cL_law 688 = .ok (.iadd, 1) := by decide +kernel
theorem dL_law_689 : decode cL_law 689 = .ok (.iaload, 1) := by decide +kernel
theorem dL_law_690 : decode cL_law 690 = .ok (.aload_n 0, 1) := by decide +kernel
theorem dL_law_691 : decode cL_law 691 = .ok (.iload_n 3, 1) := by decide +kernel
theorem dL_law_692 : decode cL_law 692 = .ok (.iconst 2, 1) := by decide +kernel
theorem dL_law_693 : decode cL_law 693 = .ok (.iadd, 1) := by decide +kernel
theorem dL_law_694 : decode cL_law 694 = .ok (.iaload, 1) := by decide +kernel
theorem dL_law_695 : decode cL_law 695 = .ok (.aload_n 0, 1) := by decide +kernel
theorem dL_law_696 : decode cL_law 696 = .ok (.iload_n 3, 1) := by decide +kernel
theorem dL_law_697 : decode cL_law 697 = .ok (.iconst 3, 1) := by decide +kernel
theorem dL_law_698 : decode cL_law 698 = .ok (.iadd, 1) := by decide +kernel
theorem dL_law_699 : decode cL_law 699 = .ok (.iaload, 1) := by decide +kernel
theorem dL_law_700 : decode cL_law 700 = .ok (.invokevirtual 68, 3) := by decide +kernel
theorem dL_law_703 : decode cL_law 703 = .ok (.if_icmp .eq 417, 3) := by decide +kernel
theorem dL_law_706 : decode cL_law 706 = .ok (.iconst 0, 1) := by decide +kernel
theorem dL_law_707 : decode cL_law 707 = .ok (.ireturn, 1) := by decide +kernel
theorem dL_law_708 : decode cL_law 708 = .ok (.aload_n 1, 1) := by decide +kernel
theorem dL_law_709 : decode cL_law 709 = .ok (.aload_n 0, 1) := by decide +kernel
theorem dL_law_710 : decode cL_law 710 = .ok (.iload_n 3, 1) := by decide +kernel
theorem dL_law_711 : decode cL_law 711 = .ok (.iconst 1, 1) := by decide +kernel
theorem dL_law_712 : decode cL_law 712 = .ok (.iadd, 1) := by decide +kernel
theorem dL_law_713 : decode cL_law 713 = .ok (.iaload, 1) := by decide +kernel
theorem dL_law_714 : decode cL_law 714 = .ok (.aload_n 0, 1) := by decide +kernel
theorem dL_law_715 : decode cL_law 715 = .ok (.iload_n 3, 1) := by decide +kernel
theorem dL_law_716 : decode cL_law 716 = .ok (.iconst 2, 1) := by decide +kernel
theorem dL_law_717 : decode cL_law 717 = .ok (.iadd, 1) := by decide +kernel
theorem dL_law_718 : decode cL_law 718 = .ok (.iaload, 1) := by decide +kernel
theorem dL_law_719 : decode cL_law 719 = .ok (.aload_n 0, 1) := by decide +kernel
theorem dL_law_720 : decode cL_law 720 = .ok (.iload_n 3, 1) := by decide +kernel
theorem dL_law_721 : decode cL_law 721 = .ok (.iconst 3, 1) := by decide +kernel
theorem dL_law_722 : decode cL_law 722 = .ok (.iadd, 1) := by decide +kernel
theorem dL_law_723 : decode cL_law 723 = .ok (.iaload, 1) := by decide +kernel
theorem dL_law_724 : decode cL_law 724 = .ok (.invokevirtual 69, 3) := by decide +kernel
theorem dL_law_727 : decode cL_law 727 = .ok (.aload_n 2, 1) := by decide +kernel
theorem dL_law_728 : decode cL_law 728 = .ok (.aload_n 0, 1) := by decide +kernel
theorem dL_law_729 : decode cL_law 729 = .ok (.iload_n 3, 1) := by decide +kernel
theorem dL_law_730 : decode cL_law 730 = .ok (.iconst 1, 1) := by decide +kernel
theorem dL_law_731 : decode cL_law 731 = .ok (.iadd, 1) := by decide +kernel
theorem dL_law_732 : decode cL_law 732 = .ok (.iaload, 1) := by decide +kernel
theorem dL_law_733 : decode cL_law 733 = .ok (.aload_n 0, 1) := by decide +kernel
theorem dL_law_734 : decode cL_law 734 = .ok (.iload_n 3, 1) := by decide +kernel
theorem dL_law_735 : decode cL_law 735 = .ok (.iconst 2, 1) := by decide +kernel
theorem dL_law_736 : decode cL_law 736 = .ok (.iadd, 1) := by decide +kernel
theorem dL_law_737 : decode cL_law 737 = .ok (.iaload, 1) := by decide +kernel
theorem dL_law_738 : decode cL_law 738 = .ok (.aload_n 0, 1) := by decide +kernel
theorem dL_law_739 : decode cL_law 739 = .ok (.iload_n 3, 1) := by decide +kernel
theorem dL_law_740 : decode cL_law 740 = .ok (.iconst 3, 1) := by decide +kernel
theorem dL_law_741 : decode cL_law 741 = .ok (.iadd, 1) := by decide +kernel
theorem dL_law_742 : decode cL_law 742 = .ok (.iaload, 1) := by decide +kernel
theorem dL_law_743 : decode cL_law 743 = .ok (.invokevirtual 72, 3) := by decide +kernel
theorem dL_law_746 : decode cL_law 746 = .ok (.if_icmp .eq 374, 3) := by decide +kernel
theorem dL_law_749 : decode cL_law 749 = .ok (.iconst 0, 1) := by decide +kernel
theorem dL_law_750 : decode cL_law 750 = .ok (.ireturn, 1) := by decide +kernel
theorem dL_law_751 : decode cL_law 751 = .ok (.aload_n 1, 1) := by decide +kernel
theorem dL_law_752 : decode cL_law 752 = .ok (.aload_n 0, 1) := by decide +kernel
theorem dL_law_753 : decode cL_law 753 = .ok (.iload_n 3, 1) := by decide +kernel
theorem dL_law_754 : decode cL_law 754 = .ok (.iconst 1, 1) := by decide +kernel
theorem dL_law_755 : decode cL_law 755 = .ok (.iadd, 1) := by decide +kernel
theorem dL_law_756 : decode cL_law 756 = .ok (.iaload, 1) := by decide +kernel
theorem dL_law_757 : decode cL_law 757 = .ok (.aload_n 0, 1) := by decide +kernel
theorem dL_law_758 : decode cL_law 758 = .ok (.iload_n 3, 1) := by decide +kernel
theorem dL_law_759 : decode cL_law 759 = .ok (.iconst 2, 1) := by decide +kernel
theorem dL_law_760 : decode cL_law 760 = .ok (.iadd, 1) := by decide +kernel
theorem dL_law_761 : decode cL_law 761 = .ok (.iaload, 1) := by decide +kernel
theorem dL_law_762 : decode cL_law 762 = .ok (.aload_n 0, 1) := by decide +kernel
theorem dL_law_763 : decode cL_law 763 = .ok (.iload_n 3, 1) := by decide +kernel
theorem dL_law_764 : decode cL_law 764 = .ok (.iconst 3, 1) := by decide +kernel
theorem dL_law_765 : decode cL_law 765 = .ok (.iadd, 1) := by decide +kernel
theorem dL_law_766 : decode cL_law 766 = .ok (.iaload, 1) := by decide +kernel
theorem dL_law_767 : decode cL_law 767 = .ok (.invokevirtual 73, 3) := by decide +kernel
theorem dL_law_770 : decode cL_law 770 = .ok (.aload_n 2, 1) := by decide +kernel
theorem dL_law_771 : decode cL_law 771 = .ok (.aload_n 0, 1) := by decide +kernel
theorem dL_law_772 : decode cL_law 772 = .ok (.iload_n 3, 1) := by decide +kernel
theorem dL_law_773 : decode cL_law 773 = .ok (.iconst 1, 1) := by decide +kernel
theorem dL_law_774 : decode cL_law 774 = .ok (.iadd, 1) := by decide +kernel
theorem dL_law_775 : decode cL_law 775 = .ok (.iaload, 1) := by decide +kernel
theorem dL_law_776 : decode cL_law 776 = .ok (.aload_n 0, 1) := by decide +kernel
theorem dL_law_777 : decode cL_law 777 = .ok (.iload_n 3, 1) := by decide +kernel
theorem dL_law_778 : decode cL_law 778 = .ok (.iconst 2, 1) := by decide +kernel
theorem dL_law_779 : decode cL_law 779 = .ok (.iadd, 1) := by decide +kernel
theorem dL_law_780 : decode cL_law 780 = .ok (.iaload, 1) := by decide +kernel
theorem dL_law_781 : decode cL_law 781 = .ok (.aload_n 0, 1) := by decide +kernel
theorem dL_law_782 : decode cL_law 782 = .ok (.iload_n 3, 1) := by decide +kernel
theorem dL_law_783 : decode cL_law 783 = .ok (.iconst 3, 1) := by decide +kernel
theorem dL_law_784 : decode cL_law 784 = .ok (.iadd, 1) := by decide +kernel
theorem dL_law_785 : decode cL_law 785 = .ok (.iaload, 1) := by decide +kernel
theorem dL_law_786 : decode cL_law 786 = .ok (.invokevirtual 76, 3) := by decide +kernel
theorem dL_law_789 : decode cL_law 789 = .ok (.if_icmp .eq 331, 3) := by decide +kernel
theorem dL_law_792 : decode cL_law 792 = .ok (.iconst 0, 1) := by decide +kernel
theorem dL_law_793 : decode cL_law 793 = .ok (.ireturn, 1) := by decide +kernel
theorem dL_law_794 : decode cL_law 794 = .ok (.aload_n 1, 1) := by decide +kernel
theorem dL_law_795 : decode cL_law 795 = .ok (.aload_n 0, 1) := by decide +kernel
theorem dL_law_796 : decode cL_law 796 = .ok (.iload_n 3, 1) := by decide +kernel
theorem dL_law_797 : decode cL_law 797 = .ok (.iconst 1, 1) := by decide +kernel
theorem dL_law_798 : decode cL_law 798 = .ok (.iadd, 1) := by decide +kernel
theorem dL_law_799 : decode cL_law 799 = .ok (.iaload, 1) := by decide +kernel
theorem dL_law_800 : decode cL_law 800 = .ok (.aload_n 0, 1) := by decide +kernel
theorem dL_law_801 : decode cL_law 801 = .ok (.iload_n 3, 1) := by decide +kernel
theorem dL_law_802 : decode cL_law 802 = .ok (.iconst 2, 1) := by decide +kernel
theorem dL_law_803 : decode cL_law 803 = .ok (.iadd, 1) := by decide +kernel
theorem dL_law_804 : decode cL_law 804 = .ok (.iaload, 1) := by decide +kernel
theorem dL_law_805 : decode cL_law 805 = .ok (.invokevirtual 77, 3) := by decide +kernel
theorem dL_law_808 : decode cL_law 808 = .ok (.aload_n 2, 1) := by decide +kernel
theorem dL_law_809 : decode cL_law 809 = .ok (.aload_n 0, 1) := by decide +kernel
theorem dL_law_810 : decode cL_law 810 = .ok (.iload_n 3, 1) := by decide +kernel
theorem dL_law_811 : decode cL_law 811 = .ok (.iconst 1, 1) := by decide +kernel
theorem dL_law_812 : decode cL_law 812 = .ok (.iadd, 1) := by decide +kernel
theorem dL_law_813 : decode cL_law 813 = .ok (.iaload, 1) := by decide +kernel
theorem dL_law_814 : decode cL_law 814 = .ok (.aload_n 0, 1) := by decide +kernel
theorem dL_law_815 : decode cL_law 815 = .ok (.iload_n 3, 1) := by decide +kernel
theorem dL_law_816 : decode cL_law 816 = .ok (.iconst 2, 1) := by decide +kernel
theorem dL_law_817 : decode cL_law 817 = .ok (.iadd, 1) := by decide +kernel
theorem dL_law_818 : decode cL_law 818 = .ok (.iaload, 1) := by decide +kernel
theorem dL_law_819 : decode cL_law 819 = .ok (.invokevirtual 80, 3) := by decide +kernel
theorem dL_law_822 : decode cL_law 822 = .ok (.if_icmp .eq 298, 3) := by decide +kernel
theorem dL_law_825 : decode cL_law 825 = .ok (.iconst 0, 1) := by decide +kernel
theorem dL_law_826 : decode cL_law 826 = .ok (.ireturn, 1) := by decide +kernel
theorem dL_law_827 : decode cL_law 827 = .ok (.aload_n 1, 1) := by decide +kernel
theorem dL_law_828 : decode cL_law 828 = .ok (.aload_n 0, 1) := by decide +kernel
theorem dL_law_829 : decode cL_law 829 = .ok (.iload_n 3, 1) := by decide +kernel
theorem dL_law_830 : decode cL_law 830 = .ok (.iconst 1, 1) := by decide +kernel
theorem dL_law_831 : decode cL_law 831 = .ok (.iadd, 1) := by decide +kernel
theorem dL_law_832 : decode cL_law 832 = .ok (.iaload, 1) := by decide +kernel
theorem dL_law_833 : decode cL_law 833 = .ok (.invokevirtual 81, 3) := by decide +kernel
theorem dL_law_836 : decode cL_law 836 = .ok (.aload_n 2, 1) := by decide +kernel
theorem dL_law_837 : decode cL_law 837 = .ok (.aload_n 0, 1) := by decide +kernel
theorem dL_law_838 : decode cL_law 838 = .ok (.iload_n 3, 1) := by decide +kernel
theorem dL_law_839 : decode cL_law 839 = .ok (.iconst 1, 1) := by decide +kernel
theorem dL_law_840 : decode cL_law 840 = .ok (.iadd, 1) := by decide +kernel
theorem dL_law_841 : decode cL_law 841 = .ok (.iaload, 1) := by decide +kernel
theorem dL_law_842 : decode cL_law 842 = .ok (.invokevirtual 85, 3) := by decide +kernel
theorem dL_law_845 : decode cL_law 845 = .ok (.if_icmp .eq 275, 3) := by decide +kernel
theorem dL_law_848 : decode cL_law 848 = .ok (.iconst 0, 1) := by decide +kernel
theorem dL_law_849 : decode cL_law 849 = .ok (.ireturn, 1) := by decide +kernel
theorem dL_law_850 : decode cL_law 850 = .ok (.aload_n 1, 1) := by decide +kernel
theorem dL_law_851 : decode cL_law 851 = .ok (.aload_n 0, 1) := by decide +kernel
theorem dL_law_852 : decode cL_law 852 = .ok (.iload_n 3, 1) := by decide +kernel
theorem dL_law_853 : decode cL_law 853 = .ok (.iconst 1, 1) := by decide +kernel
theorem dL_law_854 : decode cL_law 854 = .ok (.iadd, 1) := by decide +kernel
theorem dL_law_855 : decode cL_law 855 = .ok (.iaload, 1) := by decide +kernel
theorem dL_law_856 : decode cL_law 856 = .ok (.aload_n 0, 1) := by decide +kernel
theorem dL_law_857 : decode cL_law 857 = .ok (.iload_n 3, 1) := by decide +kernel
theorem dL_law_858 : decode cL_law 858 = .ok (.iconst 2, 1) := by decide +kernel
theorem dL_law_859 : decode cL_law 859 = .ok (.iadd, 1) := by decide +kernel
theorem dL_law_860 : decode cL_law 860 = .ok (.iaload, 1) := by decide +kernel
theorem dL_law_861 : decode cL_law 861 = .ok (.invokevirtual 86, 3) := by decide +kernel
theorem dL_law_864 : decode cL_law 864 = .ok (.aload_n 2, 1) := by decide +kernel
theorem dL_law_865 : decode cL_law 865 = .ok (.aload_n 0, 1) := by decide +kernel
theorem dL_law_866 : decode cL_law 866 = .ok (.iload_n 3, 1) := by decide +kernel
theorem dL_law_867 : decode cL_law 867 = .ok (.iconst 1, 1) := by decide +kernel
theorem dL_law_868 : decode cL_law 868 = .ok (.iadd, 1) := by decide +kernel
theorem dL_law_869 : decode cL_law 869 = .ok (.iaload, 1) := by decide +kernel
theorem dL_law_870 : decode cL_law 870 = .ok (.aload_n 0, 1) := by decide +kernel
theorem dL_law_871 : decode cL_law 871 = .ok (.iload_n 3, 1) := by decide +kernel
theorem dL_law_872 : decode cL_law 872 = .ok (.iconst 2, 1) := by decide +kernel
theorem dL_law_873 : decode cL_law 873 = .ok (.iadd, 1) := by decide +kernel
theorem dL_law_874 : decode cL_law 874 = .ok (.iaload, 1) := by decide +kernel
theorem dL_law_875 : decode cL_law 875 = .ok (.invokevirtual 89, 3) := by decide +kernel
theorem dL_law_878 : decode cL_law 878 = .ok (.if_icmp .eq 242, 3) := by decide +kernel
theorem dL_law_881 : decode cL_law 881 = .ok (.iconst 0, 1) := by decide +kernel
theorem dL_law_882 : decode cL_law 882 = .ok (.ireturn, 1) := by decide +kernel
theorem dL_law_883 : decode cL_law 883 = .ok (.aload_n 1, 1) := by decide +kernel
theorem dL_law_884 : decode cL_law 884 = .ok (.aload_n 0, 1) := by decide +kernel
theorem dL_law_885 : decode cL_law 885 = .ok (.iload_n 3, 1) := by decide +kernel
theorem dL_law_886 : decode cL_law 886 = .ok (.iconst 1, 1) := by decide +kernel
theorem dL_law_887 : decode cL_law 887 = .ok (.iadd, 1) := by decide +kernel
theorem dL_law_888 : decode cL_law 888 = .ok (.iaload, 1) := by decide +kernel
theorem dL_law_889 : decode cL_law 889 = .ok (.invokevirtual 90, 3) := by decide +kernel
theorem dL_law_892 : decode cL_law 892 = .ok (.aload_n 2, 1) := by decide +kernel
theorem dL_law_893 : decode cL_law 893 = .ok (.aload_n 0, 1) := by decide +kernel
theorem dL_law_894 : decode cL_law 894 = .ok (.iload_n 3, 1) := by decide +kernel
theorem dL_law_895 : decode cL_law 895 = .ok (.iconst 1, 1) := by decide +kernel
theorem dL_law_896 : decode cL_law 896 = .ok (.iadd, 1) := by decide +kernel
theorem dL_law_897 : decode cL_law 897 = .ok (.iaload, 1) := by decide +kernel
theorem dL_law_898 : decode cL_law 898 = .ok (.invokevirtual 93, 3) := by decide +kernel
theorem dL_law_901 : decode cL_law 901 = .ok (.if_icmp .eq 219, 3) := by decide +kernel
theorem dL_law_904 : decode cL_law 904 = .ok (.iconst 0, 1) := by decide +kernel
theorem dL_law_905 : decode cL_law 905 = .ok (.ireturn, 1) := by decide +kernel
theorem dL_law_906 : decode cL_law 906 = .ok (.aload_n 1, 1) := by decide +kernel
theorem dL_law_907 : decode cL_law 907 = .ok (.aload_n 0, 1) := by decide +kernel
theorem dL_law_908 : decode cL_law 908 = .ok (.iload_n 3, 1) := by decide +kernel
theorem dL_law_909 : decode cL_law 909 = .ok (.iconst 1, 1) := by decide +kernel
theorem dL_law_910 : decode cL_law 910 = .ok (.iadd, 1) := by decide +kernel
theorem dL_law_911 : decode cL_law 911 = .ok (.iaload, 1) := by decide +kernel
theorem dL_law_912 : decode cL_law 912 = .ok (.invokevirtual 94, 3) := by decide +kernel
theorem dL_law_915 : decode cL_law 915 = .ok (.aload_n 2, 1) := by decide +kernel
theorem dL_law_916 : decode cL_law 916 = .ok (.aload_n 0, 1) := by decide +kernel
theorem dL_law_917 : decode cL_law 917 = .ok (.iload_n 3, 1) := by decide +kernel
theorem dL_law_918 : decode cL_law 918 = .ok (.iconst 1, 1) := by decide +kernel
theorem dL_law_919 : decode cL_law 919 = .ok (.iadd, 1) := by decide +kernel
theorem dL_law_920 : decode cL_law 920 = .ok (.iaload, 1) := by decide +kernel
theorem dL_law_921 : decode cL_law 921 = .ok (.invokevirtual 97, 3) := by decide +kernel
theorem dL_law_924 : decode cL_law 924 = .ok (.if_icmp .eq 196, 3) := by decide +kernel
theorem dL_law_927 : decode cL_law 927 = .ok (.iconst 0, 1) := by decide +kernel
theorem dL_law_928 : decode cL_law 928 = .ok (.ireturn, 1) := by decide +kernel
theorem dL_law_929 : decode cL_law 929 = .ok (.aload_n 1, 1) := by decide +kernel
theorem dL_law_930 : decode cL_law 930 = .ok (.aload_n 0, 1) := by decide +kernel
theorem dL_law_931 : decode cL_law 931 = .ok (.iload_n 3, 1) := by decide +kernel
theorem dL_law_932 : decode cL_law 932 = .ok (.iconst 1, 1) := by decide +kernel
theorem dL_law_933 : decode cL_law 933 = .ok (.iadd, 1) := by decide +kernel
theorem dL_law_934 : decode cL_law 934 = .ok (.iaload, 1) := by decide +kernel
theorem dL_law_935 : decode cL_law 935 = .ok (.invokevirtual 98, 3) := by decide +kernel
theorem dL_law_938 : decode cL_law 938 = .ok (.aload_n 2, 1) := by decide +kernel
theorem dL_law_939 : decode cL_law 939 = .ok (.aload_n 0, 1) := by decide +kernel
theorem dL_law_940 : decode cL_law 940 = .ok (.iload_n 3, 1) := by decide +kernel
theorem dL_law_941 : decode cL_law 941 = .ok (.iconst 1, 1) := by decide +kernel
theorem dL_law_942 : decode cL_law 942 = .ok (.iadd, 1) := by decide +kernel
theorem dL_law_943 : decode cL_law 943 = .ok (.iaload, 1) := by decide +kernel
theorem dL_law_944 : decode cL_law 944 = .ok (.invokevirtual 101, 3) := by decide +kernel
theorem dL_law_947 : decode cL_law 947 = .ok (.if_icmp .eq 173, 3) := by decide +kernel
theorem dL_law_950 : decode cL_law 950 = .ok (.iconst 0, 1) := by decide +kernel
theorem dL_law_951 : decode cL_law 951 = .ok (.ireturn, 1) := by decide +kernel
theorem dL_law_952 : decode cL_law 952 = .ok (.aload_n 1, 1) := by decide +kernel
theorem dL_law_953 : decode cL_law 953 = .ok (.aload_n 0, 1) := by decide +kernel
theorem dL_law_954 : decode cL_law 954 = .ok (.iload_n 3, 1) := by decide +kernel
theorem dL_law_955 : decode cL_law 955 = .ok (.iconst 1, 1) := by decide +kernel
theorem dL_law_956 : decode cL_law 956 = .ok (.iadd, 1) := by decide +kernel
theorem dL_law_957 : decode cL_law 957 = .ok (.iaload, 1) := by decide +kernel
theorem dL_law_958 : decode cL_law 958 = .ok (.aload_n 0, 1) := by decide +kernel
theorem dL_law_959 : decode cL_law 959 = .ok (.iload_n 3, 1) := by decide +kernel
theorem dL_law_960 : decode cL_law 960 = .ok (.iconst 2, 1) := by decide +kernel
theorem dL_law_961 : decode cL_law 961 = .ok (.iadd, 1) := by decide +kernel
theorem dL_law_962 : decode cL_law 962 = .ok (.iaload, 1) := by decide +kernel
theorem dL_law_963 : decode cL_law 963 = .ok (.invokevirtual 102, 3) := by decide +kernel
theorem dL_law_966 : decode cL_law 966 = .ok (.aload_n 2, 1) := by decide +kernel
theorem dL_law_967 : decode cL_law 967 = .ok (.aload_n 0, 1) := by decide +kernel
theorem dL_law_968 : decode cL_law 968 = .ok (.iload_n 3, 1) := by decide +kernel
theorem dL_law_969 : decode cL_law 969 = .ok (.iconst 1, 1) := by decide +kernel
theorem dL_law_970 : decode cL_law 970 = .ok (.iadd, 1) := by decide +kernel
theorem dL_law_971 : decode cL_law 971 = .ok (.iaload, 1) := by decide +kernel
theorem dL_law_972 : decode cL_law 972 = .ok (.aload_n 0, 1) := by decide +kernel
theorem dL_law_973 : decode cL_law 973 = .ok (.iload_n 3, 1) := by decide +kernel
theorem dL_law_974 : decode cL_law 974 = .ok (.iconst 2, 1) := by decide +kernel
theorem dL_law_975 : decode cL_law 975 = .ok (.iadd, 1) := by decide +kernel
theorem dL_law_976 : decode cL_law 976 = .ok (.iaload, 1) := by decide +kernel
theorem dL_law_977 : decode cL_law 977 = .ok (.invokevirtual 105, 3) := by decide +kernel
theorem dL_law_980 : decode cL_law 980 = .ok (.if_icmp .eq 140, 3) := by decide +kernel
theorem dL_law_983 : decode cL_law 983 = .ok (.iconst 0, 1) := by decide +kernel
theorem dL_law_984 : decode cL_law 984 = .ok (.ireturn, 1) := by decide +kernel
theorem dL_law_985 : decode cL_law 985 = .ok (.aload_n 1, 1) := by decide +kernel
theorem dL_law_986 : decode cL_law 986 = .ok (.aload_n 0, 1) := by decide +kernel
theorem dL_law_987 : decode cL_law 987 = .ok (.iload_n 3, 1) := by decide +kernel
theorem dL_law_988 : decode cL_law 988 = .ok (.iconst 1, 1) := by decide +kernel
theorem dL_law_989 : decode cL_law 989 = .ok (.iadd, 1) := by decide +kernel
theorem dL_law_990 : decode cL_law 990 = .ok (.iaload, 1) := by decide +kernel
theorem dL_law_991 : decode cL_law 991 = .ok (.aload_n 0, 1) := by decide +kernel
theorem dL_law_992 : decode cL_law 992 = .ok (.iload_n 3, 1) := by decide +kernel
theorem dL_law_993 : decode cL_law 993 = .ok (.iconst 2, 1) := by decide +kernel
theorem dL_law_994 : decode cL_law 994 = .ok (.iadd, 1) := by decide +kernel
theorem dL_law_995 : decode cL_law 995 = .ok (.iaload, 1) := by decide +kernel
theorem dL_law_996 : decode cL_law 996 = .ok (.invokevirtual 106, 3) := by decide +kernel
theorem dL_law_999 : decode cL_law 999 = .ok (.aload_n 2, 1) := by decide +kernel
theorem dL_law_1000 : decode cL_law 1000 = .ok (.aload_n 0, 1) := by decide +kernel
theorem dL_law_1001 : decode cL_law 1001 = .ok (.iload_n 3, 1) := by decide +kernel
theorem dL_law_1002 : decode cL_law 1002 = .ok (.iconst 1, 1) := by decide +kernel
theorem dL_law_1003 : decode cL_law 1003 = .ok (.iadd, 1) := by decide +kernel
theorem dL_law_1004 : decode cL_law 1004 = .ok (.iaload, 1) := by decide +kernel
theorem dL_law_1005 : decode cL_law 1005 = .ok (.aload_n 0, 1) := by decide +kernel
theorem dL_law_1006 : decode cL_law 1006 = .ok (.iload_n 3, 1) := by decide +kernel
theorem dL_law_1007 : decode cL_law 1007 = .ok (.iconst 2, 1) := by decide +kernel
theorem dL_law_1008 : decode cL_law 1008 = .ok (.iadd, 1) := by decide +kernel
theorem dL_law_1009 : decode cL_law 1009 = .ok (.iaload, 1) := by decide +kernel
theorem dL_law_1010 : decode cL_law 1010 = .ok (.invokevirtual 109, 3) := by decide +kernel
theorem dL_law_1013 : decode cL_law 1013 = .ok (.if_icmp .eq 107, 3) := by decide +kernel
theorem dL_law_1016 : decode cL_law 1016 = .ok (.iconst 0, 1) := by decide +kernel
theorem dL_law_1017 : decode cL_law 1017 = .ok (.ireturn, 1) := by decide +kernel
theorem dL_law_1018 : decode cL_law 1018 = .ok (.aload_n 1, 1) := by decide +kernel
theorem dL_law_1019 : decode cL_law 1019 = .ok (.aload_n 0, 1) := by decide +kernel
theorem dL_law_1020 : decode cL_law 1020 = .ok (.iload_n 3, 1) := by decide +kernel
theorem dL_law_1021 : decode cL_law 1021 = .ok (.iconst 1, 1) := by decide +kernel
theorem dL_law_1022 : decode cL_law 1022 = .ok (.iadd, 1) := by decide +kernel
theorem dL_law_1023 : decode cL_law 1023 = .ok (.iaload, 1) := by decide +kernel
theorem dL_law_1024 : decode cL_law 1024 = .ok (.invokevirtual 110, 3) := by decide +kernel
theorem dL_law_1027 : decode cL_law 1027 = .ok (.aload_n 2, 1) := by decide +kernel
theorem dL_law_1028 : decode cL_law 1028 = .ok (.aload_n 0, 1) := by decide +kernel
theorem dL_law_1029 : decode cL_law 1029 = .ok (.iload_n 3, 1) := by decide +kernel
theorem dL_law_1030 : decode cL_law 1030 = .ok (.iconst 1, 1) := by decide +kernel
theorem dL_law_1031 : decode cL_law 1031 = .ok (.iadd, 1) := by decide +kernel
theorem dL_law_1032 : decode cL_law 1032 = .ok (.iaload, 1) := by decide +kernel
theorem dL_law_1033 : decode cL_law 1033 = .ok (.invokevirtual 113, 3) := by decide +kernel
theorem dL_law_1036 : decode cL_law 1036 = .ok (.if_icmp .eq 84, 3) := by decide +kernel
theorem dL_law_1039 : decode cL_law 1039 = .ok (.iconst 0, 1) := by decide +kernel
theorem dL_law_1040 : decode cL_law 1040 = .ok (.ireturn, 1) := by decide +kernel
theorem dL_law_1041 : decode cL_law 1041 = .ok (.aload_n 1, 1) := by decide +kernel
theorem dL_law_1042 : decode cL_law 1042 = .ok (.aload_n 0, 1) := by decide +kernel
theorem dL_law_1043 : decode cL_law 1043 = .ok (.iload_n 3, 1) := by decide +kernel
theorem dL_law_1044 : decode cL_law 1044 = .ok (.iconst 1, 1) := by decide +kernel
theorem dL_law_1045 : decode cL_law 1045 = .ok (.iadd, 1) := by decide +kernel
theorem dL_law_1046 : decode cL_law 1046 = .ok (.iaload, 1) := by decide +kernel
theorem dL_law_1047 : decode cL_law 1047 = .ok (.aload_n 0, 1) := by decide +kernel
theorem dL_law_1048 : decode cL_law 1048 = .ok (.iload_n 3, 1) := by decide +kernel
theorem dL_law_1049 : decode cL_law 1049 = .ok (.iconst 2, 1) := by decide +kernel
theorem dL_law_1050 : decode cL_law 1050 = .ok (.iadd, 1) := by decide +kernel
theorem dL_law_1051 : decode cL_law 1051 = .ok (.iaload, 1) := by decide +kernel
theorem dL_law_1052 : decode cL_law 1052 = .ok (.invokevirtual 114, 3) := by decide +kernel
theorem dL_law_1055 : decode cL_law 1055 = .ok (.aload_n 2, 1) := by decide +kernel
theorem dL_law_1056 : decode cL_law 1056 = .ok (.aload_n 0, 1) := by decide +kernel
theorem dL_law_1057 : decode cL_law 1057 = .ok (.iload_n 3, 1) := by decide +kernel
theorem dL_law_1058 : decode cL_law 1058 = .ok (.iconst 1, 1) := by decide +kernel
theorem dL_law_1059 : decode cL_law 1059 = .ok (.iadd, 1) := by decide +kernel
theorem dL_law_1060 : decode cL_law 1060 = .ok (.iaload, 1) := by decide +kernel
theorem dL_law_1061 : decode cL_law 1061 = .ok (.aload_n 0, 1) := by decide +kernel
theorem dL_law_1062 : decode cL_law 1062 = .ok (.iload_n 3, 1) := by decide +kernel
theorem dL_law_1063 : decode cL_law 1063 = .ok (.iconst 2, 1) := by decide +kernel
theorem dL_law_1064 : decode cL_law 1064 = .ok (.iadd, 1) := by decide +kernel
theorem dL_law_1065 : decode cL_law 1065 = .ok (.iaload, 1) := by decide +kernel
theorem dL_law_1066 : decode cL_law 1066 = .ok (.invokevirtual 117, 3) := by decide +kernel
theorem dL_law_1069 : decode cL_law 1069 = .ok (.if_icmp .eq 51, 3) := by decide +kernel
theorem dL_law_1072 : decode cL_law 1072 = .ok (.iconst 0, 1) := by decide +kernel
theorem dL_law_1073 : decode cL_law 1073 = .ok (.ireturn, 1) := by decide +kernel
theorem dL_law_1074 : decode cL_law 1074 = .ok (.aload_n 1, 1) := by decide +kernel
theorem dL_law_1075 : decode cL_law 1075 = .ok (.invokevirtual 118, 3) := by decide +kernel
theorem dL_law_1078 : decode cL_law 1078 = .ok (.aload_n 2, 1) := by decide +kernel
theorem dL_law_1079 : decode cL_law 1079 = .ok (.invokevirtual 122, 3) := by decide +kernel
theorem dL_law_1082 : decode cL_law 1082 = .ok (.if_icmp .eq 38, 3) := by decide +kernel
theorem dL_law_1085 : decode cL_law 1085 = .ok (.iconst 0, 1) := by decide +kernel
theorem dL_law_1086 : decode cL_law 1086 = .ok (.ireturn, 1) := by decide +kernel
theorem dL_law_1087 : decode cL_law 1087 = .ok (.aload_n 1, 1) := by decide +kernel
theorem dL_law_1088 : decode cL_law 1088 = .ok (.aload_n 0, 1) := by decide +kernel
theorem dL_law_1089 : decode cL_law 1089 = .ok (.iload_n 3, 1) := by decide +kernel
theorem dL_law_1090 : decode cL_law 1090 = .ok (.iconst 1, 1) := by decide +kernel
theorem dL_law_1091 : decode cL_law 1091 = .ok (.iadd, 1) := by decide +kernel
theorem dL_law_1092 : decode cL_law 1092 = .ok (.iaload, 1) := by decide +kernel
theorem dL_law_1093 : decode cL_law 1093 = .ok (.aload_n 0, 1) := by decide +kernel
theorem dL_law_1094 : decode cL_law 1094 = .ok (.iload_n 3, 1) := by decide +kernel
theorem dL_law_1095 : decode cL_law 1095 = .ok (.iconst 2, 1) := by decide +kernel
theorem dL_law_1096 : decode cL_law 1096 = .ok (.iadd, 1) := by decide +kernel
theorem dL_law_1097 : decode cL_law 1097 = .ok (.iaload, 1) := by decide +kernel
theorem dL_law_1098 : decode cL_law 1098 = .ok (.invokevirtual 123, 3) := by decide +kernel
theorem dL_law_1101 : decode cL_law 1101 = .ok (.aload_n 2, 1) := by decide +kernel
theorem dL_law_1102 : decode cL_law 1102 = .ok (.aload_n 0, 1) := by decide +kernel
theorem dL_law_1103 : decode cL_law 1103 = .ok (.iload_n 3, 1) := by decide +kernel
theorem dL_law_1104 : decode cL_law 1104 = .ok (.iconst 1, 1) := by decide +kernel
theorem dL_law_1105 : decode cL_law 1105 = .ok (.iadd, 1) := by decide +kernel
theorem dL_law_1106 : decode cL_law 1106 = .ok (.iaload, 1) := by decide +kernel
theorem dL_law_1107 : decode cL_law 1107 = .ok (.aload_n 0, 1) := by decide +kernel
theorem dL_law_1108 : decode cL_law 1108 = .ok (.iload_n 3, 1) := by decide +kernel
theorem dL_law_1109 : decode cL_law 1109 = .ok (.iconst 2, 1) := by decide +kernel
theorem dL_law_1110 : decode cL_law 1110 = .ok (.iadd, 1) := by decide +kernel
theorem dL_law_1111 : decode cL_law 1111 = .ok (.iaload, 1) := by decide +kernel
theorem dL_law_1112 : decode cL_law 1112 = .ok (.invokevirtual 126, 3) := by decide +kernel
theorem dL_law_1115 : decode cL_law 1115 = .ok (.if_icmp .eq 5, 3) := by decide +kernel
theorem dL_law_1118 : decode cL_law 1118 = .ok (.iconst 0, 1) := by decide +kernel
theorem dL_law_1119 : decode cL_law 1119 = .ok (.ireturn, 1) := by decide +kernel
theorem dL_law_1120 : decode cL_law 1120 = .ok (.iinc 3 8, 3) := by decide +kernel
theorem dL_law_1123 : decode cL_law 1123 = .ok (.goto (-1105), 3) := by decide +kernel
theorem dL_law_1126 : decode cL_law 1126 = .ok (.iconst 1, 1) := by decide +kernel
theorem dL_law_1127 : decode cL_law 1127 = .ok (.ireturn, 1) := by decide +kernel
end
section
/-! A FIXED WORLD: after the constructors no object is made; memory is one function M of a cell's number and a place;
    numbers are whole numbers of which an int holds the rest modulo 2^32 -/
abbrev gMem : Type := Nat → Int → Int
def gSt (M : gMem) (k : Nat) (i v : Int) : gMem := fun k' i' => if k' = k ∧ i' = i then v else M k' i'
def gCp (M : gMem) (a b : Nat) (sp dp n : Int) : gMem := fun k j => if k = b ∧ dp ≤ j ∧ j < dp + n then M a (sp + (j - dp)) else M k j
/-- a cell: an array of numbers (its type's place, length), an array of cells (type's place, length, the first one's number), an object (class, fields: none a number, some k the cell k) -/
abbrev gD : Type := (Nat × Nat) ⊕ ((Nat × Nat × Nat) ⊕ (Nat × List (Option Nat)))
abbrev gLay : Type := List gD
abbrev gY : Type := Program × Launch × Env × Room × State × MethodId × Array Value × List Frame × Method × Code × (State → Prop)
abbrev gZ : Type := va_G × List vw_C × List (ClassId × FieldType) × (Nat → Nat) × (Nat → ClassId) × List (String × Nat × MethodName × String)
abbrev vi (a : Int) : Value := .int (Int32.ofInt a)
abbrev vr (z : gZ) (k : Nat) : Value := .ref (z.2.2.2.1 k)
abbrev rg (a : Int) : Prop := -2147483648 ≤ a ∧ a < 2147483648
/-- what an array of the type's place t keeps of a number: 0 int, 1 byte, 2 boolean -/
def gEl (t : Nat) (v : Int) : Int := if t = 0 then v else if t = 1 then v.bmod 256 else v % 2
def gFs (z : gZ) (M : gMem) (k : Nat) : Nat → List (Option Nat) → List Value
  | _, [] => []
  | j, none :: r => vi (M k j) :: gFs z M k (j + 1) r
  | j, some c :: r => vr z c :: gFs z M k (j + 1) r
def gE (z : gZ) (M : gMem) (k : Nat) (d : gD) : va_E := match d with
  | .inl (t, n) => .inl (z.2.2.2.2.1 t, n, .inl (fun j => Int32.ofInt (gEl t (M k j))))
  | .inr (.inl (t, n, b)) => .inl (z.2.2.2.2.1 t, n, .inr (.inr (.inr (.inr (fun j => if j < n then some (z.2.2.2.1 (b + j)) else none)))))
  | .inr (.inr (ci, fs)) => .inr (ci, gFs z M k 0 fs)
def gWd (z : gZ) (L : gLay) (M : gMem) : va_W := L.mapIdx (fun k d => (z.2.2.2.1 k, gE z M k d))
def gAd (z : gZ) (L : gLay) (sz : Nat) : Nat → Prop := fun a => (∃ k, k < L.length ∧ a = z.2.2.2.1 k) ∨ sz ≤ a
def gNs (z : gZ) (U : State) : Prop := ∀ t ∈ z.2.2.2.2.2, va_Nw (.methodLinkNest t.1 t.2.1 t.2.2.1 t.2.2.2) U
def gH (z : gZ) (L : gLay) (A : Nat → Prop) (M : gMem) (H : Heap) : Prop := va_P z.1 z.2.1 (gWd z L M) H ∧ va_D A (gWd z L M)
def gPre (z : gZ) (L : gLay) (M : gMem) (sz : Nat) (U : State) : Prop := U.heap.size = sz ∧ va_K z.1 z.2.1 z.2.2.1 U ∧ gNs z U ∧ gH z L (fun _ => True) M U.heap
def gQI (z : gZ) (L : gLay) (P : Int → gMem → Prop) (sz : Nat) : Array Value → State → Outcome → State → Prop := va_Qi (fun r M' => ∃ v, r = Int32.ofInt v ∧ P v M') (fun M' t => gH z L (gAd z L sz) M' t.heap) (gAd z L sz)
def gQV (z : gZ) (L : gLay) (P : gMem → Prop) (sz : Nat) : Array Value → State → Outcome → State → Prop := va_Qv P (fun M' t => gH z L (gAd z L sz) M' t.heap) (gAd z L sz)
def gMI (l : Launch) (z : gZ) (L : gLay) (y : MethodName) (ws : List Cond) (rm : Room) (vs : List Value) (M : gMem) (P : Int → gMem → Prop) : Prop := ∀ sz, Met l y ws rm (va_Pc vs (gPre z L M sz)) (gQI z L P sz) 0 0 (gAd z L sz)
def gMV (l : Launch) (z : gZ) (L : gLay) (y : MethodName) (ws : List Cond) (rm : Room) (vs : List Value) (M : gMem) (P : gMem → Prop) : Prop := ∀ sz, Met l y ws rm (va_Pc vs (gPre z L M sz)) (gQV z L P sz) 0 0 (gAd z L sz)
/-! locals -/
def gPr : Nat → List (Option Value) → List (Nat × Value)
  | _, [] => []
  | i, none :: r => gPr (i + 1) r
  | i, some v :: r => (i, v) :: gPr (i + 1) r
theorem gPr_mem : ∀ (lc : List (Option Value)) (i j : Nat) (w : Value), (j, w) ∈ gPr i lc ↔ i ≤ j ∧ lc[j - i]? = some (some w)
  | [], i, j, w => by simp [gPr]
  | none :: r, i, j, w => by
    rw [gPr, gPr_mem r (i + 1) j w]
    constructor
    · rintro ⟨h1, h2⟩
      refine ⟨by omega, ?_⟩
      rw [show j - i = (j - (i + 1)) + 1 by omega]
      simpa using h2
    · rintro ⟨h1, h2⟩
      rcases Nat.lt_or_ge i j with h | h
      · refine ⟨h, ?_⟩
        rw [show j - i = (j - (i + 1)) + 1 by omega] at h2
        simpa using h2
      · rw [show j - i = 0 by omega] at h2
        simp at h2
  | some v :: r, i, j, w => by
    rw [gPr, List.mem_cons, gPr_mem r (i + 1) j w]
    constructor
    · rintro (h | ⟨h1, h2⟩)
      · cases h
        exact ⟨Nat.le_refl _, by simp⟩
      · refine ⟨by omega, ?_⟩
        rw [show j - i = (j - (i + 1)) + 1 by omega]
        simpa using h2
    · rintro ⟨h1, h2⟩
      rcases Nat.lt_or_ge i j with h | h
      · refine Or.inr ⟨h, ?_⟩
        rw [show j - i = (j - (i + 1)) + 1 by omega] at h2
        simpa using h2
      · have e : j = i := by omega
        subst e
        simp at h2
        exact Or.inl (by rw [h2])
def gLs (ls : Array Slot) (lc : List (Option Value)) : Prop := lv_has ls lc.length (gPr 0 lc) ∧ ∀ v, some v ∈ lc → v.category = 1
theorem gLs.at {ls : Array Slot} {lc : List (Option Value)} (h : gLs ls lc) {i : Nat} {v : Value} (hi : lc[i]? = some (some v)) : ls[i]? = some (.val v) :=
  h.1.2.2 (i, v) ((gPr_mem lc 0 i v).mpr ⟨Nat.zero_le _, hi⟩)
theorem gLs.set {ls ls' : Array Slot} {lc : List (Option Value)} (h : gLs ls lc) {i : Nat} {v : Value} (hv : v.category = 1)
    (h' : lv_has ls' lc.length ((i, v) :: (gPr 0 lc).filter (fun q => !(q.1 == i) && !(q.1 + 1 == i && q.2.category == 2)))) : gLs ls' (lc.set i (some v)) := by
  have hc : ∀ w, some w ∈ lc.set i (some v) → w.category = 1 := fun w hw => by
    rcases List.mem_or_eq_of_mem_set hw with g | g
    · exact h.2 w g
    · cases g; exact hv
  refine ⟨⟨by rw [List.length_set]; exact h'.1, h'.2.1, fun q hq => ?_⟩, hc⟩
  obtain ⟨j, w⟩ := q
  have g := ((gPr_mem _ 0 j w).mp hq).2
  rw [Nat.sub_zero, List.getElem?_set] at g
  refine h'.2.2 (j, w) ?_
  by_cases e : i = j
  · rw [if_pos e] at g
    split at g
    · cases g
      subst e
      exact List.mem_cons_self
    · cases g
  · rw [if_neg e] at g
    refine List.mem_cons_of_mem _ (List.mem_filter.mpr ⟨(gPr_mem lc 0 j w).mpr ⟨Nat.zero_le _, g⟩, ?_⟩)
    have hcw := h.2 w (List.mem_of_getElem? g)
    simp [hcw]
    exact fun q => e q.symm
def gLe : List (Option Value) → List (Option Value) → Prop
  | [], [] => True
  | none :: a, _ :: b => gLe a b
  | some v :: a, w :: b => w = some v ∧ gLe a b
  | _, _ => False
theorem gLe_spec : ∀ (a b : List (Option Value)), gLe a b → a.length = b.length ∧ ∀ (i : Nat) (v : Value), a[i]? = some (some v) → b[i]? = some (some v)
  | [], [], _ => ⟨rfl, fun i v h => by simp at h⟩
  | none :: a, _ :: b, h => by
    obtain ⟨h1, h2⟩ := gLe_spec a b h
    refine ⟨by simp [h1], fun i v hi => ?_⟩
    cases i with
    | zero => simp at hi
    | succ i => simpa using h2 i v (by simpa using hi)
  | some v :: a, w :: b, h => by
    obtain ⟨h0, h⟩ := h
    obtain ⟨h1, h2⟩ := gLe_spec a b h
    refine ⟨by simp [h1], fun i v hi => ?_⟩
    cases i with
    | zero => simp at hi ⊢; rw [h0, hi]
    | succ i => simpa using h2 i v (by simpa using hi)
  | [], _ :: _, h => h.elim
  | none :: _, [], h => h.elim
  | some _ :: _, [], h => h.elim
theorem gLs.sub {ls : Array Slot} {a b : List (Option Value)} (h : gLs ls b) (hs : gLe a b) : gLs ls a := by
  obtain ⟨h1, h2⟩ := gLe_spec a b hs
  refine ⟨⟨by rw [h1]; exact h.1.1, h.1.2.1, fun q hq => ?_⟩, fun v hv => ?_⟩
  · obtain ⟨j, w⟩ := q
    exact h.at (h2 j w (by simpa using ((gPr_mem a 0 j w).mp hq).2))
  · obtain ⟨i, hi⟩ := List.getElem?_of_mem hv
    exact h.2 v (List.mem_of_getElem? (h2 i v hi))
theorem gPr_args : ∀ (vs : List Value) (n i : Nat), (∀ v ∈ vs, v.category = 1) → gPr i (vs.map some ++ List.replicate n none) = lv_args i vs
  | [], n, i, _ => by
    have : ∀ n i, gPr i (List.replicate n none) = [] := fun n => by
      induction n with
      | zero => intro i; rfl
      | succ n ih => intro i; rw [List.replicate_succ, gPr, ih]
    simpa [lv_args] using this n i
  | v :: vs, n, i, h => by
    have hv := h v List.mem_cons_self
    rw [List.map_cons, List.cons_append, gPr, lv_args, if_neg (by rw [hv]; decide), gPr_args vs n (i + 1) (fun w hw => h w (List.mem_cons_of_mem _ hw))]
theorem gSl_len : ∀ (vs : List Value), (∀ v ∈ vs, v.category = 1) → (lg_sl vs).length = vs.length
  | [], _ => rfl
  | v :: vs, h => by
    have hv := h v List.mem_cons_self
    have ih := gSl_len vs (fun w hw => h w (List.mem_cons_of_mem _ hw))
    simp only [lg_sl, List.flatMap_cons, List.length_append] at ih ⊢
    rw [ih]
    simp [hv]
    omega
end
section
/-! ONE INSTRUCTION A ROW, over the fixed world -/
def gC (y : gY) (z : gZ) (l : Launch) (cc : ByteArray) (own : String) (nL : Nat) (Ts : List Cond) (rm : Room) : Prop := match y with
  | (p, l', _, R, s, m, args, _, meth, c, _) => p.tables.exec = Jvm.exec ∧ c.code = cc ∧ c.maxLocals = nL ∧ s.vm.findClass own = some m.cls ∧ (∀ w ∈ Ts, w.before args s = true) ∧ va_K z.1 z.2.1 z.2.2.1 s ∧ gNs z s ∧ R = rm ∧ meth.locks = false ∧ l' = l
def gW (y : gY) (z : gZ) (L : gLay) (pc : Nat) (lc : List (Option Value)) (st : List Value) (M : gMem) : Prop := match y with
  | (p, l, e, R, s, m, args, below, meth, c, Q) => ∀ (H : Heap) (locs : List Loc) (ls : Array Slot), gH z L (gAd z L s.heap.size) M H → va_S (gAd z L s.heap.size) s.heap H locs → gLs ls lc → W p l e R s m args below meth c H locs 0 0 Q (F0 m pc ls st)
section GS
variable {y : gY} {z : gZ} {L : gLay} {l : Launch} {cc : ByteArray} {own : String} {nL : Nat} {Ts : List Cond} {rm : Room} {pc : Nat} {lc : List (Option Value)} {st : List Value} {M : gMem}
/-- a step that reads and writes no cell and no local -/
theorem g_go {pc' : Nat} {st' : List Value} (hC : gC y z l cc own nL Ts rm)
    (h : ∀ (p : Program) (l : Launch) (e : Env) (R : Room) (s : State) (m : MethodId) (args : Array Value) (below : List Frame) (meth : Method) (c : Code) (Q : State → Prop) (H : Heap) (locs : List Loc) (ls : Array Slot), p.tables.exec = Jvm.exec → c.code = cc → s.vm.findClass own = some m.cls → (∀ w ∈ Ts, w.before args s = true) → gLs ls lc → W p l e R s m args below meth c H locs 0 0 Q (F0 m pc' ls st') → W p l e R s m args below meth c H locs 0 0 Q (F0 m pc ls st))
    (k : gW y z L pc' lc st' M) : gW y z L pc lc st M := by
  obtain ⟨p, l', e, R, s, m, args, below, meth, c, Q⟩ := y
  obtain ⟨hx, hb, -, hown, hts, -⟩ := hC
  intro H locs ls hH hS hl
  exact h p l' e R s m args below meth c Q H locs ls hx hb hown hts hl (k H locs ls hH hS hl)
theorem g_br {pc1 pc2 : Nat} {st1 : List Value} {A : Prop} (hC : gC y z l cc own nL Ts rm)
    (h : ∀ (p : Program) (l : Launch) (e : Env) (R : Room) (s : State) (m : MethodId) (args : Array Value) (below : List Frame) (meth : Method) (c : Code) (Q : State → Prop) (H : Heap) (locs : List Loc) (ls : Array Slot), p.tables.exec = Jvm.exec → c.code = cc → (A → W p l e R s m args below meth c H locs 0 0 Q (F0 m pc1 ls st1)) → (¬ A → W p l e R s m args below meth c H locs 0 0 Q (F0 m pc2 ls st1)) → W p l e R s m args below meth c H locs 0 0 Q (F0 m pc ls st))
    (k1 : A → gW y z L pc1 lc st1 M) (k2 : ¬ A → gW y z L pc2 lc st1 M) : gW y z L pc lc st M := by
  obtain ⟨p, l', e, R, s, m, args, below, meth, c, Q⟩ := y
  obtain ⟨hx, hb, -⟩ := hC
  intro H locs ls hH hS hl
  exact h p l' e R s m args below meth c Q H locs ls hx hb (fun q => k1 q H locs ls hH hS hl) (fun q => k2 q H locs ls hH hS hl)
theorem g_sub {lc' : List (Option Value)} (hs : gLe lc' lc) (k : gW y z L pc lc' st M) : gW y z L pc lc st M := by
  obtain ⟨p, l', e, R, s, m, args, below, meth, c, Q⟩ := y
  intro H locs ls hH hS hl
  exact k H locs ls hH hS (hl.sub hs)
theorem g_iconst (hC : gC y z l cc own nL Ts rm) {n : Int} (hd : decode cc pc = .ok (.iconst n, 1)) (k : gW y z L (pc + 1) lc (vi n :: st) M) : gW y z L pc lc st M :=
  g_go hC (fun _ _ _ _ _ _ _ _ _ _ _ _ _ _ hx hb _ _ _ w => lv_iconst hx hb hd rfl w) k
theorem g_bipush (hC : gC y z l cc own nL Ts rm) {n : Int} (hd : decode cc pc = .ok (.bipush n, 2)) (hv : (Int8.ofInt n).toInt32 = Int32.ofInt n) (k : gW y z L (pc + 2) lc (vi n :: st) M) : gW y z L pc lc st M :=
  g_go hC (fun _ _ _ _ _ _ _ _ _ _ _ _ _ _ hx hb _ _ _ w => lv_bipush hx hb hd hv w) k
theorem g_sipush (hC : gC y z l cc own nL Ts rm) {n : Int} (hd : decode cc pc = .ok (.sipush n, 3)) (hv : (Int16.ofInt n).toInt32 = Int32.ofInt n) (k : gW y z L (pc + 3) lc (vi n :: st) M) : gW y z L pc lc st M :=
  g_go hC (fun _ _ _ _ _ _ _ _ _ _ _ _ _ _ hx hb _ _ _ w => lv_sipush hx hb hd hv w) k
theorem g_ldc (hC : gC y z l cc own nL Ts rm) {ix : Nat} {v : Int32} {n : Int} (hd : decode cc pc = .ok (.ldc ix, 2)) (hw : Cond.constant own ix v ∈ Ts) (hv : v = Int32.ofInt n) (k : gW y z L (pc + 2) lc (vi n :: st) M) : gW y z L pc lc st M :=
  g_go hC (fun _ _ _ _ _ _ _ _ _ _ _ _ _ _ hx hb ho ht _ w => lv_ldc hx hb ho (ht _ hw) hd (by rw [hv]; exact w)) k
theorem g_ldcw (hC : gC y z l cc own nL Ts rm) {ix : Nat} {v : Int32} {n : Int} (hd : decode cc pc = .ok (.ldc_w ix, 3)) (hw : Cond.constant own ix v ∈ Ts) (hv : v = Int32.ofInt n) (k : gW y z L (pc + 3) lc (vi n :: st) M) : gW y z L pc lc st M :=
  g_go hC (fun _ _ _ _ _ _ _ _ _ _ _ _ _ _ hx hb ho ht _ w => lv_ldcw hx hb ho (ht _ hw) hd (by rw [hv]; exact w)) k
theorem g_iload (hC : gC y z l cc own nL Ts rm) {i : Nat} {a : Int} (hd : decode cc pc = .ok (.iload i, 2)) (hi : lc[i]? = some (some (vi a))) (k : gW y z L (pc + 2) lc (vi a :: st) M) : gW y z L pc lc st M :=
  g_go hC (fun _ _ _ _ _ _ _ _ _ _ _ _ _ _ hx hb _ _ hl w => lv_iload hx hb hd (hl.at hi) w) k
theorem g_iload_n (hC : gC y z l cc own nL Ts rm) {q : Fin 4} {i : Nat} {a : Int} (hd : decode cc pc = .ok (.iload_n q, 1)) (hq : (q : Nat) = i) (hi : lc[i]? = some (some (vi a))) (k : gW y z L (pc + 1) lc (vi a :: st) M) : gW y z L pc lc st M :=
  g_go hC (fun _ _ _ _ _ _ _ _ _ _ _ _ _ _ hx hb _ _ hl w => lv_iload_n hx hb hd hq (hl.at hi) w) k
theorem g_aload (hC : gC y z l cc own nL Ts rm) {i : Nat} {a : Nat} (hd : decode cc pc = .ok (.aload i, 2)) (hi : lc[i]? = some (some (vr z a))) (k : gW y z L (pc + 2) lc (vr z a :: st) M) : gW y z L pc lc st M :=
  g_go hC (fun _ _ _ _ _ _ _ _ _ _ _ _ _ _ hx hb _ _ hl w => lv_aload hx hb hd (hl.at hi) w) k
theorem g_aload_n (hC : gC y z l cc own nL Ts rm) {q : Fin 4} {i : Nat} {a : Nat} (hd : decode cc pc = .ok (.aload_n q, 1)) (hq : (q : Nat) = i) (hi : lc[i]? = some (some (vr z a))) (k : gW y z L (pc + 1) lc (vr z a :: st) M) : gW y z L pc lc st M :=
  g_go hC (fun _ _ _ _ _ _ _ _ _ _ _ _ _ _ hx hb _ _ hl w => lv_aload_n hx hb hd hq (hl.at hi) w) k
theorem g_istore (hC : gC y z l cc own nL Ts rm) {i : Nat} {a : Int} (hd : decode cc pc = .ok (.istore i, 2)) (hi : i < lc.length) (k : gW y z L (pc + 2) (lc.set i (some (vi a))) st M) : gW y z L pc lc (vi a :: st) M := by
  obtain ⟨p, l', e, R, s, m, args, below, meth, c, Q⟩ := y
  obtain ⟨hx, hb, -⟩ := hC
  intro H locs ls hH hS hl
  exact lv_istore hx hb hd hl.1 hi rfl (fun ls' h' => k H locs ls' hH hS (hl.set rfl h'))
theorem g_istore_n (hC : gC y z l cc own nL Ts rm) {q : Fin 4} {i : Nat} {a : Int} (hd : decode cc pc = .ok (.istore_n q, 1)) (hq : (q : Nat) = i) (hi : i < lc.length) (k : gW y z L (pc + 1) (lc.set i (some (vi a))) st M) : gW y z L pc lc (vi a :: st) M := by
  obtain ⟨p, l', e, R, s, m, args, below, meth, c, Q⟩ := y
  obtain ⟨hx, hb, -⟩ := hC
  intro H locs ls hH hS hl
  exact lv_istore_n hx hb hd hq hl.1 hi rfl (fun ls' h' => k H locs ls' hH hS (hl.set rfl h'))
theorem gPr_at {lc : List (Option Value)} {i : Nat} {v : Value} (h : lc[i]? = some (some v)) : ∃ j : Nat, (gPr 0 lc)[j]? = some (i, v) :=
  List.getElem?_of_mem ((gPr_mem lc 0 i v).mpr ⟨Nat.zero_le _, h⟩)
theorem g_iinc (hC : gC y z l cc own nL Ts rm) {i : Nat} {a n : Int} (hd : decode cc pc = .ok (.iinc i n, 3)) (hi : lc[i]? = some (some (vi a))) (k : gW y z L (pc + 3) (lc.set i (some (vi (a + n)))) st M) : gW y z L pc lc st M := by
  obtain ⟨p, l', e, R, s, m, args, below, meth, c, Q⟩ := y
  obtain ⟨hx, hb, -⟩ := hC
  intro H locs ls hH hS hl
  obtain ⟨j, hj⟩ := gPr_at hi
  exact lv_iinc (v := Int32.ofInt (a + n)) hx hb hd hl.1 hj (Int32.ofInt_add a n).symm (List.getElem?_eq_some_iff.mp hi).1 rfl (fun ls' h' => k H locs ls' hH hS (hl.set rfl h'))
theorem g_dup (hC : gC y z l cc own nL Ts rm) {v : Value} (hd : decode cc pc = .ok (.dup, 1)) (hv : v.category = 1) (k : gW y z L (pc + 1) lc (v :: v :: st) M) : gW y z L pc lc (v :: st) M :=
  g_go hC (fun _ _ _ _ _ _ _ _ _ _ _ _ _ _ hx hb _ _ _ w => lv_dup hx hb hd hv w) k
theorem g_dup2 (hC : gC y z l cc own nL Ts rm) {v u : Value} (hd : decode cc pc = .ok (.dup2, 1)) (hv : v.category = 1) (hu : u.category = 1) (k : gW y z L (pc + 1) lc (v :: u :: v :: u :: st) M) : gW y z L pc lc (v :: u :: st) M :=
  g_go hC (fun _ _ _ _ _ _ _ _ _ _ _ _ _ _ hx hb _ _ _ w => lv_dup2_11 hx hb hd hv hu w) k
theorem g_pop (hC : gC y z l cc own nL Ts rm) {v : Value} (hd : decode cc pc = .ok (.pop, 1)) (hv : v.category = 1) (k : gW y z L (pc + 1) lc st M) : gW y z L pc lc (v :: st) M :=
  g_go hC (fun _ _ _ _ _ _ _ _ _ _ _ _ _ _ hx hb _ _ _ w => lv_pop hx hb hd hv w) k
theorem g_goto (hC : gC y z l cc own nL Ts rm) {off : Int} (tgt : Nat) (hd : decode cc pc = .ok (.goto off, 3)) (ht : (pc : Int) + off = (tgt : Int)) (k : gW y z L tgt lc st M) : gW y z L pc lc st M :=
  g_go hC (fun _ _ _ _ _ _ _ _ _ _ _ _ _ _ hx hb _ _ _ w => lv_goto hx hb hd ht w) k
theorem g_iadd (hC : gC y z l cc own nL Ts rm) {a b : Int} (hd : decode cc pc = .ok (.iadd, 1)) (k : gW y z L (pc + 1) lc (vi (a + b) :: st) M) : gW y z L pc lc (vi b :: vi a :: st) M :=
  g_go hC (fun _ _ _ _ _ _ _ _ _ _ _ _ _ _ hx hb _ _ _ w => lv_iadd hx hb hd (by rw [← Int32.ofInt_add]; exact w)) k
theorem g_isub (hC : gC y z l cc own nL Ts rm) {a b : Int} (hd : decode cc pc = .ok (.isub, 1)) (k : gW y z L (pc + 1) lc (vi (a - b) :: st) M) : gW y z L pc lc (vi b :: vi a :: st) M :=
  g_go hC (fun _ _ _ _ _ _ _ _ _ _ _ _ _ _ hx hb _ _ _ w => lv_isub hx hb hd (by rw [← Int32.ofInt_sub]; exact w)) k
theorem g_imul (hC : gC y z l cc own nL Ts rm) {a b : Int} (hd : decode cc pc = .ok (.imul, 1)) (k : gW y z L (pc + 1) lc (vi (a * b) :: st) M) : gW y z L pc lc (vi b :: vi a :: st) M :=
  g_go hC (fun _ _ _ _ _ _ _ _ _ _ _ _ _ _ hx hb _ _ _ w => lv_imul hx hb hd (by rw [← Int32.ofInt_mul]; exact w)) k
/-! numbers -/
theorem gt {a : Int} (h : rg a) : (Int32.ofInt a).toInt = a := Int32.toInt_ofInt_of_le h.1 h.2
theorem gt_eq {a b : Int} (ha : rg a) (hb : rg b) : Int32.ofInt a = Int32.ofInt b ↔ a = b := ⟨fun h => by rw [← gt ha, ← gt hb, h], fun h => by rw [h]⟩
theorem gt_lt {a b : Int} (ha : rg a) (hb : rg b) : Int32.ofInt a < Int32.ofInt b ↔ a < b := by rw [Int32.lt_iff_toInt_lt, gt ha, gt hb]
theorem gt_le {a b : Int} (ha : rg a) (hb : rg b) : Int32.ofInt a ≤ Int32.ofInt b ↔ a ≤ b := by rw [Int32.le_iff_toInt_le, gt ha, gt hb]
def band (a b : Int) : Int := (Int32.ofInt a &&& Int32.ofInt b).toInt
theorem g_iand (hC : gC y z l cc own nL Ts rm) {a b : Int} (hd : decode cc pc = .ok (.iand, 1)) (k : gW y z L (pc + 1) lc (vi (band a b) :: st) M) : gW y z L pc lc (vi b :: vi a :: st) M :=
  g_go hC (fun _ _ _ _ _ _ _ _ _ _ _ _ _ _ hx hb _ _ _ w => lv_iand hx hb hd (by rw [← Int32.ofInt_toInt (Int32.ofInt a &&& Int32.ofInt b)]; exact w)) k
theorem gt_div {a b : Int} (ha : rg a) (hb : rg b) : Int32.ofInt a / Int32.ofInt b = Int32.ofInt (a.tdiv b) := by
  have e : Int32.maxValue.toInt = 2147483647 := rfl
  exact (Int32.ofInt_tdiv (by exact ha.1) (by rw [e]; have := ha.2; omega) (by exact hb.1) (by rw [e]; have := hb.2; omega)).symm
theorem g_idiv (hC : gC y z l cc own nL Ts rm) {a b : Int} (ha : rg a) (hb' : rg b) (h0 : b ≠ 0) (hd : decode cc pc = .ok (.idiv, 1)) (k : gW y z L (pc + 1) lc (vi (a.tdiv b) :: st) M) : gW y z L pc lc (vi b :: vi a :: st) M :=
  g_go hC (fun _ _ _ _ _ _ _ _ _ _ _ _ _ _ hx hb _ _ _ w => lv_idiv hx hb hd (fun q => h0 ((gt_eq (b := 0) hb' (by decide)).mp q)) (by rw [gt_div ha hb']; exact w)) k
theorem g_irem (hC : gC y z l cc own nL Ts rm) {a b : Int} (ha : rg a) (hb' : rg b) (h0 : b ≠ 0) (hd : decode cc pc = .ok (.irem, 1)) (k : gW y z L (pc + 1) lc (vi (a.tmod b) :: st) M) : gW y z L pc lc (vi b :: vi a :: st) M :=
  g_go hC (fun _ _ _ _ _ _ _ _ _ _ _ _ _ _ hx hb _ _ _ w => lv_irem hx hb hd (fun q => h0 ((gt_eq (b := 0) hb' (by decide)).mp q)) (by
    rw [gt_div ha hb', ← Int32.ofInt_mul, ← Int32.ofInt_sub, show a - a.tdiv b * b = a.tmod b by have := Int.tmod_add_tdiv_mul a b; omega]; exact w)) k
def shr (a n : Int) : Int := a / 2 ^ n.toNat
def ushr (a n : Int) : Int := (a % 4294967296) / 2 ^ n.toNat
def shl (a n : Int) : Int := a * 2 ^ n.toNat
theorem gt_amt : ∀ n : Nat, n < 32 → ((Int32.ofInt n &&& 31).toBitVec.smod 32).toNat = n := by decide
theorem gt_amu : ∀ n : Nat, n < 32 → (((Int32.ofInt n).toUInt32 &&& Int32.toUInt32 31).toBitVec % 32).toNat = n := by decide
theorem gt_nat (a : Int) : ((Int32.ofInt a).toBitVec.toNat : Int) = a % 4294967296 := by
  show ((BitVec.ofInt 32 a).toNat : Int) = _
  rw [BitVec.toNat_ofInt]
  omega
theorem gt_shr {a n : Int} (ha : rg a) (hn : 0 ≤ n ∧ n < 32) : Int32.ofInt a >>> (Int32.ofInt n &&& 31) = Int32.ofInt (shr a n) := by
  apply Int32.toInt_inj.mp
  obtain ⟨k, rfl⟩ := Int.eq_ofNat_of_zero_le hn.1
  have hk : k < 32 := by omega
  rw [pk_shr _ _ k (gt_amt k hk), gt ha]
  have e : shr a k = a >>> k := by rw [shr, Int.shiftRight_eq_div_pow]; simp
  have h0 : rg (shr a k) := by
    have h1 : (0 : Int) < 2 ^ k := Int.pow_pos (by decide)
    have e2 : shr a k = a / 2 ^ k := by rw [shr]; simp
    rw [e2]
    constructor
    · exact (Int.le_ediv_iff_mul_le h1).mpr (by
        have : (1 : Int) ≤ 2 ^ k := h1
        have := ha.1
        calc (-2147483648 : Int) * 2 ^ k ≤ -2147483648 * 1 := by
              apply Int.mul_le_mul_of_nonpos_left <;> omega
          _ ≤ a := by omega)
    · by_cases hp : 0 ≤ a
      · exact Int.lt_of_le_of_lt (Int.ediv_le_self _ hp) ha.2
      · exact Int.lt_trans (Int.ediv_neg_of_neg_of_pos (by omega) h1) (by decide)
  rw [gt h0, e]
theorem gt_shl {a n : Int} (hn : 0 ≤ n ∧ n < 32) : Int32.ofInt a <<< (Int32.ofInt n &&& 31) = Int32.ofInt (shl a n) := by
  obtain ⟨k, rfl⟩ := Int.eq_ofNat_of_zero_le hn.1
  have hk : k < 32 := by omega
  apply Int32.toBitVec_inj.mp
  apply BitVec.eq_of_toNat_eq
  rw [pk_shl _ _ k (gt_amt k hk)]
  apply Int.ofNat.inj
  show ((((Int32.ofInt a).toBitVec.toNat * 2 ^ k % 4294967296 : Nat)) : Int) = (((Int32.ofInt (shl a k)).toBitVec.toNat : Nat) : Int)
  rw [gt_nat (shl a k), Int.natCast_emod, Int.natCast_mul, gt_nat a, shl, Int.natCast_pow, Int.toNat_natCast]
  show (a % 4294967296 * 2 ^ k) % 4294967296 = (a * 2 ^ k) % 4294967296
  rw [Int.mul_emod, Int.emod_emod, ← Int.mul_emod]
theorem gt_ushr {a n : Int} (hn : 0 ≤ n ∧ n < 32) : ((Int32.ofInt a).toUInt32 >>> ((Int32.ofInt n).toUInt32 &&& Int32.toUInt32 31)).toInt32 = Int32.ofInt (ushr a n) := by
  obtain ⟨k, rfl⟩ := Int.eq_ofNat_of_zero_le hn.1
  have hk : k < 32 := by omega
  apply Int32.toBitVec_inj.mp
  apply BitVec.eq_of_toNat_eq
  rw [pk_ushr _ _ k (gt_amu k hk)]
  apply Int.ofNat.inj
  show ((((Int32.ofInt a).toBitVec.toNat / 2 ^ k : Nat)) : Int) = (((Int32.ofInt (ushr a k)).toBitVec.toNat : Nat) : Int)
  rw [gt_nat (ushr a k), Int.natCast_ediv, gt_nat a, ushr, Int.natCast_pow]
  have h1 : (0 : Int) < 2 ^ k := Int.pow_pos (by decide)
  have h2 : 0 ≤ a % 4294967296 := by omega
  have h3 : a % 4294967296 < 4294967296 := by omega
  have h4 := Int.ediv_le_self (2 ^ k) h2
  have h5 := Int.ediv_nonneg h2 (Int.le_of_lt h1)
  simp only [Int.toNat_natCast]
  rw [Int.emod_eq_of_lt h5 (by omega)]
  rfl
theorem g_ishr (hC : gC y z l cc own nL Ts rm) {a n : Int} (ha : rg a) (hn : 0 ≤ n ∧ n < 32) (hd : decode cc pc = .ok (.ishr, 1)) (k : gW y z L (pc + 1) lc (vi (shr a n) :: st) M) : gW y z L pc lc (vi n :: vi a :: st) M :=
  g_go hC (fun _ _ _ _ _ _ _ _ _ _ _ _ _ _ hx hb _ _ _ w => lv_ishr hx hb hd (by rw [gt_shr ha hn]; exact w)) k
theorem g_ishl (hC : gC y z l cc own nL Ts rm) {a n : Int} (hn : 0 ≤ n ∧ n < 32) (hd : decode cc pc = .ok (.ishl, 1)) (k : gW y z L (pc + 1) lc (vi (shl a n) :: st) M) : gW y z L pc lc (vi n :: vi a :: st) M :=
  g_go hC (fun _ _ _ _ _ _ _ _ _ _ _ _ _ _ hx hb _ _ _ w => lv_ishl hx hb hd (by rw [gt_shl hn]; exact w)) k
theorem g_iushr (hC : gC y z l cc own nL Ts rm) {a n : Int} (hn : 0 ≤ n ∧ n < 32) (hd : decode cc pc = .ok (.iushr, 1)) (k : gW y z L (pc + 1) lc (vi (ushr a n) :: st) M) : gW y z L pc lc (vi n :: vi a :: st) M :=
  g_go hC (fun _ _ _ _ _ _ _ _ _ _ _ _ _ _ hx hb _ _ _ w => lv_iushr hx hb hd (gt_ushr hn) w) k
theorem gt_byte (a : Int) : (Int32.ofInt a).toInt8.toInt32 = Int32.ofInt (a.bmod 256) := by
  apply Int32.toInt_inj.mp
  have h1 := Int.le_bmod (x := a) (m := 256) (by decide)
  have h2 := Int.bmod_lt (x := a) (m := 256) (by decide)
  rw [gt ⟨by omega, by omega⟩]
  rw [Int8.toInt_toInt32, Int32.toInt_toInt8, Int32.toInt_ofInt]
  exact Int.bmod_bmod_of_dvd (by decide)
theorem g_i2b (hC : gC y z l cc own nL Ts rm) {a : Int} (hd : decode cc pc = .ok (.i2b, 1)) (k : gW y z L (pc + 1) lc (vi (a.bmod 256) :: st) M) : gW y z L pc lc (vi a :: st) M :=
  g_go hC (fun _ _ _ _ _ _ _ _ _ _ _ _ _ _ hx hb _ _ _ w => lv_i2b hx hb hd (gt_byte a) w) k
/-! branches: the condition is always a = b, or a < b (of two numbers, or of one and 0) -/
theorem g_00 : (0 : Int32) = Int32.ofInt 0 := rfl
theorem g_ceq (hC : gC y z l cc own nL Ts rm) {a b off : Int} (tgt : Nat) (ha : rg a) (hb' : rg b) (hd : decode cc pc = .ok (.if_icmp .eq off, 3)) (ht : (pc : Int) + off = (tgt : Int)) (k1 : a = b → gW y z L tgt lc st M) (k2 : ¬ a = b → gW y z L (pc + 3) lc st M) : gW y z L pc lc (vi b :: vi a :: st) M :=
  g_br hC (fun _ _ _ _ _ _ _ _ _ _ _ _ _ _ hx hb w1 w2 => lv_icmp_eq hx hb hd ht (fun q => w1 ((gt_eq ha hb').mp q)) (fun q => w2 (fun r => q ((gt_eq ha hb').mpr r)))) k1 k2
theorem g_cne (hC : gC y z l cc own nL Ts rm) {a b off : Int} (tgt : Nat) (ha : rg a) (hb' : rg b) (hd : decode cc pc = .ok (.if_icmp .ne off, 3)) (ht : (pc : Int) + off = (tgt : Int)) (k1 : a = b → gW y z L (pc + 3) lc st M) (k2 : ¬ a = b → gW y z L tgt lc st M) : gW y z L pc lc (vi b :: vi a :: st) M :=
  g_br hC (fun _ _ _ _ _ _ _ _ _ _ _ _ _ _ hx hb w1 w2 => lv_icmp_ne hx hb hd ht (fun q => w2 (fun r => q ((gt_eq ha hb').mpr r))) (fun q => w1 ((gt_eq ha hb').mp q))) k1 k2
theorem g_clt (hC : gC y z l cc own nL Ts rm) {a b off : Int} (tgt : Nat) (ha : rg a) (hb' : rg b) (hd : decode cc pc = .ok (.if_icmp .lt off, 3)) (ht : (pc : Int) + off = (tgt : Int)) (k1 : a < b → gW y z L tgt lc st M) (k2 : ¬ a < b → gW y z L (pc + 3) lc st M) : gW y z L pc lc (vi b :: vi a :: st) M :=
  g_br hC (fun _ _ _ _ _ _ _ _ _ _ _ _ _ _ hx hb w1 w2 => lv_icmp_lt hx hb hd ht (fun q => w1 (by first | exact (gt_lt ha hb').mp q | exact (gt_lt ha hb').mp (Int32.not_le.mp q) | exact fun r => q ((gt_lt ha hb').mpr r) | exact fun r => Int32.not_lt.mpr q ((gt_lt ha hb').mpr r))) (fun q => w2 (by first | exact (gt_lt ha hb').mp q | exact (gt_lt ha hb').mp (Int32.not_le.mp q) | exact fun r => q ((gt_lt ha hb').mpr r) | exact fun r => Int32.not_lt.mpr q ((gt_lt ha hb').mpr r)))) k1 k2
theorem g_cge (hC : gC y z l cc own nL Ts rm) {a b off : Int} (tgt : Nat) (ha : rg a) (hb' : rg b) (hd : decode cc pc = .ok (.if_icmp .ge off, 3)) (ht : (pc : Int) + off = (tgt : Int)) (k1 : a < b → gW y z L (pc + 3) lc st M) (k2 : ¬ a < b → gW y z L tgt lc st M) : gW y z L pc lc (vi b :: vi a :: st) M :=
  g_br hC (fun _ _ _ _ _ _ _ _ _ _ _ _ _ _ hx hb w1 w2 => lv_icmp_ge hx hb hd ht (fun q => w2 (by first | exact (gt_lt ha hb').mp q | exact (gt_lt ha hb').mp (Int32.not_le.mp q) | exact fun r => q ((gt_lt ha hb').mpr r) | exact fun r => Int32.not_lt.mpr q ((gt_lt ha hb').mpr r))) (fun q => w1 (by first | exact (gt_lt ha hb').mp q | exact (gt_lt ha hb').mp (Int32.not_le.mp q) | exact fun r => q ((gt_lt ha hb').mpr r) | exact fun r => Int32.not_lt.mpr q ((gt_lt ha hb').mpr r)))) k1 k2
theorem g_cgt (hC : gC y z l cc own nL Ts rm) {a b off : Int} (tgt : Nat) (ha : rg a) (hb' : rg b) (hd : decode cc pc = .ok (.if_icmp .gt off, 3)) (ht : (pc : Int) + off = (tgt : Int)) (k1 : b < a → gW y z L tgt lc st M) (k2 : ¬ b < a → gW y z L (pc + 3) lc st M) : gW y z L pc lc (vi b :: vi a :: st) M :=
  g_br hC (fun _ _ _ _ _ _ _ _ _ _ _ _ _ _ hx hb w1 w2 => lv_icmp_gt hx hb hd ht (fun q => w1 (by first | exact (gt_lt hb' ha).mp q | exact (gt_lt hb' ha).mp (Int32.not_le.mp q) | exact fun r => q ((gt_lt hb' ha).mpr r) | exact fun r => Int32.not_lt.mpr q ((gt_lt hb' ha).mpr r))) (fun q => w2 (by first | exact (gt_lt hb' ha).mp q | exact (gt_lt hb' ha).mp (Int32.not_le.mp q) | exact fun r => q ((gt_lt hb' ha).mpr r) | exact fun r => Int32.not_lt.mpr q ((gt_lt hb' ha).mpr r)))) k1 k2
theorem g_cle (hC : gC y z l cc own nL Ts rm) {a b off : Int} (tgt : Nat) (ha : rg a) (hb' : rg b) (hd : decode cc pc = .ok (.if_icmp .le off, 3)) (ht : (pc : Int) + off = (tgt : Int)) (k1 : b < a → gW y z L (pc + 3) lc st M) (k2 : ¬ b < a → gW y z L tgt lc st M) : gW y z L pc lc (vi b :: vi a :: st) M :=
  g_br hC (fun _ _ _ _ _ _ _ _ _ _ _ _ _ _ hx hb w1 w2 => lv_icmp_le hx hb hd ht (fun q => w2 (by first | exact (gt_lt hb' ha).mp q | exact (gt_lt hb' ha).mp (Int32.not_le.mp q) | exact fun r => q ((gt_lt hb' ha).mpr r) | exact fun r => Int32.not_lt.mpr q ((gt_lt hb' ha).mpr r))) (fun q => w1 (by first | exact (gt_lt hb' ha).mp q | exact (gt_lt hb' ha).mp (Int32.not_le.mp q) | exact fun r => q ((gt_lt hb' ha).mpr r) | exact fun r => Int32.not_lt.mpr q ((gt_lt hb' ha).mpr r)))) k1 k2
theorem g_ieq (hC : gC y z l cc own nL Ts rm) {a off : Int} (tgt : Nat) (ha : rg a) (hd : decode cc pc = .ok (.ifCond .eq off, 3)) (ht : (pc : Int) + off = (tgt : Int)) (k1 : a = 0 → gW y z L tgt lc st M) (k2 : ¬ a = 0 → gW y z L (pc + 3) lc st M) : gW y z L pc lc (vi a :: st) M :=
  g_br hC (fun _ _ _ _ _ _ _ _ _ _ _ _ _ _ hx hb w1 w2 => lv_if_eq hx hb hd ht (fun q => w1 ((gt_eq (b := 0) ha (by decide)).mp q)) (fun q => w2 (fun r => q ((gt_eq (b := 0) ha (by decide)).mpr r)))) k1 k2
theorem g_ine (hC : gC y z l cc own nL Ts rm) {a off : Int} (tgt : Nat) (ha : rg a) (hd : decode cc pc = .ok (.ifCond .ne off, 3)) (ht : (pc : Int) + off = (tgt : Int)) (k1 : a = 0 → gW y z L (pc + 3) lc st M) (k2 : ¬ a = 0 → gW y z L tgt lc st M) : gW y z L pc lc (vi a :: st) M :=
  g_br hC (fun _ _ _ _ _ _ _ _ _ _ _ _ _ _ hx hb w1 w2 => lv_if_ne hx hb hd ht (fun q => w2 (fun r => q ((gt_eq (b := 0) ha (by decide)).mpr r))) (fun q => w1 ((gt_eq (b := 0) ha (by decide)).mp q))) k1 k2
theorem g_ilt (hC : gC y z l cc own nL Ts rm) {a off : Int} (tgt : Nat) (ha : rg a) (hd : decode cc pc = .ok (.ifCond .lt off, 3)) (ht : (pc : Int) + off = (tgt : Int)) (k1 : a < 0 → gW y z L tgt lc st M) (k2 : ¬ a < 0 → gW y z L (pc + 3) lc st M) : gW y z L pc lc (vi a :: st) M :=
  g_br hC (fun _ _ _ _ _ _ _ _ _ _ _ _ _ _ hx hb w1 w2 => lv_if_lt hx hb hd ht (fun q => w1 ((gt_lt (b := 0) ha (by decide)).mp q)) (fun q => w2 (fun r => by have q2 := (gt_lt ha (b := 0) (by decide)).mpr r; first | exact q q2 | exact Int32.not_lt.mpr q q2))) k1 k2
theorem g_ige (hC : gC y z l cc own nL Ts rm) {a off : Int} (tgt : Nat) (ha : rg a) (hd : decode cc pc = .ok (.ifCond .ge off, 3)) (ht : (pc : Int) + off = (tgt : Int)) (k1 : a < 0 → gW y z L (pc + 3) lc st M) (k2 : ¬ a < 0 → gW y z L tgt lc st M) : gW y z L pc lc (vi a :: st) M :=
  g_br hC (fun _ _ _ _ _ _ _ _ _ _ _ _ _ _ hx hb w1 w2 => lv_if_ge hx hb hd ht (fun q => w2 (fun r => by have q2 := (gt_lt ha (b := 0) (by decide)).mpr r; first | exact q q2 | exact Int32.not_lt.mpr q q2)) (fun q => w1 (by first | exact (gt_lt ha (b := 0) (by decide)).mp q | exact (gt_lt ha (b := 0) (by decide)).mp (Int32.not_le.mp q)))) k1 k2
theorem g_igt (hC : gC y z l cc own nL Ts rm) {a off : Int} (tgt : Nat) (ha : rg a) (hd : decode cc pc = .ok (.ifCond .gt off, 3)) (ht : (pc : Int) + off = (tgt : Int)) (k1 : 0 < a → gW y z L tgt lc st M) (k2 : ¬ 0 < a → gW y z L (pc + 3) lc st M) : gW y z L pc lc (vi a :: st) M :=
  g_br hC (fun _ _ _ _ _ _ _ _ _ _ _ _ _ _ hx hb w1 w2 => lv_if_gt hx hb hd ht (fun q => w1 ((gt_lt (a := 0) (by decide) ha).mp q)) (fun q => w2 (fun r => by have q2 := (gt_lt (a := 0) (by decide) ha).mpr r; first | exact q q2 | exact Int32.not_lt.mpr q q2))) k1 k2
theorem g_ile (hC : gC y z l cc own nL Ts rm) {a off : Int} (tgt : Nat) (ha : rg a) (hd : decode cc pc = .ok (.ifCond .le off, 3)) (ht : (pc : Int) + off = (tgt : Int)) (k1 : 0 < a → gW y z L (pc + 3) lc st M) (k2 : ¬ 0 < a → gW y z L tgt lc st M) : gW y z L pc lc (vi a :: st) M :=
  g_br hC (fun _ _ _ _ _ _ _ _ _ _ _ _ _ _ hx hb w1 w2 => lv_if_le hx hb hd ht (fun q => w2 (fun r => by have q2 := (gt_lt (a := 0) (by decide) ha).mpr r; first | exact q q2 | exact Int32.not_lt.mpr q q2)) (fun q => w1 (by first | exact (gt_lt (a := 0) (by decide) ha).mp q | exact (gt_lt (a := 0) (by decide) ha).mp (Int32.not_le.mp q)))) k1 k2
theorem g_tswOut (hC : gC y z l cc own nL Ts rm) {dflt lo hi : Int} {offs : Array Int} {len : Nat} {a : Int} (tgt : Nat) (ha : rg a) (hd : decode cc pc = .ok (.tableswitch dflt lo hi offs, len)) (h : a < lo ∨ hi < a) (ht : (pc : Int) + dflt = (tgt : Int)) (k : gW y z L tgt lc st M) : gW y z L pc lc (vi a :: st) M :=
  g_go hC (fun _ _ _ _ _ _ _ _ _ _ _ _ _ _ hx hb _ _ _ w => lv_tableOut hx hb hd (by rw [gt ha]; exact h) ht w) k
theorem g_tswIn (hC : gC y z l cc own nL Ts rm) {dflt lo hi : Int} {offs : Array Int} {len : Nat} {a off : Int} (tgt : Nat) (ha : rg a) (hd : decode cc pc = .ok (.tableswitch dflt lo hi offs, len)) (h1 : ¬ a < lo) (h2 : ¬ hi < a) (ho : offs[(a - lo).toNat]? = some off) (ht : (pc : Int) + off = (tgt : Int)) (k : gW y z L tgt lc st M) : gW y z L pc lc (vi a :: st) M :=
  g_go hC (fun _ _ _ _ _ _ _ _ _ _ _ _ _ _ hx hb _ _ _ w => lv_tableIn hx hb hd (by rw [gt ha]; exact h1) (by rw [gt ha]; exact h2) (by rw [gt ha]; exact ho) ht w) k
end GS
end
section
/-! CELLS, CALLS, RETURNS over the fixed world -/
theorem gWd_at {z : gZ} {L : gLay} {M : gMem} {k : Nat} {d : gD} (h : L[k]? = some d) : (gWd z L M)[k]? = some (z.2.2.2.1 k, gE z M k d) := by
  simp [gWd, List.getElem?_mapIdx, h]
theorem gFs_congr {z : gZ} {M M' : gMem} {k : Nat} (h : M' k = M k) : ∀ (fs : List (Option Nat)) (j : Nat), gFs z M' k j fs = gFs z M k j fs
  | [], _ => rfl
  | none :: r, j => by rw [gFs, gFs, h, gFs_congr h r]
  | some c :: r, j => by rw [gFs, gFs, gFs_congr h r]
theorem gE_congr {z : gZ} {M M' : gMem} {k : Nat} (h : M' k = M k) (d : gD) : gE z M' k d = gE z M k d := by
  match d with
  | .inl (t, n) => simp only [gE, h]
  | .inr (.inl (t, n, b)) => rfl
  | .inr (.inr (ci, fs)) => simp only [gE, gFs_congr h]
theorem gWd_set {z : gZ} {L : gLay} {M M' : gMem} {k : Nat} {d : gD} {e : va_E} (hk : L[k]? = some d) (hM : ∀ k', k' ≠ k → M' k' = M k') (he : e = gE z M' k d) : (gWd z L M).set k (z.2.2.2.1 k, e) = gWd z L M' := by
  apply List.ext_getElem?
  intro j
  rw [List.getElem?_set]
  by_cases e1 : k = j
  · subst e1
    have hl : k < (gWd z L M).length := by
      have := (List.getElem?_eq_some_iff.mp hk).1
      simpa [gWd] using this
    rw [if_pos rfl, if_pos hl, gWd_at hk, he]
  · rw [if_neg e1]
    simp only [gWd, List.getElem?_mapIdx]
    cases hj : L[j]? with
    | none => rfl
    | some d' => simp only [Option.map_some, gE_congr (hM j (fun q => e1 q.symm))]
theorem gSt_ne (M : gMem) (k : Nat) (i v : Int) (k' : Nat) (h : k' ≠ k) : gSt M k i v k' = M k' := by
  funext j
  simp [gSt, h]
theorem gSt_at (M : gMem) (k : Nat) (i v j : Int) : gSt M k i v k j = if j = i then v else M k j := by simp [gSt]
theorem gCp_ne (M : gMem) (a b : Nat) (sp dp n : Int) (k' : Nat) (h : k' ≠ b) : gCp M a b sp dp n k' = M k' := by
  funext j
  simp [gCp, h]
theorem gFs_get {z : gZ} {M : gMem} {k : Nat} : ∀ (fs : List (Option Nat)) (j i : Nat), (gFs z M k j fs)[i]? = fs[i]?.map (fun f => match f with | none => vi (M k ((j + i : Nat))) | some c => vr z c)
  | [], _, _ => by simp [gFs]
  | none :: r, j, 0 => by simp [gFs]
  | some c :: r, j, 0 => by simp [gFs]
  | none :: r, j, i + 1 => by
    rw [gFs, List.getElem?_cons_succ, gFs_get r (j + 1) i, List.getElem?_cons_succ, show j + 1 + i = j + (i + 1) by omega]
  | some c :: r, j, i + 1 => by
    rw [gFs, List.getElem?_cons_succ, gFs_get r (j + 1) i, List.getElem?_cons_succ, show j + 1 + i = j + (i + 1) by omega]
theorem gFs_len {z : gZ} {M : gMem} {k : Nat} : ∀ (fs : List (Option Nat)) (j : Nat), (gFs z M k j fs).length = fs.length
  | [], _ => rfl
  | none :: r, j => by rw [gFs, List.length_cons, gFs_len r, List.length_cons]
  | some c :: r, j => by rw [gFs, List.length_cons, gFs_len r, List.length_cons]
theorem gFs_set {z : gZ} {M : gMem} {k : Nat} {fs : List (Option Nat)} {i : Nat} {v : Int} (h : fs[i]? = some none) : (gFs z M k 0 fs).set i (vi v) = gFs z (gSt M k i v) k 0 fs := by
  apply List.ext_getElem?
  intro j
  rw [List.getElem?_set, gFs_get, gFs_get]
  by_cases e : i = j
  · subst e
    have hl : i < fs.length := (List.getElem?_eq_some_iff.mp h).1
    rw [if_pos rfl, gFs_len, if_pos hl, h]
    simp [gSt_at]
  · rw [if_neg e]
    cases hj : fs[j]? with
    | none => rfl
    | some f =>
      cases f with
      | none =>
        have : ¬ ((j : Int) = (i : Int)) := by omega
        simp [gSt_at, this]
      | some c => rfl
theorem gIn {i : Int} {n : Nat} (hn : n < 2147483648) (hi : 0 ≤ i ∧ i < n) : vp_in (Int32.ofInt i) n ∧ (Int32.ofInt i).toNatClampNeg = i.toNat ∧ ((i.toNat : Nat) : Int) = i := by
  have e : (Int32.ofInt i).toNatClampNeg = i.toNat := Int32.toNatClampNeg_ofInt_of_le (by omega) (by omega)
  refine ⟨?_, e, by omega⟩
  rintro (h | h)
  · have := (gt_lt (b := 0) ⟨by omega, by omega⟩ (by decide)).mp h
    omega
  · rw [e] at h
    omega
theorem gAd_in {z : gZ} {L : gLay} {sz k : Nat} (h : k < L.length) : gAd z L sz (z.2.2.2.1 k) := Or.inl ⟨k, h, rfl⟩
theorem gWd_adr {z : gZ} {L : gLay} {M : gMem} {k : Nat} {q : Nat × va_E} (h : (gWd z L M)[k]? = some q) : k < L.length ∧ q.1 = z.2.2.2.1 k := by
  have hl : k < (gWd z L M).length := (List.getElem?_eq_some_iff.mp h).1
  have hl' : k < L.length := by simpa [gWd] using hl
  rw [gWd_at (List.getElem?_eq_getElem hl')] at h
  cases h
  exact ⟨hl', rfl⟩
theorem gH_D {z : gZ} {L : gLay} {A B : Nat → Prop} {M : gMem} {H : Heap} (h : gH z L A M H) (hB : ∀ k, k < L.length → B (z.2.2.2.1 k)) : gH z L B M H :=
  ⟨h.1, h.2.1, fun k q hq => by
    obtain ⟨h1, h2⟩ := gWd_adr hq
    rw [h2]
    exact hB k h1⟩
section GH
variable {y : gY} {z : gZ} {L : gLay} {l : Launch} {cc : ByteArray} {own : String} {nL : Nat} {Ts : List Cond} {rm : Room} {pc : Nat} {lc : List (Option Value)} {st : List Value} {M : gMem}
theorem g_iald (hC : gC y z l cc own nL Ts rm) {k : Nat} (t0 : Nat) {n : Nat} (hk : L[k]? = some (.inl (0, n))) (ht : z.2.2.1[t0]? = some (z.2.2.2.2.1 0, .int)) (hn : n < 2147483648) {i : Int} (hi : 0 ≤ i ∧ i < n) (hd : decode cc pc = .ok (.iaload, 1)) (kk : gW y z L (pc + 1) lc (vi (M k i) :: st) M) : gW y z L pc lc (vi i :: vr z k :: st) M := by
  obtain ⟨p, l', e, R, s, m, args, below, meth, c, Q⟩ := y
  obtain ⟨hx, hb, -, hown, hts, hK, -⟩ := hC
  intro H locs ls hH hS hl
  obtain ⟨h1, h2, h3⟩ := gIn hn hi
  refine va_iald hx hb hK hH.1 k t0 (gWd_at hk) ht h1 hd ?_
  rw [h2, h3]
  exact kk H locs ls hH hS hl
theorem g_bald (hC : gC y z l cc own nL Ts rm) {k : Nat} (t0 : Nat) {n : Nat} (hk : L[k]? = some (.inl (1, n))) (ht : z.2.2.1[t0]? = some (z.2.2.2.2.1 1, .byte)) (hn : n < 2147483648) {i : Int} (hi : 0 ≤ i ∧ i < n) (hd : decode cc pc = .ok (.baload, 1)) (kk : gW y z L (pc + 1) lc (vi ((M k i).bmod 256) :: st) M) : gW y z L pc lc (vi i :: vr z k :: st) M := by
  obtain ⟨p, l', e, R, s, m, args, below, meth, c, Q⟩ := y
  obtain ⟨hx, hb, -, hown, hts, hK, -⟩ := hC
  intro H locs ls hH hS hl
  obtain ⟨h1, h2, h3⟩ := gIn hn hi
  refine va_bald hx hb hK hH.1 k t0 (gWd_at hk) ht h1 hd ?_
  rw [h2, h3]
  exact kk H locs ls hH hS hl
theorem g_zald (hC : gC y z l cc own nL Ts rm) {k : Nat} (t0 : Nat) {n : Nat} (hk : L[k]? = some (.inl (2, n))) (ht : z.2.2.1[t0]? = some (z.2.2.2.2.1 2, .boolean)) (hn : n < 2147483648) {i : Int} (hi : 0 ≤ i ∧ i < n) (hd : decode cc pc = .ok (.baload, 1)) (kk : gW y z L (pc + 1) lc (vi (M k i % 2) :: st) M) : gW y z L pc lc (vi i :: vr z k :: st) M := by
  obtain ⟨p, l', e, R, s, m, args, below, meth, c, Q⟩ := y
  obtain ⟨hx, hb, -, hown, hts, hK, -⟩ := hC
  intro H locs ls hH hS hl
  obtain ⟨h1, h2, h3⟩ := gIn hn hi
  refine va_zald hx hb hK hH.1 k t0 (gWd_at hk) ht h1 hd ?_
  rw [h2, h3]
  exact kk H locs ls hH hS hl
theorem g_aald (hC : gC y z l cc own nL Ts rm) {k : Nat} (t0 : Nat) {t n b : Nat} {ty : FieldType} (hk : L[k]? = some (.inr (.inl (t, n, b)))) (ht : z.2.2.1[t0]? = some (z.2.2.2.2.1 t, ty)) (hty : ty.isReference = true) (hn : n < 2147483648) {i : Int} (hi : 0 ≤ i ∧ i < n) (hd : decode cc pc = .ok (.aaload, 1)) (kk : gW y z L (pc + 1) lc (vr z (b + i.toNat) :: st) M) : gW y z L pc lc (vi i :: vr z k :: st) M := by
  obtain ⟨p, l', e, R, s, m, args, below, meth, c, Q⟩ := y
  obtain ⟨hx, hb, -, hown, hts, hK, -⟩ := hC
  intro H locs ls hH hS hl
  obtain ⟨h1, h2, h3⟩ := gIn hn hi
  have hlt : i.toNat < n := by omega
  have hcell := hH.1 k _ (gWd_at hk)
  refine W.aald (v := vr z (b + i.toNat)) (ty := ty) hx hb hcell ((hK.2 t0 _ ht).1 n (fun j => va_rf (if j < n then some (z.2.2.2.1 (b + j)) else none))) hty (fun q => by cases q) (by show ¬ (_ < 0 ∨ (arrV _ _ _).slots.size ≤ _); rw [arrV_size]; exact h1) (by show (arrV _ _ _).slots[_]? = _; rw [h2, arrV_read _ _ hlt]; show some (va_rf (if i.toNat < n then some (z.2.2.2.1 (b + i.toNat)) else none)) = _; rw [if_pos hlt]; rfl) rfl rfl hd (kk H locs ls hH hS hl)
theorem gUp {f : Nat → Int32} {g : Nat → Int32} {i : Nat} {x : Int32} (h1 : g i = x) (h2 : ∀ j, j ≠ i → g j = f j) : upd f i x = g := by
  funext j
  by_cases e : j = i
  · subst e; simp [upd, h1]
  · simp [upd, e, h2 j e]
theorem g_iast (hC : gC y z l cc own nL Ts rm) {k : Nat} (t0 : Nat) {n : Nat} (hk : L[k]? = some (.inl (0, n))) (ht : z.2.2.1[t0]? = some (z.2.2.2.2.1 0, .int)) (hn : n < 2147483648) {i v : Int} (hi : 0 ≤ i ∧ i < n) (hd : decode cc pc = .ok (.iastore, 1)) {M' : gMem} (hM : M' = gSt M k i v) (kk : gW y z L (pc + 1) lc st M') : gW y z L pc lc (vi v :: vi i :: vr z k :: st) M := by
  subst hM
  obtain ⟨p, l', e, R, s, m, args, below, meth, c, Q⟩ := y
  obtain ⟨hx, hb, -, hown, hts, hK, -⟩ := hC
  intro H locs ls hH hS hl
  obtain ⟨h1, h2, h3⟩ := gIn hn hi
  have e := gWd_set (z := z) (M := M) (M' := gSt M k i v) (e := .inl (z.2.2.2.2.1 0, n, .inl (upd (fun j => Int32.ofInt (gEl 0 (M k j))) i.toNat (Int32.ofInt v)))) hk (gSt_ne M k i v) (by
    simp only [gE]
    rw [gUp (g := fun j => Int32.ofInt (gEl 0 (gSt M k i v k j))) (by simp [gSt_at, h3, gEl]) (fun j hj => by
      have : ¬ ((j : Int) = i) := by omega
      simp [gSt_at, this])])
  refine va_iast hx hb hK hH.1 hH.2 hS k t0 (gWd_at hk) ht h1 hd (fun H1 locs1 hP hD hS1 => kk H1 locs1 ls ⟨?_, ?_⟩ hS1 hl)
  · rw [h2, e] at hP; exact hP
  · rw [h2, e] at hD; exact hD
theorem g_bast (hC : gC y z l cc own nL Ts rm) {k : Nat} (t0 : Nat) {n : Nat} (hk : L[k]? = some (.inl (1, n))) (ht : z.2.2.1[t0]? = some (z.2.2.2.2.1 1, .byte)) (hn : n < 2147483648) {i v : Int} (hi : 0 ≤ i ∧ i < n) (hd : decode cc pc = .ok (.bastore, 1)) {M' : gMem} (hM : M' = gSt M k i v) (kk : gW y z L (pc + 1) lc st M') : gW y z L pc lc (vi v :: vi i :: vr z k :: st) M := by
  subst hM
  obtain ⟨p, l', e, R, s, m, args, below, meth, c, Q⟩ := y
  obtain ⟨hx, hb, -, hown, hts, hK, -⟩ := hC
  intro H locs ls hH hS hl
  obtain ⟨h1, h2, h3⟩ := gIn hn hi
  have e := gWd_set (z := z) (M := M) (M' := gSt M k i v) (e := .inl (z.2.2.2.2.1 1, n, .inl (upd (fun j => Int32.ofInt (gEl 1 (M k j))) i.toNat (vp_nar .byte (Int32.ofInt v))))) hk (gSt_ne M k i v) (by
    simp only [gE]
    rw [gUp (g := fun j => Int32.ofInt (gEl 1 (gSt M k i v k j))) (by rw [vp_nar_byte, gt_byte]; simp only [h3, gSt_at]; rfl) (fun j hj => by
      have : ¬ ((j : Int) = i) := by omega
      simp [gSt_at, this])])
  refine va_bast hx hb hK hH.1 hH.2 hS k t0 (gWd_at hk) ht h1 hd (fun H1 locs1 hP hD hS1 => kk H1 locs1 ls ⟨?_, ?_⟩ hS1 hl)
  · rw [h2, e] at hP; exact hP
  · rw [h2, e] at hD; exact hD
theorem g_zast (hC : gC y z l cc own nL Ts rm) {k : Nat} (t0 : Nat) {n : Nat} (hk : L[k]? = some (.inl (2, n))) (ht : z.2.2.1[t0]? = some (z.2.2.2.2.1 2, .boolean)) (hn : n < 2147483648) {i v : Int} (hv : v = 0 ∨ v = 1) (hi : 0 ≤ i ∧ i < n) (hd : decode cc pc = .ok (.bastore, 1)) {M' : gMem} (hM : M' = gSt M k i v) (kk : gW y z L (pc + 1) lc st M') : gW y z L pc lc (vi v :: vi i :: vr z k :: st) M := by
  subst hM
  obtain ⟨p, l', e, R, s, m, args, below, meth, c, Q⟩ := y
  obtain ⟨hx, hb, -, hown, hts, hK, -⟩ := hC
  intro H locs ls hH hS hl
  obtain ⟨h1, h2, h3⟩ := gIn hn hi
  have e := gWd_set (z := z) (M := M) (M' := gSt M k i v) (e := .inl (z.2.2.2.2.1 2, n, .inl (upd (fun j => Int32.ofInt (gEl 2 (M k j))) i.toNat (vp_nar .boolean (Int32.ofInt v))))) hk (gSt_ne M k i v) (by
    simp only [gE]
    rw [gUp (g := fun j => Int32.ofInt (gEl 2 (gSt M k i v k j))) (by rcases hv with rfl | rfl <;> simp [gSt_at, h3, gEl] <;> rfl) (fun j hj => by
      have : ¬ ((j : Int) = i) := by omega
      simp [gSt_at, this])])
  refine va_zast hx hb hK hH.1 hH.2 hS k t0 (gWd_at hk) ht h1 hd (fun H1 locs1 hP hD hS1 => kk H1 locs1 ls ⟨?_, ?_⟩ hS1 hl)
  · rw [h2, e] at hP; exact hP
  · rw [h2, e] at hD; exact hD
theorem g_alen (hC : gC y z l cc own nL Ts rm) {k : Nat} (t0 : Nat) {t n : Nat} {ty : FieldType} (hk : L[k]? = some (.inl (t, n))) (ht : z.2.2.1[t0]? = some (z.2.2.2.2.1 t, ty)) (hd : decode cc pc = .ok (.arraylength, 1)) (kk : gW y z L (pc + 1) lc (vi n :: st) M) : gW y z L pc lc (vr z k :: st) M := by
  obtain ⟨p, l', e, R, s, m, args, below, meth, c, Q⟩ := y
  obtain ⟨hx, hb, -, hown, hts, hK, -⟩ := hC
  intro H locs ls hH hS hl
  exact va_alen (v := Int32.ofInt n) hx hb hK hH.1 k t0 (gWd_at hk) ht (by simp only; exact (Int32.ofInt_eq_ofNat).symm) hd (kk H locs ls hH hS hl)
/-- a field: a number, or a cell -/
theorem g_geti (hC : gC y z l cc own nL Ts rm) {k : Nat} {ci : Nat} {fs : List (Option Nat)} {C : String} {T : u_T} {N ix : Nat} {ref : String} (hk : L[k]? = some (.inr (.inr (ci, fs)))) (hc : z.2.1[ci]? = some (C, T, N)) (hin : ∀ w ∈ u_ws C T N, w ∈ Ts) (j : Nat) (hj : j < N) (hf : fs[j]? = some none) (hr : (T j).1 = ref) (hw : Cond.fieldLink own ix ref (T j).2.1 (T j).2.2.1 ∈ Ts) (hd : decode cc pc = .ok (.getfield ix, 3)) (kk : gW y z L (pc + 3) lc (vi (M k j) :: st) M) : gW y z L pc lc (vr z k :: st) M := by
  obtain ⟨p, l', e, R, s, m, args, below, meth, c, Q⟩ := y
  obtain ⟨hx, hb, -, hown, hts, hK, -⟩ := hC
  intro H locs ls hH hS hl
  exact va_get (v := vi (M k j)) hx hb hts hin hown hK hH.1 k (gWd_at hk) hc j hj (hts _ hw) (fun x h => by rw [← hr]; exact h) (by rw [gFs_get, hf]; simp) hd (kk H locs ls hH hS hl)
theorem g_getr (hC : gC y z l cc own nL Ts rm) {k : Nat} {ci : Nat} {fs : List (Option Nat)} {C : String} {T : u_T} {N ix r : Nat} {ref : String} (hk : L[k]? = some (.inr (.inr (ci, fs)))) (hc : z.2.1[ci]? = some (C, T, N)) (hin : ∀ w ∈ u_ws C T N, w ∈ Ts) (j : Nat) (hj : j < N) (hf : fs[j]? = some (some r)) (hr : (T j).1 = ref) (hw : Cond.fieldLink own ix ref (T j).2.1 (T j).2.2.1 ∈ Ts) (hd : decode cc pc = .ok (.getfield ix, 3)) (kk : gW y z L (pc + 3) lc (vr z r :: st) M) : gW y z L pc lc (vr z k :: st) M := by
  obtain ⟨p, l', e, R, s, m, args, below, meth, c, Q⟩ := y
  obtain ⟨hx, hb, -, hown, hts, hK, -⟩ := hC
  intro H locs ls hH hS hl
  exact va_get (v := vr z r) hx hb hts hin hown hK hH.1 k (gWd_at hk) hc j hj (hts _ hw) (fun x h => by rw [← hr]; exact h) (by rw [gFs_get, hf]; simp) hd (kk H locs ls hH hS hl)
theorem g_puti (hC : gC y z l cc own nL Ts rm) {k : Nat} {ci : Nat} {fs : List (Option Nat)} {C : String} {T : u_T} {N ix : Nat} {ref : String} (hk : L[k]? = some (.inr (.inr (ci, fs)))) (hc : z.2.1[ci]? = some (C, T, N)) (hin : ∀ w ∈ u_ws C T N, w ∈ Ts) {ty0 : Nat → FieldType} (hty : ∀ k, k < N → parseFieldDescriptor (T k).2.2.1 = some (ty0 k)) (hnm : ∀ a, a < N → ∀ b, b < N → a ≠ b → (T a).2.1 ≠ (T b).2.1) (j : Nat) (hj : j < N) (hf : fs[j]? = some none) (hr : (T j).1 = ref) (hw : Cond.fieldLink own ix ref (T j).2.1 (T j).2.2.1 ∈ Ts) (hfin : (T j).2.2.2 = false) (hdI : (T j).2.2.1 = "I") (hd : decode cc pc = .ok (.putfield ix, 3)) {v : Int} {M' : gMem} (hM : M' = gSt M k j v) (kk : gW y z L (pc + 3) lc st M') : gW y z L pc lc (vi v :: vr z k :: st) M := by
  subst hM
  obtain ⟨p, l', e, R, s, m, args, below, meth, c, Q⟩ := y
  obtain ⟨hx, hb, -, hown, hts, hK, -⟩ := hC
  intro H locs ls hH hS hl
  have e := gWd_set (z := z) (M := M) (M' := gSt M k j v) (e := .inr (ci, (gFs z M k 0 fs).set j (vi v))) hk (gSt_ne M k j v) (by simp only [gE]; rw [gFs_set hf])
  refine va_put (v := vi v) (ty := .int) hx hb hts hin ty0 hty hnm hown hK hH.1 hH.2 hS k (gWd_at hk) hc j hj (hts _ hw) (fun x h => by rw [← hr]; exact h) hfin (by rw [hdI]; decide +kernel) rfl rfl (by rw [gFs_len]; exact (List.getElem?_eq_some_iff.mp hf).1) hd (fun H1 locs1 hP hD hS1 => kk H1 locs1 ls ⟨?_, ?_⟩ hS1 hl)
  · rw [e] at hP; exact hP
  · rw [e] at hD; exact hD
end GH
/-! contracts: a method's answer and memory come by P -/
def gRI (y : gY) (z : gZ) (L : gLay) (ty : FieldType) (P : Int → gMem → Prop) : Prop := match y with
  | (_, _, _, _, s, _, args, below, meth, _, Q) => meth.sig.returnType = some ty ∧ Q = MQ below (gQI z L P s.heap.size) args s 0 0 (gAd z L s.heap.size)
def gRV (y : gY) (z : gZ) (L : gLay) (P : gMem → Prop) : Prop := match y with
  | (_, _, _, _, s, _, args, below, meth, _, Q) => meth.sig.returnType = none ∧ Q = MQ below (gQV z L P s.heap.size) args s 0 0 (gAd z L s.heap.size)
theorem gEn {vs : List Value} {n : Nat} (hv : ∀ v ∈ vs, v.category = 1) (hn : vs.length ≤ n) : gLs ((lg_sl vs ++ List.replicate (n - (lg_sl vs).length) Slot.unset).toArray) (vs.map some ++ List.replicate (n - vs.length) none) := by
  have hl := gSl_len vs hv
  refine ⟨?_, fun v h => ?_⟩
  · rw [gPr_args vs _ 0 hv]
    have h := lv_entry vs (n := n) (by rw [hl]; exact hn)
    have e : (vs.map some ++ List.replicate (n - vs.length) (none : Option Value)).length = n := by simp; omega
    rw [e]
    exact h
  · rcases List.mem_append.mp h with g | g
    · obtain ⟨w, hw, e⟩ := List.mem_map.mp g
      injection e with e
      rw [← e]
      exact hv w hw
    · have := List.eq_of_mem_replicate g
      cases this
section GM
variable {z : gZ} {L : gLay} {l : Launch} {cc : ByteArray} {own : String} {nL : Nat} {Ts ws' : List Cond} {rm : Room} {M : gMem}
theorem g_metI {yn : MethodName} {vs : List Value} {P : Int → gMem → Prop} (ty : FieldType) (hy : plainName yn.cls = true) (hw : Ts = Cond.code yn cc nL (some ty) :: ws') (ho : yn.cls = own) (hv : ∀ v ∈ vs, v.category = 1) (hn : vs.length ≤ nL)
    (body : ∀ y : gY, gC y z l cc own nL Ts rm → gRI y z L ty P → gW y z L 0 (vs.map some ++ List.replicate (nL - vs.length) none) [] M) : gMI l z L yn Ts rm vs M P := by
  intro sz
  refine Met.ofW (cc := cc) (maxL := nL) (ret := some ty) hy hw ?_
  intro p e s m args below meth c s₁ B hml hv'
  obtain ⟨rfl, hsz, hK, hN, hH⟩ := hv'
  subst hsz
  have hC : gC (p, l, e, (headSpec Ts rm).room, s, m, vs.toArray, below, meth, c, MQ below (gQI z L P s.heap.size) vs.toArray s 0 0 (gAd z L s.heap.size)) z l cc own nL Ts rm :=
    ⟨B.exec, B.bytes, hml, by rw [← ho]; exact findClass_of_methodNamed B.named, atoms_spec (ws := Ts) B.pre, hK, hN, rfl, B.notSynchronized, rfl⟩
  have h := body _ hC ⟨B.returns, rfl⟩
  rw [lg_entry_eq]
  exact h s.heap [] _ (gH_D hH (fun k hk => gAd_in hk)) va_S.rf (gEn hv hn)
theorem g_metV {yn : MethodName} {vs : List Value} {P : gMem → Prop} (hy : plainName yn.cls = true) (hw : Ts = Cond.code yn cc nL none :: ws') (ho : yn.cls = own) (hv : ∀ v ∈ vs, v.category = 1) (hn : vs.length ≤ nL)
    (body : ∀ y : gY, gC y z l cc own nL Ts rm → gRV y z L P → gW y z L 0 (vs.map some ++ List.replicate (nL - vs.length) none) [] M) : gMV l z L yn Ts rm vs M P := by
  intro sz
  refine Met.ofW (cc := cc) (maxL := nL) (ret := none) hy hw ?_
  intro p e s m args below meth c s₁ B hml hv'
  obtain ⟨rfl, hsz, hK, hN, hH⟩ := hv'
  subst hsz
  have hC : gC (p, l, e, (headSpec Ts rm).room, s, m, vs.toArray, below, meth, c, MQ below (gQV z L P s.heap.size) vs.toArray s 0 0 (gAd z L s.heap.size)) z l cc own nL Ts rm :=
    ⟨B.exec, B.bytes, hml, by rw [← ho]; exact findClass_of_methodNamed B.named, atoms_spec (ws := Ts) B.pre, hK, hN, rfl, B.notSynchronized, rfl⟩
  have h := body _ hC ⟨B.returns, rfl⟩
  rw [lg_entry_eq]
  exact h s.heap [] _ (gH_D hH (fun k hk => gAd_in hk)) va_S.rf (gEn hv hn)
end GM
section GR
variable {y : gY} {z : gZ} {L : gLay} {l : Launch} {cc : ByteArray} {own : String} {nL : Nat} {Ts : List Cond} {rm : Room} {pc : Nat} {lc : List (Option Value)} {st : List Value} {M : gMem}
theorem g_iret {P : Int → gMem → Prop} (hC : gC y z l cc own nL Ts rm) (hR : gRI y z L .int P) {v : Int} (hd : decode cc pc = .ok (.ireturn, 1)) (hp : P v M) : gW y z L pc lc [vi v] M := by
  obtain ⟨p, l', e, R, s, m, args, below, meth, c, Q⟩ := y
  obtain ⟨hx, hb, -, -, -, -, -, -, hlk, -⟩ := hC
  obtain ⟨hr, rfl⟩ := hR
  intro H locs ls hH hS hl
  exact W.iret (v := Int32.ofInt v) hx hb hr (fun t ht hW => ⟨⟨_, M, rfl, ⟨v, rfl, hp⟩, by show gH z L (gAd z L s.heap.size) M t.heap; rw [ht]; exact hH⟩, hS.F ht⟩) hS.2.2 hd hlk
theorem g_zret {P : Int → gMem → Prop} (hC : gC y z l cc own nL Ts rm) (hR : gRI y z L .boolean P) {v : Int} (hv : v = 0 ∨ v = 1) (hd : decode cc pc = .ok (.ireturn, 1)) (hp : P v M) : gW y z L pc lc [vi v] M := by
  obtain ⟨p, l', e, R, s, m, args, below, meth, c, Q⟩ := y
  obtain ⟨hx, hb, -, -, -, -, -, -, hlk, -⟩ := hC
  obtain ⟨hr, rfl⟩ := hR
  intro H locs ls hH hS hl
  exact W.zret (v := Int32.ofInt v) hx hb hr (by rcases hv with rfl | rfl <;> rfl) (fun t ht hW => ⟨⟨_, M, rfl, ⟨v, rfl, hp⟩, by show gH z L (gAd z L s.heap.size) M t.heap; rw [ht]; exact hH⟩, hS.F ht⟩) hS.2.2 hd hlk
theorem g_vret {P : gMem → Prop} (hC : gC y z l cc own nL Ts rm) (hR : gRV y z L P) (hd : decode cc pc = .ok (.return_, 1)) (hp : P M) : gW y z L pc lc [] M := by
  obtain ⟨p, l', e, R, s, m, args, below, meth, c, Q⟩ := y
  obtain ⟨hx, hb, -, -, -, -, -, -, hlk, -⟩ := hC
  obtain ⟨hr, rfl⟩ := hR
  intro H locs ls hH hS hl
  exact W.vret hx hb hr (fun t ht hW => ⟨⟨M, rfl, hp, by show gH z L (gAd z L s.heap.size) M t.heap; rw [ht]; exact hH⟩, hS.F ht⟩) hS.2.2 hd hlk
/-- what a call needs of the tables and the room -/
def gCw (Ts : List Cond) (rm : Room) (yc : MethodName) (cb : ByteArray) (mL : Nat) (ret : Option FieldType) (ws : List Cond) (rc : Room) (n : Nat) : Prop :=
  GoodIn Ts ws ∧ (∃ ws', ws = Cond.code yc cb mL ret :: ws') ∧ rc.cells = 0 ∧ rc.slots = 0 ∧ rc.frames + 1 ≤ rm.frames ∧ 8 + (mL + 11) + rc.locals ≤ rm.locals ∧ (yc.cls ≠ "java/lang/invoke/MethodHandle" ∧ yc.cls ≠ "java/lang/invoke/VarHandle" ∧ (parseMethodDescriptor yc.desc).map (fun d => d.parameters.length) = some n) ∧ Cond.initialized yc.cls ∈ Ts
theorem gBlind {vs : List Value} {sz : Nat} : FrameBlind (va_Pc vs (gPre z L M sz)) := fun a U g mk q => by
  obtain ⟨q1, q2, q3, q4, q5⟩ := q
  exact ⟨q1, q2, va_K.moved (u := U) (U := U.calling g mk a) (Vm.Alike.refl U.vm) q3, fun t ht => va_Nw.same rfl rfl (q4 t ht), q5⟩
theorem gPreU {s U : State} {H : Heap} {A : Nat → Prop} (hK : va_K z.1 z.2.1 z.2.2.1 s) (hN : gNs z s) (hH : gH z L A M H) (hU : U.heap = H) (hW : s.WarmedH U.vm) : gPre z L M H.size U :=
  ⟨by rw [hU], va_K.moved hW.alike hK, fun t ht => va_Nw.warmM hW (hN t ht), by rw [hU]; exact gH_D hH (fun _ _ => trivial)⟩
theorem gRecv {s : State} {H : Heap} {A : Nat → Prop} {k ci : Nat} {fs : List (Option Nat)} {q : vw_C} (hK : va_K z.1 z.2.1 z.2.2.1 s) (hH : gH z L A M H) (hk : L[k]? = some (.inr (.inr (ci, fs)))) (hc : z.2.1[ci]? = some q) : ∃ cell : Cell, H[z.2.2.2.1 k]? = some cell ∧ cell.vm.isStatics = false ∧ s.vm.findClass q.1 = some cell.cls :=
  va_recv hK hH.1 hc (gWd_at hk)
theorem gAd_sub {s0 s1 : Nat} (h : s0 ≤ s1) (q : Nat) (hq : gAd z L s1 q) : gAd z L s0 q := by
  rcases hq with g | g
  · exact Or.inl g
  · exact Or.inr (Nat.le_trans h g)
/-- how a call is made -/
def gRun (y : gY) (z : gZ) (L : gLay) (pc : Nat) (lc : List (Option Value)) (st rest : List Value) (M : gMem) (Qa : Nat → Array Value → State → Outcome → State → Prop) (av : Array Value) : Prop := match y with
  | (p, l, e, R, s, m, args, below, meth, c, _) => ∀ (H : Heap) (locs : List Loc) (ls : Array Slot), gH z L (gAd z L s.heap.size) M H → va_S (gAd z L s.heap.size) s.heap H locs → gLs ls lc → va_Run p l e R s m args below meth c H locs 0 0 0 0 (F0 m pc ls st) rest (Qa H.size av) (gAd z L H.size)
theorem g_runV {yc : MethodName} {cb : ByteArray} {mL n ix k ci : Nat} {fs : List (Option Nat)} {ret : Option FieldType} {ws : List Cond} {rc : Room} {As rest : List Value} {q : vw_C} {Qa : Nat → Array Value → State → Outcome → State → Prop} (hC : gC y z l cc own nL Ts rm) (hnL : lc.length = nL)
    (hM : ∀ sz, Met l yc ws rc (va_Pc (vr z k :: As) (gPre z L M sz)) (Qa sz) 0 0 (gAd z L sz)) (hk : L[k]? = some (.inr (.inr (ci, fs)))) (hc : z.2.1[ci]? = some q) (hw : gCw Ts rm yc cb mL ret ws rc n) (hcl : yc.cls = q.1) (w1 : Cond.methodLink own ix yc ∈ Ts) (w2 : Cond.instanceMethod yc ∈ Ts) (w3 : Cond.selects q.1 yc yc ∈ Ts) (hl : As.length = n) (hrs : (rest.map fun v => v.category).sum ≤ 8) (hst : st = As.reverse ++ vr z k :: rest) (hd : decode cc pc = .ok (.invokevirtual ix, 3)) : gRun y z L pc lc st rest M Qa (vr z k :: As).toArray := by
  obtain ⟨p, l', e, R, s, m, args, below, meth, c, Q⟩ := y
  obtain ⟨hx, hb, hml, hown, hts, hK, hN, hR, hlk, hl'⟩ := hC
  subst hR
  subst hl'
  obtain ⟨g1, ⟨ws', g2⟩, g3, g4, g5, g6, g7, g8⟩ := hw
  intro H locs ls hH hS hls
  have hT : GoodIn Ts (wsV own ix q.1 yc ws) := fun w h => by
    unfold wsV at h
    rcases List.mem_append.mp h with h | h
    · simp only [List.mem_cons, List.not_mem_nil, or_false] at h
      rcases h with rfl | rfl | rfl | rfl
      · exact ⟨w1, Or.inl (by first | rfl | simp [Cond.onTables, Cond.keeps, Cond.steady])⟩
      · exact ⟨w2, Or.inl (by first | rfl | simp [Cond.onTables, Cond.keeps, Cond.steady])⟩
      · exact ⟨w3, Or.inl (by first | rfl | simp [Cond.onTables, Cond.keeps, Cond.steady])⟩
      · exact ⟨by rw [← hcl]; exact g8, Or.inl (by first | rfl | simp [Cond.onTables, Cond.keeps, Cond.steady])⟩
    · exact g1 w h
  exact va_runV (As := As) (rest := rest) (C := q.1) ⟨hx, hb, hml, hown, hts⟩ (hM H.size) (cwV n hts hT g2 g3 g4 ⟨hcl, g7⟩ ⟨g5, g6⟩) ⟨gBlind, gRecv hK hH hk hc, fun U hU hW => ⟨rfl, gPreU hK hN hH hU hW⟩⟩ rfl hl (hls.1.1.trans hnL) hst (lv_room hrs) hd ⟨Nat.zero_le _, Nat.zero_le _⟩
theorem g_runS {yc : MethodName} {cb : ByteArray} {mL n ix : Nat} {ret : Option FieldType} {ws : List Cond} {rc : Room} {As rest : List Value} {Qa : Nat → Array Value → State → Outcome → State → Prop} (hC : gC y z l cc own nL Ts rm) (hnL : lc.length = nL)
    (hM : ∀ sz, Met l yc ws rc (va_Pc As (gPre z L M sz)) (Qa sz) 0 0 (gAd z L sz)) (hw : gCw Ts rm yc cb mL ret ws rc n) (w1 : Cond.methodLink own ix yc ∈ Ts) (w2 : Cond.static yc ∈ Ts) (hl : As.length = n) (hrs : (rest.map fun v => v.category).sum ≤ 8) (hst : st = As.reverse ++ rest) (hd : decode cc pc = .ok (.invokestatic ix, 3)) : gRun y z L pc lc st rest M Qa As.toArray := by
  obtain ⟨p, l', e, R, s, m, args, below, meth, c, Q⟩ := y
  obtain ⟨hx, hb, hml, hown, hts, hK, hN, hR, hlk, hl'⟩ := hC
  subst hR
  subst hl'
  obtain ⟨g1, ⟨ws', g2⟩, g3, g4, g5, g6, g7, g8⟩ := hw
  intro H locs ls hH hS hls
  exact va_runS (As := As) (rest := rest) ⟨hx, hb, hml, hown, hts⟩ (hM H.size) ⟨callB_of n hts g1 g2 g3 g4 (hts _ g8) (hts _ w1) g7 ⟨g5, g6⟩, hts _ w2⟩ ⟨gBlind, fun U hU hW => ⟨rfl, gPreU hK hN hH hU hW⟩⟩ rfl hl (hls.1.1.trans hnL) hst (lv_room hrs) hd ⟨Nat.zero_le _, Nat.zero_le _⟩
theorem g_runSN {yc : MethodName} {cb : ByteArray} {mL n ix : Nat} {host : String} {ret : Option FieldType} {ws : List Cond} {rc : Room} {As rest : List Value} {Qa : Nat → Array Value → State → Outcome → State → Prop} (hC : gC y z l cc own nL Ts rm) (hnL : lc.length = nL)
    (hM : ∀ sz, Met l yc ws rc (va_Pc As (gPre z L M sz)) (Qa sz) 0 0 (gAd z L sz)) (hw : gCw Ts rm yc cb mL ret ws rc n) (w1 : (own, ix, yc, host) ∈ z.2.2.2.2.2) (w2 : Cond.static yc ∈ Ts) (hl : As.length = n) (hrs : (rest.map fun v => v.category).sum ≤ 8) (hst : st = As.reverse ++ rest) (hd : decode cc pc = .ok (.invokestatic ix, 3)) : gRun y z L pc lc st rest M Qa As.toArray := by
  obtain ⟨p, l', e, R, s, m, args, below, meth, c, Q⟩ := y
  obtain ⟨hx, hb, hml, hown, hts, hK, hN, hR, hlk, hl'⟩ := hC
  subst hR
  subst hl'
  obtain ⟨g1, ⟨ws', g2⟩, g3, g4, g5, g6, g7, g8⟩ := hw
  intro H locs ls hH hS hls
  exact va_runSN (As := As) (rest := rest) ⟨hx, hb, hml, hown, hts⟩ (hM H.size) ⟨va_cnB n hts g1 g2 g3 g4 (hN _ w1) (hts _ g8) g7 ⟨g5, g6⟩, hts _ w2, trivial⟩ ⟨gBlind, fun U hU hW => ⟨rfl, gPreU hK hN hH hU hW⟩⟩ rfl hl (hls.1.1.trans hnL) hst (lv_room hrs) hd ⟨Nat.zero_le _, Nat.zero_le _⟩
theorem g_calli {rest : List Value} {av : Array Value} {P : Int → gMem → Prop} (hr : gRun y z L pc lc st rest M (gQI z L P) av) (kk : ∀ (r : Int) (M' : gMem), P r M' → gW y z L (pc + 3) lc (vi r :: rest) M') : gW y z L pc lc st M := by
  obtain ⟨p, l', e, R, s, m, args, below, meth, c, Q⟩ := y
  intro H locs ls hH hS hls
  refine va_calli (hr H locs ls hH hS hls) hS (fun q _ h => gAd_sub hS.1 q h) (fun q h => gAd_sub hS.1 q h) (fun r u t H1 locs1 ht _ hp hB _ _ hS1 => ?_)
  obtain ⟨v, rfl, hp⟩ := hp
  rw [ht] at hB
  exact kk v u hp H1 locs1 ls (gH_D hB (fun k hk => gAd_in hk)) hS1 hls
theorem g_callv {rest : List Value} {av : Array Value} {P : gMem → Prop} (hr : gRun y z L pc lc st rest M (gQV z L P) av) (kk : ∀ (M' : gMem), P M' → gW y z L (pc + 3) lc rest M') : gW y z L pc lc st M := by
  obtain ⟨p, l', e, R, s, m, args, below, meth, c, Q⟩ := y
  intro H locs ls hH hS hls
  refine va_callv (hr H locs ls hH hS hls) hS (fun q _ h => gAd_sub hS.1 q h) (fun q h => gAd_sub hS.1 q h) (fun u t H1 locs1 ht _ hp hB _ _ hS1 => ?_)
  rw [ht] at hB
  exact kk u hp H1 locs1 ls (gH_D hB (fun k hk => gAd_in hk)) hS1 hls
/-! System.arraycopy of ints or bytes; Math.max, Math.min -/
theorem gFit (t : Nat) (ty : FieldType) (v : Int) (h : (t = 0 ∧ ty = .int) ∨ (t = 1 ∧ ty = .byte)) : fits ty (.int (Int32.ofInt (gEl t v))) = true := by
  rcases h with ⟨rfl, rfl⟩ | ⟨rfl, rfl⟩
  · rfl
  · have : Int32.ofInt (gEl 1 v) = (Int32.ofInt v).toInt8.toInt32 := by rw [gt_byte]; rfl
    rw [this]
    exact pk_fb _
theorem g_acopy (hC : gC y z l cc own nL Ts rm) (hnL : lc.length = nL) {ka kb : Nat} (t0 : Nat) {t na nb ix : Nat} {ty : FieldType} (hty : (t = 0 ∧ ty = .int) ∨ (t = 1 ∧ ty = .byte)) (hka : L[ka]? = some (.inl (t, na))) (hkb : L[kb]? = some (.inl (t, nb))) (ht : z.2.2.1[t0]? = some (z.2.2.2.2.1 t, ty)) (hna : na < 2147483648) (hnb : nb < 2147483648) {sp dp n : Int} (h1 : 0 ≤ sp) (h2 : 0 ≤ dp) (h3 : 0 ≤ n) (h4 : sp + n ≤ na) (h5 : dp + n ≤ nb)
    (w1 : Cond.methodLink own ix arraycopyName ∈ Ts) (w2 : Cond.native arraycopyName ∈ Ts) (w3 : Cond.static arraycopyName ∈ Ts) (w4 : Cond.initialized "java/lang/System" ∈ Ts) (hf : 1 ≤ rm.frames) (hlo : (st.map fun v => v.category).sum + (nativeFrameWords "java/lang/System" "arraycopy" 5 + 11) ≤ rm.locals) (hd : decode cc pc = .ok (.invokestatic ix, 3)) {M' : gMem} (hM : M' = gCp M ka kb sp dp n) (kk : gW y z L (pc + 3) lc st M') : gW y z L pc lc (vi n :: vi dp :: vr z kb :: vi sp :: vr z ka :: st) M := by
  subst hM
  obtain ⟨p, l', e, R, s, m, args, below, meth, c, Q⟩ := y
  obtain ⟨hx, hb, hml, hown, hts, hK, -, hR, -⟩ := hC
  subst hR
  intro H locs ls hH hS hl
  have nn : ∀ a : Int, rg a → 0 ≤ a → ¬ Int32.ofInt a < 0 := fun a ha h q => by
    have := (gt_lt (b := 0) ha (by decide)).mp q
    omega
  have tn : ∀ a : Int, rg a → (Int32.ofInt a).toNatClampNeg = a.toNat := fun a ha => Int32.toNatClampNeg_ofInt_of_le ha.1 ha.2
  have r1 : rg sp := ⟨by omega, by omega⟩
  have r2 : rg dp := ⟨by omega, by omega⟩
  have r3 : rg n := ⟨by omega, by omega⟩
  have e := gWd_set (z := z) (M := M) (M' := gCp M ka kb sp dp n) (e := .inl (z.2.2.2.2.1 t, nb, .inl (va_cpy (fun j => Int32.ofInt (gEl t (M ka j))) (fun j => Int32.ofInt (gEl t (M kb j))) sp.toNat dp.toNat n.toNat))) hkb (gCp_ne M ka kb sp dp n) (by
    simp only [gE]
    congr 4
    funext j
    simp only [va_cpy, gCp]
    by_cases h : dp.toNat ≤ j ∧ j < dp.toNat + n.toNat
    · rw [if_pos h, if_pos ⟨trivial, by omega, by omega⟩]
      rw [show ((sp.toNat + (j - dp.toNat) : Nat) : Int) = sp + ((j : Int) - dp) by omega]
    · rw [if_neg h, if_neg (by omega)])
  refine va_copyi hx hb (hml.trans (hnL.symm.trans hl.1.1.symm)) hown (hts _ w1) (hts _ w2) (hts _ w3) (hts _ w4) hK hH.1 hH.2 hS ka kb t0 t0 (gWd_at hka) (gWd_at hkb) ht ht (by rcases hty with ⟨-, rfl⟩ | ⟨-, rfl⟩ <;> rfl) (nn sp r1 h1) (nn dp r2 h2) (nn n r3 h3) (by rw [tn sp r1, tn n r3]; omega) (by rw [tn dp r2, tn n r3]; omega) (fun i _ => gFit t ty _ hty) hf hlo hd (fun H1 locs1 hP hD hS1 => kk H1 locs1 ls ⟨?_, ?_⟩ hS1 hl)
  · rw [tn sp r1, tn dp r2, tn n r3, e] at hP; exact hP
  · rw [tn sp r1, tn dp r2, tn n r3, e] at hD; exact hD
theorem g_max (hC : gC y z l cc own nL Ts rm) (hnL : lc.length = nL) {a b : Int} {ix : Nat} (ha : rg a) (hb' : rg b) (w1 : Cond.methodLink own ix Lib.Math.max.name ∈ Ts) (w2 : Cond.static Lib.Math.max.name ∈ Ts) (w3 : Cond.initialized "java/lang/Math" ∈ Ts) (w4 : Cond.code Lib.Math.max.name Lib.Math.max.code 2 (some .int) ∈ Ts) (hf : 1 ≤ rm.frames) (hlo : (st.map fun v => v.category).sum + 13 ≤ rm.locals) (hd : decode cc pc = .ok (.invokestatic ix, 3)) (k : gW y z L (pc + 3) lc (vi (max a b) :: st) M) : gW y z L pc lc (vi b :: vi a :: st) M := by
  obtain ⟨p, l', e, R, s, m, args, below, meth, c, Q⟩ := y
  obtain ⟨hx, hb, hml, hown, hts, hK, -, hR, -⟩ := hC
  subst hR
  intro H locs ls hH hS hl
  refine va_mmax hx hb (hml.trans (hnL.symm.trans hl.1.1.symm)) hown (hts _ w1) (hts _ w2) (hts _ w3) (hts _ w4) hf hlo (Nat.zero_le _) (Nat.zero_le _) hd ?_
  have e : (if Int32.ofInt a < Int32.ofInt b then Int32.ofInt b else Int32.ofInt a) = Int32.ofInt (max a b) := by
    by_cases h : a < b
    · rw [if_pos ((gt_lt ha hb').mpr h), Int.max_eq_right (Int.le_of_lt h)]
    · rw [if_neg (fun q => h ((gt_lt ha hb').mp q)), Int.max_eq_left (by omega)]
  rw [e]
  exact k H locs ls hH hS hl
theorem g_min (hC : gC y z l cc own nL Ts rm) (hnL : lc.length = nL) {a b : Int} {ix : Nat} (ha : rg a) (hb' : rg b) (w1 : Cond.methodLink own ix Lib.Math.min.name ∈ Ts) (w2 : Cond.static Lib.Math.min.name ∈ Ts) (w3 : Cond.initialized "java/lang/Math" ∈ Ts) (w4 : Cond.code Lib.Math.min.name Lib.Math.min.code 2 (some .int) ∈ Ts) (hf : 1 ≤ rm.frames) (hlo : (st.map fun v => v.category).sum + 13 ≤ rm.locals) (hd : decode cc pc = .ok (.invokestatic ix, 3)) (k : gW y z L (pc + 3) lc (vi (min a b) :: st) M) : gW y z L pc lc (vi b :: vi a :: st) M := by
  obtain ⟨p, l', e, R, s, m, args, below, meth, c, Q⟩ := y
  obtain ⟨hx, hb, hml, hown, hts, hK, -, hR, -⟩ := hC
  subst hR
  intro H locs ls hH hS hl
  refine va_mmin hx hb (hml.trans (hnL.symm.trans hl.1.1.symm)) hown (hts _ w1) (hts _ w2) (hts _ w3) (hts _ w4) hf hlo (Nat.zero_le _) (Nat.zero_le _) hd ?_
  have e : (if Int32.ofInt b < Int32.ofInt a then Int32.ofInt b else Int32.ofInt a) = Int32.ofInt (min a b) := by
    by_cases h : b < a
    · rw [if_pos ((gt_lt hb' ha).mpr h), Int.min_eq_right (Int.le_of_lt h)]
    · rw [if_neg (fun q => h ((gt_lt hb' ha).mp q)), Int.min_eq_left (by omega)]
  rw [e]
  exact k H locs ls hH hS hl
end GR
end
