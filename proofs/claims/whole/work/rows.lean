section
-- ===== PART A: goes FIRST, ahead of the names: the tables' words, and 'selects' of the private methods out of them =====
/-- a private method of a class that the tables say can be made, by its rows of tables_1 -/
def lw_okq (q : MethodName × Nat) : Prop := (q.1.cls ≠ "java/lang/invoke/MethodHandle" ∧ q.1.cls ≠ "java/lang/invoke/VarHandle") ∧ Cond.instantiable q.1.cls q.2 ∈ tables_1 ∧ Cond.privateMethod q.1 ∈ tables_1 ∧ Cond.instanceMethod q.1 ∈ tables_1
theorem lw_p0 : lw_okq (⟨"FairSeats$Worths", "addUp", "()V"⟩, 2) := ⟨⟨by decide +kernel, by decide +kernel⟩, List.mem_of_getElem? (i := 24) (by decide +kernel), List.mem_of_getElem? (i := 30) (by decide +kernel), List.mem_of_getElem? (i := 31) (by decide +kernel)⟩
theorem lw_p1 : lw_okq (⟨"FairSeats", "isHeap", "(I)Z"⟩, 9) := ⟨⟨by decide +kernel, by decide +kernel⟩, List.mem_of_getElem? (i := 16) (by decide +kernel), List.mem_of_getElem? (i := 281) (by decide +kernel), List.mem_of_getElem? (i := 282) (by decide +kernel)⟩
theorem lw_p2 : lw_okq (⟨"FairSeats$Lines", "append", "(IZI)V"⟩, 4) := ⟨⟨by decide +kernel, by decide +kernel⟩, List.mem_of_getElem? (i := 90) (by decide +kernel), List.mem_of_getElem? (i := 336) (by decide +kernel), List.mem_of_getElem? (i := 337) (by decide +kernel)⟩
theorem lw_p3 : lw_okq (⟨"FairSeats", "isCommittee", "(I)Z"⟩, 9) := ⟨⟨by decide +kernel, by decide +kernel⟩, List.mem_of_getElem? (i := 16) (by decide +kernel), List.mem_of_getElem? (i := 348) (by decide +kernel), List.mem_of_getElem? (i := 349) (by decide +kernel)⟩
theorem lw_p4 : lw_okq (⟨"FairSeats", "runWay", "(II)V"⟩, 9) := ⟨⟨by decide +kernel, by decide +kernel⟩, List.mem_of_getElem? (i := 16) (by decide +kernel), List.mem_of_getElem? (i := 384) (by decide +kernel), List.mem_of_getElem? (i := 385) (by decide +kernel)⟩
theorem lw_p5 : lw_okq (⟨"FairSeats$Ways", "clear", "()V"⟩, 7) := ⟨⟨by decide +kernel, by decide +kernel⟩, List.mem_of_getElem? (i := 163) (by decide +kernel), List.mem_of_getElem? (i := 398) (by decide +kernel), List.mem_of_getElem? (i := 399) (by decide +kernel)⟩
theorem lw_p6 : lw_okq (⟨"FairSeats$Ways", "byHeads", "(LFairSeats$Heaps;I)V"⟩, 7) := ⟨⟨by decide +kernel, by decide +kernel⟩, List.mem_of_getElem? (i := 163) (by decide +kernel), List.mem_of_getElem? (i := 402) (by decide +kernel), List.mem_of_getElem? (i := 403) (by decide +kernel)⟩
theorem lw_p7 : lw_okq (⟨"FairSeats$Ways", "add", "(I)V"⟩, 7) := ⟨⟨by decide +kernel, by decide +kernel⟩, List.mem_of_getElem? (i := 163) (by decide +kernel), List.mem_of_getElem? (i := 418) (by decide +kernel), List.mem_of_getElem? (i := 419) (by decide +kernel)⟩
theorem lw_p8 : lw_okq (⟨"FairSeats$Ways", "byWorth", "(LFairSeats$Heaps;I)V"⟩, 7) := ⟨⟨by decide +kernel, by decide +kernel⟩, List.mem_of_getElem? (i := 163) (by decide +kernel), List.mem_of_getElem? (i := 422) (by decide +kernel), List.mem_of_getElem? (i := 423) (by decide +kernel)⟩
theorem lw_p9 : lw_okq (⟨"FairSeats$Purses", "price", "(LFairSeats$Heaps;I)V"⟩, 4) := ⟨⟨by decide +kernel, by decide +kernel⟩, List.mem_of_getElem? (i := 194) (by decide +kernel), List.mem_of_getElem? (i := 479) (by decide +kernel), List.mem_of_getElem? (i := 480) (by decide +kernel)⟩
theorem lw_p10 : lw_okq (⟨"FairSeats$Ways", "take", "(I)V"⟩, 7) := ⟨⟨by decide +kernel, by decide +kernel⟩, List.mem_of_getElem? (i := 163) (by decide +kernel), List.mem_of_getElem? (i := 499) (by decide +kernel), List.mem_of_getElem? (i := 500) (by decide +kernel)⟩
theorem lw_p11 : lw_okq (⟨"FairSeats$Ways", "bySwaps", "(LFairSeats$Heaps;I)V"⟩, 7) := ⟨⟨by decide +kernel, by decide +kernel⟩, List.mem_of_getElem? (i := 163) (by decide +kernel), List.mem_of_getElem? (i := 503) (by decide +kernel), List.mem_of_getElem? (i := 504) (by decide +kernel)⟩
theorem lw_p12 : lw_okq (⟨"FairSeats", "refusalOfShare", "(III)I"⟩, 9) := ⟨⟨by decide +kernel, by decide +kernel⟩, List.mem_of_getElem? (i := 16) (by decide +kernel), List.mem_of_getElem? (i := 518) (by decide +kernel), List.mem_of_getElem? (i := 519) (by decide +kernel)⟩
theorem lw_p13 : lw_okq (⟨"FairSeats$Groups", "countMostHad", "(I)V"⟩, 9) := ⟨⟨by decide +kernel, by decide +kernel⟩, List.mem_of_getElem? (i := 125) (by decide +kernel), List.mem_of_getElem? (i := 572) (by decide +kernel), List.mem_of_getElem? (i := 573) (by decide +kernel)⟩
theorem lw_p14 : lw_okq (⟨"FairSeats", "gatherKept", "(I)V"⟩, 9) := ⟨⟨by decide +kernel, by decide +kernel⟩, List.mem_of_getElem? (i := 16) (by decide +kernel), List.mem_of_getElem? (i := 583) (by decide +kernel), List.mem_of_getElem? (i := 584) (by decide +kernel)⟩
theorem lw_p15 : lw_okq (⟨"FairSeatsModel", "isHeap", "(I)Z"⟩, 17) := ⟨⟨by decide +kernel, by decide +kernel⟩, List.mem_of_getElem? (i := 635) (by decide +kernel), List.mem_of_getElem? (i := 704) (by decide +kernel), List.mem_of_getElem? (i := 705) (by decide +kernel)⟩
def lw_privs_1 : List (MethodName × Nat) := [(⟨"FairSeats$Worths", "addUp", "()V"⟩, 2), (⟨"FairSeats", "isHeap", "(I)Z"⟩, 9), (⟨"FairSeats$Lines", "append", "(IZI)V"⟩, 4), (⟨"FairSeats", "isCommittee", "(I)Z"⟩, 9), (⟨"FairSeats", "runWay", "(II)V"⟩, 9), (⟨"FairSeats$Ways", "clear", "()V"⟩, 7), (⟨"FairSeats$Ways", "byHeads", "(LFairSeats$Heaps;I)V"⟩, 7), (⟨"FairSeats$Ways", "add", "(I)V"⟩, 7), (⟨"FairSeats$Ways", "byWorth", "(LFairSeats$Heaps;I)V"⟩, 7), (⟨"FairSeats$Purses", "price", "(LFairSeats$Heaps;I)V"⟩, 4), (⟨"FairSeats$Ways", "take", "(I)V"⟩, 7), (⟨"FairSeats$Ways", "bySwaps", "(LFairSeats$Heaps;I)V"⟩, 7), (⟨"FairSeats", "refusalOfShare", "(III)I"⟩, 9), (⟨"FairSeats$Groups", "countMostHad", "(I)V"⟩, 9), (⟨"FairSeats", "gatherKept", "(I)V"⟩, 9), (⟨"FairSeatsModel", "isHeap", "(I)Z"⟩, 17)]
theorem lw_r1 : ∀ q ∈ lw_privs_1, lw_okq q := List.forall_mem_cons.mpr ⟨lw_p0, List.forall_mem_cons.mpr ⟨lw_p1, List.forall_mem_cons.mpr ⟨lw_p2, List.forall_mem_cons.mpr ⟨lw_p3, List.forall_mem_cons.mpr ⟨lw_p4, List.forall_mem_cons.mpr ⟨lw_p5, List.forall_mem_cons.mpr ⟨lw_p6, List.forall_mem_cons.mpr ⟨lw_p7, List.forall_mem_cons.mpr ⟨lw_p8, List.forall_mem_cons.mpr ⟨lw_p9, List.forall_mem_cons.mpr ⟨lw_p10, List.forall_mem_cons.mpr ⟨lw_p11, List.forall_mem_cons.mpr ⟨lw_p12, List.forall_mem_cons.mpr ⟨lw_p13, List.forall_mem_cons.mpr ⟨lw_p14, List.forall_mem_cons.mpr ⟨lw_p15, fun _ h => absurd h List.not_mem_nil⟩⟩⟩⟩⟩⟩⟩⟩⟩⟩⟩⟩⟩⟩⟩⟩
theorem lw_p16 : lw_okq (⟨"FairSeatsModel", "faultOf", "()I"⟩, 17) := ⟨⟨by decide +kernel, by decide +kernel⟩, List.mem_of_getElem? (i := 635) (by decide +kernel), List.mem_of_getElem? (i := 732) (by decide +kernel), List.mem_of_getElem? (i := 733) (by decide +kernel)⟩
theorem lw_p17 : lw_okq (⟨"FairSeatsModel", "isCommittee", "(I)Z"⟩, 17) := ⟨⟨by decide +kernel, by decide +kernel⟩, List.mem_of_getElem? (i := 635) (by decide +kernel), List.mem_of_getElem? (i := 748) (by decide +kernel), List.mem_of_getElem? (i := 749) (by decide +kernel)⟩
theorem lw_p18 : lw_okq (⟨"FairSeatsModel", "barOf", "(I)I"⟩, 17) := ⟨⟨by decide +kernel, by decide +kernel⟩, List.mem_of_getElem? (i := 635) (by decide +kernel), List.mem_of_getElem? (i := 755) (by decide +kernel), List.mem_of_getElem? (i := 756) (by decide +kernel)⟩
theorem lw_p19 : lw_okq (⟨"FairSeatsModel", "worthOf", "(I)I"⟩, 17) := ⟨⟨by decide +kernel, by decide +kernel⟩, List.mem_of_getElem? (i := 635) (by decide +kernel), List.mem_of_getElem? (i := 759) (by decide +kernel), List.mem_of_getElem? (i := 760) (by decide +kernel)⟩
theorem lw_p20 : lw_okq (⟨"FairSeatsModel", "wronged", "(I)I"⟩, 17) := ⟨⟨by decide +kernel, by decide +kernel⟩, List.mem_of_getElem? (i := 635) (by decide +kernel), List.mem_of_getElem? (i := 763) (by decide +kernel), List.mem_of_getElem? (i := 764) (by decide +kernel)⟩
theorem lw_p21 : lw_okq (⟨"FairSeatsModel", "layWay", "(I)V"⟩, 17) := ⟨⟨by decide +kernel, by decide +kernel⟩, List.mem_of_getElem? (i := 635) (by decide +kernel), List.mem_of_getElem? (i := 774) (by decide +kernel), List.mem_of_getElem? (i := 775) (by decide +kernel)⟩
theorem lw_p22 : lw_okq (⟨"FairSeatsModel", "mostOf", "()I"⟩, 17) := ⟨⟨by decide +kernel, by decide +kernel⟩, List.mem_of_getElem? (i := 635) (by decide +kernel), List.mem_of_getElem? (i := 778) (by decide +kernel), List.mem_of_getElem? (i := 779) (by decide +kernel)⟩
theorem lw_p23 : lw_okq (⟨"FairSeatsModel", "isLeft", "(I)Z"⟩, 17) := ⟨⟨by decide +kernel, by decide +kernel⟩, List.mem_of_getElem? (i := 635) (by decide +kernel), List.mem_of_getElem? (i := 782) (by decide +kernel), List.mem_of_getElem? (i := 783) (by decide +kernel)⟩
theorem lw_p24 : lw_okq (⟨"FairSeatsModel", "papersOf", "(I)I"⟩, 17) := ⟨⟨by decide +kernel, by decide +kernel⟩, List.mem_of_getElem? (i := 635) (by decide +kernel), List.mem_of_getElem? (i := 786) (by decide +kernel), List.mem_of_getElem? (i := 787) (by decide +kernel)⟩
theorem lw_p25 : lw_okq (⟨"FairSeatsModel", "pick", "(II)V"⟩, 17) := ⟨⟨by decide +kernel, by decide +kernel⟩, List.mem_of_getElem? (i := 635) (by decide +kernel), List.mem_of_getElem? (i := 790) (by decide +kernel), List.mem_of_getElem? (i := 791) (by decide +kernel)⟩
theorem lw_p26 : lw_okq (⟨"FairSeatsModel", "greedyOf", "()I"⟩, 17) := ⟨⟨by decide +kernel, by decide +kernel⟩, List.mem_of_getElem? (i := 635) (by decide +kernel), List.mem_of_getElem? (i := 794) (by decide +kernel), List.mem_of_getElem? (i := 795) (by decide +kernel)⟩
theorem lw_p27 : lw_okq (⟨"FairSeatsModel", "loadOne", "(I)V"⟩, 17) := ⟨⟨by decide +kernel, by decide +kernel⟩, List.mem_of_getElem? (i := 635) (by decide +kernel), List.mem_of_getElem? (i := 798) (by decide +kernel), List.mem_of_getElem? (i := 799) (by decide +kernel)⟩
theorem lw_p28 : lw_okq (⟨"FairSeatsModel", "carry", "(IJ)V"⟩, 17) := ⟨⟨by decide +kernel, by decide +kernel⟩, List.mem_of_getElem? (i := 635) (by decide +kernel), List.mem_of_getElem? (i := 802) (by decide +kernel), List.mem_of_getElem? (i := 803) (by decide +kernel)⟩
theorem lw_p29 : lw_okq (⟨"FairSeatsModel", "share", "(I)V"⟩, 17) := ⟨⟨by decide +kernel, by decide +kernel⟩, List.mem_of_getElem? (i := 635) (by decide +kernel), List.mem_of_getElem? (i := 806) (by decide +kernel), List.mem_of_getElem? (i := 807) (by decide +kernel)⟩
theorem lw_p30 : lw_okq (⟨"FairSeatsModel", "layRho", "(II)Z"⟩, 17) := ⟨⟨by decide +kernel, by decide +kernel⟩, List.mem_of_getElem? (i := 635) (by decide +kernel), List.mem_of_getElem? (i := 810) (by decide +kernel), List.mem_of_getElem? (i := 811) (by decide +kernel)⟩
theorem lw_p31 : lw_okq (⟨"FairSeatsModel", "allPapers", "()I"⟩, 17) := ⟨⟨by decide +kernel, by decide +kernel⟩, List.mem_of_getElem? (i := 635) (by decide +kernel), List.mem_of_getElem? (i := 814) (by decide +kernel), List.mem_of_getElem? (i := 815) (by decide +kernel)⟩
def lw_privs_2 : List (MethodName × Nat) := [(⟨"FairSeatsModel", "faultOf", "()I"⟩, 17), (⟨"FairSeatsModel", "isCommittee", "(I)Z"⟩, 17), (⟨"FairSeatsModel", "barOf", "(I)I"⟩, 17), (⟨"FairSeatsModel", "worthOf", "(I)I"⟩, 17), (⟨"FairSeatsModel", "wronged", "(I)I"⟩, 17), (⟨"FairSeatsModel", "layWay", "(I)V"⟩, 17), (⟨"FairSeatsModel", "mostOf", "()I"⟩, 17), (⟨"FairSeatsModel", "isLeft", "(I)Z"⟩, 17), (⟨"FairSeatsModel", "papersOf", "(I)I"⟩, 17), (⟨"FairSeatsModel", "pick", "(II)V"⟩, 17), (⟨"FairSeatsModel", "greedyOf", "()I"⟩, 17), (⟨"FairSeatsModel", "loadOne", "(I)V"⟩, 17), (⟨"FairSeatsModel", "carry", "(IJ)V"⟩, 17), (⟨"FairSeatsModel", "share", "(I)V"⟩, 17), (⟨"FairSeatsModel", "layRho", "(II)Z"⟩, 17), (⟨"FairSeatsModel", "allPapers", "()I"⟩, 17)]
theorem lw_r2 : ∀ q ∈ lw_privs_2, lw_okq q := List.forall_mem_cons.mpr ⟨lw_p16, List.forall_mem_cons.mpr ⟨lw_p17, List.forall_mem_cons.mpr ⟨lw_p18, List.forall_mem_cons.mpr ⟨lw_p19, List.forall_mem_cons.mpr ⟨lw_p20, List.forall_mem_cons.mpr ⟨lw_p21, List.forall_mem_cons.mpr ⟨lw_p22, List.forall_mem_cons.mpr ⟨lw_p23, List.forall_mem_cons.mpr ⟨lw_p24, List.forall_mem_cons.mpr ⟨lw_p25, List.forall_mem_cons.mpr ⟨lw_p26, List.forall_mem_cons.mpr ⟨lw_p27, List.forall_mem_cons.mpr ⟨lw_p28, List.forall_mem_cons.mpr ⟨lw_p29, List.forall_mem_cons.mpr ⟨lw_p30, List.forall_mem_cons.mpr ⟨lw_p31, fun _ h => absurd h List.not_mem_nil⟩⟩⟩⟩⟩⟩⟩⟩⟩⟩⟩⟩⟩⟩⟩⟩
theorem lw_p32 : lw_okq (⟨"FairSeatsModel", "bestOf", "()I"⟩, 17) := ⟨⟨by decide +kernel, by decide +kernel⟩, List.mem_of_getElem? (i := 635) (by decide +kernel), List.mem_of_getElem? (i := 818) (by decide +kernel), List.mem_of_getElem? (i := 819) (by decide +kernel)⟩
theorem lw_p33 : lw_okq (⟨"FairSeatsModel", "mend", "()V"⟩, 17) := ⟨⟨by decide +kernel, by decide +kernel⟩, List.mem_of_getElem? (i := 635) (by decide +kernel), List.mem_of_getElem? (i := 822) (by decide +kernel), List.mem_of_getElem? (i := 823) (by decide +kernel)⟩
theorem lw_p34 : lw_okq (⟨"FairSeatsModel", "behind", "(IIII)J"⟩, 17) := ⟨⟨by decide +kernel, by decide +kernel⟩, List.mem_of_getElem? (i := 635) (by decide +kernel), List.mem_of_getElem? (i := 833) (by decide +kernel), List.mem_of_getElem? (i := 834) (by decide +kernel)⟩
theorem lw_p35 : lw_okq (⟨"FairSeatsModel", "isOwed", "(II)Z"⟩, 17) := ⟨⟨by decide +kernel, by decide +kernel⟩, List.mem_of_getElem? (i := 635) (by decide +kernel), List.mem_of_getElem? (i := 854) (by decide +kernel), List.mem_of_getElem? (i := 855) (by decide +kernel)⟩
theorem lw_p36 : lw_okq (⟨"FairSeatsModel", "breachOf", "(II)I"⟩, 17) := ⟨⟨by decide +kernel, by decide +kernel⟩, List.mem_of_getElem? (i := 635) (by decide +kernel), List.mem_of_getElem? (i := 865) (by decide +kernel), List.mem_of_getElem? (i := 866) (by decide +kernel)⟩
theorem lw_p37 : lw_okq (⟨"FairSeatsModel", "lacks", "(IIII)Z"⟩, 17) := ⟨⟨by decide +kernel, by decide +kernel⟩, List.mem_of_getElem? (i := 635) (by decide +kernel), List.mem_of_getElem? (i := 869) (by decide +kernel), List.mem_of_getElem? (i := 870) (by decide +kernel)⟩
theorem lw_p38 : lw_okq (⟨"FairSeatsModel", "isKept", "(II)Z"⟩, 17) := ⟨⟨by decide +kernel, by decide +kernel⟩, List.mem_of_getElem? (i := 635) (by decide +kernel), List.mem_of_getElem? (i := 877) (by decide +kernel), List.mem_of_getElem? (i := 878) (by decide +kernel)⟩
def lw_privs_3 : List (MethodName × Nat) := [(⟨"FairSeatsModel", "bestOf", "()I"⟩, 17), (⟨"FairSeatsModel", "mend", "()V"⟩, 17), (⟨"FairSeatsModel", "behind", "(IIII)J"⟩, 17), (⟨"FairSeatsModel", "isOwed", "(II)Z"⟩, 17), (⟨"FairSeatsModel", "breachOf", "(II)I"⟩, 17), (⟨"FairSeatsModel", "lacks", "(IIII)Z"⟩, 17), (⟨"FairSeatsModel", "isKept", "(II)Z"⟩, 17)]
theorem lw_r3 : ∀ q ∈ lw_privs_3, lw_okq q := List.forall_mem_cons.mpr ⟨lw_p32, List.forall_mem_cons.mpr ⟨lw_p33, List.forall_mem_cons.mpr ⟨lw_p34, List.forall_mem_cons.mpr ⟨lw_p35, List.forall_mem_cons.mpr ⟨lw_p36, List.forall_mem_cons.mpr ⟨lw_p37, List.forall_mem_cons.mpr ⟨lw_p38, fun _ h => absurd h List.not_mem_nil⟩⟩⟩⟩⟩⟩⟩
def lw_privs : List (MethodName × Nat) := lw_privs_1 ++ (lw_privs_2 ++ (lw_privs_3))
def lw_tbl : List Cond := k2_sels lw_privs ++ tables_1
theorem lw_privs_ok : ∀ q ∈ lw_privs, lw_okq q := by
  show ∀ q ∈ lw_privs_1 ++ (lw_privs_2 ++ (lw_privs_3)), lw_okq q
  exact List.forall_mem_append.mpr ⟨lw_r1, List.forall_mem_append.mpr ⟨lw_r2, lw_r3⟩⟩
end
section
/-! ===== BEGIN words of one list among another's, by their places ===== -/
theorem goodIn_r {big : List Cond} (ws : List Cond) (ps : List Nat) (hp : ws = ps.filterMap (fun i => big[i]?)) (h : ws.all goodWord = true) : GoodIn big ws := by
  intro w hw
  have h1 := List.all_eq_true.mp h w hw
  rw [hp] at hw
  obtain ⟨i, -, hi⟩ := List.mem_filterMap.mp hw
  have hm : w ∈ big := by first | exact List.mem_of_getElem? hi | exact List.getElem?_mem hi
  exact ⟨hm, good_of_word h1⟩
theorem goodIn_app {big a b : List Cond} (ha : GoodIn big a) (hb : GoodIn big b) : GoodIn big (a ++ b) := fun w h => (List.mem_append.mp h).elim (ha w) (hb w)
theorem goodIn_ca {big a b : List Cond} {c : Cond} (ha : GoodIn big (c :: a)) (hb : GoodIn big b) : GoodIn big (c :: (a ++ b)) := fun w h => (List.mem_cons.mp h).elim (fun e => ha w (List.mem_cons.mpr (Or.inl e))) (fun h => (List.mem_append.mp h).elim (fun h => ha w (List.mem_cons.mpr (Or.inr h))) (hb w))
theorem goodIn_sub {big ws : List Cond} (hm : ∀ w ∈ ws, w ∈ big) (h : ws.all goodWord = true) : GoodIn big ws := fun w hw => ⟨hm w hw, good_of_word (List.all_eq_true.mp h w hw)⟩
/-! ===== END ===== -/

/-! ===== BEGIN printed: names, fields, word lists, decode rows ===== -/
def RX0 : String := "FairSeats$Committees"
def TX0 : u_T := fun k => match k with
  | 0 => ("FairSeats$Committees", "row", "[I", true)
  | _ => ("FairSeats$Committees", "count", "I", false)
def tyX0 : Nat → FieldType := fun k => match k with
  | 0 => .array .int
  | _ => .int
abbrev wsX00 : List Cond := u_ws RX0 TX0 2
theorem nmX0 : ∀ a, a < 2 → ∀ b, b < 2 → a ≠ b → (TX0 a).2.1 ≠ (TX0 b).2.1 := by decide +kernel
theorem tyX0_ok : ∀ k, k < 2 → parseFieldDescriptor (TX0 k).2.2.1 = some (tyX0 k) := by decide +kernel
abbrev cX0_init : ByteArray := prog_2_method_1_code
def yX0_init : MethodName := ⟨RX0, "<init>", "()V"⟩
abbrev cX0_gather : ByteArray := prog_2_method_2_code
def yX0_gather : MethodName := ⟨RX0, "gather", "(LFairSeats$Lines;I)V"⟩
abbrev cX0_keepThoseThatHold : ByteArray := prog_2_method_3_code
def yX0_keepThoseThatHold : MethodName := ⟨RX0, "keepThoseThatHold", "(LFairSeats$Groups;I)V"⟩
abbrev cX0_at : ByteArray := prog_2_method_4_code
def yX0_at : MethodName := ⟨RX0, "at", "(I)I"⟩
abbrev cX0_ofMostWorth : ByteArray := prog_2_method_5_code
def yX0_ofMostWorth : MethodName := ⟨RX0, "ofMostWorth", "(LFairSeats$Heaps;)I"⟩
abbrev cX0_leastWronged : ByteArray := prog_2_method_6_code
def yX0_leastWronged : MethodName := ⟨RX0, "leastWronged", "(LFairSeats$Heaps;)I"⟩
abbrev cX0_closestTo : ByteArray := prog_2_method_7_code
def yX0_closestTo : MethodName := ⟨RX0, "closestTo", "(I)I"⟩
def RX1 : String := "FairSeats$Fractions"
def TX1 : u_T := fun k => match k with
  | _ => ("", "", "", false)
def tyX1 : Nat → FieldType := fun k => match k with
  | _ => .int
abbrev wsX10 : List Cond := u_ws RX1 TX1 0
theorem nmX1 : ∀ a, a < 0 → ∀ b, b < 0 → a ≠ b → (TX1 a).2.1 ≠ (TX1 b).2.1 := by decide +kernel
theorem tyX1_ok : ∀ k, k < 0 → parseFieldDescriptor (TX1 k).2.2.1 = some (tyX1 k) := by decide +kernel
abbrev cX1_init : ByteArray := prog_3_method_1_code
def yX1_init : MethodName := ⟨RX1, "<init>", "()V"⟩
abbrev cX1_begin : ByteArray := prog_3_method_2_code
def yX1_begin : MethodName := ⟨RX1, "begin", "(I)V"⟩
abbrev cX1_widen : ByteArray := prog_3_method_3_code
def yX1_widen : MethodName := ⟨RX1, "widen", "(I)V"⟩
abbrev cX1_sumOf : ByteArray := prog_3_method_4_code
def yX1_sumOf : MethodName := ⟨RX1, "sumOf", "(LFairSeats$Heaps;I)J"⟩
abbrev cX1_lowest : ByteArray := prog_3_method_5_code
def yX1_lowest : MethodName := ⟨RX1, "lowest", "(II)J"⟩
abbrev cX1_commonDivisor : ByteArray := prog_3_method_6_code
def yX1_commonDivisor : MethodName := ⟨RX1, "commonDivisor", "(JJ)J"⟩
def RX2 : String := "FairSeats$Groups"
def TX2 : u_T := fun k => match k with
  | 0 => ("FairSeats$Groups", "common", "[I", true)
  | 1 => ("FairSeats$Groups", "anyone", "[I", true)
  | 2 => ("FairSeats$Groups", "papers", "[I", true)
  | 3 => ("FairSeats$Groups", "due", "[I", true)
  | 4 => ("FairSeats$Groups", "mostHad", "[I", true)
  | 5 => ("FairSeats$Groups", "sets", "[I", true)
  | 6 => ("FairSeats$Groups", "count", "I", false)
  | 7 => ("FairSeats$Groups", "breachSize", "I", false)
  | _ => ("FairSeats$Groups", "breachGroup", "I", false)
def tyX2 : Nat → FieldType := fun k => match k with
  | 0 => .array .int
  | 1 => .array .int
  | 2 => .array .int
  | 3 => .array .int
  | 4 => .array .int
  | 5 => .array .int
  | 6 => .int
  | 7 => .int
  | _ => .int
abbrev wsX20 : List Cond := u_ws RX2 TX2 9
theorem nmX2 : ∀ a, a < 9 → ∀ b, b < 9 → a ≠ b → (TX2 a).2.1 ≠ (TX2 b).2.1 := by decide +kernel
theorem tyX2_ok : ∀ k, k < 9 → parseFieldDescriptor (TX2 k).2.2.1 = some (tyX2 k) := by decide +kernel
abbrev cX2_init : ByteArray := prog_4_method_1_code
def yX2_init : MethodName := ⟨RX2, "<init>", "()V"⟩
abbrev cX2_gather : ByteArray := prog_4_method_2_code
def yX2_gather : MethodName := ⟨RX2, "gather", "(LFairSeats$Heaps;I)V"⟩
abbrev cX2_seekBreach : ByteArray := prog_4_method_3_code
def yX2_seekBreach : MethodName := ⟨RX2, "seekBreach", "(II)V"⟩
abbrev cX2_lowestHeap : ByteArray := prog_4_method_4_code
def yX2_lowestHeap : MethodName := ⟨RX2, "lowestHeap", "(I)I"⟩
abbrev cX2_countMostHad : ByteArray := prog_4_method_5_code
def yX2_countMostHad : MethodName := ⟨RX2, "countMostHad", "(I)V"⟩
def RX3 : String := "FairSeats$Heaps"
def TX3 : u_T := fun k => match k with
  | 0 => ("FairSeats$Heaps", "sets", "[I", true)
  | 1 => ("FairSeats$Heaps", "papers", "[I", true)
  | 2 => ("FairSeats$Heaps", "worths", "LFairSeats$Worths;", true)
  | _ => ("FairSeats$Heaps", "count", "I", false)
def tyX3 : Nat → FieldType := fun k => match k with
  | 0 => .array .int
  | 1 => .array .int
  | 2 => .object "FairSeats$Worths"
  | _ => .int
abbrev wsX30 : List Cond := u_ws RX3 TX3 4
theorem nmX3 : ∀ a, a < 4 → ∀ b, b < 4 → a ≠ b → (TX3 a).2.1 ≠ (TX3 b).2.1 := by decide +kernel
theorem tyX3_ok : ∀ k, k < 4 → parseFieldDescriptor (TX3 k).2.2.1 = some (tyX3 k) := by decide +kernel
abbrev cX3_init : ByteArray := prog_5_method_1_code
def yX3_init : MethodName := ⟨RX3, "<init>", "(LFairSeats$Worths;)V"⟩
abbrev cX3_append : ByteArray := prog_5_method_2_code
def yX3_append : MethodName := ⟨RX3, "append", "(II)V"⟩
abbrev cX3_copyOf : ByteArray := prog_5_method_3_code
def yX3_copyOf : MethodName := ⟨RX3, "copyOf", "(LFairSeats$Heaps;)V"⟩
abbrev cX3_moveToLast : ByteArray := prog_5_method_4_code
def yX3_moveToLast : MethodName := ⟨RX3, "moveToLast", "(I)V"⟩
abbrev cX3_tells : ByteArray := prog_5_method_5_code
def yX3_tells : MethodName := ⟨RX3, "tells", "(II)Z"⟩
abbrev cX3_total : ByteArray := prog_5_method_6_code
def yX3_total : MethodName := ⟨RX3, "total", "()I"⟩
abbrev cX3_telling : ByteArray := prog_5_method_7_code
def yX3_telling : MethodName := ⟨RX3, "telling", "(I)I"⟩
abbrev cX3_worthOf : ByteArray := prog_5_method_8_code
def yX3_worthOf : MethodName := ⟨RX3, "worthOf", "(I)I"⟩
abbrev cX3_wronged : ByteArray := prog_5_method_9_code
def yX3_wronged : MethodName := ⟨RX3, "wronged", "(I)I"⟩
def RX4 : String := "FairSeats$Lines"
def TX4 : u_T := fun k => match k with
  | 0 => ("FairSeats$Lines", "sets", "[I", true)
  | 1 => ("FairSeats$Lines", "digits", "[I", true)
  | 2 => ("FairSeats$Lines", "fewer", "[Z", true)
  | _ => ("FairSeats$Lines", "count", "I", false)
def tyX4 : Nat → FieldType := fun k => match k with
  | 0 => .array .int
  | 1 => .array .int
  | 2 => .array .boolean
  | _ => .int
abbrev wsX40 : List Cond := u_ws RX4 TX4 4
theorem nmX4 : ∀ a, a < 4 → ∀ b, b < 4 → a ≠ b → (TX4 a).2.1 ≠ (TX4 b).2.1 := by decide +kernel
theorem tyX4_ok : ∀ k, k < 4 → parseFieldDescriptor (TX4 k).2.2.1 = some (tyX4 k) := by decide +kernel
abbrev cX4_init : ByteArray := prog_6_method_1_code
def yX4_init : MethodName := ⟨RX4, "<init>", "()V"⟩
abbrev cX4_read : ByteArray := prog_6_method_2_code
def yX4_read : MethodName := ⟨RX4, "read", "(LFairSeats$Text;)V"⟩
abbrev cX4_append : ByteArray := prog_6_method_3_code
def yX4_append : MethodName := ⟨RX4, "append", "(IZI)V"⟩
abbrev cX4_firstBroken : ByteArray := prog_6_method_4_code
def yX4_firstBroken : MethodName := ⟨RX4, "firstBroken", "(I)I"⟩
abbrev cX4_allow : ByteArray := prog_6_method_5_code
def yX4_allow : MethodName := ⟨RX4, "allow", "(I)Z"⟩
def RX5 : String := "FairSeats$Loads"
def TX5 : u_T := fun k => match k with
  | 0 => ("FairSeats$Fractions", "upper", "[J", true)
  | _ => ("FairSeats$Fractions", "lower", "J", false)
def tyX5 : Nat → FieldType := fun k => match k with
  | 0 => .array .long
  | _ => .long
abbrev wsX50 : List Cond := u_ws RX5 TX5 2
theorem nmX5 : ∀ a, a < 2 → ∀ b, b < 2 → a ≠ b → (TX5 a).2.1 ≠ (TX5 b).2.1 := by decide +kernel
theorem tyX5_ok : ∀ k, k < 2 → parseFieldDescriptor (TX5 k).2.2.1 = some (tyX5 k) := by decide +kernel
abbrev cX5_init : ByteArray := prog_7_method_1_code
def yX5_init : MethodName := ⟨RX5, "<init>", "()V"⟩
abbrev cX5_lightest : ByteArray := prog_7_method_2_code
def yX5_lightest : MethodName := ⟨RX5, "lightest", "(LFairSeats$Heaps;I)I"⟩
abbrev cX5_bear : ByteArray := prog_7_method_3_code
def yX5_bear : MethodName := ⟨RX5, "bear", "(LFairSeats$Heaps;I)V"⟩
def RX6 : String := "FairSeats$Purses"
def TX6 : u_T := fun k => match k with
  | 0 => ("FairSeats$Fractions", "upper", "[J", true)
  | 1 => ("FairSeats$Fractions", "lower", "J", false)
  | 2 => ("FairSeats$Purses", "rest", "J", false)
  | _ => ("FairSeats$Purses", "payers", "I", false)
def tyX6 : Nat → FieldType := fun k => match k with
  | 0 => .array .long
  | 1 => .long
  | 2 => .long
  | _ => .int
abbrev wsX60 : List Cond := u_ws RX6 TX6 4
theorem nmX6 : ∀ a, a < 4 → ∀ b, b < 4 → a ≠ b → (TX6 a).2.1 ≠ (TX6 b).2.1 := by decide +kernel
theorem tyX6_ok : ∀ k, k < 4 → parseFieldDescriptor (TX6 k).2.2.1 = some (tyX6 k) := by decide +kernel
abbrev cX6_init : ByteArray := prog_8_method_1_code
def yX6_init : MethodName := ⟨RX6, "<init>", "()V"⟩
abbrev cX6_cheapest : ByteArray := prog_8_method_2_code
def yX6_cheapest : MethodName := ⟨RX6, "cheapest", "(LFairSeats$Heaps;I)I"⟩
abbrev cX6_price : ByteArray := prog_8_method_3_code
def yX6_price : MethodName := ⟨RX6, "price", "(LFairSeats$Heaps;I)V"⟩
abbrev cX6_pay : ByteArray := prog_8_method_4_code
def yX6_pay : MethodName := ⟨RX6, "pay", "(LFairSeats$Heaps;I)V"⟩
def RX7 : String := "FairSeats$Text"
def TX7 : u_T := fun k => match k with
  | 0 => ("FairSeats$Text", "signs", "[I", true)
  | _ => ("FairSeats$Text", "length", "I", false)
def tyX7 : Nat → FieldType := fun k => match k with
  | 0 => .array .int
  | _ => .int
abbrev wsX70 : List Cond := u_ws RX7 TX7 2
theorem nmX7 : ∀ a, a < 2 → ∀ b, b < 2 → a ≠ b → (TX7 a).2.1 ≠ (TX7 b).2.1 := by decide +kernel
theorem tyX7_ok : ∀ k, k < 2 → parseFieldDescriptor (TX7 k).2.2.1 = some (tyX7 k) := by decide +kernel
abbrev cX7_init : ByteArray := prog_9_method_1_code
def yX7_init : MethodName := ⟨RX7, "<init>", "()V"⟩
abbrev cX7_append : ByteArray := prog_9_method_2_code
def yX7_append : MethodName := ⟨RX7, "append", "(I)V"⟩
abbrev cX7_step : ByteArray := prog_9_method_3_code
def yX7_step : MethodName := ⟨RX7, "step", "(II)I"⟩
abbrev cX7_firstFault : ByteArray := prog_9_method_4_code
def yX7_firstFault : MethodName := ⟨RX7, "firstFault", "()I"⟩
def RX8 : String := "FairSeats$Ways"
def TX8 : u_T := fun k => match k with
  | 0 => ("FairSeats$Ways", "loads", "LFairSeats$Loads;", true)
  | 1 => ("FairSeats$Ways", "purses", "LFairSeats$Purses;", true)
  | 2 => ("FairSeats$Ways", "lawful", "LFairSeats$Committees;", true)
  | 3 => ("FairSeats$Ways", "order", "[I", true)
  | 4 => ("FairSeats$Ways", "count", "I", false)
  | 5 => ("FairSeats$Ways", "chosen", "I", false)
  | _ => ("FairSeats$Ways", "paidCount", "I", false)
def tyX8 : Nat → FieldType := fun k => match k with
  | 0 => .object "FairSeats$Loads"
  | 1 => .object "FairSeats$Purses"
  | 2 => .object "FairSeats$Committees"
  | 3 => .array .int
  | 4 => .int
  | 5 => .int
  | _ => .int
abbrev wsX80 : List Cond := u_ws RX8 TX8 7
theorem nmX8 : ∀ a, a < 7 → ∀ b, b < 7 → a ≠ b → (TX8 a).2.1 ≠ (TX8 b).2.1 := by decide +kernel
theorem tyX8_ok : ∀ k, k < 7 → parseFieldDescriptor (TX8 k).2.2.1 = some (tyX8 k) := by decide +kernel
abbrev cX8_init : ByteArray := prog_10_method_1_code
def yX8_init : MethodName := ⟨RX8, "<init>", "(LFairSeats$Committees;)V"⟩
abbrev cX8_run : ByteArray := prog_10_method_2_code
def yX8_run : MethodName := ⟨RX8, "run", "(ILFairSeats$Heaps;I)V"⟩
abbrev cX8_holds : ByteArray := prog_10_method_3_code
def yX8_holds : MethodName := ⟨RX8, "holds", "(I)Z"⟩
abbrev cX8_chosenAt : ByteArray := prog_10_method_4_code
def yX8_chosenAt : MethodName := ⟨RX8, "chosenAt", "(I)I"⟩
abbrev cX8_clear : ByteArray := prog_10_method_5_code
def yX8_clear : MethodName := ⟨RX8, "clear", "()V"⟩
abbrev cX8_add : ByteArray := prog_10_method_6_code
def yX8_add : MethodName := ⟨RX8, "add", "(I)V"⟩
abbrev cX8_take : ByteArray := prog_10_method_7_code
def yX8_take : MethodName := ⟨RX8, "take", "(I)V"⟩
abbrev cX8_byHeads : ByteArray := prog_10_method_8_code
def yX8_byHeads : MethodName := ⟨RX8, "byHeads", "(LFairSeats$Heaps;I)V"⟩
abbrev cX8_byWorth : ByteArray := prog_10_method_9_code
def yX8_byWorth : MethodName := ⟨RX8, "byWorth", "(LFairSeats$Heaps;I)V"⟩
abbrev cX8_byLoads : ByteArray := prog_10_method_10_code
def yX8_byLoads : MethodName := ⟨RX8, "byLoads", "(LFairSeats$Heaps;I)V"⟩
abbrev cX8_byPurses : ByteArray := prog_10_method_11_code
def yX8_byPurses : MethodName := ⟨RX8, "byPurses", "(LFairSeats$Heaps;II)V"⟩
abbrev cX8_bySwaps : ByteArray := prog_10_method_12_code
def yX8_bySwaps : MethodName := ⟨RX8, "bySwaps", "(LFairSeats$Heaps;I)V"⟩
abbrev cX8_bestSwap : ByteArray := prog_10_method_13_code
def yX8_bestSwap : MethodName := ⟨RX8, "bestSwap", "(LFairSeats$Heaps;I)I"⟩
def RX9 : String := "FairSeats$Worths"
def TX9 : u_T := fun k => match k with
  | 0 => ("FairSeats$Worths", "each", "[I", true)
  | _ => ("FairSeats$Worths", "together", "[I", true)
def tyX9 : Nat → FieldType := fun k => match k with
  | 0 => .array .int
  | _ => .array .int
abbrev wsX90 : List Cond := u_ws RX9 TX9 2
theorem nmX9 : ∀ a, a < 2 → ∀ b, b < 2 → a ≠ b → (TX9 a).2.1 ≠ (TX9 b).2.1 := by decide +kernel
theorem tyX9_ok : ∀ k, k < 2 → parseFieldDescriptor (TX9 k).2.2.1 = some (tyX9 k) := by decide +kernel
abbrev cX9_init : ByteArray := prog_11_method_1_code
def yX9_init : MethodName := ⟨RX9, "<init>", "()V"⟩
abbrev cX9_addUp : ByteArray := prog_11_method_2_code
def yX9_addUp : MethodName := ⟨RX9, "addUp", "()V"⟩
abbrev cX9_fits : ByteArray := prog_11_method_3_code
def yX9_fits : MethodName := ⟨RX9, "fits", "(II)Z"⟩
abbrev cX9_put : ByteArray := prog_11_method_4_code
def yX9_put : MethodName := ⟨RX9, "put", "(II)V"⟩
def RX10 : String := "FairSeats"
def TX10 : u_T := fun k => match k with
  | 0 => ("FairSeats", "worths", "LFairSeats$Worths;", true)
  | 1 => ("FairSeats", "heaps", "LFairSeats$Heaps;", true)
  | 2 => ("FairSeats", "trial", "LFairSeats$Heaps;", true)
  | 3 => ("FairSeats", "text", "LFairSeats$Text;", true)
  | 4 => ("FairSeats", "lines", "LFairSeats$Lines;", true)
  | 5 => ("FairSeats", "lawful", "LFairSeats$Committees;", true)
  | 6 => ("FairSeats", "groups", "LFairSeats$Groups;", true)
  | 7 => ("FairSeats", "ways", "LFairSeats$Ways;", true)
  | _ => ("FairSeats", "seatCount", "I", false)
def tyX10 : Nat → FieldType := fun k => match k with
  | 0 => .object "FairSeats$Worths"
  | 1 => .object "FairSeats$Heaps"
  | 2 => .object "FairSeats$Heaps"
  | 3 => .object "FairSeats$Text"
  | 4 => .object "FairSeats$Lines"
  | 5 => .object "FairSeats$Committees"
  | 6 => .object "FairSeats$Groups"
  | 7 => .object "FairSeats$Ways"
  | _ => .int
abbrev wsX100 : List Cond := u_ws RX10 TX10 9
theorem nmX10 : ∀ a, a < 9 → ∀ b, b < 9 → a ≠ b → (TX10 a).2.1 ≠ (TX10 b).2.1 := by decide +kernel
theorem tyX10_ok : ∀ k, k < 9 → parseFieldDescriptor (TX10 k).2.2.1 = some (tyX10 k) := by decide +kernel
abbrev cX10_init : ByteArray := prog_1_method_1_code
def yX10_init : MethodName := ⟨RX10, "<init>", "()V"⟩
abbrev cX10_heap : ByteArray := prog_1_method_2_code
def yX10_heap : MethodName := ⟨RX10, "heap", "(II)I"⟩
abbrev cX10_change : ByteArray := prog_1_method_3_code
def yX10_change : MethodName := ⟨RX10, "change", "(III)I"⟩
abbrev cX10_drop : ByteArray := prog_1_method_4_code
def yX10_drop : MethodName := ⟨RX10, "drop", "()I"⟩
abbrev cX10_seats : ByteArray := prog_1_method_5_code
def yX10_seats : MethodName := ⟨RX10, "seats", "(I)I"⟩
abbrev cX10_worth : ByteArray := prog_1_method_6_code
def yX10_worth : MethodName := ⟨RX10, "worth", "(II)I"⟩
abbrev cX10_say : ByteArray := prog_1_method_7_code
def yX10_say : MethodName := ⟨RX10, "say", "(I)I"⟩
abbrev cX10_wipe : ByteArray := prog_1_method_8_code
def yX10_wipe : MethodName := ⟨RX10, "wipe", "()I"⟩
abbrev cX10_fault : ByteArray := prog_1_method_9_code
def yX10_fault : MethodName := ⟨RX10, "fault", "()I"⟩
abbrev cX10_hall : ByteArray := prog_1_method_10_code
def yX10_hall : MethodName := ⟨RX10, "hall", "()I"⟩
abbrev cX10_open : ByteArray := prog_1_method_11_code
def yX10_open : MethodName := ⟨RX10, "open", "()I"⟩
abbrev cX10_of : ByteArray := prog_1_method_12_code
def yX10_of : MethodName := ⟨RX10, "of", "(II)I"⟩
abbrev cX10_choose : ByteArray := prog_1_method_13_code
def yX10_choose : MethodName := ⟨RX10, "choose", "(II)I"⟩
abbrev cX10_load : ByteArray := prog_1_method_14_code
def yX10_load : MethodName := ⟨RX10, "load", "(III)J"⟩
abbrev cX10_purse : ByteArray := prog_1_method_15_code
def yX10_purse : MethodName := ⟨RX10, "purse", "(III)J"⟩
abbrev cX10_paid : ByteArray := prog_1_method_16_code
def yX10_paid : MethodName := ⟨RX10, "paid", "()I"⟩
abbrev cX10_owed : ByteArray := prog_1_method_17_code
def yX10_owed : MethodName := ⟨RX10, "owed", "(II)I"⟩
abbrev cX10_breach : ByteArray := prog_1_method_18_code
def yX10_breach : MethodName := ⟨RX10, "breach", "(III)I"⟩
abbrev cX10_kept : ByteArray := prog_1_method_19_code
def yX10_kept : MethodName := ⟨RX10, "kept", "(II)I"⟩
abbrev cX10_least : ByteArray := prog_1_method_20_code
def yX10_least : MethodName := ⟨RX10, "least", "(I)I"⟩
abbrev cX10_nearest : ByteArray := prog_1_method_21_code
def yX10_nearest : MethodName := ⟨RX10, "nearest", "(II)I"⟩
abbrev cX10_more : ByteArray := prog_1_method_22_code
def yX10_more : MethodName := ⟨RX10, "more", "(II)I"⟩
abbrev cX10_turn : ByteArray := prog_1_method_23_code
def yX10_turn : MethodName := ⟨RX10, "turn", "(III)I"⟩
abbrev cX10_told : ByteArray := prog_1_method_24_code
def yX10_told : MethodName := ⟨RX10, "told", "(I)I"⟩
abbrev cX10_isSet : ByteArray := prog_1_method_25_code
def yX10_isSet : MethodName := ⟨RX10, "isSet", "(I)Z"⟩
abbrev cX10_isPapers : ByteArray := prog_1_method_26_code
def yX10_isPapers : MethodName := ⟨RX10, "isPapers", "(I)Z"⟩
abbrev cX10_isWay : ByteArray := prog_1_method_27_code
def yX10_isWay : MethodName := ⟨RX10, "isWay", "(I)Z"⟩
abbrev cX10_isLaw : ByteArray := prog_1_method_28_code
def yX10_isLaw : MethodName := ⟨RX10, "isLaw", "(I)Z"⟩
abbrev cX10_isHeap : ByteArray := prog_1_method_29_code
def yX10_isHeap : MethodName := ⟨RX10, "isHeap", "(I)Z"⟩
abbrev cX10_isCommittee : ByteArray := prog_1_method_30_code
def yX10_isCommittee : MethodName := ⟨RX10, "isCommittee", "(I)Z"⟩
abbrev cX10_refusalOfShare : ByteArray := prog_1_method_31_code
def yX10_refusalOfShare : MethodName := ⟨RX10, "refusalOfShare", "(III)I"⟩
abbrev cX10_runWay : ByteArray := prog_1_method_32_code
def yX10_runWay : MethodName := ⟨RX10, "runWay", "(II)V"⟩
abbrev cX10_gatherKept : ByteArray := prog_1_method_33_code
def yX10_gatherKept : MethodName := ⟨RX10, "gatherKept", "(I)V"⟩
def RX11 : String := "FairSeatsModel"
def TX11 : u_T := fun k => match k with
  | 0 => ("FairSeatsModel", "heaps", "I", false)
  | 1 => ("FairSeatsModel", "sets", "[I", true)
  | 2 => ("FairSeatsModel", "papers", "[I", true)
  | 3 => ("FairSeatsModel", "seats", "I", false)
  | 4 => ("FairSeatsModel", "worths", "[I", true)
  | 5 => ("FairSeatsModel", "signs", "I", false)
  | 6 => ("FairSeatsModel", "sign", "[I", true)
  | 7 => ("FairSeatsModel", "hallMany", "I", false)
  | 8 => ("FairSeatsModel", "hallSign", "[I", true)
  | 9 => ("FairSeatsModel", "chosen", "[I", true)
  | 10 => ("FairSeatsModel", "chosenSet", "I", false)
  | 11 => ("FairSeatsModel", "paidSeats", "I", false)
  | 12 => ("FairSeatsModel", "upper", "[J", true)
  | 13 => ("FairSeatsModel", "lower", "[J", true)
  | 14 => ("FairSeatsModel", "rhoUp", "J", false)
  | 15 => ("FairSeatsModel", "rhoBy", "J", false)
  | _ => ("FairSeatsModel", "breachGroup", "I", false)
def tyX11 : Nat → FieldType := fun k => match k with
  | 0 => .int
  | 1 => .array .int
  | 2 => .array .int
  | 3 => .int
  | 4 => .array .int
  | 5 => .int
  | 6 => .array .int
  | 7 => .int
  | 8 => .array .int
  | 9 => .array .int
  | 10 => .int
  | 11 => .int
  | 12 => .array .long
  | 13 => .array .long
  | 14 => .long
  | 15 => .long
  | _ => .int
abbrev wsX110 : List Cond := u_ws RX11 TX11 17
theorem nmX11 : ∀ a, a < 17 → ∀ b, b < 17 → a ≠ b → (TX11 a).2.1 ≠ (TX11 b).2.1 := by decide +kernel
theorem tyX11_ok : ∀ k, k < 17 → parseFieldDescriptor (TX11 k).2.2.1 = some (tyX11 k) := by decide +kernel
abbrev cX11_init : ByteArray := prog_13_method_1_code
def yX11_init : MethodName := ⟨RX11, "<init>", "()V"⟩
abbrev cX11_in : ByteArray := prog_13_method_2_code
def yX11_in : MethodName := ⟨RX11, "in", "(III)Z"⟩
abbrev cX11_bits : ByteArray := prog_13_method_3_code
def yX11_bits : MethodName := ⟨RX11, "bits", "(I)I"⟩
abbrev cX11_isHeap : ByteArray := prog_13_method_4_code
def yX11_isHeap : MethodName := ⟨RX11, "isHeap", "(I)Z"⟩
abbrev cX11_heap : ByteArray := prog_13_method_5_code
def yX11_heap : MethodName := ⟨RX11, "heap", "(II)I"⟩
abbrev cX11_change : ByteArray := prog_13_method_6_code
def yX11_change : MethodName := ⟨RX11, "change", "(III)I"⟩
abbrev cX11_drop : ByteArray := prog_13_method_7_code
def yX11_drop : MethodName := ⟨RX11, "drop", "()I"⟩
abbrev cX11_seats : ByteArray := prog_13_method_8_code
def yX11_seats : MethodName := ⟨RX11, "seats", "(I)I"⟩
abbrev cX11_worth : ByteArray := prog_13_method_9_code
def yX11_worth : MethodName := ⟨RX11, "worth", "(II)I"⟩
abbrev cX11_say : ByteArray := prog_13_method_10_code
def yX11_say : MethodName := ⟨RX11, "say", "(I)I"⟩
abbrev cX11_wipe : ByteArray := prog_13_method_11_code
def yX11_wipe : MethodName := ⟨RX11, "wipe", "()I"⟩
abbrev cX11_faultOf : ByteArray := prog_13_method_12_code
def yX11_faultOf : MethodName := ⟨RX11, "faultOf", "()I"⟩
abbrev cX11_fault : ByteArray := prog_13_method_13_code
def yX11_fault : MethodName := ⟨RX11, "fault", "()I"⟩
abbrev cX11_hall : ByteArray := prog_13_method_14_code
def yX11_hall : MethodName := ⟨RX11, "hall", "()I"⟩
abbrev cX11_open : ByteArray := prog_13_method_15_code
def yX11_open : MethodName := ⟨RX11, "open", "()I"⟩
abbrev cX11_barOf : ByteArray := prog_13_method_16_code
def yX11_barOf : MethodName := ⟨RX11, "barOf", "(I)I"⟩
abbrev cX11_worthOf : ByteArray := prog_13_method_17_code
def yX11_worthOf : MethodName := ⟨RX11, "worthOf", "(I)I"⟩
abbrev cX11_wronged : ByteArray := prog_13_method_18_code
def yX11_wronged : MethodName := ⟨RX11, "wronged", "(I)I"⟩
abbrev cX11_isCommittee : ByteArray := prog_13_method_19_code
def yX11_isCommittee : MethodName := ⟨RX11, "isCommittee", "(I)Z"⟩
abbrev cX11_of : ByteArray := prog_13_method_20_code
def yX11_of : MethodName := ⟨RX11, "of", "(II)I"⟩
abbrev cX11_allPapers : ByteArray := prog_13_method_21_code
def yX11_allPapers : MethodName := ⟨RX11, "allPapers", "()I"⟩
abbrev cX11_papersOf : ByteArray := prog_13_method_22_code
def yX11_papersOf : MethodName := ⟨RX11, "papersOf", "(I)I"⟩
abbrev cX11_pick : ByteArray := prog_13_method_23_code
def yX11_pick : MethodName := ⟨RX11, "pick", "(II)V"⟩
abbrev cX11_isLeft : ByteArray := prog_13_method_24_code
def yX11_isLeft : MethodName := ⟨RX11, "isLeft", "(I)Z"⟩
abbrev cX11_mostOf : ByteArray := prog_13_method_25_code
def yX11_mostOf : MethodName := ⟨RX11, "mostOf", "()I"⟩
abbrev cX11_greedyOf : ByteArray := prog_13_method_26_code
def yX11_greedyOf : MethodName := ⟨RX11, "greedyOf", "()I"⟩
abbrev cX11_carry : ByteArray := prog_13_method_27_code
def yX11_carry : MethodName := ⟨RX11, "carry", "(IJ)V"⟩
abbrev cX11_loadOne : ByteArray := prog_13_method_28_code
def yX11_loadOne : MethodName := ⟨RX11, "loadOne", "(I)V"⟩
abbrev cX11_layRho : ByteArray := prog_13_method_29_code
def yX11_layRho : MethodName := ⟨RX11, "layRho", "(II)Z"⟩
abbrev cX11_share : ByteArray := prog_13_method_30_code
def yX11_share : MethodName := ⟨RX11, "share", "(I)V"⟩
abbrev cX11_layWay : ByteArray := prog_13_method_31_code
def yX11_layWay : MethodName := ⟨RX11, "layWay", "(I)V"⟩
abbrev cX11_bestOf : ByteArray := prog_13_method_32_code
def yX11_bestOf : MethodName := ⟨RX11, "bestOf", "()I"⟩
abbrev cX11_mend : ByteArray := prog_13_method_33_code
def yX11_mend : MethodName := ⟨RX11, "mend", "()V"⟩
abbrev cX11_isWay : ByteArray := prog_13_method_34_code
def yX11_isWay : MethodName := ⟨RX11, "isWay", "(I)Z"⟩
abbrev cX11_nth : ByteArray := prog_13_method_35_code
def yX11_nth : MethodName := ⟨RX11, "nth", "(II)I"⟩
abbrev cX11_choose : ByteArray := prog_13_method_36_code
def yX11_choose : MethodName := ⟨RX11, "choose", "(II)I"⟩
abbrev cX11_term : ByteArray := prog_13_method_37_code
def yX11_term : MethodName := ⟨RX11, "term", "(JJI)J"⟩
abbrev cX11_behind : ByteArray := prog_13_method_38_code
def yX11_behind : MethodName := ⟨RX11, "behind", "(IIII)J"⟩
abbrev cX11_load : ByteArray := prog_13_method_39_code
def yX11_load : MethodName := ⟨RX11, "load", "(III)J"⟩
abbrev cX11_purse : ByteArray := prog_13_method_40_code
def yX11_purse : MethodName := ⟨RX11, "purse", "(III)J"⟩
abbrev cX11_paid : ByteArray := prog_13_method_41_code
def yX11_paid : MethodName := ⟨RX11, "paid", "()I"⟩
abbrev cX11_isOwed : ByteArray := prog_13_method_42_code
def yX11_isOwed : MethodName := ⟨RX11, "isOwed", "(II)Z"⟩
abbrev cX11_owed : ByteArray := prog_13_method_43_code
def yX11_owed : MethodName := ⟨RX11, "owed", "(II)I"⟩
abbrev cX11_lacks : ByteArray := prog_13_method_44_code
def yX11_lacks : MethodName := ⟨RX11, "lacks", "(IIII)Z"⟩
abbrev cX11_breachOf : ByteArray := prog_13_method_45_code
def yX11_breachOf : MethodName := ⟨RX11, "breachOf", "(II)I"⟩
abbrev cX11_isLaw : ByteArray := prog_13_method_46_code
def yX11_isLaw : MethodName := ⟨RX11, "isLaw", "(I)Z"⟩
abbrev cX11_breach : ByteArray := prog_13_method_47_code
def yX11_breach : MethodName := ⟨RX11, "breach", "(III)I"⟩
abbrev cX11_isKept : ByteArray := prog_13_method_48_code
def yX11_isKept : MethodName := ⟨RX11, "isKept", "(II)Z"⟩
abbrev cX11_kept : ByteArray := prog_13_method_49_code
def yX11_kept : MethodName := ⟨RX11, "kept", "(II)I"⟩
abbrev cX11_least : ByteArray := prog_13_method_50_code
def yX11_least : MethodName := ⟨RX11, "least", "(I)I"⟩
abbrev cX11_nearest : ByteArray := prog_13_method_51_code
def yX11_nearest : MethodName := ⟨RX11, "nearest", "(II)I"⟩
abbrev cX11_more : ByteArray := prog_13_method_52_code
def yX11_more : MethodName := ⟨RX11, "more", "(II)I"⟩
abbrev cX11_turn : ByteArray := prog_13_method_53_code
def yX11_turn : MethodName := ⟨RX11, "turn", "(III)I"⟩
abbrev cX11_told : ByteArray := prog_13_method_54_code
def yX11_told : MethodName := ⟨RX11, "told", "(I)I"⟩
def RJ6 : String := "java/lang/Integer"
def TJ6 : u_T := fun k => match k with
  | _ => ("", "", "", false)
def tyJ6 : Nat → FieldType := fun k => match k with
  | _ => .int
abbrev wsJ60 : List Cond := u_ws RJ6 TJ6 0
theorem nmJ6 : ∀ a, a < 0 → ∀ b, b < 0 → a ≠ b → (TJ6 a).2.1 ≠ (TJ6 b).2.1 := by decide +kernel
theorem tyJ6_ok : ∀ k, k < 0 → parseFieldDescriptor (TJ6 k).2.2.1 = some (tyJ6 k) := by decide +kernel
abbrev cJ6_bitCount_0f7a4 : ByteArray := prog_14_method_49_code
def yJ6_bitCount_0f7a4 : MethodName := ⟨RJ6, "bitCount", "(I)I"⟩
def RJ9 : String := "java/lang/Math"
def TJ9 : u_T := fun k => match k with
  | _ => ("", "", "", false)
def tyJ9 : Nat → FieldType := fun k => match k with
  | _ => .int
abbrev wsJ90 : List Cond := u_ws RJ9 TJ9 0
theorem nmJ9 : ∀ a, a < 0 → ∀ b, b < 0 → a ≠ b → (TJ9 a).2.1 ≠ (TJ9 b).2.1 := by decide +kernel
theorem tyJ9_ok : ∀ k, k < 0 → parseFieldDescriptor (TJ9 k).2.2.1 = some (tyJ9 k) := by decide +kernel
abbrev cJ9_max_7cf53 : ByteArray := prog_15_method_65_code
def yJ9_max_7cf53 : MethodName := ⟨RJ9, "max", "(II)I"⟩
abbrev cJ9_max_f86c9 : ByteArray := prog_15_method_66_code
def yJ9_max_f86c9 : MethodName := ⟨RJ9, "max", "(JJ)J"⟩
abbrev cJ9_min_7cf53 : ByteArray := prog_15_method_69_code
def yJ9_min_7cf53 : MethodName := ⟨RJ9, "min", "(II)I"⟩
def RL : String := "FairSeatsLaw"
abbrev cL_law : ByteArray := code
def yL_law : MethodName := ⟨RL, "law", "([I)Z"⟩
def wsX0_init : List Cond := .code yX0_init cX0_init 1 none :: ([.methodLink RX0 3 objectInit, .instanceMethod objectInit, .code objectInit ⟨#[0xb1]⟩ 1 none, .arrayClass .int, .fieldLink RX0 9 "FairSeats$Committees" "row" "[I"] ++ wsX00)
def wsJ6_bitCount_0f7a4 : List Cond := .code yJ6_bitCount_0f7a4 cJ6_bitCount_0f7a4 1 (some .int) :: ([.constant RJ6 265 (1431655765), .constant RJ6 266 (858993459), .constant RJ6 267 (252645135)])
def wsX4_firstBroken : List Cond := .code yX4_firstBroken cX4_firstBroken 4 (some .int) :: ([.fieldLink RX4 22 "FairSeats$Lines" "count" "I", .fieldLink RX4 9 "FairSeats$Lines" "sets" "[I", .fieldLink RX4 18 "FairSeats$Lines" "fewer" "[Z", .fieldLink RX4 15 "FairSeats$Lines" "digits" "[I", .methodLink RX4 38 yJ6_bitCount_0f7a4, .static yJ6_bitCount_0f7a4, .initialized RJ6, .code yJ6_bitCount_0f7a4 cJ6_bitCount_0f7a4 1 (some .int), .constant RJ6 265 (1431655765), .constant RJ6 266 (858993459), .constant RJ6 267 (252645135)] ++ wsX40)
def wsX4_allow : List Cond := .code yX4_allow cX4_allow 2 (some .boolean) :: ([.methodLink RX4 44 yX4_firstBroken, .instanceMethod yX4_firstBroken, .selects RX4 yX4_firstBroken yX4_firstBroken, .initialized RX4, .code yX4_firstBroken cX4_firstBroken 4 (some .int), .fieldLink RX4 22 "FairSeats$Lines" "count" "I", .fieldLink RX4 9 "FairSeats$Lines" "sets" "[I", .fieldLink RX4 18 "FairSeats$Lines" "fewer" "[Z", .fieldLink RX4 15 "FairSeats$Lines" "digits" "[I", .methodLink RX4 38 yJ6_bitCount_0f7a4, .static yJ6_bitCount_0f7a4, .initialized RJ6, .code yJ6_bitCount_0f7a4 cJ6_bitCount_0f7a4 1 (some .int), .constant RJ6 265 (1431655765), .constant RJ6 266 (858993459), .constant RJ6 267 (252645135)] ++ wsX40)
def wsX0_gather : List Cond := .code yX0_gather cX0_gather 4 none :: ([.fieldLink RX0 15 "FairSeats$Committees" "count" "I", .fieldLink RX0 9 "FairSeats$Committees" "row" "[I", .methodLink RX0 19 yJ6_bitCount_0f7a4, .static yJ6_bitCount_0f7a4, .initialized RJ6, .code yJ6_bitCount_0f7a4 cJ6_bitCount_0f7a4 1 (some .int), .constant RJ6 265 (1431655765), .constant RJ6 266 (858993459), .constant RJ6 267 (252645135), .methodLink RX0 25 yX4_allow, .instanceMethod yX4_allow, .selects RX4 yX4_allow yX4_allow, .initialized RX4, .code yX4_allow cX4_allow 2 (some .boolean), .methodLink RX4 44 yX4_firstBroken, .instanceMethod yX4_firstBroken, .selects RX4 yX4_firstBroken yX4_firstBroken, .code yX4_firstBroken cX4_firstBroken 4 (some .int), .fieldLink RX4 22 "FairSeats$Lines" "count" "I", .fieldLink RX4 9 "FairSeats$Lines" "sets" "[I", .fieldLink RX4 18 "FairSeats$Lines" "fewer" "[Z", .fieldLink RX4 15 "FairSeats$Lines" "digits" "[I", .methodLink RX4 38 yJ6_bitCount_0f7a4] ++ wsX00 ++ wsX40)
def wsX2_lowestHeap : List Cond := .code yX2_lowestHeap cX2_lowestHeap 1 (some .int) :: ([.methodLink RX2 53 yJ6_bitCount_0f7a4, .static yJ6_bitCount_0f7a4, .initialized RJ6, .code yJ6_bitCount_0f7a4 cJ6_bitCount_0f7a4 1 (some .int), .constant RJ6 265 (1431655765), .constant RJ6 266 (858993459), .constant RJ6 267 (252645135)])
def wsX2_countMostHad : List Cond := .code yX2_countMostHad cX2_countMostHad 4 none :: ([.fieldLink RX2 46 "FairSeats$Groups" "count" "I", .fieldLink RX2 27 "FairSeats$Groups" "sets" "[I", .fieldLink RX2 24 "FairSeats$Groups" "mostHad" "[I", .methodLink RX2 68 Lib.Math.max.name, .static Lib.Math.max.name, .initialized "java/lang/Math", .code Lib.Math.max.name Lib.Math.max.code 2 (some .int), .methodLink RX2 48 yX2_lowestHeap, .static yX2_lowestHeap, .initialized RX2, .code yX2_lowestHeap cX2_lowestHeap 1 (some .int), .methodLink RX2 53 yJ6_bitCount_0f7a4, .static yJ6_bitCount_0f7a4, .initialized RJ6, .code yJ6_bitCount_0f7a4 cJ6_bitCount_0f7a4 1 (some .int), .constant RJ6 265 (1431655765), .constant RJ6 266 (858993459), .constant RJ6 267 (252645135)] ++ wsX20)
def wsX2_seekBreach_r1 : List Cond := [Cond.fieldLink RX2 58 "FairSeats$Groups" "breachSize" "I", Cond.fieldLink RX2 61 "FairSeats$Groups" "breachGroup" "I", Cond.fieldLink RX2 46 "FairSeats$Groups" "count" "I", Cond.fieldLink RX2 15 "FairSeats$Groups" "anyone" "[I", Cond.fieldLink RX2 24 "FairSeats$Groups" "mostHad" "[I", Cond.fieldLink RX2 21 "FairSeats$Groups" "due" "[I", Cond.methodLink RX2 64 yX2_countMostHad, Cond.instanceMethod yX2_countMostHad, Cond.selects RX2 yX2_countMostHad yX2_countMostHad, Cond.initialized RX2, Cond.code yX2_countMostHad cX2_countMostHad 4 none, Cond.fieldLink RX2 27 "FairSeats$Groups" "sets" "[I", Cond.methodLink RX2 68 Lib.Math.max.name, Cond.static Lib.Math.max.name, Cond.initialized "java/lang/Math", Cond.code Lib.Math.max.name Lib.Math.max.code 2 (some .int), Cond.methodLink RX2 48 yX2_lowestHeap, Cond.static yX2_lowestHeap, Cond.code yX2_lowestHeap cX2_lowestHeap 1 (some .int), Cond.methodLink RX2 53 yJ6_bitCount_0f7a4, Cond.static yJ6_bitCount_0f7a4, Cond.initialized RJ6, Cond.code yJ6_bitCount_0f7a4 cJ6_bitCount_0f7a4 1 (some .int), Cond.constant RJ6 265 (1431655765)]
def wsX2_seekBreach_r2 : List Cond := [Cond.constant RJ6 266 (858993459), Cond.constant RJ6 267 (252645135)]
def wsX2_seekBreach : List Cond := .code yX2_seekBreach cX2_seekBreach 7 none :: ((wsX2_seekBreach_r1 ++ wsX2_seekBreach_r2) ++ wsX20)
def wsX0_keepThoseThatHold_r1 : List Cond := [Cond.fieldLink RX0 15 "FairSeats$Committees" "count" "I", Cond.fieldLink RX0 9 "FairSeats$Committees" "row" "[I", Cond.fieldLink RX0 37 "FairSeats$Groups" "breachSize" "I", Cond.methodLink RX0 31 yX2_seekBreach, Cond.instanceMethod yX2_seekBreach, Cond.selects RX2 yX2_seekBreach yX2_seekBreach, Cond.initialized RX2, Cond.code yX2_seekBreach cX2_seekBreach 7 none, Cond.fieldLink RX2 58 "FairSeats$Groups" "breachSize" "I", Cond.fieldLink RX2 61 "FairSeats$Groups" "breachGroup" "I", Cond.fieldLink RX2 46 "FairSeats$Groups" "count" "I", Cond.fieldLink RX2 15 "FairSeats$Groups" "anyone" "[I", Cond.fieldLink RX2 24 "FairSeats$Groups" "mostHad" "[I", Cond.fieldLink RX2 21 "FairSeats$Groups" "due" "[I", Cond.methodLink RX2 64 yX2_countMostHad, Cond.instanceMethod yX2_countMostHad, Cond.selects RX2 yX2_countMostHad yX2_countMostHad, Cond.code yX2_countMostHad cX2_countMostHad 4 none, Cond.fieldLink RX2 27 "FairSeats$Groups" "sets" "[I", Cond.methodLink RX2 68 Lib.Math.max.name, Cond.static Lib.Math.max.name, Cond.initialized "java/lang/Math", Cond.code Lib.Math.max.name Lib.Math.max.code 2 (some .int), Cond.methodLink RX2 48 yX2_lowestHeap]
def wsX0_keepThoseThatHold_r2 : List Cond := [Cond.static yX2_lowestHeap, Cond.code yX2_lowestHeap cX2_lowestHeap 1 (some .int), Cond.methodLink RX2 53 yJ6_bitCount_0f7a4, Cond.static yJ6_bitCount_0f7a4, Cond.initialized RJ6, Cond.code yJ6_bitCount_0f7a4 cJ6_bitCount_0f7a4 1 (some .int), Cond.constant RJ6 265 (1431655765), Cond.constant RJ6 266 (858993459), Cond.constant RJ6 267 (252645135)]
def wsX0_keepThoseThatHold : List Cond := .code yX0_keepThoseThatHold cX0_keepThoseThatHold 5 none :: ((wsX0_keepThoseThatHold_r1 ++ wsX0_keepThoseThatHold_r2) ++ wsX00 ++ wsX20)
def wsX0_at : List Cond := .code yX0_at cX0_at 2 (some .int) :: ([.fieldLink RX0 15 "FairSeats$Committees" "count" "I", .fieldLink RX0 9 "FairSeats$Committees" "row" "[I"] ++ wsX00)
def wsX3_worthOf : List Cond := .code yX3_worthOf cX3_worthOf 4 (some .int) :: ([.fieldLink RX3 22 "FairSeats$Heaps" "count" "I", .fieldLink RX3 15 "FairSeats$Heaps" "papers" "[I", .fieldLink RX3 18 "FairSeats$Heaps" "worths" "LFairSeats$Worths;", .fieldLink RX3 30 "FairSeats$Worths" "together" "[I", .fieldLink RX3 9 "FairSeats$Heaps" "sets" "[I", .methodLink RX3 35 yJ6_bitCount_0f7a4, .static yJ6_bitCount_0f7a4, .initialized RJ6, .code yJ6_bitCount_0f7a4 cJ6_bitCount_0f7a4 1 (some .int), .constant RJ6 265 (1431655765), .constant RJ6 266 (858993459), .constant RJ6 267 (252645135)] ++ wsX30 ++ wsX90)
def wsX0_ofMostWorth : List Cond := .code yX0_ofMostWorth cX0_ofMostWorth 6 (some .int) :: ([.fieldLink RX0 15 "FairSeats$Committees" "count" "I", .fieldLink RX0 9 "FairSeats$Committees" "row" "[I", .methodLink RX0 40 yX3_worthOf, .instanceMethod yX3_worthOf, .selects RX3 yX3_worthOf yX3_worthOf, .initialized RX3, .code yX3_worthOf cX3_worthOf 4 (some .int), .fieldLink RX3 22 "FairSeats$Heaps" "count" "I", .fieldLink RX3 15 "FairSeats$Heaps" "papers" "[I", .fieldLink RX3 18 "FairSeats$Heaps" "worths" "LFairSeats$Worths;", .fieldLink RX3 30 "FairSeats$Worths" "together" "[I", .fieldLink RX3 9 "FairSeats$Heaps" "sets" "[I", .methodLink RX3 35 yJ6_bitCount_0f7a4, .static yJ6_bitCount_0f7a4, .initialized RJ6, .code yJ6_bitCount_0f7a4 cJ6_bitCount_0f7a4 1 (some .int), .constant RJ6 265 (1431655765), .constant RJ6 266 (858993459), .constant RJ6 267 (252645135)] ++ wsX00 ++ wsX30 ++ wsX90)
def wsX3_wronged : List Cond := .code yX3_wronged cX3_wronged 4 (some .int) :: ([.fieldLink RX3 22 "FairSeats$Heaps" "count" "I", .fieldLink RX3 9 "FairSeats$Heaps" "sets" "[I", .fieldLink RX3 15 "FairSeats$Heaps" "papers" "[I"] ++ wsX30)
def wsX0_leastWronged : List Cond := .code yX0_leastWronged cX0_leastWronged 6 (some .int) :: ([.fieldLink RX0 15 "FairSeats$Committees" "count" "I", .fieldLink RX0 9 "FairSeats$Committees" "row" "[I", .methodLink RX0 45 yX3_wronged, .instanceMethod yX3_wronged, .selects RX3 yX3_wronged yX3_wronged, .initialized RX3, .code yX3_wronged cX3_wronged 4 (some .int), .fieldLink RX3 22 "FairSeats$Heaps" "count" "I", .fieldLink RX3 9 "FairSeats$Heaps" "sets" "[I", .fieldLink RX3 15 "FairSeats$Heaps" "papers" "[I"] ++ wsX00 ++ wsX30)
def wsX0_closestTo : List Cond := .code yX0_closestTo cX0_closestTo 6 (some .int) :: ([.fieldLink RX0 15 "FairSeats$Committees" "count" "I", .fieldLink RX0 9 "FairSeats$Committees" "row" "[I", .methodLink RX0 19 yJ6_bitCount_0f7a4, .static yJ6_bitCount_0f7a4, .initialized RJ6, .code yJ6_bitCount_0f7a4 cJ6_bitCount_0f7a4 1 (some .int), .constant RJ6 265 (1431655765), .constant RJ6 266 (858993459), .constant RJ6 267 (252645135)] ++ wsX00)
def wsX1_init : List Cond := .code yX1_init cX1_init 1 none :: ([.methodLink RX1 3 objectInit, .instanceMethod objectInit, .code objectInit ⟨#[0xb1]⟩ 1 none, .arrayClass .long, .fieldLink RX1 9 "FairSeats$Fractions" "upper" "[J"] ++ wsX50 ++ wsX60)
def wsX1_begin : List Cond := .code yX1_begin cX1_begin 3 none :: ([.fieldLink RX1 9 "FairSeats$Fractions" "upper" "[J", .fieldLink RX1 15 "FairSeats$Fractions" "lower" "J"] ++ wsX50 ++ wsX60)
def wsX1_widen : List Cond := .code yX1_widen cX1_widen 3 none :: ([.fieldLink RX1 9 "FairSeats$Fractions" "upper" "[J", .fieldLink RX1 15 "FairSeats$Fractions" "lower" "J"] ++ wsX50 ++ wsX60)
def wsX3_tells : List Cond := .code yX3_tells cX3_tells 3 (some .boolean) :: ([.fieldLink RX3 9 "FairSeats$Heaps" "sets" "[I"] ++ wsX30)
def wsX1_sumOf : List Cond := .code yX1_sumOf cX1_sumOf 6 (some .long) :: ([.fieldLink RX1 19 "FairSeats$Heaps" "count" "I", .fieldLink RX1 9 "FairSeats$Fractions" "upper" "[J", .fieldLink RX1 29 "FairSeats$Heaps" "papers" "[I", .methodLink RX1 25 yX3_tells, .instanceMethod yX3_tells, .selects RX3 yX3_tells yX3_tells, .initialized RX3, .code yX3_tells cX3_tells 3 (some .boolean), .fieldLink RX3 9 "FairSeats$Heaps" "sets" "[I"] ++ wsX30 ++ wsX50 ++ wsX60)
def wsX1_commonDivisor : List Cond := .code yX1_commonDivisor cX1_commonDivisor 7 (some .long) :: ([])
def wsX1_lowest : List Cond := .code yX1_lowest cX1_lowest 7 (some .long) :: ([.fieldLink RX1 9 "FairSeats$Fractions" "upper" "[J", .fieldLink RX1 15 "FairSeats$Fractions" "lower" "J", .methodLink RX1 33 yX1_commonDivisor, .static yX1_commonDivisor, .initialized RX1, .code yX1_commonDivisor cX1_commonDivisor 7 (some .long)] ++ wsX50 ++ wsX60)
def wsX2_init : List Cond := .code yX2_init cX2_init 1 none :: ([.methodLink RX2 3 objectInit, .instanceMethod objectInit, .code objectInit ⟨#[0xb1]⟩ 1 none, .arrayClass .int, .fieldLink RX2 9 "FairSeats$Groups" "common" "[I", .fieldLink RX2 15 "FairSeats$Groups" "anyone" "[I", .fieldLink RX2 18 "FairSeats$Groups" "papers" "[I", .fieldLink RX2 21 "FairSeats$Groups" "due" "[I", .fieldLink RX2 24 "FairSeats$Groups" "mostHad" "[I", .fieldLink RX2 27 "FairSeats$Groups" "sets" "[I"] ++ wsX20)
def wsX3_total : List Cond := .code yX3_total cX3_total 3 (some .int) :: ([.fieldLink RX3 22 "FairSeats$Heaps" "count" "I", .fieldLink RX3 15 "FairSeats$Heaps" "papers" "[I"] ++ wsX30)
def wsX2_gather_r1 : List Cond := [Cond.fieldLink RX2 36 "FairSeats$Heaps" "count" "I", Cond.methodLink RX2 40 Lib.Math.min.name, Cond.static Lib.Math.min.name, Cond.initialized "java/lang/Math", Cond.code Lib.Math.min.name Lib.Math.min.code 2 (some .int), Cond.fieldLink RX2 46 "FairSeats$Groups" "count" "I", Cond.fieldLink RX2 9 "FairSeats$Groups" "common" "[I", Cond.fieldLink RX2 27 "FairSeats$Groups" "sets" "[I", Cond.fieldLink RX2 47 "FairSeats$Heaps" "sets" "[I", Cond.fieldLink RX2 15 "FairSeats$Groups" "anyone" "[I", Cond.fieldLink RX2 18 "FairSeats$Groups" "papers" "[I", Cond.fieldLink RX2 52 "FairSeats$Heaps" "papers" "[I", Cond.fieldLink RX2 21 "FairSeats$Groups" "due" "[I", Cond.methodLink RX2 30 yX3_total, Cond.instanceMethod yX3_total, Cond.selects RX3 yX3_total yX3_total, Cond.initialized RX3, Cond.code yX3_total cX3_total 3 (some .int), Cond.fieldLink RX3 22 "FairSeats$Heaps" "count" "I", Cond.fieldLink RX3 15 "FairSeats$Heaps" "papers" "[I", Cond.methodLink RX2 48 yX2_lowestHeap, Cond.static yX2_lowestHeap, Cond.initialized RX2, Cond.code yX2_lowestHeap cX2_lowestHeap 1 (some .int)]
def wsX2_gather_r2 : List Cond := [Cond.methodLink RX2 53 yJ6_bitCount_0f7a4, Cond.static yJ6_bitCount_0f7a4, Cond.initialized RJ6, Cond.code yJ6_bitCount_0f7a4 cJ6_bitCount_0f7a4 1 (some .int), Cond.constant RJ6 265 (1431655765), Cond.constant RJ6 266 (858993459), Cond.constant RJ6 267 (252645135)]
def wsX2_gather : List Cond := .code yX2_gather cX2_gather 8 none :: ((wsX2_gather_r1 ++ wsX2_gather_r2) ++ wsX30 ++ wsX20)
def wsX3_init : List Cond := .code yX3_init cX3_init 2 none :: ([.methodLink RX3 3 objectInit, .instanceMethod objectInit, .code objectInit ⟨#[0xb1]⟩ 1 none, .arrayClass .int, .fieldLink RX3 9 "FairSeats$Heaps" "sets" "[I", .fieldLink RX3 15 "FairSeats$Heaps" "papers" "[I", .fieldLink RX3 18 "FairSeats$Heaps" "worths" "LFairSeats$Worths;"] ++ wsX30)
def wsX3_append : List Cond := .code yX3_append cX3_append 3 none :: ([.fieldLink RX3 22 "FairSeats$Heaps" "count" "I", .fieldLink RX3 9 "FairSeats$Heaps" "sets" "[I", .fieldLink RX3 15 "FairSeats$Heaps" "papers" "[I"] ++ wsX30)
def wsX3_copyOf : List Cond := .code yX3_copyOf cX3_copyOf 3 none :: ([.fieldLink RX3 9 "FairSeats$Heaps" "sets" "[I", .fieldLink RX3 15 "FairSeats$Heaps" "papers" "[I", .fieldLink RX3 22 "FairSeats$Heaps" "count" "I"] ++ wsX30)
def wsX3_moveToLast : List Cond := .code yX3_moveToLast cX3_moveToLast 2 none :: ([.fieldLink RX3 22 "FairSeats$Heaps" "count" "I", .fieldLink RX3 15 "FairSeats$Heaps" "papers" "[I"] ++ wsX30)
def wsX3_telling : List Cond := .code yX3_telling cX3_telling 4 (some .int) :: ([.fieldLink RX3 22 "FairSeats$Heaps" "count" "I", .fieldLink RX3 15 "FairSeats$Heaps" "papers" "[I", .methodLink RX3 26 yX3_tells, .instanceMethod yX3_tells, .selects RX3 yX3_tells yX3_tells, .initialized RX3, .code yX3_tells cX3_tells 3 (some .boolean), .fieldLink RX3 9 "FairSeats$Heaps" "sets" "[I"] ++ wsX30)
def wsX4_init : List Cond := .code yX4_init cX4_init 1 none :: ([.methodLink RX4 3 objectInit, .instanceMethod objectInit, .code objectInit ⟨#[0xb1]⟩ 1 none, .arrayClass .int, .fieldLink RX4 9 "FairSeats$Lines" "sets" "[I", .fieldLink RX4 15 "FairSeats$Lines" "digits" "[I", .arrayClass .boolean, .fieldLink RX4 18 "FairSeats$Lines" "fewer" "[Z"] ++ wsX40)
def wsX4_append : List Cond := .code yX4_append cX4_append 4 none :: ([.fieldLink RX4 22 "FairSeats$Lines" "count" "I", .fieldLink RX4 9 "FairSeats$Lines" "sets" "[I", .fieldLink RX4 18 "FairSeats$Lines" "fewer" "[Z", .fieldLink RX4 15 "FairSeats$Lines" "digits" "[I"] ++ wsX40)
def wsX4_read : List Cond := .code yX4_read cX4_read 6 none :: ([.fieldLink RX4 22 "FairSeats$Lines" "count" "I", .fieldLink RX4 26 "FairSeats$Text" "length" "I", .fieldLink RX4 31 "FairSeats$Text" "signs" "[I", .methodLink RX4 34 yX4_append, .instanceMethod yX4_append, .selects RX4 yX4_append yX4_append, .initialized RX4, .code yX4_append cX4_append 4 none, .fieldLink RX4 9 "FairSeats$Lines" "sets" "[I", .fieldLink RX4 18 "FairSeats$Lines" "fewer" "[Z", .fieldLink RX4 15 "FairSeats$Lines" "digits" "[I"] ++ wsX40 ++ wsX70)
def wsX5_init : List Cond := .code yX5_init cX5_init 1 none :: ([.instanceMethod yX1_init, .initialized RX1, .code yX1_init cX1_init 1 none, .methodLink RX1 3 objectInit, .instanceMethod objectInit, .code objectInit ⟨#[0xb1]⟩ 1 none, .arrayClass .long, .fieldLink RX1 9 "FairSeats$Fractions" "upper" "[J"] ++ wsX50 ++ wsX60)
def wsX5_lightest : List Cond := .code yX5_lightest cX5_lightest 12 (some .int) :: ([.fieldLink RX5 15 "FairSeats$Loads" "lower" "J", .sameField "FairSeats$Loads" "FairSeats$Fractions" "lower" "J", .methodLink RX5 9 yX3_telling, .instanceMethod yX3_telling, .selects RX3 yX3_telling yX3_telling, .initialized RX3, .code yX3_telling cX3_telling 4 (some .int), .fieldLink RX3 22 "FairSeats$Heaps" "count" "I", .fieldLink RX3 15 "FairSeats$Heaps" "papers" "[I", .methodLink RX3 26 yX3_tells, .instanceMethod yX3_tells, .selects RX3 yX3_tells yX3_tells, .code yX3_tells cX3_tells 3 (some .boolean), .fieldLink RX3 9 "FairSeats$Heaps" "sets" "[I", .methodLink RX5 21 ⟨"FairSeats$Loads", "sumOf", "(LFairSeats$Heaps;I)J"⟩, .sameMethod "FairSeats$Loads" "FairSeats$Fractions" "sumOf" "(LFairSeats$Heaps;I)J", .selects RX5 ⟨"FairSeats$Loads", "sumOf", "(LFairSeats$Heaps;I)J"⟩ yX1_sumOf, .instanceMethod yX1_sumOf, .initialized RX1, .code yX1_sumOf cX1_sumOf 6 (some .long), .fieldLink RX1 19 "FairSeats$Heaps" "count" "I", .fieldLink RX1 9 "FairSeats$Fractions" "upper" "[J", .fieldLink RX1 29 "FairSeats$Heaps" "papers" "[I", .methodLink RX1 25 yX3_tells] ++ wsX50 ++ wsX60 ++ wsX30)
def wsX5_bear_r1 : List Cond := [Cond.fieldLink RX5 15 "FairSeats$Loads" "lower" "J", Cond.sameField "FairSeats$Loads" "FairSeats$Fractions" "lower" "J", Cond.fieldLink RX5 29 "FairSeats$Heaps" "count" "I", Cond.fieldLink RX5 37 "FairSeats$Loads" "upper" "[J", Cond.sameField "FairSeats$Loads" "FairSeats$Fractions" "upper" "[J", Cond.methodLink RX5 9 yX3_telling, Cond.instanceMethod yX3_telling, Cond.selects RX3 yX3_telling yX3_telling, Cond.initialized RX3, Cond.code yX3_telling cX3_telling 4 (some .int), Cond.fieldLink RX3 22 "FairSeats$Heaps" "count" "I", Cond.fieldLink RX3 15 "FairSeats$Heaps" "papers" "[I", Cond.methodLink RX3 26 yX3_tells, Cond.instanceMethod yX3_tells, Cond.selects RX3 yX3_tells yX3_tells, Cond.code yX3_tells cX3_tells 3 (some .boolean), Cond.fieldLink RX3 9 "FairSeats$Heaps" "sets" "[I", Cond.methodLink RX5 21 ⟨"FairSeats$Loads", "sumOf", "(LFairSeats$Heaps;I)J"⟩, Cond.sameMethod "FairSeats$Loads" "FairSeats$Fractions" "sumOf" "(LFairSeats$Heaps;I)J", Cond.selects RX5 ⟨"FairSeats$Loads", "sumOf", "(LFairSeats$Heaps;I)J"⟩ yX1_sumOf, Cond.instanceMethod yX1_sumOf, Cond.initialized RX1, Cond.code yX1_sumOf cX1_sumOf 6 (some .long), Cond.fieldLink RX1 19 "FairSeats$Heaps" "count" "I"]
def wsX5_bear_r2 : List Cond := [Cond.fieldLink RX1 9 "FairSeats$Fractions" "upper" "[J", Cond.fieldLink RX1 29 "FairSeats$Heaps" "papers" "[I", Cond.methodLink RX1 25 yX3_tells, Cond.methodLink RX5 25 ⟨"FairSeats$Loads", "widen", "(I)V"⟩, Cond.sameMethod "FairSeats$Loads" "FairSeats$Fractions" "widen" "(I)V", Cond.selects RX5 ⟨"FairSeats$Loads", "widen", "(I)V"⟩ yX1_widen, Cond.instanceMethod yX1_widen, Cond.code yX1_widen cX1_widen 3 none, Cond.fieldLink RX1 15 "FairSeats$Fractions" "lower" "J", Cond.methodLink RX5 33 yX3_tells]
def wsX5_bear : List Cond := .code yX5_bear cX5_bear 7 none :: ((wsX5_bear_r1 ++ wsX5_bear_r2) ++ wsX50 ++ wsX60 ++ wsX30)
def wsX6_init : List Cond := .code yX6_init cX6_init 1 none :: ([.instanceMethod yX1_init, .initialized RX1, .code yX1_init cX1_init 1 none, .methodLink RX1 3 objectInit, .instanceMethod objectInit, .code objectInit ⟨#[0xb1]⟩ 1 none, .arrayClass .long, .fieldLink RX1 9 "FairSeats$Fractions" "upper" "[J"] ++ wsX50 ++ wsX60)
def wsX6_price_r1 : List Cond := [Cond.fieldLink RX6 15 "FairSeats$Purses" "lower" "J", Cond.sameField "FairSeats$Purses" "FairSeats$Fractions" "lower" "J", Cond.fieldLink RX6 33 "FairSeats$Purses" "rest" "J", Cond.fieldLink RX6 36 "FairSeats$Purses" "payers" "I", Cond.fieldLink RX6 40 "FairSeats$Heaps" "count" "I", Cond.fieldLink RX6 47 "FairSeats$Purses" "upper" "[J", Cond.sameField "FairSeats$Purses" "FairSeats$Fractions" "upper" "[J", Cond.fieldLink RX6 51 "FairSeats$Heaps" "papers" "[I", Cond.methodLink RX6 21 yX3_telling, Cond.instanceMethod yX3_telling, Cond.selects RX3 yX3_telling yX3_telling, Cond.initialized RX3, Cond.code yX3_telling cX3_telling 4 (some .int), Cond.fieldLink RX3 22 "FairSeats$Heaps" "count" "I", Cond.fieldLink RX3 15 "FairSeats$Heaps" "papers" "[I", Cond.methodLink RX3 26 yX3_tells, Cond.instanceMethod yX3_tells, Cond.selects RX3 yX3_tells yX3_tells, Cond.code yX3_tells cX3_tells 3 (some .boolean), Cond.fieldLink RX3 9 "FairSeats$Heaps" "sets" "[I", Cond.methodLink RX6 9 yX3_total, Cond.instanceMethod yX3_total, Cond.selects RX3 yX3_total yX3_total, Cond.code yX3_total cX3_total 3 (some .int)]
def wsX6_price_r2 : List Cond := [Cond.methodLink RX6 43 yX3_tells]
def wsX6_price : List Cond := .code yX6_price cX6_price 11 none :: ((wsX6_price_r1 ++ wsX6_price_r2) ++ wsX50 ++ wsX60 ++ wsX30)
def wsX6_cheapest_r1 : List Cond := [Cond.fieldLink RX6 15 "FairSeats$Purses" "lower" "J", Cond.sameField "FairSeats$Purses" "FairSeats$Fractions" "lower" "J", Cond.fieldLink RX6 33 "FairSeats$Purses" "rest" "J", Cond.fieldLink RX6 36 "FairSeats$Purses" "payers" "I", Cond.methodLink RX6 9 yX3_total, Cond.instanceMethod yX3_total, Cond.selects RX3 yX3_total yX3_total, Cond.initialized RX3, Cond.code yX3_total cX3_total 3 (some .int), Cond.fieldLink RX3 22 "FairSeats$Heaps" "count" "I", Cond.fieldLink RX3 15 "FairSeats$Heaps" "papers" "[I", Cond.methodLink RX6 21 yX3_telling, Cond.instanceMethod yX3_telling, Cond.selects RX3 yX3_telling yX3_telling, Cond.code yX3_telling cX3_telling 4 (some .int), Cond.methodLink RX3 26 yX3_tells, Cond.instanceMethod yX3_tells, Cond.selects RX3 yX3_tells yX3_tells, Cond.code yX3_tells cX3_tells 3 (some .boolean), Cond.fieldLink RX3 9 "FairSeats$Heaps" "sets" "[I", Cond.methodLink RX6 25 ⟨"FairSeats$Purses", "sumOf", "(LFairSeats$Heaps;I)J"⟩, Cond.sameMethod "FairSeats$Purses" "FairSeats$Fractions" "sumOf" "(LFairSeats$Heaps;I)J", Cond.selects RX6 ⟨"FairSeats$Purses", "sumOf", "(LFairSeats$Heaps;I)J"⟩ yX1_sumOf, Cond.instanceMethod yX1_sumOf]
def wsX6_cheapest_r2 : List Cond := [Cond.initialized RX1, Cond.code yX1_sumOf cX1_sumOf 6 (some .long), Cond.fieldLink RX1 19 "FairSeats$Heaps" "count" "I", Cond.fieldLink RX1 9 "FairSeats$Fractions" "upper" "[J", Cond.fieldLink RX1 29 "FairSeats$Heaps" "papers" "[I", Cond.methodLink RX1 25 yX3_tells, Cond.methodLink RX6 29 yX6_price, Cond.instanceMethod yX6_price, Cond.selects RX6 yX6_price yX6_price, Cond.initialized RX6, Cond.code yX6_price cX6_price 11 none, Cond.fieldLink RX6 40 "FairSeats$Heaps" "count" "I", Cond.fieldLink RX6 47 "FairSeats$Purses" "upper" "[J", Cond.sameField "FairSeats$Purses" "FairSeats$Fractions" "upper" "[J", Cond.fieldLink RX6 51 "FairSeats$Heaps" "papers" "[I", Cond.methodLink RX6 43 yX3_tells]
def wsX6_cheapest : List Cond := .code yX6_cheapest cX6_cheapest 10 (some .int) :: ((wsX6_cheapest_r1 ++ wsX6_cheapest_r2) ++ wsX50 ++ wsX60 ++ wsX30)
def wsX6_pay_r1 : List Cond := [Cond.fieldLink RX6 36 "FairSeats$Purses" "payers" "I", Cond.fieldLink RX6 40 "FairSeats$Heaps" "count" "I", Cond.fieldLink RX6 47 "FairSeats$Purses" "upper" "[J", Cond.sameField "FairSeats$Purses" "FairSeats$Fractions" "upper" "[J", Cond.fieldLink RX6 33 "FairSeats$Purses" "rest" "J", Cond.methodLink RX6 59 Lib.MathLoose.max_long.x, Cond.static Lib.MathLoose.max_long.x, Cond.initialized "java/lang/Math", Cond.code Lib.MathLoose.max_long.x Lib.MathLoose.max_long.code 4 (some .long), Cond.methodLink RX6 29 yX6_price, Cond.instanceMethod yX6_price, Cond.selects RX6 yX6_price yX6_price, Cond.initialized RX6, Cond.code yX6_price cX6_price 11 none, Cond.fieldLink RX6 15 "FairSeats$Purses" "lower" "J", Cond.sameField "FairSeats$Purses" "FairSeats$Fractions" "lower" "J", Cond.fieldLink RX6 51 "FairSeats$Heaps" "papers" "[I", Cond.methodLink RX6 21 yX3_telling, Cond.instanceMethod yX3_telling, Cond.selects RX3 yX3_telling yX3_telling, Cond.initialized RX3, Cond.code yX3_telling cX3_telling 4 (some .int), Cond.fieldLink RX3 22 "FairSeats$Heaps" "count" "I", Cond.fieldLink RX3 15 "FairSeats$Heaps" "papers" "[I"]
def wsX6_pay_r2 : List Cond := [Cond.methodLink RX3 26 yX3_tells, Cond.instanceMethod yX3_tells, Cond.selects RX3 yX3_tells yX3_tells, Cond.code yX3_tells cX3_tells 3 (some .boolean), Cond.fieldLink RX3 9 "FairSeats$Heaps" "sets" "[I", Cond.methodLink RX6 9 yX3_total, Cond.instanceMethod yX3_total, Cond.selects RX3 yX3_total yX3_total, Cond.code yX3_total cX3_total 3 (some .int), Cond.methodLink RX6 43 yX3_tells, Cond.methodLink RX6 55 ⟨"FairSeats$Purses", "widen", "(I)V"⟩, Cond.sameMethod "FairSeats$Purses" "FairSeats$Fractions" "widen" "(I)V", Cond.selects RX6 ⟨"FairSeats$Purses", "widen", "(I)V"⟩ yX1_widen, Cond.instanceMethod yX1_widen, Cond.initialized RX1, Cond.code yX1_widen cX1_widen 3 none, Cond.fieldLink RX1 9 "FairSeats$Fractions" "upper" "[J", Cond.fieldLink RX1 15 "FairSeats$Fractions" "lower" "J"]
def wsX6_pay : List Cond := .code yX6_pay cX6_pay 4 none :: ((wsX6_pay_r1 ++ wsX6_pay_r2) ++ wsX60 ++ wsX30 ++ wsX50)
def wsX7_init : List Cond := .code yX7_init cX7_init 1 none :: ([.methodLink RX7 3 objectInit, .instanceMethod objectInit, .code objectInit ⟨#[0xb1]⟩ 1 none, .arrayClass .int, .fieldLink RX7 9 "FairSeats$Text" "signs" "[I"] ++ wsX70)
def wsX7_append : List Cond := .code yX7_append cX7_append 2 none :: ([.fieldLink RX7 15 "FairSeats$Text" "length" "I", .fieldLink RX7 9 "FairSeats$Text" "signs" "[I"] ++ wsX70)
def wsX7_step : List Cond := .code yX7_step cX7_step 3 (some .int) :: ([])
def wsX7_firstFault : List Cond := .code yX7_firstFault cX7_firstFault 3 (some .int) :: ([.fieldLink RX7 15 "FairSeats$Text" "length" "I", .fieldLink RX7 9 "FairSeats$Text" "signs" "[I", .methodLink RX7 19 yX7_step, .static yX7_step, .initialized RX7, .code yX7_step cX7_step 3 (some .int)] ++ wsX70)
def wsX8_init : List Cond := .code yX8_init cX8_init 2 none :: ([.methodLink RX8 3 objectInit, .instanceMethod objectInit, .code objectInit ⟨#[0xb1]⟩ 1 none, .classLink RX8 9 RX5, .instantiable RX5 2, .initialized RX5, .fieldLink RX8 12 "FairSeats$Ways" "loads" "LFairSeats$Loads;", .classLink RX8 18 RX6, .instantiable RX6 4, .initialized RX6, .fieldLink RX8 21 "FairSeats$Ways" "purses" "LFairSeats$Purses;", .arrayClass .int, .fieldLink RX8 25 "FairSeats$Ways" "order" "[I", .fieldLink RX8 29 "FairSeats$Ways" "lawful" "LFairSeats$Committees;", .instanceMethod yX5_init, .code yX5_init cX5_init 1 none, .instanceMethod yX1_init, .initialized RX1, .code yX1_init cX1_init 1 none, .methodLink RX1 3 objectInit, .arrayClass .long, .fieldLink RX1 9 "FairSeats$Fractions" "upper" "[J", .instanceMethod yX6_init, .code yX6_init cX6_init 1 none] ++ wsX50 ++ wsX80 ++ wsX60)
def wsX8_clear : List Cond := .code yX8_clear cX8_clear 1 none :: ([.fieldLink RX8 67 "FairSeats$Ways" "count" "I", .fieldLink RX8 63 "FairSeats$Ways" "chosen" "I"] ++ wsX80)
def wsX8_holds : List Cond := .code yX8_holds cX8_holds 2 (some .boolean) :: ([.fieldLink RX8 63 "FairSeats$Ways" "chosen" "I"] ++ wsX80)
def wsX8_add : List Cond := .code yX8_add cX8_add 2 none :: ([.fieldLink RX8 67 "FairSeats$Ways" "count" "I", .fieldLink RX8 25 "FairSeats$Ways" "order" "[I", .fieldLink RX8 63 "FairSeats$Ways" "chosen" "I"] ++ wsX80)
def wsX8_byHeads : List Cond := .code yX8_byHeads cX8_byHeads 8 none :: ([.fieldLink RX8 67 "FairSeats$Ways" "count" "I", .methodLink RX8 73 yX8_holds, .instanceMethod yX8_holds, .selects RX8 yX8_holds yX8_holds, .initialized RX8, .code yX8_holds cX8_holds 2 (some .boolean), .fieldLink RX8 63 "FairSeats$Ways" "chosen" "I", .methodLink RX8 77 yX3_telling, .instanceMethod yX3_telling, .selects RX3 yX3_telling yX3_telling, .initialized RX3, .code yX3_telling cX3_telling 4 (some .int), .fieldLink RX3 22 "FairSeats$Heaps" "count" "I", .fieldLink RX3 15 "FairSeats$Heaps" "papers" "[I", .methodLink RX3 26 yX3_tells, .instanceMethod yX3_tells, .selects RX3 yX3_tells yX3_tells, .code yX3_tells cX3_tells 3 (some .boolean), .fieldLink RX3 9 "FairSeats$Heaps" "sets" "[I", .methodLink RX8 70 yX8_add, .instanceMethod yX8_add, .selects RX8 yX8_add yX8_add, .code yX8_add cX8_add 2 none, .fieldLink RX8 25 "FairSeats$Ways" "order" "[I"] ++ wsX80 ++ wsX30)
def wsX8_byWorth_r1 : List Cond := [Cond.fieldLink RX8 63 "FairSeats$Ways" "chosen" "I", Cond.methodLink RX8 73 yX8_holds, Cond.instanceMethod yX8_holds, Cond.selects RX8 yX8_holds yX8_holds, Cond.initialized RX8, Cond.code yX8_holds cX8_holds 2 (some .boolean), Cond.methodLink RX8 83 yX3_worthOf, Cond.instanceMethod yX3_worthOf, Cond.selects RX3 yX3_worthOf yX3_worthOf, Cond.initialized RX3, Cond.code yX3_worthOf cX3_worthOf 4 (some .int), Cond.fieldLink RX3 22 "FairSeats$Heaps" "count" "I", Cond.fieldLink RX3 15 "FairSeats$Heaps" "papers" "[I", Cond.fieldLink RX3 18 "FairSeats$Heaps" "worths" "LFairSeats$Worths;", Cond.fieldLink RX3 30 "FairSeats$Worths" "together" "[I", Cond.fieldLink RX3 9 "FairSeats$Heaps" "sets" "[I", Cond.methodLink RX3 35 yJ6_bitCount_0f7a4, Cond.static yJ6_bitCount_0f7a4, Cond.initialized RJ6, Cond.code yJ6_bitCount_0f7a4 cJ6_bitCount_0f7a4 1 (some .int), Cond.constant RJ6 265 (1431655765), Cond.constant RJ6 266 (858993459), Cond.constant RJ6 267 (252645135), Cond.methodLink RX8 70 yX8_add]
def wsX8_byWorth_r2 : List Cond := [Cond.instanceMethod yX8_add, Cond.selects RX8 yX8_add yX8_add, Cond.code yX8_add cX8_add 2 none, Cond.fieldLink RX8 67 "FairSeats$Ways" "count" "I", Cond.fieldLink RX8 25 "FairSeats$Ways" "order" "[I"]
def wsX8_byWorth : List Cond := .code yX8_byWorth cX8_byWorth 8 none :: ((wsX8_byWorth_r1 ++ wsX8_byWorth_r2) ++ wsX80 ++ wsX30 ++ wsX90)
def wsX8_byLoads_r1 : List Cond := [Cond.fieldLink RX8 12 "FairSeats$Ways" "loads" "LFairSeats$Loads;", Cond.fieldLink RX8 63 "FairSeats$Ways" "chosen" "I", Cond.methodLink RX8 33 yX8_clear, Cond.instanceMethod yX8_clear, Cond.selects RX8 yX8_clear yX8_clear, Cond.initialized RX8, Cond.code yX8_clear cX8_clear 1 none, Cond.fieldLink RX8 67 "FairSeats$Ways" "count" "I", Cond.methodLink RX8 86 ⟨"FairSeats$Loads", "begin", "(I)V"⟩, Cond.sameMethod "FairSeats$Loads" "FairSeats$Fractions" "begin" "(I)V", Cond.selects RX5 ⟨"FairSeats$Loads", "begin", "(I)V"⟩ yX1_begin, Cond.instanceMethod yX1_begin, Cond.initialized RX1, Cond.code yX1_begin cX1_begin 3 none, Cond.fieldLink RX1 9 "FairSeats$Fractions" "upper" "[J", Cond.fieldLink RX1 15 "FairSeats$Fractions" "lower" "J", Cond.methodLink RX8 89 yX5_lightest, Cond.instanceMethod yX5_lightest, Cond.selects RX5 yX5_lightest yX5_lightest, Cond.initialized RX5, Cond.code yX5_lightest cX5_lightest 12 (some .int), Cond.fieldLink RX5 15 "FairSeats$Loads" "lower" "J", Cond.sameField "FairSeats$Loads" "FairSeats$Fractions" "lower" "J", Cond.methodLink RX5 9 yX3_telling]
def wsX8_byLoads_r2 : List Cond := [Cond.instanceMethod yX3_telling, Cond.selects RX3 yX3_telling yX3_telling, Cond.initialized RX3, Cond.code yX3_telling cX3_telling 4 (some .int), Cond.fieldLink RX3 22 "FairSeats$Heaps" "count" "I", Cond.fieldLink RX3 15 "FairSeats$Heaps" "papers" "[I", Cond.methodLink RX3 26 yX3_tells, Cond.instanceMethod yX3_tells, Cond.selects RX3 yX3_tells yX3_tells, Cond.code yX3_tells cX3_tells 3 (some .boolean), Cond.fieldLink RX3 9 "FairSeats$Heaps" "sets" "[I", Cond.methodLink RX5 21 ⟨"FairSeats$Loads", "sumOf", "(LFairSeats$Heaps;I)J"⟩, Cond.sameMethod "FairSeats$Loads" "FairSeats$Fractions" "sumOf" "(LFairSeats$Heaps;I)J", Cond.selects RX5 ⟨"FairSeats$Loads", "sumOf", "(LFairSeats$Heaps;I)J"⟩ yX1_sumOf, Cond.instanceMethod yX1_sumOf, Cond.code yX1_sumOf cX1_sumOf 6 (some .long), Cond.fieldLink RX1 19 "FairSeats$Heaps" "count" "I", Cond.fieldLink RX1 29 "FairSeats$Heaps" "papers" "[I", Cond.methodLink RX1 25 yX3_tells, Cond.methodLink RX8 93 yX5_bear, Cond.instanceMethod yX5_bear, Cond.selects RX5 yX5_bear yX5_bear, Cond.code yX5_bear cX5_bear 7 none, Cond.fieldLink RX5 29 "FairSeats$Heaps" "count" "I"]
def wsX8_byLoads_r3 : List Cond := [Cond.fieldLink RX5 37 "FairSeats$Loads" "upper" "[J", Cond.sameField "FairSeats$Loads" "FairSeats$Fractions" "upper" "[J", Cond.methodLink RX5 25 ⟨"FairSeats$Loads", "widen", "(I)V"⟩, Cond.sameMethod "FairSeats$Loads" "FairSeats$Fractions" "widen" "(I)V", Cond.selects RX5 ⟨"FairSeats$Loads", "widen", "(I)V"⟩ yX1_widen, Cond.instanceMethod yX1_widen, Cond.code yX1_widen cX1_widen 3 none, Cond.methodLink RX5 33 yX3_tells, Cond.methodLink RX8 70 yX8_add, Cond.instanceMethod yX8_add, Cond.selects RX8 yX8_add yX8_add, Cond.code yX8_add cX8_add 2 none, Cond.fieldLink RX8 25 "FairSeats$Ways" "order" "[I"]
def wsX8_byLoads : List Cond := .code yX8_byLoads cX8_byLoads 5 none :: ((wsX8_byLoads_r1 ++ (wsX8_byLoads_r2 ++ wsX8_byLoads_r3)) ++ wsX80 ++ wsX50 ++ wsX60 ++ wsX30)
def wsX8_byPurses_r1 : List Cond := [Cond.fieldLink RX8 21 "FairSeats$Ways" "purses" "LFairSeats$Purses;", Cond.fieldLink RX8 97 "FairSeats$Ways" "paidCount" "I", Cond.fieldLink RX8 63 "FairSeats$Ways" "chosen" "I", Cond.methodLink RX8 33 yX8_clear, Cond.instanceMethod yX8_clear, Cond.selects RX8 yX8_clear yX8_clear, Cond.initialized RX8, Cond.code yX8_clear cX8_clear 1 none, Cond.fieldLink RX8 67 "FairSeats$Ways" "count" "I", Cond.methodLink RX8 96 ⟨"FairSeats$Purses", "begin", "(I)V"⟩, Cond.sameMethod "FairSeats$Purses" "FairSeats$Fractions" "begin" "(I)V", Cond.selects RX6 ⟨"FairSeats$Purses", "begin", "(I)V"⟩ yX1_begin, Cond.instanceMethod yX1_begin, Cond.initialized RX1, Cond.code yX1_begin cX1_begin 3 none, Cond.fieldLink RX1 9 "FairSeats$Fractions" "upper" "[J", Cond.fieldLink RX1 15 "FairSeats$Fractions" "lower" "J", Cond.methodLink RX8 100 yX6_cheapest, Cond.instanceMethod yX6_cheapest, Cond.selects RX6 yX6_cheapest yX6_cheapest, Cond.initialized RX6, Cond.code yX6_cheapest cX6_cheapest 10 (some .int), Cond.fieldLink RX6 15 "FairSeats$Purses" "lower" "J", Cond.sameField "FairSeats$Purses" "FairSeats$Fractions" "lower" "J"]
def wsX8_byPurses_r2 : List Cond := [Cond.fieldLink RX6 33 "FairSeats$Purses" "rest" "J", Cond.fieldLink RX6 36 "FairSeats$Purses" "payers" "I", Cond.methodLink RX6 9 yX3_total, Cond.instanceMethod yX3_total, Cond.selects RX3 yX3_total yX3_total, Cond.initialized RX3, Cond.code yX3_total cX3_total 3 (some .int), Cond.fieldLink RX3 22 "FairSeats$Heaps" "count" "I", Cond.fieldLink RX3 15 "FairSeats$Heaps" "papers" "[I", Cond.methodLink RX6 21 yX3_telling, Cond.instanceMethod yX3_telling, Cond.selects RX3 yX3_telling yX3_telling, Cond.code yX3_telling cX3_telling 4 (some .int), Cond.methodLink RX3 26 yX3_tells, Cond.instanceMethod yX3_tells, Cond.selects RX3 yX3_tells yX3_tells, Cond.code yX3_tells cX3_tells 3 (some .boolean), Cond.fieldLink RX3 9 "FairSeats$Heaps" "sets" "[I", Cond.methodLink RX6 25 ⟨"FairSeats$Purses", "sumOf", "(LFairSeats$Heaps;I)J"⟩, Cond.sameMethod "FairSeats$Purses" "FairSeats$Fractions" "sumOf" "(LFairSeats$Heaps;I)J", Cond.selects RX6 ⟨"FairSeats$Purses", "sumOf", "(LFairSeats$Heaps;I)J"⟩ yX1_sumOf, Cond.instanceMethod yX1_sumOf, Cond.code yX1_sumOf cX1_sumOf 6 (some .long), Cond.fieldLink RX1 19 "FairSeats$Heaps" "count" "I"]
def wsX8_byPurses_r3 : List Cond := [Cond.fieldLink RX1 29 "FairSeats$Heaps" "papers" "[I", Cond.methodLink RX1 25 yX3_tells, Cond.methodLink RX6 29 yX6_price, Cond.instanceMethod yX6_price, Cond.selects RX6 yX6_price yX6_price, Cond.code yX6_price cX6_price 11 none, Cond.fieldLink RX6 40 "FairSeats$Heaps" "count" "I", Cond.fieldLink RX6 47 "FairSeats$Purses" "upper" "[J", Cond.sameField "FairSeats$Purses" "FairSeats$Fractions" "upper" "[J", Cond.fieldLink RX6 51 "FairSeats$Heaps" "papers" "[I", Cond.methodLink RX6 43 yX3_tells, Cond.methodLink RX8 103 yX6_pay, Cond.instanceMethod yX6_pay, Cond.selects RX6 yX6_pay yX6_pay, Cond.code yX6_pay cX6_pay 4 none, Cond.methodLink RX6 59 Lib.MathLoose.max_long.x, Cond.static Lib.MathLoose.max_long.x, Cond.initialized "java/lang/Math", Cond.code Lib.MathLoose.max_long.x Lib.MathLoose.max_long.code 4 (some .long), Cond.methodLink RX6 55 ⟨"FairSeats$Purses", "widen", "(I)V"⟩, Cond.sameMethod "FairSeats$Purses" "FairSeats$Fractions" "widen" "(I)V", Cond.selects RX6 ⟨"FairSeats$Purses", "widen", "(I)V"⟩ yX1_widen, Cond.instanceMethod yX1_widen, Cond.code yX1_widen cX1_widen 3 none]
def wsX8_byPurses_r4 : List Cond := [Cond.methodLink RX8 70 yX8_add, Cond.instanceMethod yX8_add, Cond.selects RX8 yX8_add yX8_add, Cond.code yX8_add cX8_add 2 none, Cond.fieldLink RX8 25 "FairSeats$Ways" "order" "[I", Cond.methodLink RX8 36 yX8_byHeads, Cond.instanceMethod yX8_byHeads, Cond.selects RX8 yX8_byHeads yX8_byHeads, Cond.code yX8_byHeads cX8_byHeads 8 none, Cond.methodLink RX8 73 yX8_holds, Cond.instanceMethod yX8_holds, Cond.selects RX8 yX8_holds yX8_holds, Cond.code yX8_holds cX8_holds 2 (some .boolean), Cond.methodLink RX8 77 yX3_telling]
def wsX8_byPurses : List Cond := .code yX8_byPurses cX8_byPurses 6 none :: ((wsX8_byPurses_r1 ++ (wsX8_byPurses_r2 ++ (wsX8_byPurses_r3 ++ wsX8_byPurses_r4))) ++ wsX80 ++ wsX50 ++ wsX60 ++ wsX30)
def wsX8_take : List Cond := .code yX8_take cX8_take 3 none :: ([.methodLink RX8 33 yX8_clear, .instanceMethod yX8_clear, .selects RX8 yX8_clear yX8_clear, .initialized RX8, .code yX8_clear cX8_clear 1 none, .fieldLink RX8 67 "FairSeats$Ways" "count" "I", .fieldLink RX8 63 "FairSeats$Ways" "chosen" "I", .methodLink RX8 70 yX8_add, .instanceMethod yX8_add, .selects RX8 yX8_add yX8_add, .code yX8_add cX8_add 2 none, .fieldLink RX8 25 "FairSeats$Ways" "order" "[I"] ++ wsX80)
def wsX8_bestSwap : List Cond := .code yX8_bestSwap cX8_bestSwap 8 (some .int) :: ([.methodLink RX8 83 yX3_worthOf, .instanceMethod yX3_worthOf, .selects RX3 yX3_worthOf yX3_worthOf, .initialized RX3, .code yX3_worthOf cX3_worthOf 4 (some .int), .fieldLink RX3 22 "FairSeats$Heaps" "count" "I", .fieldLink RX3 15 "FairSeats$Heaps" "papers" "[I", .fieldLink RX3 18 "FairSeats$Heaps" "worths" "LFairSeats$Worths;", .fieldLink RX3 30 "FairSeats$Worths" "together" "[I", .fieldLink RX3 9 "FairSeats$Heaps" "sets" "[I", .methodLink RX3 35 yJ6_bitCount_0f7a4, .static yJ6_bitCount_0f7a4, .initialized RJ6, .code yJ6_bitCount_0f7a4 cJ6_bitCount_0f7a4 1 (some .int), .constant RJ6 265 (1431655765), .constant RJ6 266 (858993459), .constant RJ6 267 (252645135)] ++ wsX30 ++ wsX90)
def wsX8_bySwaps_r1 : List Cond := [Cond.fieldLink RX8 63 "FairSeats$Ways" "chosen" "I", Cond.methodLink RX8 40 yX8_byWorth, Cond.instanceMethod yX8_byWorth, Cond.selects RX8 yX8_byWorth yX8_byWorth, Cond.initialized RX8, Cond.code yX8_byWorth cX8_byWorth 8 none, Cond.methodLink RX8 73 yX8_holds, Cond.instanceMethod yX8_holds, Cond.selects RX8 yX8_holds yX8_holds, Cond.code yX8_holds cX8_holds 2 (some .boolean), Cond.methodLink RX8 83 yX3_worthOf, Cond.instanceMethod yX3_worthOf, Cond.selects RX3 yX3_worthOf yX3_worthOf, Cond.initialized RX3, Cond.code yX3_worthOf cX3_worthOf 4 (some .int), Cond.fieldLink RX3 22 "FairSeats$Heaps" "count" "I", Cond.fieldLink RX3 15 "FairSeats$Heaps" "papers" "[I", Cond.fieldLink RX3 18 "FairSeats$Heaps" "worths" "LFairSeats$Worths;", Cond.fieldLink RX3 30 "FairSeats$Worths" "together" "[I", Cond.fieldLink RX3 9 "FairSeats$Heaps" "sets" "[I", Cond.methodLink RX3 35 yJ6_bitCount_0f7a4, Cond.static yJ6_bitCount_0f7a4, Cond.initialized RJ6, Cond.code yJ6_bitCount_0f7a4 cJ6_bitCount_0f7a4 1 (some .int)]
def wsX8_bySwaps_r2 : List Cond := [Cond.constant RJ6 265 (1431655765), Cond.constant RJ6 266 (858993459), Cond.constant RJ6 267 (252645135), Cond.methodLink RX8 70 yX8_add, Cond.instanceMethod yX8_add, Cond.selects RX8 yX8_add yX8_add, Cond.code yX8_add cX8_add 2 none, Cond.fieldLink RX8 67 "FairSeats$Ways" "count" "I", Cond.fieldLink RX8 25 "FairSeats$Ways" "order" "[I", Cond.methodLink RX8 106 yX8_bestSwap, Cond.static yX8_bestSwap, Cond.code yX8_bestSwap cX8_bestSwap 8 (some .int), Cond.methodLink RX8 56 yX8_take, Cond.instanceMethod yX8_take, Cond.selects RX8 yX8_take yX8_take, Cond.code yX8_take cX8_take 3 none, Cond.methodLink RX8 33 yX8_clear, Cond.instanceMethod yX8_clear, Cond.selects RX8 yX8_clear yX8_clear, Cond.code yX8_clear cX8_clear 1 none]
def wsX8_bySwaps : List Cond := .code yX8_bySwaps cX8_bySwaps 6 none :: ((wsX8_bySwaps_r1 ++ wsX8_bySwaps_r2) ++ wsX80 ++ wsX30 ++ wsX90)
def wsX8_run_r1 : List Cond := [Cond.fieldLink RX8 29 "FairSeats$Ways" "lawful" "LFairSeats$Committees;", Cond.methodLink RX8 33 yX8_clear, Cond.instanceMethod yX8_clear, Cond.selects RX8 yX8_clear yX8_clear, Cond.initialized RX8, Cond.code yX8_clear cX8_clear 1 none, Cond.fieldLink RX8 67 "FairSeats$Ways" "count" "I", Cond.fieldLink RX8 63 "FairSeats$Ways" "chosen" "I", Cond.methodLink RX8 36 yX8_byHeads, Cond.instanceMethod yX8_byHeads, Cond.selects RX8 yX8_byHeads yX8_byHeads, Cond.code yX8_byHeads cX8_byHeads 8 none, Cond.methodLink RX8 73 yX8_holds, Cond.instanceMethod yX8_holds, Cond.selects RX8 yX8_holds yX8_holds, Cond.code yX8_holds cX8_holds 2 (some .boolean), Cond.methodLink RX8 77 yX3_telling, Cond.instanceMethod yX3_telling, Cond.selects RX3 yX3_telling yX3_telling, Cond.initialized RX3, Cond.code yX3_telling cX3_telling 4 (some .int), Cond.fieldLink RX3 22 "FairSeats$Heaps" "count" "I", Cond.fieldLink RX3 15 "FairSeats$Heaps" "papers" "[I", Cond.methodLink RX3 26 yX3_tells]
def wsX8_run_r2 : List Cond := [Cond.instanceMethod yX3_tells, Cond.selects RX3 yX3_tells yX3_tells, Cond.code yX3_tells cX3_tells 3 (some .boolean), Cond.fieldLink RX3 9 "FairSeats$Heaps" "sets" "[I", Cond.methodLink RX8 70 yX8_add, Cond.instanceMethod yX8_add, Cond.selects RX8 yX8_add yX8_add, Cond.code yX8_add cX8_add 2 none, Cond.fieldLink RX8 25 "FairSeats$Ways" "order" "[I", Cond.methodLink RX8 40 yX8_byWorth, Cond.instanceMethod yX8_byWorth, Cond.selects RX8 yX8_byWorth yX8_byWorth, Cond.code yX8_byWorth cX8_byWorth 8 none, Cond.methodLink RX8 83 yX3_worthOf, Cond.instanceMethod yX3_worthOf, Cond.selects RX3 yX3_worthOf yX3_worthOf, Cond.code yX3_worthOf cX3_worthOf 4 (some .int), Cond.fieldLink RX3 18 "FairSeats$Heaps" "worths" "LFairSeats$Worths;", Cond.fieldLink RX3 30 "FairSeats$Worths" "together" "[I", Cond.methodLink RX3 35 yJ6_bitCount_0f7a4, Cond.static yJ6_bitCount_0f7a4, Cond.initialized RJ6, Cond.code yJ6_bitCount_0f7a4 cJ6_bitCount_0f7a4 1 (some .int), Cond.constant RJ6 265 (1431655765)]
def wsX8_run_r3 : List Cond := [Cond.constant RJ6 266 (858993459), Cond.constant RJ6 267 (252645135), Cond.methodLink RX8 43 yX8_byLoads, Cond.instanceMethod yX8_byLoads, Cond.selects RX8 yX8_byLoads yX8_byLoads, Cond.code yX8_byLoads cX8_byLoads 5 none, Cond.fieldLink RX8 12 "FairSeats$Ways" "loads" "LFairSeats$Loads;", Cond.methodLink RX8 86 ⟨"FairSeats$Loads", "begin", "(I)V"⟩, Cond.sameMethod "FairSeats$Loads" "FairSeats$Fractions" "begin" "(I)V", Cond.selects RX5 ⟨"FairSeats$Loads", "begin", "(I)V"⟩ yX1_begin, Cond.instanceMethod yX1_begin, Cond.initialized RX1, Cond.code yX1_begin cX1_begin 3 none, Cond.fieldLink RX1 9 "FairSeats$Fractions" "upper" "[J", Cond.fieldLink RX1 15 "FairSeats$Fractions" "lower" "J", Cond.methodLink RX8 89 yX5_lightest, Cond.instanceMethod yX5_lightest, Cond.selects RX5 yX5_lightest yX5_lightest, Cond.initialized RX5, Cond.code yX5_lightest cX5_lightest 12 (some .int), Cond.fieldLink RX5 15 "FairSeats$Loads" "lower" "J", Cond.sameField "FairSeats$Loads" "FairSeats$Fractions" "lower" "J", Cond.methodLink RX5 9 yX3_telling, Cond.methodLink RX5 21 ⟨"FairSeats$Loads", "sumOf", "(LFairSeats$Heaps;I)J"⟩]
def wsX8_run_r4 : List Cond := [Cond.sameMethod "FairSeats$Loads" "FairSeats$Fractions" "sumOf" "(LFairSeats$Heaps;I)J", Cond.selects RX5 ⟨"FairSeats$Loads", "sumOf", "(LFairSeats$Heaps;I)J"⟩ yX1_sumOf, Cond.instanceMethod yX1_sumOf, Cond.code yX1_sumOf cX1_sumOf 6 (some .long), Cond.fieldLink RX1 19 "FairSeats$Heaps" "count" "I", Cond.fieldLink RX1 29 "FairSeats$Heaps" "papers" "[I", Cond.methodLink RX1 25 yX3_tells, Cond.methodLink RX8 93 yX5_bear, Cond.instanceMethod yX5_bear, Cond.selects RX5 yX5_bear yX5_bear, Cond.code yX5_bear cX5_bear 7 none, Cond.fieldLink RX5 29 "FairSeats$Heaps" "count" "I", Cond.fieldLink RX5 37 "FairSeats$Loads" "upper" "[J", Cond.sameField "FairSeats$Loads" "FairSeats$Fractions" "upper" "[J", Cond.methodLink RX5 25 ⟨"FairSeats$Loads", "widen", "(I)V"⟩, Cond.sameMethod "FairSeats$Loads" "FairSeats$Fractions" "widen" "(I)V", Cond.selects RX5 ⟨"FairSeats$Loads", "widen", "(I)V"⟩ yX1_widen, Cond.instanceMethod yX1_widen, Cond.code yX1_widen cX1_widen 3 none, Cond.methodLink RX5 33 yX3_tells, Cond.methodLink RX8 46 yX8_byPurses, Cond.instanceMethod yX8_byPurses, Cond.selects RX8 yX8_byPurses yX8_byPurses, Cond.code yX8_byPurses cX8_byPurses 6 none]
def wsX8_run_r5 : List Cond := [Cond.fieldLink RX8 21 "FairSeats$Ways" "purses" "LFairSeats$Purses;", Cond.fieldLink RX8 97 "FairSeats$Ways" "paidCount" "I", Cond.methodLink RX8 96 ⟨"FairSeats$Purses", "begin", "(I)V"⟩, Cond.sameMethod "FairSeats$Purses" "FairSeats$Fractions" "begin" "(I)V", Cond.selects RX6 ⟨"FairSeats$Purses", "begin", "(I)V"⟩ yX1_begin, Cond.methodLink RX8 100 yX6_cheapest, Cond.instanceMethod yX6_cheapest, Cond.selects RX6 yX6_cheapest yX6_cheapest, Cond.initialized RX6, Cond.code yX6_cheapest cX6_cheapest 10 (some .int), Cond.fieldLink RX6 15 "FairSeats$Purses" "lower" "J", Cond.sameField "FairSeats$Purses" "FairSeats$Fractions" "lower" "J", Cond.fieldLink RX6 33 "FairSeats$Purses" "rest" "J", Cond.fieldLink RX6 36 "FairSeats$Purses" "payers" "I", Cond.methodLink RX6 9 yX3_total, Cond.instanceMethod yX3_total, Cond.selects RX3 yX3_total yX3_total, Cond.code yX3_total cX3_total 3 (some .int), Cond.methodLink RX6 21 yX3_telling, Cond.methodLink RX6 25 ⟨"FairSeats$Purses", "sumOf", "(LFairSeats$Heaps;I)J"⟩, Cond.sameMethod "FairSeats$Purses" "FairSeats$Fractions" "sumOf" "(LFairSeats$Heaps;I)J", Cond.selects RX6 ⟨"FairSeats$Purses", "sumOf", "(LFairSeats$Heaps;I)J"⟩ yX1_sumOf, Cond.methodLink RX6 29 yX6_price, Cond.instanceMethod yX6_price]
def wsX8_run_r6 : List Cond := [Cond.selects RX6 yX6_price yX6_price, Cond.code yX6_price cX6_price 11 none, Cond.fieldLink RX6 40 "FairSeats$Heaps" "count" "I", Cond.fieldLink RX6 47 "FairSeats$Purses" "upper" "[J", Cond.sameField "FairSeats$Purses" "FairSeats$Fractions" "upper" "[J", Cond.fieldLink RX6 51 "FairSeats$Heaps" "papers" "[I", Cond.methodLink RX6 43 yX3_tells, Cond.methodLink RX8 103 yX6_pay, Cond.instanceMethod yX6_pay, Cond.selects RX6 yX6_pay yX6_pay, Cond.code yX6_pay cX6_pay 4 none, Cond.methodLink RX6 59 Lib.MathLoose.max_long.x, Cond.static Lib.MathLoose.max_long.x, Cond.initialized "java/lang/Math", Cond.code Lib.MathLoose.max_long.x Lib.MathLoose.max_long.code 4 (some .long), Cond.methodLink RX6 55 ⟨"FairSeats$Purses", "widen", "(I)V"⟩, Cond.sameMethod "FairSeats$Purses" "FairSeats$Fractions" "widen" "(I)V", Cond.selects RX6 ⟨"FairSeats$Purses", "widen", "(I)V"⟩ yX1_widen, Cond.methodLink RX8 50 yX0_ofMostWorth, Cond.instanceMethod yX0_ofMostWorth, Cond.selects RX0 yX0_ofMostWorth yX0_ofMostWorth, Cond.initialized RX0, Cond.code yX0_ofMostWorth cX0_ofMostWorth 6 (some .int), Cond.fieldLink RX0 15 "FairSeats$Committees" "count" "I"]
def wsX8_run_r7 : List Cond := [Cond.fieldLink RX0 9 "FairSeats$Committees" "row" "[I", Cond.methodLink RX0 40 yX3_worthOf, Cond.methodLink RX8 56 yX8_take, Cond.instanceMethod yX8_take, Cond.selects RX8 yX8_take yX8_take, Cond.code yX8_take cX8_take 3 none, Cond.methodLink RX8 60 yX8_bySwaps, Cond.instanceMethod yX8_bySwaps, Cond.selects RX8 yX8_bySwaps yX8_bySwaps, Cond.code yX8_bySwaps cX8_bySwaps 6 none, Cond.methodLink RX8 106 yX8_bestSwap, Cond.static yX8_bestSwap, Cond.code yX8_bestSwap cX8_bestSwap 8 (some .int)]
def wsX8_run : List Cond := .code yX8_run cX8_run 4 none :: ((wsX8_run_r1 ++ (wsX8_run_r2 ++ (wsX8_run_r3 ++ (wsX8_run_r4 ++ (wsX8_run_r5 ++ (wsX8_run_r6 ++ wsX8_run_r7)))))) ++ wsX80 ++ wsX30 ++ wsX90 ++ wsX50 ++ wsX60 ++ wsX00)
def wsX8_chosenAt : List Cond := .code yX8_chosenAt cX8_chosenAt 2 (some .int) :: ([.fieldLink RX8 67 "FairSeats$Ways" "count" "I", .fieldLink RX8 25 "FairSeats$Ways" "order" "[I"] ++ wsX80)
def wsX9_addUp : List Cond := .code yX9_addUp cX9_addUp 2 none :: ([.fieldLink RX9 15 "FairSeats$Worths" "together" "[I", .fieldLink RX9 9 "FairSeats$Worths" "each" "[I"] ++ wsX90)
def wsX9_init : List Cond := .code yX9_init cX9_init 1 none :: ([.methodLink RX9 3 objectInit, .instanceMethod objectInit, .code objectInit ⟨#[0xb1]⟩ 1 none, .arrayClass .int, .fieldLink RX9 9 "FairSeats$Worths" "each" "[I", .fieldLink RX9 15 "FairSeats$Worths" "together" "[I", .methodLink RX9 18 yX9_addUp, .instanceMethod yX9_addUp, .selects RX9 yX9_addUp yX9_addUp, .initialized RX9, .code yX9_addUp cX9_addUp 2 none] ++ wsX90)
def wsX9_fits : List Cond := .code yX9_fits cX9_fits 5 (some .boolean) :: ([.fieldLink RX9 9 "FairSeats$Worths" "each" "[I"] ++ wsX90)
def wsX9_put : List Cond := .code yX9_put cX9_put 3 none :: ([.fieldLink RX9 9 "FairSeats$Worths" "each" "[I", .methodLink RX9 18 yX9_addUp, .instanceMethod yX9_addUp, .selects RX9 yX9_addUp yX9_addUp, .initialized RX9, .code yX9_addUp cX9_addUp 2 none, .fieldLink RX9 15 "FairSeats$Worths" "together" "[I"] ++ wsX90)
def wsX10_init_r1 : List Cond := [Cond.methodLink RX10 1 objectInit, Cond.instanceMethod objectInit, Cond.code objectInit ⟨#[0xb1]⟩ 1 none, Cond.classLink RX10 7 RX9, Cond.instantiable RX9 2, Cond.initialized RX9, Cond.fieldLink RX10 10 "FairSeats" "worths" "LFairSeats$Worths;", Cond.classLink RX10 16 RX3, Cond.instantiable RX3 4, Cond.initialized RX3, Cond.fieldLink RX10 21 "FairSeats" "heaps" "LFairSeats$Heaps;", Cond.fieldLink RX10 25 "FairSeats" "trial" "LFairSeats$Heaps;", Cond.classLink RX10 28 RX7, Cond.instantiable RX7 2, Cond.initialized RX7, Cond.fieldLink RX10 31 "FairSeats" "text" "LFairSeats$Text;", Cond.classLink RX10 35 RX4, Cond.instantiable RX4 4, Cond.initialized RX4, Cond.fieldLink RX10 38 "FairSeats" "lines" "LFairSeats$Lines;", Cond.classLink RX10 42 RX0, Cond.instantiable RX0 2, Cond.initialized RX0, Cond.fieldLink RX10 45 "FairSeats" "lawful" "LFairSeats$Committees;"]
def wsX10_init_r2 : List Cond := [Cond.classLink RX10 49 RX2, Cond.instantiable RX2 9, Cond.initialized RX2, Cond.fieldLink RX10 52 "FairSeats" "groups" "LFairSeats$Groups;", Cond.classLink RX10 56 RX8, Cond.instantiable RX8 7, Cond.initialized RX8, Cond.fieldLink RX10 61 "FairSeats" "ways" "LFairSeats$Ways;", Cond.fieldLink RX10 65 "FairSeats" "seatCount" "I", Cond.methodLink RX10 9 yX9_init, Cond.instanceMethod yX9_init, Cond.code yX9_init cX9_init 1 none, Cond.methodLink RX9 3 objectInit, Cond.arrayClass .int, Cond.fieldLink RX9 9 "FairSeats$Worths" "each" "[I", Cond.fieldLink RX9 15 "FairSeats$Worths" "together" "[I", Cond.methodLink RX9 18 yX9_addUp, Cond.instanceMethod yX9_addUp, Cond.selects RX9 yX9_addUp yX9_addUp, Cond.code yX9_addUp cX9_addUp 2 none, Cond.methodLink RX10 18 yX3_init, Cond.instanceMethod yX3_init, Cond.code yX3_init cX3_init 2 none, Cond.methodLink RX3 3 objectInit]
def wsX10_init_r3 : List Cond := [Cond.fieldLink RX3 9 "FairSeats$Heaps" "sets" "[I", Cond.fieldLink RX3 15 "FairSeats$Heaps" "papers" "[I", Cond.fieldLink RX3 18 "FairSeats$Heaps" "worths" "LFairSeats$Worths;", Cond.instanceMethod yX7_init, Cond.code yX7_init cX7_init 1 none, Cond.methodLink RX7 3 objectInit, Cond.fieldLink RX7 9 "FairSeats$Text" "signs" "[I", Cond.instanceMethod yX4_init, Cond.code yX4_init cX4_init 1 none, Cond.methodLink RX4 3 objectInit, Cond.fieldLink RX4 9 "FairSeats$Lines" "sets" "[I", Cond.fieldLink RX4 15 "FairSeats$Lines" "digits" "[I", Cond.arrayClass .boolean, Cond.fieldLink RX4 18 "FairSeats$Lines" "fewer" "[Z", Cond.instanceMethod yX0_init, Cond.code yX0_init cX0_init 1 none, Cond.methodLink RX0 3 objectInit, Cond.fieldLink RX0 9 "FairSeats$Committees" "row" "[I", Cond.instanceMethod yX2_init, Cond.code yX2_init cX2_init 1 none, Cond.methodLink RX2 3 objectInit, Cond.fieldLink RX2 9 "FairSeats$Groups" "common" "[I", Cond.fieldLink RX2 15 "FairSeats$Groups" "anyone" "[I", Cond.fieldLink RX2 18 "FairSeats$Groups" "papers" "[I"]
def wsX10_init_r4 : List Cond := [Cond.fieldLink RX2 21 "FairSeats$Groups" "due" "[I", Cond.fieldLink RX2 24 "FairSeats$Groups" "mostHad" "[I", Cond.fieldLink RX2 27 "FairSeats$Groups" "sets" "[I", Cond.methodLink RX10 58 yX8_init, Cond.instanceMethod yX8_init, Cond.code yX8_init cX8_init 2 none, Cond.methodLink RX8 3 objectInit, Cond.classLink RX8 9 RX5, Cond.instantiable RX5 2, Cond.initialized RX5, Cond.fieldLink RX8 12 "FairSeats$Ways" "loads" "LFairSeats$Loads;", Cond.classLink RX8 18 RX6, Cond.instantiable RX6 4, Cond.initialized RX6, Cond.fieldLink RX8 21 "FairSeats$Ways" "purses" "LFairSeats$Purses;", Cond.fieldLink RX8 25 "FairSeats$Ways" "order" "[I", Cond.fieldLink RX8 29 "FairSeats$Ways" "lawful" "LFairSeats$Committees;", Cond.instanceMethod yX5_init, Cond.code yX5_init cX5_init 1 none, Cond.instanceMethod yX1_init, Cond.initialized RX1, Cond.code yX1_init cX1_init 1 none, Cond.methodLink RX1 3 objectInit, Cond.arrayClass .long]
def wsX10_init_r5 : List Cond := [Cond.fieldLink RX1 9 "FairSeats$Fractions" "upper" "[J", Cond.instanceMethod yX6_init, Cond.code yX6_init cX6_init 1 none]
def wsX10_init : List Cond := .code yX10_init cX10_init 1 none :: ((wsX10_init_r1 ++ (wsX10_init_r2 ++ (wsX10_init_r3 ++ (wsX10_init_r4 ++ wsX10_init_r5)))) ++ wsX90 ++ wsX100 ++ wsX30 ++ wsX70 ++ wsX40 ++ wsX00 ++ wsX20 ++ wsX80 ++ wsX50 ++ wsX60)
def wsX10_isSet : List Cond := .code yX10_isSet cX10_isSet 1 (some .boolean) :: ([])
def wsX10_isPapers : List Cond := .code yX10_isPapers cX10_isPapers 1 (some .boolean) :: ([])
def wsX10_heap : List Cond := .code yX10_heap cX10_heap 3 (some .int) :: ([.fieldLink RX10 21 "FairSeats" "heaps" "LFairSeats$Heaps;", .fieldLink RX10 76 "FairSeats$Heaps" "count" "I", .methodLink RX10 69 yX10_isSet, .static yX10_isSet, .initialized RX10, .code yX10_isSet cX10_isSet 1 (some .boolean), .methodLink RX10 73 yX10_isPapers, .static yX10_isPapers, .code yX10_isPapers cX10_isPapers 1 (some .boolean), .methodLink RX10 79 yX3_append, .instanceMethod yX3_append, .selects RX3 yX3_append yX3_append, .initialized RX3, .code yX3_append cX3_append 3 none, .fieldLink RX3 22 "FairSeats$Heaps" "count" "I", .fieldLink RX3 9 "FairSeats$Heaps" "sets" "[I", .fieldLink RX3 15 "FairSeats$Heaps" "papers" "[I"] ++ wsX100 ++ wsX30)
def wsX10_isHeap : List Cond := .code yX10_isHeap cX10_isHeap 2 (some .boolean) :: ([.fieldLink RX10 21 "FairSeats" "heaps" "LFairSeats$Heaps;", .fieldLink RX10 76 "FairSeats$Heaps" "count" "I"] ++ wsX100 ++ wsX30)
def wsX10_change : List Cond := .code yX10_change cX10_change 5 (some .int) :: ([.fieldLink RX10 21 "FairSeats" "heaps" "LFairSeats$Heaps;", .fieldLink RX10 86 "FairSeats$Heaps" "sets" "[I", .fieldLink RX10 90 "FairSeats$Heaps" "papers" "[I", .methodLink RX10 83 yX10_isHeap, .instanceMethod yX10_isHeap, .selects RX10 yX10_isHeap yX10_isHeap, .initialized RX10, .code yX10_isHeap cX10_isHeap 2 (some .boolean), .fieldLink RX10 76 "FairSeats$Heaps" "count" "I", .methodLink RX10 69 yX10_isSet, .static yX10_isSet, .code yX10_isSet cX10_isSet 1 (some .boolean), .methodLink RX10 73 yX10_isPapers, .static yX10_isPapers, .code yX10_isPapers cX10_isPapers 1 (some .boolean)] ++ wsX100 ++ wsX30)
def wsX10_drop : List Cond := .code yX10_drop cX10_drop 1 (some .int) :: ([.fieldLink RX10 21 "FairSeats" "heaps" "LFairSeats$Heaps;", .fieldLink RX10 76 "FairSeats$Heaps" "count" "I"] ++ wsX100 ++ wsX30)
def wsX10_seats : List Cond := .code yX10_seats cX10_seats 3 (some .int) :: ([.fieldLink RX10 65 "FairSeats" "seatCount" "I"] ++ wsX100)
def wsX10_worth : List Cond := .code yX10_worth cX10_worth 4 (some .int) :: ([.fieldLink RX10 10 "FairSeats" "worths" "LFairSeats$Worths;", .fieldLink RX10 97 "FairSeats$Worths" "each" "[I", .methodLink RX10 93 yX9_fits, .instanceMethod yX9_fits, .selects RX9 yX9_fits yX9_fits, .initialized RX9, .code yX9_fits cX9_fits 5 (some .boolean), .fieldLink RX9 9 "FairSeats$Worths" "each" "[I", .methodLink RX10 100 yX9_put, .instanceMethod yX9_put, .selects RX9 yX9_put yX9_put, .code yX9_put cX9_put 3 none, .methodLink RX9 18 yX9_addUp, .instanceMethod yX9_addUp, .selects RX9 yX9_addUp yX9_addUp, .code yX9_addUp cX9_addUp 2 none, .fieldLink RX9 15 "FairSeats$Worths" "together" "[I"] ++ wsX100 ++ wsX90)
def wsX10_say : List Cond := .code yX10_say cX10_say 2 (some .int) :: ([.fieldLink RX10 31 "FairSeats" "text" "LFairSeats$Text;", .fieldLink RX10 103 "FairSeats$Text" "length" "I", .methodLink RX10 106 yX7_append, .instanceMethod yX7_append, .selects RX7 yX7_append yX7_append, .initialized RX7, .code yX7_append cX7_append 2 none, .fieldLink RX7 15 "FairSeats$Text" "length" "I", .fieldLink RX7 9 "FairSeats$Text" "signs" "[I"] ++ wsX100 ++ wsX70)
def wsX10_wipe : List Cond := .code yX10_wipe cX10_wipe 2 (some .int) :: ([.fieldLink RX10 31 "FairSeats" "text" "LFairSeats$Text;", .fieldLink RX10 103 "FairSeats$Text" "length" "I"] ++ wsX100 ++ wsX70)
def wsX10_fault : List Cond := .code yX10_fault cX10_fault 1 (some .int) :: ([.fieldLink RX10 31 "FairSeats" "text" "LFairSeats$Text;", .methodLink RX10 109 yX7_firstFault, .instanceMethod yX7_firstFault, .selects RX7 yX7_firstFault yX7_firstFault, .initialized RX7, .code yX7_firstFault cX7_firstFault 3 (some .int), .fieldLink RX7 15 "FairSeats$Text" "length" "I", .fieldLink RX7 9 "FairSeats$Text" "signs" "[I", .methodLink RX7 19 yX7_step, .static yX7_step, .code yX7_step cX7_step 3 (some .int)] ++ wsX100 ++ wsX70)
def wsX10_hall_r1 : List Cond := [Cond.fieldLink RX10 31 "FairSeats" "text" "LFairSeats$Text;", Cond.fieldLink RX10 38 "FairSeats" "lines" "LFairSeats$Lines;", Cond.fieldLink RX10 103 "FairSeats$Text" "length" "I", Cond.methodLink RX10 109 yX7_firstFault, Cond.instanceMethod yX7_firstFault, Cond.selects RX7 yX7_firstFault yX7_firstFault, Cond.initialized RX7, Cond.code yX7_firstFault cX7_firstFault 3 (some .int), Cond.fieldLink RX7 15 "FairSeats$Text" "length" "I", Cond.fieldLink RX7 9 "FairSeats$Text" "signs" "[I", Cond.methodLink RX7 19 yX7_step, Cond.static yX7_step, Cond.code yX7_step cX7_step 3 (some .int), Cond.methodLink RX10 113 yX4_read, Cond.instanceMethod yX4_read, Cond.selects RX4 yX4_read yX4_read, Cond.initialized RX4, Cond.code yX4_read cX4_read 6 none, Cond.fieldLink RX4 22 "FairSeats$Lines" "count" "I", Cond.fieldLink RX4 26 "FairSeats$Text" "length" "I", Cond.fieldLink RX4 31 "FairSeats$Text" "signs" "[I", Cond.methodLink RX4 34 yX4_append, Cond.instanceMethod yX4_append, Cond.selects RX4 yX4_append yX4_append]
def wsX10_hall_r2 : List Cond := [Cond.code yX4_append cX4_append 4 none, Cond.fieldLink RX4 9 "FairSeats$Lines" "sets" "[I", Cond.fieldLink RX4 18 "FairSeats$Lines" "fewer" "[Z", Cond.fieldLink RX4 15 "FairSeats$Lines" "digits" "[I"]
def wsX10_hall : List Cond := .code yX10_hall cX10_hall 1 (some .int) :: ((wsX10_hall_r1 ++ wsX10_hall_r2) ++ wsX100 ++ wsX70 ++ wsX40)
def wsX10_open : List Cond := .code yX10_open cX10_open 1 (some .int) :: ([.fieldLink RX10 38 "FairSeats" "lines" "LFairSeats$Lines;", .fieldLink RX10 117 "FairSeats$Lines" "count" "I"] ++ wsX100 ++ wsX40)
def wsX10_isCommittee : List Cond := .code yX10_isCommittee cX10_isCommittee 2 (some .boolean) :: ([.fieldLink RX10 65 "FairSeats" "seatCount" "I", .methodLink RX10 69 yX10_isSet, .static yX10_isSet, .initialized RX10, .code yX10_isSet cX10_isSet 1 (some .boolean), .methodLink RX10 232 yJ6_bitCount_0f7a4, .static yJ6_bitCount_0f7a4, .initialized RJ6, .code yJ6_bitCount_0f7a4 cJ6_bitCount_0f7a4 1 (some .int), .constant RJ6 265 (1431655765), .constant RJ6 266 (858993459), .constant RJ6 267 (252645135)] ++ wsX100)
def wsX10_of_r1 : List Cond := [Cond.fieldLink RX10 38 "FairSeats" "lines" "LFairSeats$Lines;", Cond.fieldLink RX10 21 "FairSeats" "heaps" "LFairSeats$Heaps;", Cond.methodLink RX10 118 yX10_isCommittee, Cond.instanceMethod yX10_isCommittee, Cond.selects RX10 yX10_isCommittee yX10_isCommittee, Cond.initialized RX10, Cond.code yX10_isCommittee cX10_isCommittee 2 (some .boolean), Cond.fieldLink RX10 65 "FairSeats" "seatCount" "I", Cond.methodLink RX10 69 yX10_isSet, Cond.static yX10_isSet, Cond.code yX10_isSet cX10_isSet 1 (some .boolean), Cond.methodLink RX10 232 yJ6_bitCount_0f7a4, Cond.static yJ6_bitCount_0f7a4, Cond.initialized RJ6, Cond.code yJ6_bitCount_0f7a4 cJ6_bitCount_0f7a4 1 (some .int), Cond.constant RJ6 265 (1431655765), Cond.constant RJ6 266 (858993459), Cond.constant RJ6 267 (252645135), Cond.methodLink RX10 121 yX4_allow, Cond.instanceMethod yX4_allow, Cond.selects RX4 yX4_allow yX4_allow, Cond.initialized RX4, Cond.code yX4_allow cX4_allow 2 (some .boolean), Cond.methodLink RX4 44 yX4_firstBroken]
def wsX10_of_r2 : List Cond := [Cond.instanceMethod yX4_firstBroken, Cond.selects RX4 yX4_firstBroken yX4_firstBroken, Cond.code yX4_firstBroken cX4_firstBroken 4 (some .int), Cond.fieldLink RX4 22 "FairSeats$Lines" "count" "I", Cond.fieldLink RX4 9 "FairSeats$Lines" "sets" "[I", Cond.fieldLink RX4 18 "FairSeats$Lines" "fewer" "[Z", Cond.fieldLink RX4 15 "FairSeats$Lines" "digits" "[I", Cond.methodLink RX4 38 yJ6_bitCount_0f7a4, Cond.methodLink RX10 124 yX3_worthOf, Cond.instanceMethod yX3_worthOf, Cond.selects RX3 yX3_worthOf yX3_worthOf, Cond.initialized RX3, Cond.code yX3_worthOf cX3_worthOf 4 (some .int), Cond.fieldLink RX3 22 "FairSeats$Heaps" "count" "I", Cond.fieldLink RX3 15 "FairSeats$Heaps" "papers" "[I", Cond.fieldLink RX3 18 "FairSeats$Heaps" "worths" "LFairSeats$Worths;", Cond.fieldLink RX3 30 "FairSeats$Worths" "together" "[I", Cond.fieldLink RX3 9 "FairSeats$Heaps" "sets" "[I", Cond.methodLink RX3 35 yJ6_bitCount_0f7a4, Cond.methodLink RX10 128 yX3_wronged, Cond.instanceMethod yX3_wronged, Cond.selects RX3 yX3_wronged yX3_wronged, Cond.code yX3_wronged cX3_wronged 4 (some .int), Cond.methodLink RX10 131 yX4_firstBroken]
def wsX10_of : List Cond := .code yX10_of cX10_of 3 (some .int) :: ((wsX10_of_r1 ++ wsX10_of_r2) ++ wsX100 ++ wsX40 ++ wsX30 ++ wsX90)
def wsX10_isWay : List Cond := .code yX10_isWay cX10_isWay 1 (some .boolean) :: ([])
def wsX10_runWay_r1 : List Cond := [Cond.fieldLink RX10 45 "FairSeats" "lawful" "LFairSeats$Committees;", Cond.fieldLink RX10 38 "FairSeats" "lines" "LFairSeats$Lines;", Cond.fieldLink RX10 61 "FairSeats" "ways" "LFairSeats$Ways;", Cond.fieldLink RX10 21 "FairSeats" "heaps" "LFairSeats$Heaps;", Cond.methodLink RX10 205 yX0_gather, Cond.instanceMethod yX0_gather, Cond.selects RX0 yX0_gather yX0_gather, Cond.initialized RX0, Cond.code yX0_gather cX0_gather 4 none, Cond.fieldLink RX0 15 "FairSeats$Committees" "count" "I", Cond.fieldLink RX0 9 "FairSeats$Committees" "row" "[I", Cond.methodLink RX0 19 yJ6_bitCount_0f7a4, Cond.static yJ6_bitCount_0f7a4, Cond.initialized RJ6, Cond.code yJ6_bitCount_0f7a4 cJ6_bitCount_0f7a4 1 (some .int), Cond.constant RJ6 265 (1431655765), Cond.constant RJ6 266 (858993459), Cond.constant RJ6 267 (252645135), Cond.methodLink RX0 25 yX4_allow, Cond.instanceMethod yX4_allow, Cond.selects RX4 yX4_allow yX4_allow, Cond.initialized RX4, Cond.code yX4_allow cX4_allow 2 (some .boolean), Cond.methodLink RX4 44 yX4_firstBroken]
def wsX10_runWay_r2 : List Cond := [Cond.instanceMethod yX4_firstBroken, Cond.selects RX4 yX4_firstBroken yX4_firstBroken, Cond.code yX4_firstBroken cX4_firstBroken 4 (some .int), Cond.fieldLink RX4 22 "FairSeats$Lines" "count" "I", Cond.fieldLink RX4 9 "FairSeats$Lines" "sets" "[I", Cond.fieldLink RX4 18 "FairSeats$Lines" "fewer" "[Z", Cond.fieldLink RX4 15 "FairSeats$Lines" "digits" "[I", Cond.methodLink RX4 38 yJ6_bitCount_0f7a4, Cond.methodLink RX10 219 yX8_run, Cond.instanceMethod yX8_run, Cond.selects RX8 yX8_run yX8_run, Cond.initialized RX8, Cond.code yX8_run cX8_run 4 none, Cond.fieldLink RX8 29 "FairSeats$Ways" "lawful" "LFairSeats$Committees;", Cond.methodLink RX8 33 yX8_clear, Cond.instanceMethod yX8_clear, Cond.selects RX8 yX8_clear yX8_clear, Cond.code yX8_clear cX8_clear 1 none, Cond.fieldLink RX8 67 "FairSeats$Ways" "count" "I", Cond.fieldLink RX8 63 "FairSeats$Ways" "chosen" "I", Cond.methodLink RX8 36 yX8_byHeads, Cond.instanceMethod yX8_byHeads, Cond.selects RX8 yX8_byHeads yX8_byHeads, Cond.code yX8_byHeads cX8_byHeads 8 none]
def wsX10_runWay_r3 : List Cond := [Cond.methodLink RX8 73 yX8_holds, Cond.instanceMethod yX8_holds, Cond.selects RX8 yX8_holds yX8_holds, Cond.code yX8_holds cX8_holds 2 (some .boolean), Cond.methodLink RX8 77 yX3_telling, Cond.instanceMethod yX3_telling, Cond.selects RX3 yX3_telling yX3_telling, Cond.initialized RX3, Cond.code yX3_telling cX3_telling 4 (some .int), Cond.fieldLink RX3 22 "FairSeats$Heaps" "count" "I", Cond.fieldLink RX3 15 "FairSeats$Heaps" "papers" "[I", Cond.methodLink RX3 26 yX3_tells, Cond.instanceMethod yX3_tells, Cond.selects RX3 yX3_tells yX3_tells, Cond.code yX3_tells cX3_tells 3 (some .boolean), Cond.fieldLink RX3 9 "FairSeats$Heaps" "sets" "[I", Cond.methodLink RX8 70 yX8_add, Cond.instanceMethod yX8_add, Cond.selects RX8 yX8_add yX8_add, Cond.code yX8_add cX8_add 2 none, Cond.fieldLink RX8 25 "FairSeats$Ways" "order" "[I", Cond.methodLink RX8 40 yX8_byWorth, Cond.instanceMethod yX8_byWorth, Cond.selects RX8 yX8_byWorth yX8_byWorth]
def wsX10_runWay_r4 : List Cond := [Cond.code yX8_byWorth cX8_byWorth 8 none, Cond.methodLink RX8 83 yX3_worthOf, Cond.instanceMethod yX3_worthOf, Cond.selects RX3 yX3_worthOf yX3_worthOf, Cond.code yX3_worthOf cX3_worthOf 4 (some .int), Cond.fieldLink RX3 18 "FairSeats$Heaps" "worths" "LFairSeats$Worths;", Cond.fieldLink RX3 30 "FairSeats$Worths" "together" "[I", Cond.methodLink RX3 35 yJ6_bitCount_0f7a4, Cond.methodLink RX8 43 yX8_byLoads, Cond.instanceMethod yX8_byLoads, Cond.selects RX8 yX8_byLoads yX8_byLoads, Cond.code yX8_byLoads cX8_byLoads 5 none, Cond.fieldLink RX8 12 "FairSeats$Ways" "loads" "LFairSeats$Loads;", Cond.methodLink RX8 86 ⟨"FairSeats$Loads", "begin", "(I)V"⟩, Cond.sameMethod "FairSeats$Loads" "FairSeats$Fractions" "begin" "(I)V", Cond.selects RX5 ⟨"FairSeats$Loads", "begin", "(I)V"⟩ yX1_begin, Cond.instanceMethod yX1_begin, Cond.initialized RX1, Cond.code yX1_begin cX1_begin 3 none, Cond.fieldLink RX1 9 "FairSeats$Fractions" "upper" "[J", Cond.fieldLink RX1 15 "FairSeats$Fractions" "lower" "J", Cond.methodLink RX8 89 yX5_lightest, Cond.instanceMethod yX5_lightest, Cond.selects RX5 yX5_lightest yX5_lightest]
def wsX10_runWay_r5 : List Cond := [Cond.initialized RX5, Cond.code yX5_lightest cX5_lightest 12 (some .int), Cond.fieldLink RX5 15 "FairSeats$Loads" "lower" "J", Cond.sameField "FairSeats$Loads" "FairSeats$Fractions" "lower" "J", Cond.methodLink RX5 9 yX3_telling, Cond.methodLink RX5 21 ⟨"FairSeats$Loads", "sumOf", "(LFairSeats$Heaps;I)J"⟩, Cond.sameMethod "FairSeats$Loads" "FairSeats$Fractions" "sumOf" "(LFairSeats$Heaps;I)J", Cond.selects RX5 ⟨"FairSeats$Loads", "sumOf", "(LFairSeats$Heaps;I)J"⟩ yX1_sumOf, Cond.instanceMethod yX1_sumOf, Cond.code yX1_sumOf cX1_sumOf 6 (some .long), Cond.fieldLink RX1 19 "FairSeats$Heaps" "count" "I", Cond.fieldLink RX1 29 "FairSeats$Heaps" "papers" "[I", Cond.methodLink RX1 25 yX3_tells, Cond.methodLink RX8 93 yX5_bear, Cond.instanceMethod yX5_bear, Cond.selects RX5 yX5_bear yX5_bear, Cond.code yX5_bear cX5_bear 7 none, Cond.fieldLink RX5 29 "FairSeats$Heaps" "count" "I", Cond.fieldLink RX5 37 "FairSeats$Loads" "upper" "[J", Cond.sameField "FairSeats$Loads" "FairSeats$Fractions" "upper" "[J", Cond.methodLink RX5 25 ⟨"FairSeats$Loads", "widen", "(I)V"⟩, Cond.sameMethod "FairSeats$Loads" "FairSeats$Fractions" "widen" "(I)V", Cond.selects RX5 ⟨"FairSeats$Loads", "widen", "(I)V"⟩ yX1_widen, Cond.instanceMethod yX1_widen]
def wsX10_runWay_r6 : List Cond := [Cond.code yX1_widen cX1_widen 3 none, Cond.methodLink RX5 33 yX3_tells, Cond.methodLink RX8 46 yX8_byPurses, Cond.instanceMethod yX8_byPurses, Cond.selects RX8 yX8_byPurses yX8_byPurses, Cond.code yX8_byPurses cX8_byPurses 6 none, Cond.fieldLink RX8 21 "FairSeats$Ways" "purses" "LFairSeats$Purses;", Cond.fieldLink RX8 97 "FairSeats$Ways" "paidCount" "I", Cond.methodLink RX8 96 ⟨"FairSeats$Purses", "begin", "(I)V"⟩, Cond.sameMethod "FairSeats$Purses" "FairSeats$Fractions" "begin" "(I)V", Cond.selects RX6 ⟨"FairSeats$Purses", "begin", "(I)V"⟩ yX1_begin, Cond.methodLink RX8 100 yX6_cheapest, Cond.instanceMethod yX6_cheapest, Cond.selects RX6 yX6_cheapest yX6_cheapest, Cond.initialized RX6, Cond.code yX6_cheapest cX6_cheapest 10 (some .int), Cond.fieldLink RX6 15 "FairSeats$Purses" "lower" "J", Cond.sameField "FairSeats$Purses" "FairSeats$Fractions" "lower" "J", Cond.fieldLink RX6 33 "FairSeats$Purses" "rest" "J", Cond.fieldLink RX6 36 "FairSeats$Purses" "payers" "I", Cond.methodLink RX6 9 yX3_total, Cond.instanceMethod yX3_total, Cond.selects RX3 yX3_total yX3_total, Cond.code yX3_total cX3_total 3 (some .int)]
def wsX10_runWay_r7 : List Cond := [Cond.methodLink RX6 21 yX3_telling, Cond.methodLink RX6 25 ⟨"FairSeats$Purses", "sumOf", "(LFairSeats$Heaps;I)J"⟩, Cond.sameMethod "FairSeats$Purses" "FairSeats$Fractions" "sumOf" "(LFairSeats$Heaps;I)J", Cond.selects RX6 ⟨"FairSeats$Purses", "sumOf", "(LFairSeats$Heaps;I)J"⟩ yX1_sumOf, Cond.methodLink RX6 29 yX6_price, Cond.instanceMethod yX6_price, Cond.selects RX6 yX6_price yX6_price, Cond.code yX6_price cX6_price 11 none, Cond.fieldLink RX6 40 "FairSeats$Heaps" "count" "I", Cond.fieldLink RX6 47 "FairSeats$Purses" "upper" "[J", Cond.sameField "FairSeats$Purses" "FairSeats$Fractions" "upper" "[J", Cond.fieldLink RX6 51 "FairSeats$Heaps" "papers" "[I", Cond.methodLink RX6 43 yX3_tells, Cond.methodLink RX8 103 yX6_pay, Cond.instanceMethod yX6_pay, Cond.selects RX6 yX6_pay yX6_pay, Cond.code yX6_pay cX6_pay 4 none, Cond.methodLink RX6 59 Lib.MathLoose.max_long.x, Cond.static Lib.MathLoose.max_long.x, Cond.initialized "java/lang/Math", Cond.code Lib.MathLoose.max_long.x Lib.MathLoose.max_long.code 4 (some .long), Cond.methodLink RX6 55 ⟨"FairSeats$Purses", "widen", "(I)V"⟩, Cond.sameMethod "FairSeats$Purses" "FairSeats$Fractions" "widen" "(I)V", Cond.selects RX6 ⟨"FairSeats$Purses", "widen", "(I)V"⟩ yX1_widen]
def wsX10_runWay_r8 : List Cond := [Cond.methodLink RX8 50 yX0_ofMostWorth, Cond.instanceMethod yX0_ofMostWorth, Cond.selects RX0 yX0_ofMostWorth yX0_ofMostWorth, Cond.code yX0_ofMostWorth cX0_ofMostWorth 6 (some .int), Cond.methodLink RX0 40 yX3_worthOf, Cond.methodLink RX8 56 yX8_take, Cond.instanceMethod yX8_take, Cond.selects RX8 yX8_take yX8_take, Cond.code yX8_take cX8_take 3 none, Cond.methodLink RX8 60 yX8_bySwaps, Cond.instanceMethod yX8_bySwaps, Cond.selects RX8 yX8_bySwaps yX8_bySwaps, Cond.code yX8_bySwaps cX8_bySwaps 6 none, Cond.methodLink RX8 106 yX8_bestSwap, Cond.static yX8_bestSwap, Cond.code yX8_bestSwap cX8_bestSwap 8 (some .int)]
def wsX10_runWay : List Cond := .code yX10_runWay cX10_runWay 3 none :: ((wsX10_runWay_r1 ++ (wsX10_runWay_r2 ++ (wsX10_runWay_r3 ++ (wsX10_runWay_r4 ++ (wsX10_runWay_r5 ++ (wsX10_runWay_r6 ++ (wsX10_runWay_r7 ++ wsX10_runWay_r8))))))) ++ wsX100 ++ wsX00 ++ wsX40 ++ wsX80 ++ wsX30 ++ wsX90 ++ wsX50 ++ wsX60)
def wsX10_choose_r1 : List Cond := [Cond.fieldLink RX10 65 "FairSeats" "seatCount" "I", Cond.fieldLink RX10 61 "FairSeats" "ways" "LFairSeats$Ways;", Cond.fieldLink RX10 140 "FairSeats$Ways" "chosen" "I", Cond.methodLink RX10 134 yX10_isWay, Cond.static yX10_isWay, Cond.initialized RX10, Cond.code yX10_isWay cX10_isWay 1 (some .boolean), Cond.methodLink RX10 137 yX10_runWay, Cond.instanceMethod yX10_runWay, Cond.selects RX10 yX10_runWay yX10_runWay, Cond.code yX10_runWay cX10_runWay 3 none, Cond.fieldLink RX10 45 "FairSeats" "lawful" "LFairSeats$Committees;", Cond.fieldLink RX10 38 "FairSeats" "lines" "LFairSeats$Lines;", Cond.fieldLink RX10 21 "FairSeats" "heaps" "LFairSeats$Heaps;", Cond.methodLink RX10 205 yX0_gather, Cond.instanceMethod yX0_gather, Cond.selects RX0 yX0_gather yX0_gather, Cond.initialized RX0, Cond.code yX0_gather cX0_gather 4 none, Cond.fieldLink RX0 15 "FairSeats$Committees" "count" "I", Cond.fieldLink RX0 9 "FairSeats$Committees" "row" "[I", Cond.methodLink RX0 19 yJ6_bitCount_0f7a4, Cond.static yJ6_bitCount_0f7a4, Cond.initialized RJ6]
def wsX10_choose_r2 : List Cond := [Cond.code yJ6_bitCount_0f7a4 cJ6_bitCount_0f7a4 1 (some .int), Cond.constant RJ6 265 (1431655765), Cond.constant RJ6 266 (858993459), Cond.constant RJ6 267 (252645135), Cond.methodLink RX0 25 yX4_allow, Cond.instanceMethod yX4_allow, Cond.selects RX4 yX4_allow yX4_allow, Cond.initialized RX4, Cond.code yX4_allow cX4_allow 2 (some .boolean), Cond.methodLink RX4 44 yX4_firstBroken, Cond.instanceMethod yX4_firstBroken, Cond.selects RX4 yX4_firstBroken yX4_firstBroken, Cond.code yX4_firstBroken cX4_firstBroken 4 (some .int), Cond.fieldLink RX4 22 "FairSeats$Lines" "count" "I", Cond.fieldLink RX4 9 "FairSeats$Lines" "sets" "[I", Cond.fieldLink RX4 18 "FairSeats$Lines" "fewer" "[Z", Cond.fieldLink RX4 15 "FairSeats$Lines" "digits" "[I", Cond.methodLink RX4 38 yJ6_bitCount_0f7a4, Cond.methodLink RX10 219 yX8_run, Cond.instanceMethod yX8_run, Cond.selects RX8 yX8_run yX8_run, Cond.initialized RX8, Cond.code yX8_run cX8_run 4 none, Cond.fieldLink RX8 29 "FairSeats$Ways" "lawful" "LFairSeats$Committees;"]
def wsX10_choose_r3 : List Cond := [Cond.methodLink RX8 33 yX8_clear, Cond.instanceMethod yX8_clear, Cond.selects RX8 yX8_clear yX8_clear, Cond.code yX8_clear cX8_clear 1 none, Cond.fieldLink RX8 67 "FairSeats$Ways" "count" "I", Cond.fieldLink RX8 63 "FairSeats$Ways" "chosen" "I", Cond.methodLink RX8 36 yX8_byHeads, Cond.instanceMethod yX8_byHeads, Cond.selects RX8 yX8_byHeads yX8_byHeads, Cond.code yX8_byHeads cX8_byHeads 8 none, Cond.methodLink RX8 73 yX8_holds, Cond.instanceMethod yX8_holds, Cond.selects RX8 yX8_holds yX8_holds, Cond.code yX8_holds cX8_holds 2 (some .boolean), Cond.methodLink RX8 77 yX3_telling, Cond.instanceMethod yX3_telling, Cond.selects RX3 yX3_telling yX3_telling, Cond.initialized RX3, Cond.code yX3_telling cX3_telling 4 (some .int), Cond.fieldLink RX3 22 "FairSeats$Heaps" "count" "I", Cond.fieldLink RX3 15 "FairSeats$Heaps" "papers" "[I", Cond.methodLink RX3 26 yX3_tells, Cond.instanceMethod yX3_tells, Cond.selects RX3 yX3_tells yX3_tells]
def wsX10_choose_r4 : List Cond := [Cond.code yX3_tells cX3_tells 3 (some .boolean), Cond.fieldLink RX3 9 "FairSeats$Heaps" "sets" "[I", Cond.methodLink RX8 70 yX8_add, Cond.instanceMethod yX8_add, Cond.selects RX8 yX8_add yX8_add, Cond.code yX8_add cX8_add 2 none, Cond.fieldLink RX8 25 "FairSeats$Ways" "order" "[I", Cond.methodLink RX8 40 yX8_byWorth, Cond.instanceMethod yX8_byWorth, Cond.selects RX8 yX8_byWorth yX8_byWorth, Cond.code yX8_byWorth cX8_byWorth 8 none, Cond.methodLink RX8 83 yX3_worthOf, Cond.instanceMethod yX3_worthOf, Cond.selects RX3 yX3_worthOf yX3_worthOf, Cond.code yX3_worthOf cX3_worthOf 4 (some .int), Cond.fieldLink RX3 18 "FairSeats$Heaps" "worths" "LFairSeats$Worths;", Cond.fieldLink RX3 30 "FairSeats$Worths" "together" "[I", Cond.methodLink RX3 35 yJ6_bitCount_0f7a4, Cond.methodLink RX8 43 yX8_byLoads, Cond.instanceMethod yX8_byLoads, Cond.selects RX8 yX8_byLoads yX8_byLoads, Cond.code yX8_byLoads cX8_byLoads 5 none, Cond.fieldLink RX8 12 "FairSeats$Ways" "loads" "LFairSeats$Loads;", Cond.methodLink RX8 86 ⟨"FairSeats$Loads", "begin", "(I)V"⟩]
def wsX10_choose_r5 : List Cond := [Cond.sameMethod "FairSeats$Loads" "FairSeats$Fractions" "begin" "(I)V", Cond.selects RX5 ⟨"FairSeats$Loads", "begin", "(I)V"⟩ yX1_begin, Cond.instanceMethod yX1_begin, Cond.initialized RX1, Cond.code yX1_begin cX1_begin 3 none, Cond.fieldLink RX1 9 "FairSeats$Fractions" "upper" "[J", Cond.fieldLink RX1 15 "FairSeats$Fractions" "lower" "J", Cond.methodLink RX8 89 yX5_lightest, Cond.instanceMethod yX5_lightest, Cond.selects RX5 yX5_lightest yX5_lightest, Cond.initialized RX5, Cond.code yX5_lightest cX5_lightest 12 (some .int), Cond.fieldLink RX5 15 "FairSeats$Loads" "lower" "J", Cond.sameField "FairSeats$Loads" "FairSeats$Fractions" "lower" "J", Cond.methodLink RX5 9 yX3_telling, Cond.methodLink RX5 21 ⟨"FairSeats$Loads", "sumOf", "(LFairSeats$Heaps;I)J"⟩, Cond.sameMethod "FairSeats$Loads" "FairSeats$Fractions" "sumOf" "(LFairSeats$Heaps;I)J", Cond.selects RX5 ⟨"FairSeats$Loads", "sumOf", "(LFairSeats$Heaps;I)J"⟩ yX1_sumOf, Cond.instanceMethod yX1_sumOf, Cond.code yX1_sumOf cX1_sumOf 6 (some .long), Cond.fieldLink RX1 19 "FairSeats$Heaps" "count" "I", Cond.fieldLink RX1 29 "FairSeats$Heaps" "papers" "[I", Cond.methodLink RX1 25 yX3_tells, Cond.methodLink RX8 93 yX5_bear]
def wsX10_choose_r6 : List Cond := [Cond.instanceMethod yX5_bear, Cond.selects RX5 yX5_bear yX5_bear, Cond.code yX5_bear cX5_bear 7 none, Cond.fieldLink RX5 29 "FairSeats$Heaps" "count" "I", Cond.fieldLink RX5 37 "FairSeats$Loads" "upper" "[J", Cond.sameField "FairSeats$Loads" "FairSeats$Fractions" "upper" "[J", Cond.methodLink RX5 25 ⟨"FairSeats$Loads", "widen", "(I)V"⟩, Cond.sameMethod "FairSeats$Loads" "FairSeats$Fractions" "widen" "(I)V", Cond.selects RX5 ⟨"FairSeats$Loads", "widen", "(I)V"⟩ yX1_widen, Cond.instanceMethod yX1_widen, Cond.code yX1_widen cX1_widen 3 none, Cond.methodLink RX5 33 yX3_tells, Cond.methodLink RX8 46 yX8_byPurses, Cond.instanceMethod yX8_byPurses, Cond.selects RX8 yX8_byPurses yX8_byPurses, Cond.code yX8_byPurses cX8_byPurses 6 none, Cond.fieldLink RX8 21 "FairSeats$Ways" "purses" "LFairSeats$Purses;", Cond.fieldLink RX8 97 "FairSeats$Ways" "paidCount" "I", Cond.methodLink RX8 96 ⟨"FairSeats$Purses", "begin", "(I)V"⟩, Cond.sameMethod "FairSeats$Purses" "FairSeats$Fractions" "begin" "(I)V", Cond.selects RX6 ⟨"FairSeats$Purses", "begin", "(I)V"⟩ yX1_begin, Cond.methodLink RX8 100 yX6_cheapest, Cond.instanceMethod yX6_cheapest, Cond.selects RX6 yX6_cheapest yX6_cheapest]
def wsX10_choose_r7 : List Cond := [Cond.initialized RX6, Cond.code yX6_cheapest cX6_cheapest 10 (some .int), Cond.fieldLink RX6 15 "FairSeats$Purses" "lower" "J", Cond.sameField "FairSeats$Purses" "FairSeats$Fractions" "lower" "J", Cond.fieldLink RX6 33 "FairSeats$Purses" "rest" "J", Cond.fieldLink RX6 36 "FairSeats$Purses" "payers" "I", Cond.methodLink RX6 9 yX3_total, Cond.instanceMethod yX3_total, Cond.selects RX3 yX3_total yX3_total, Cond.code yX3_total cX3_total 3 (some .int), Cond.methodLink RX6 21 yX3_telling, Cond.methodLink RX6 25 ⟨"FairSeats$Purses", "sumOf", "(LFairSeats$Heaps;I)J"⟩, Cond.sameMethod "FairSeats$Purses" "FairSeats$Fractions" "sumOf" "(LFairSeats$Heaps;I)J", Cond.selects RX6 ⟨"FairSeats$Purses", "sumOf", "(LFairSeats$Heaps;I)J"⟩ yX1_sumOf, Cond.methodLink RX6 29 yX6_price, Cond.instanceMethod yX6_price, Cond.selects RX6 yX6_price yX6_price, Cond.code yX6_price cX6_price 11 none, Cond.fieldLink RX6 40 "FairSeats$Heaps" "count" "I", Cond.fieldLink RX6 47 "FairSeats$Purses" "upper" "[J", Cond.sameField "FairSeats$Purses" "FairSeats$Fractions" "upper" "[J", Cond.fieldLink RX6 51 "FairSeats$Heaps" "papers" "[I", Cond.methodLink RX6 43 yX3_tells, Cond.methodLink RX8 103 yX6_pay]
def wsX10_choose_r8 : List Cond := [Cond.instanceMethod yX6_pay, Cond.selects RX6 yX6_pay yX6_pay, Cond.code yX6_pay cX6_pay 4 none, Cond.methodLink RX6 59 Lib.MathLoose.max_long.x, Cond.static Lib.MathLoose.max_long.x, Cond.initialized "java/lang/Math", Cond.code Lib.MathLoose.max_long.x Lib.MathLoose.max_long.code 4 (some .long), Cond.methodLink RX6 55 ⟨"FairSeats$Purses", "widen", "(I)V"⟩, Cond.sameMethod "FairSeats$Purses" "FairSeats$Fractions" "widen" "(I)V", Cond.selects RX6 ⟨"FairSeats$Purses", "widen", "(I)V"⟩ yX1_widen, Cond.methodLink RX8 50 yX0_ofMostWorth, Cond.instanceMethod yX0_ofMostWorth, Cond.selects RX0 yX0_ofMostWorth yX0_ofMostWorth, Cond.code yX0_ofMostWorth cX0_ofMostWorth 6 (some .int), Cond.methodLink RX0 40 yX3_worthOf, Cond.methodLink RX8 56 yX8_take, Cond.instanceMethod yX8_take, Cond.selects RX8 yX8_take yX8_take, Cond.code yX8_take cX8_take 3 none, Cond.methodLink RX8 60 yX8_bySwaps, Cond.instanceMethod yX8_bySwaps, Cond.selects RX8 yX8_bySwaps yX8_bySwaps, Cond.code yX8_bySwaps cX8_bySwaps 6 none, Cond.methodLink RX8 106 yX8_bestSwap]
def wsX10_choose_r9 : List Cond := [Cond.static yX8_bestSwap, Cond.code yX8_bestSwap cX8_bestSwap 8 (some .int), Cond.methodLink RX10 143 yX8_chosenAt, Cond.instanceMethod yX8_chosenAt, Cond.selects RX8 yX8_chosenAt yX8_chosenAt, Cond.code yX8_chosenAt cX8_chosenAt 2 (some .int)]
def wsX10_choose : List Cond := .code yX10_choose cX10_choose 3 (some .int) :: ((wsX10_choose_r1 ++ (wsX10_choose_r2 ++ (wsX10_choose_r3 ++ (wsX10_choose_r4 ++ (wsX10_choose_r5 ++ (wsX10_choose_r6 ++ (wsX10_choose_r7 ++ (wsX10_choose_r8 ++ wsX10_choose_r9)))))))) ++ wsX100 ++ wsX80 ++ wsX00 ++ wsX40 ++ wsX30 ++ wsX90 ++ wsX50 ++ wsX60)
def wsX10_refusalOfShare : List Cond := .code yX10_refusalOfShare cX10_refusalOfShare 4 (some .int) :: ([.fieldLink RX10 65 "FairSeats" "seatCount" "I", .methodLink RX10 83 yX10_isHeap, .instanceMethod yX10_isHeap, .selects RX10 yX10_isHeap yX10_isHeap, .initialized RX10, .code yX10_isHeap cX10_isHeap 2 (some .boolean), .fieldLink RX10 21 "FairSeats" "heaps" "LFairSeats$Heaps;", .fieldLink RX10 76 "FairSeats$Heaps" "count" "I"] ++ wsX100 ++ wsX30)
def wsX10_load_r1 : List Cond := [Cond.constantLong RX10 150 (-1000000000000000000), Cond.fieldLink RX10 61 "FairSeats" "ways" "LFairSeats$Ways;", Cond.fieldLink RX10 21 "FairSeats" "heaps" "LFairSeats$Heaps;", Cond.fieldLink RX10 156 "FairSeats$Ways" "loads" "LFairSeats$Loads;", Cond.methodLink RX10 146 yX10_refusalOfShare, Cond.instanceMethod yX10_refusalOfShare, Cond.selects RX10 yX10_refusalOfShare yX10_refusalOfShare, Cond.initialized RX10, Cond.code yX10_refusalOfShare cX10_refusalOfShare 4 (some .int), Cond.fieldLink RX10 65 "FairSeats" "seatCount" "I", Cond.methodLink RX10 83 yX10_isHeap, Cond.instanceMethod yX10_isHeap, Cond.selects RX10 yX10_isHeap yX10_isHeap, Cond.code yX10_isHeap cX10_isHeap 2 (some .boolean), Cond.fieldLink RX10 76 "FairSeats$Heaps" "count" "I", Cond.methodLink RX10 152 yX8_byLoads, Cond.instanceMethod yX8_byLoads, Cond.selects RX8 yX8_byLoads yX8_byLoads, Cond.initialized RX8, Cond.code yX8_byLoads cX8_byLoads 5 none, Cond.fieldLink RX8 12 "FairSeats$Ways" "loads" "LFairSeats$Loads;", Cond.fieldLink RX8 63 "FairSeats$Ways" "chosen" "I", Cond.methodLink RX8 33 yX8_clear, Cond.instanceMethod yX8_clear]
def wsX10_load_r2 : List Cond := [Cond.selects RX8 yX8_clear yX8_clear, Cond.code yX8_clear cX8_clear 1 none, Cond.fieldLink RX8 67 "FairSeats$Ways" "count" "I", Cond.methodLink RX8 86 ⟨"FairSeats$Loads", "begin", "(I)V"⟩, Cond.sameMethod "FairSeats$Loads" "FairSeats$Fractions" "begin" "(I)V", Cond.selects RX5 ⟨"FairSeats$Loads", "begin", "(I)V"⟩ yX1_begin, Cond.instanceMethod yX1_begin, Cond.initialized RX1, Cond.code yX1_begin cX1_begin 3 none, Cond.fieldLink RX1 9 "FairSeats$Fractions" "upper" "[J", Cond.fieldLink RX1 15 "FairSeats$Fractions" "lower" "J", Cond.methodLink RX8 89 yX5_lightest, Cond.instanceMethod yX5_lightest, Cond.selects RX5 yX5_lightest yX5_lightest, Cond.initialized RX5, Cond.code yX5_lightest cX5_lightest 12 (some .int), Cond.fieldLink RX5 15 "FairSeats$Loads" "lower" "J", Cond.sameField "FairSeats$Loads" "FairSeats$Fractions" "lower" "J", Cond.methodLink RX5 9 yX3_telling, Cond.instanceMethod yX3_telling, Cond.selects RX3 yX3_telling yX3_telling, Cond.initialized RX3, Cond.code yX3_telling cX3_telling 4 (some .int), Cond.fieldLink RX3 22 "FairSeats$Heaps" "count" "I"]
def wsX10_load_r3 : List Cond := [Cond.fieldLink RX3 15 "FairSeats$Heaps" "papers" "[I", Cond.methodLink RX3 26 yX3_tells, Cond.instanceMethod yX3_tells, Cond.selects RX3 yX3_tells yX3_tells, Cond.code yX3_tells cX3_tells 3 (some .boolean), Cond.fieldLink RX3 9 "FairSeats$Heaps" "sets" "[I", Cond.methodLink RX5 21 ⟨"FairSeats$Loads", "sumOf", "(LFairSeats$Heaps;I)J"⟩, Cond.sameMethod "FairSeats$Loads" "FairSeats$Fractions" "sumOf" "(LFairSeats$Heaps;I)J", Cond.selects RX5 ⟨"FairSeats$Loads", "sumOf", "(LFairSeats$Heaps;I)J"⟩ yX1_sumOf, Cond.instanceMethod yX1_sumOf, Cond.code yX1_sumOf cX1_sumOf 6 (some .long), Cond.fieldLink RX1 19 "FairSeats$Heaps" "count" "I", Cond.fieldLink RX1 29 "FairSeats$Heaps" "papers" "[I", Cond.methodLink RX1 25 yX3_tells, Cond.methodLink RX8 93 yX5_bear, Cond.instanceMethod yX5_bear, Cond.selects RX5 yX5_bear yX5_bear, Cond.code yX5_bear cX5_bear 7 none, Cond.fieldLink RX5 29 "FairSeats$Heaps" "count" "I", Cond.fieldLink RX5 37 "FairSeats$Loads" "upper" "[J", Cond.sameField "FairSeats$Loads" "FairSeats$Fractions" "upper" "[J", Cond.methodLink RX5 25 ⟨"FairSeats$Loads", "widen", "(I)V"⟩, Cond.sameMethod "FairSeats$Loads" "FairSeats$Fractions" "widen" "(I)V", Cond.selects RX5 ⟨"FairSeats$Loads", "widen", "(I)V"⟩ yX1_widen]
def wsX10_load_r4 : List Cond := [Cond.instanceMethod yX1_widen, Cond.code yX1_widen cX1_widen 3 none, Cond.methodLink RX5 33 yX3_tells, Cond.methodLink RX8 70 yX8_add, Cond.instanceMethod yX8_add, Cond.selects RX8 yX8_add yX8_add, Cond.code yX8_add cX8_add 2 none, Cond.fieldLink RX8 25 "FairSeats$Ways" "order" "[I", Cond.methodLink RX10 160 ⟨"FairSeats$Loads", "lowest", "(II)J"⟩, Cond.sameMethod "FairSeats$Loads" "FairSeats$Fractions" "lowest" "(II)J", Cond.selects RX5 ⟨"FairSeats$Loads", "lowest", "(II)J"⟩ yX1_lowest, Cond.instanceMethod yX1_lowest, Cond.code yX1_lowest cX1_lowest 7 (some .long), Cond.methodLink RX1 33 yX1_commonDivisor, Cond.static yX1_commonDivisor, Cond.code yX1_commonDivisor cX1_commonDivisor 7 (some .long)]
def wsX10_load : List Cond := .code yX10_load cX10_load 5 (some .long) :: ((wsX10_load_r1 ++ (wsX10_load_r2 ++ (wsX10_load_r3 ++ wsX10_load_r4))) ++ wsX100 ++ wsX80 ++ wsX30 ++ wsX50 ++ wsX60)
def wsX10_purse_r1 : List Cond := [Cond.constantLong RX10 150 (-1000000000000000000), Cond.fieldLink RX10 61 "FairSeats" "ways" "LFairSeats$Ways;", Cond.fieldLink RX10 21 "FairSeats" "heaps" "LFairSeats$Heaps;", Cond.fieldLink RX10 65 "FairSeats" "seatCount" "I", Cond.fieldLink RX10 170 "FairSeats$Ways" "purses" "LFairSeats$Purses;", Cond.methodLink RX10 146 yX10_refusalOfShare, Cond.instanceMethod yX10_refusalOfShare, Cond.selects RX10 yX10_refusalOfShare yX10_refusalOfShare, Cond.initialized RX10, Cond.code yX10_refusalOfShare cX10_refusalOfShare 4 (some .int), Cond.methodLink RX10 83 yX10_isHeap, Cond.instanceMethod yX10_isHeap, Cond.selects RX10 yX10_isHeap yX10_isHeap, Cond.code yX10_isHeap cX10_isHeap 2 (some .boolean), Cond.fieldLink RX10 76 "FairSeats$Heaps" "count" "I", Cond.methodLink RX10 166 yX8_byPurses, Cond.instanceMethod yX8_byPurses, Cond.selects RX8 yX8_byPurses yX8_byPurses, Cond.initialized RX8, Cond.code yX8_byPurses cX8_byPurses 6 none, Cond.fieldLink RX8 21 "FairSeats$Ways" "purses" "LFairSeats$Purses;", Cond.fieldLink RX8 97 "FairSeats$Ways" "paidCount" "I", Cond.fieldLink RX8 63 "FairSeats$Ways" "chosen" "I", Cond.methodLink RX8 33 yX8_clear]
def wsX10_purse_r2 : List Cond := [Cond.instanceMethod yX8_clear, Cond.selects RX8 yX8_clear yX8_clear, Cond.code yX8_clear cX8_clear 1 none, Cond.fieldLink RX8 67 "FairSeats$Ways" "count" "I", Cond.methodLink RX8 96 ⟨"FairSeats$Purses", "begin", "(I)V"⟩, Cond.sameMethod "FairSeats$Purses" "FairSeats$Fractions" "begin" "(I)V", Cond.selects RX6 ⟨"FairSeats$Purses", "begin", "(I)V"⟩ yX1_begin, Cond.instanceMethod yX1_begin, Cond.initialized RX1, Cond.code yX1_begin cX1_begin 3 none, Cond.fieldLink RX1 9 "FairSeats$Fractions" "upper" "[J", Cond.fieldLink RX1 15 "FairSeats$Fractions" "lower" "J", Cond.methodLink RX8 100 yX6_cheapest, Cond.instanceMethod yX6_cheapest, Cond.selects RX6 yX6_cheapest yX6_cheapest, Cond.initialized RX6, Cond.code yX6_cheapest cX6_cheapest 10 (some .int), Cond.fieldLink RX6 15 "FairSeats$Purses" "lower" "J", Cond.sameField "FairSeats$Purses" "FairSeats$Fractions" "lower" "J", Cond.fieldLink RX6 33 "FairSeats$Purses" "rest" "J", Cond.fieldLink RX6 36 "FairSeats$Purses" "payers" "I", Cond.methodLink RX6 9 yX3_total, Cond.instanceMethod yX3_total, Cond.selects RX3 yX3_total yX3_total]
def wsX10_purse_r3 : List Cond := [Cond.initialized RX3, Cond.code yX3_total cX3_total 3 (some .int), Cond.fieldLink RX3 22 "FairSeats$Heaps" "count" "I", Cond.fieldLink RX3 15 "FairSeats$Heaps" "papers" "[I", Cond.methodLink RX6 21 yX3_telling, Cond.instanceMethod yX3_telling, Cond.selects RX3 yX3_telling yX3_telling, Cond.code yX3_telling cX3_telling 4 (some .int), Cond.methodLink RX3 26 yX3_tells, Cond.instanceMethod yX3_tells, Cond.selects RX3 yX3_tells yX3_tells, Cond.code yX3_tells cX3_tells 3 (some .boolean), Cond.fieldLink RX3 9 "FairSeats$Heaps" "sets" "[I", Cond.methodLink RX6 25 ⟨"FairSeats$Purses", "sumOf", "(LFairSeats$Heaps;I)J"⟩, Cond.sameMethod "FairSeats$Purses" "FairSeats$Fractions" "sumOf" "(LFairSeats$Heaps;I)J", Cond.selects RX6 ⟨"FairSeats$Purses", "sumOf", "(LFairSeats$Heaps;I)J"⟩ yX1_sumOf, Cond.instanceMethod yX1_sumOf, Cond.code yX1_sumOf cX1_sumOf 6 (some .long), Cond.fieldLink RX1 19 "FairSeats$Heaps" "count" "I", Cond.fieldLink RX1 29 "FairSeats$Heaps" "papers" "[I", Cond.methodLink RX1 25 yX3_tells, Cond.methodLink RX6 29 yX6_price, Cond.instanceMethod yX6_price, Cond.selects RX6 yX6_price yX6_price]
def wsX10_purse_r4 : List Cond := [Cond.code yX6_price cX6_price 11 none, Cond.fieldLink RX6 40 "FairSeats$Heaps" "count" "I", Cond.fieldLink RX6 47 "FairSeats$Purses" "upper" "[J", Cond.sameField "FairSeats$Purses" "FairSeats$Fractions" "upper" "[J", Cond.fieldLink RX6 51 "FairSeats$Heaps" "papers" "[I", Cond.methodLink RX6 43 yX3_tells, Cond.methodLink RX8 103 yX6_pay, Cond.instanceMethod yX6_pay, Cond.selects RX6 yX6_pay yX6_pay, Cond.code yX6_pay cX6_pay 4 none, Cond.methodLink RX6 59 Lib.MathLoose.max_long.x, Cond.static Lib.MathLoose.max_long.x, Cond.initialized "java/lang/Math", Cond.code Lib.MathLoose.max_long.x Lib.MathLoose.max_long.code 4 (some .long), Cond.methodLink RX6 55 ⟨"FairSeats$Purses", "widen", "(I)V"⟩, Cond.sameMethod "FairSeats$Purses" "FairSeats$Fractions" "widen" "(I)V", Cond.selects RX6 ⟨"FairSeats$Purses", "widen", "(I)V"⟩ yX1_widen, Cond.instanceMethod yX1_widen, Cond.code yX1_widen cX1_widen 3 none, Cond.methodLink RX8 70 yX8_add, Cond.instanceMethod yX8_add, Cond.selects RX8 yX8_add yX8_add, Cond.code yX8_add cX8_add 2 none, Cond.fieldLink RX8 25 "FairSeats$Ways" "order" "[I"]
def wsX10_purse_r5 : List Cond := [Cond.methodLink RX8 36 yX8_byHeads, Cond.instanceMethod yX8_byHeads, Cond.selects RX8 yX8_byHeads yX8_byHeads, Cond.code yX8_byHeads cX8_byHeads 8 none, Cond.methodLink RX8 73 yX8_holds, Cond.instanceMethod yX8_holds, Cond.selects RX8 yX8_holds yX8_holds, Cond.code yX8_holds cX8_holds 2 (some .boolean), Cond.methodLink RX8 77 yX3_telling, Cond.methodLink RX10 174 ⟨"FairSeats$Purses", "lowest", "(II)J"⟩, Cond.sameMethod "FairSeats$Purses" "FairSeats$Fractions" "lowest" "(II)J", Cond.selects RX6 ⟨"FairSeats$Purses", "lowest", "(II)J"⟩ yX1_lowest, Cond.instanceMethod yX1_lowest, Cond.code yX1_lowest cX1_lowest 7 (some .long), Cond.methodLink RX1 33 yX1_commonDivisor, Cond.static yX1_commonDivisor, Cond.code yX1_commonDivisor cX1_commonDivisor 7 (some .long)]
def wsX10_purse : List Cond := .code yX10_purse cX10_purse 5 (some .long) :: ((wsX10_purse_r1 ++ (wsX10_purse_r2 ++ (wsX10_purse_r3 ++ (wsX10_purse_r4 ++ wsX10_purse_r5)))) ++ wsX100 ++ wsX80 ++ wsX30 ++ wsX50 ++ wsX60)
def wsX10_paid_r1 : List Cond := [Cond.fieldLink RX10 61 "FairSeats" "ways" "LFairSeats$Ways;", Cond.fieldLink RX10 21 "FairSeats" "heaps" "LFairSeats$Heaps;", Cond.fieldLink RX10 65 "FairSeats" "seatCount" "I", Cond.fieldLink RX10 177 "FairSeats$Ways" "paidCount" "I", Cond.methodLink RX10 166 yX8_byPurses, Cond.instanceMethod yX8_byPurses, Cond.selects RX8 yX8_byPurses yX8_byPurses, Cond.initialized RX8, Cond.code yX8_byPurses cX8_byPurses 6 none, Cond.fieldLink RX8 21 "FairSeats$Ways" "purses" "LFairSeats$Purses;", Cond.fieldLink RX8 97 "FairSeats$Ways" "paidCount" "I", Cond.fieldLink RX8 63 "FairSeats$Ways" "chosen" "I", Cond.methodLink RX8 33 yX8_clear, Cond.instanceMethod yX8_clear, Cond.selects RX8 yX8_clear yX8_clear, Cond.code yX8_clear cX8_clear 1 none, Cond.fieldLink RX8 67 "FairSeats$Ways" "count" "I", Cond.methodLink RX8 96 ⟨"FairSeats$Purses", "begin", "(I)V"⟩, Cond.sameMethod "FairSeats$Purses" "FairSeats$Fractions" "begin" "(I)V", Cond.selects RX6 ⟨"FairSeats$Purses", "begin", "(I)V"⟩ yX1_begin, Cond.instanceMethod yX1_begin, Cond.initialized RX1, Cond.code yX1_begin cX1_begin 3 none, Cond.fieldLink RX1 9 "FairSeats$Fractions" "upper" "[J"]
def wsX10_paid_r2 : List Cond := [Cond.fieldLink RX1 15 "FairSeats$Fractions" "lower" "J", Cond.methodLink RX8 100 yX6_cheapest, Cond.instanceMethod yX6_cheapest, Cond.selects RX6 yX6_cheapest yX6_cheapest, Cond.initialized RX6, Cond.code yX6_cheapest cX6_cheapest 10 (some .int), Cond.fieldLink RX6 15 "FairSeats$Purses" "lower" "J", Cond.sameField "FairSeats$Purses" "FairSeats$Fractions" "lower" "J", Cond.fieldLink RX6 33 "FairSeats$Purses" "rest" "J", Cond.fieldLink RX6 36 "FairSeats$Purses" "payers" "I", Cond.methodLink RX6 9 yX3_total, Cond.instanceMethod yX3_total, Cond.selects RX3 yX3_total yX3_total, Cond.initialized RX3, Cond.code yX3_total cX3_total 3 (some .int), Cond.fieldLink RX3 22 "FairSeats$Heaps" "count" "I", Cond.fieldLink RX3 15 "FairSeats$Heaps" "papers" "[I", Cond.methodLink RX6 21 yX3_telling, Cond.instanceMethod yX3_telling, Cond.selects RX3 yX3_telling yX3_telling, Cond.code yX3_telling cX3_telling 4 (some .int), Cond.methodLink RX3 26 yX3_tells, Cond.instanceMethod yX3_tells, Cond.selects RX3 yX3_tells yX3_tells]
def wsX10_paid_r3 : List Cond := [Cond.code yX3_tells cX3_tells 3 (some .boolean), Cond.fieldLink RX3 9 "FairSeats$Heaps" "sets" "[I", Cond.methodLink RX6 25 ⟨"FairSeats$Purses", "sumOf", "(LFairSeats$Heaps;I)J"⟩, Cond.sameMethod "FairSeats$Purses" "FairSeats$Fractions" "sumOf" "(LFairSeats$Heaps;I)J", Cond.selects RX6 ⟨"FairSeats$Purses", "sumOf", "(LFairSeats$Heaps;I)J"⟩ yX1_sumOf, Cond.instanceMethod yX1_sumOf, Cond.code yX1_sumOf cX1_sumOf 6 (some .long), Cond.fieldLink RX1 19 "FairSeats$Heaps" "count" "I", Cond.fieldLink RX1 29 "FairSeats$Heaps" "papers" "[I", Cond.methodLink RX1 25 yX3_tells, Cond.methodLink RX6 29 yX6_price, Cond.instanceMethod yX6_price, Cond.selects RX6 yX6_price yX6_price, Cond.code yX6_price cX6_price 11 none, Cond.fieldLink RX6 40 "FairSeats$Heaps" "count" "I", Cond.fieldLink RX6 47 "FairSeats$Purses" "upper" "[J", Cond.sameField "FairSeats$Purses" "FairSeats$Fractions" "upper" "[J", Cond.fieldLink RX6 51 "FairSeats$Heaps" "papers" "[I", Cond.methodLink RX6 43 yX3_tells, Cond.methodLink RX8 103 yX6_pay, Cond.instanceMethod yX6_pay, Cond.selects RX6 yX6_pay yX6_pay, Cond.code yX6_pay cX6_pay 4 none, Cond.methodLink RX6 59 Lib.MathLoose.max_long.x]
def wsX10_paid_r4 : List Cond := [Cond.static Lib.MathLoose.max_long.x, Cond.initialized "java/lang/Math", Cond.code Lib.MathLoose.max_long.x Lib.MathLoose.max_long.code 4 (some .long), Cond.methodLink RX6 55 ⟨"FairSeats$Purses", "widen", "(I)V"⟩, Cond.sameMethod "FairSeats$Purses" "FairSeats$Fractions" "widen" "(I)V", Cond.selects RX6 ⟨"FairSeats$Purses", "widen", "(I)V"⟩ yX1_widen, Cond.instanceMethod yX1_widen, Cond.code yX1_widen cX1_widen 3 none, Cond.methodLink RX8 70 yX8_add, Cond.instanceMethod yX8_add, Cond.selects RX8 yX8_add yX8_add, Cond.code yX8_add cX8_add 2 none, Cond.fieldLink RX8 25 "FairSeats$Ways" "order" "[I", Cond.methodLink RX8 36 yX8_byHeads, Cond.instanceMethod yX8_byHeads, Cond.selects RX8 yX8_byHeads yX8_byHeads, Cond.code yX8_byHeads cX8_byHeads 8 none, Cond.methodLink RX8 73 yX8_holds, Cond.instanceMethod yX8_holds, Cond.selects RX8 yX8_holds yX8_holds, Cond.code yX8_holds cX8_holds 2 (some .boolean), Cond.methodLink RX8 77 yX3_telling]
def wsX10_paid : List Cond := .code yX10_paid cX10_paid 1 (some .int) :: ((wsX10_paid_r1 ++ (wsX10_paid_r2 ++ (wsX10_paid_r3 ++ wsX10_paid_r4))) ++ wsX100 ++ wsX80 ++ wsX50 ++ wsX60 ++ wsX30)
def wsX10_owed_r1 : List Cond := [Cond.fieldLink RX10 21 "FairSeats" "heaps" "LFairSeats$Heaps;", Cond.fieldLink RX10 76 "FairSeats$Heaps" "count" "I", Cond.fieldLink RX10 52 "FairSeats" "groups" "LFairSeats$Groups;", Cond.fieldLink RX10 65 "FairSeats" "seatCount" "I", Cond.fieldLink RX10 183 "FairSeats$Groups" "due" "[I", Cond.methodLink RX10 180 yX2_gather, Cond.instanceMethod yX2_gather, Cond.selects RX2 yX2_gather yX2_gather, Cond.initialized RX2, Cond.code yX2_gather cX2_gather 8 none, Cond.fieldLink RX2 36 "FairSeats$Heaps" "count" "I", Cond.methodLink RX2 40 Lib.Math.min.name, Cond.static Lib.Math.min.name, Cond.initialized "java/lang/Math", Cond.code Lib.Math.min.name Lib.Math.min.code 2 (some .int), Cond.fieldLink RX2 46 "FairSeats$Groups" "count" "I", Cond.fieldLink RX2 9 "FairSeats$Groups" "common" "[I", Cond.fieldLink RX2 27 "FairSeats$Groups" "sets" "[I", Cond.fieldLink RX2 47 "FairSeats$Heaps" "sets" "[I", Cond.fieldLink RX2 15 "FairSeats$Groups" "anyone" "[I", Cond.fieldLink RX2 18 "FairSeats$Groups" "papers" "[I", Cond.fieldLink RX2 52 "FairSeats$Heaps" "papers" "[I", Cond.fieldLink RX2 21 "FairSeats$Groups" "due" "[I", Cond.methodLink RX2 30 yX3_total]
def wsX10_owed_r2 : List Cond := [Cond.instanceMethod yX3_total, Cond.selects RX3 yX3_total yX3_total, Cond.initialized RX3, Cond.code yX3_total cX3_total 3 (some .int), Cond.fieldLink RX3 22 "FairSeats$Heaps" "count" "I", Cond.fieldLink RX3 15 "FairSeats$Heaps" "papers" "[I", Cond.methodLink RX2 48 yX2_lowestHeap, Cond.static yX2_lowestHeap, Cond.code yX2_lowestHeap cX2_lowestHeap 1 (some .int), Cond.methodLink RX2 53 yJ6_bitCount_0f7a4, Cond.static yJ6_bitCount_0f7a4, Cond.initialized RJ6, Cond.code yJ6_bitCount_0f7a4 cJ6_bitCount_0f7a4 1 (some .int), Cond.constant RJ6 265 (1431655765), Cond.constant RJ6 266 (858993459), Cond.constant RJ6 267 (252645135)]
def wsX10_owed : List Cond := .code yX10_owed cX10_owed 3 (some .int) :: ((wsX10_owed_r1 ++ wsX10_owed_r2) ++ wsX100 ++ wsX30 ++ wsX20)
def wsX10_isLaw : List Cond := .code yX10_isLaw cX10_isLaw 1 (some .boolean) :: ([])
def wsX10_breach_r1 : List Cond := [Cond.fieldLink RX10 52 "FairSeats" "groups" "LFairSeats$Groups;", Cond.fieldLink RX10 21 "FairSeats" "heaps" "LFairSeats$Heaps;", Cond.fieldLink RX10 65 "FairSeats" "seatCount" "I", Cond.fieldLink RX10 192 "FairSeats$Groups" "breachSize" "I", Cond.fieldLink RX10 195 "FairSeats$Groups" "breachGroup" "I", Cond.methodLink RX10 186 yX10_isLaw, Cond.static yX10_isLaw, Cond.initialized RX10, Cond.code yX10_isLaw cX10_isLaw 1 (some .boolean), Cond.methodLink RX10 118 yX10_isCommittee, Cond.instanceMethod yX10_isCommittee, Cond.selects RX10 yX10_isCommittee yX10_isCommittee, Cond.code yX10_isCommittee cX10_isCommittee 2 (some .boolean), Cond.methodLink RX10 69 yX10_isSet, Cond.static yX10_isSet, Cond.code yX10_isSet cX10_isSet 1 (some .boolean), Cond.methodLink RX10 232 yJ6_bitCount_0f7a4, Cond.static yJ6_bitCount_0f7a4, Cond.initialized RJ6, Cond.code yJ6_bitCount_0f7a4 cJ6_bitCount_0f7a4 1 (some .int), Cond.constant RJ6 265 (1431655765), Cond.constant RJ6 266 (858993459), Cond.constant RJ6 267 (252645135), Cond.methodLink RX10 180 yX2_gather]
def wsX10_breach_r2 : List Cond := [Cond.instanceMethod yX2_gather, Cond.selects RX2 yX2_gather yX2_gather, Cond.initialized RX2, Cond.code yX2_gather cX2_gather 8 none, Cond.fieldLink RX2 36 "FairSeats$Heaps" "count" "I", Cond.methodLink RX2 40 Lib.Math.min.name, Cond.static Lib.Math.min.name, Cond.initialized "java/lang/Math", Cond.code Lib.Math.min.name Lib.Math.min.code 2 (some .int), Cond.fieldLink RX2 46 "FairSeats$Groups" "count" "I", Cond.fieldLink RX2 9 "FairSeats$Groups" "common" "[I", Cond.fieldLink RX2 27 "FairSeats$Groups" "sets" "[I", Cond.fieldLink RX2 47 "FairSeats$Heaps" "sets" "[I", Cond.fieldLink RX2 15 "FairSeats$Groups" "anyone" "[I", Cond.fieldLink RX2 18 "FairSeats$Groups" "papers" "[I", Cond.fieldLink RX2 52 "FairSeats$Heaps" "papers" "[I", Cond.fieldLink RX2 21 "FairSeats$Groups" "due" "[I", Cond.methodLink RX2 30 yX3_total, Cond.instanceMethod yX3_total, Cond.selects RX3 yX3_total yX3_total, Cond.initialized RX3, Cond.code yX3_total cX3_total 3 (some .int), Cond.fieldLink RX3 22 "FairSeats$Heaps" "count" "I", Cond.fieldLink RX3 15 "FairSeats$Heaps" "papers" "[I"]
def wsX10_breach_r3 : List Cond := [Cond.methodLink RX2 48 yX2_lowestHeap, Cond.static yX2_lowestHeap, Cond.code yX2_lowestHeap cX2_lowestHeap 1 (some .int), Cond.methodLink RX2 53 yJ6_bitCount_0f7a4, Cond.methodLink RX10 189 yX2_seekBreach, Cond.instanceMethod yX2_seekBreach, Cond.selects RX2 yX2_seekBreach yX2_seekBreach, Cond.code yX2_seekBreach cX2_seekBreach 7 none, Cond.fieldLink RX2 58 "FairSeats$Groups" "breachSize" "I", Cond.fieldLink RX2 61 "FairSeats$Groups" "breachGroup" "I", Cond.fieldLink RX2 24 "FairSeats$Groups" "mostHad" "[I", Cond.methodLink RX2 64 yX2_countMostHad, Cond.instanceMethod yX2_countMostHad, Cond.selects RX2 yX2_countMostHad yX2_countMostHad, Cond.code yX2_countMostHad cX2_countMostHad 4 none, Cond.methodLink RX2 68 Lib.Math.max.name, Cond.static Lib.Math.max.name, Cond.code Lib.Math.max.name Lib.Math.max.code 2 (some .int)]
def wsX10_breach : List Cond := .code yX10_breach cX10_breach 4 (some .int) :: ((wsX10_breach_r1 ++ (wsX10_breach_r2 ++ wsX10_breach_r3)) ++ wsX100 ++ wsX20 ++ wsX30)
def wsX10_gatherKept_r1 : List Cond := [Cond.fieldLink RX10 45 "FairSeats" "lawful" "LFairSeats$Committees;", Cond.fieldLink RX10 38 "FairSeats" "lines" "LFairSeats$Lines;", Cond.fieldLink RX10 65 "FairSeats" "seatCount" "I", Cond.fieldLink RX10 52 "FairSeats" "groups" "LFairSeats$Groups;", Cond.fieldLink RX10 21 "FairSeats" "heaps" "LFairSeats$Heaps;", Cond.methodLink RX10 205 yX0_gather, Cond.instanceMethod yX0_gather, Cond.selects RX0 yX0_gather yX0_gather, Cond.initialized RX0, Cond.code yX0_gather cX0_gather 4 none, Cond.fieldLink RX0 15 "FairSeats$Committees" "count" "I", Cond.fieldLink RX0 9 "FairSeats$Committees" "row" "[I", Cond.methodLink RX0 19 yJ6_bitCount_0f7a4, Cond.static yJ6_bitCount_0f7a4, Cond.initialized RJ6, Cond.code yJ6_bitCount_0f7a4 cJ6_bitCount_0f7a4 1 (some .int), Cond.constant RJ6 265 (1431655765), Cond.constant RJ6 266 (858993459), Cond.constant RJ6 267 (252645135), Cond.methodLink RX0 25 yX4_allow, Cond.instanceMethod yX4_allow, Cond.selects RX4 yX4_allow yX4_allow, Cond.initialized RX4, Cond.code yX4_allow cX4_allow 2 (some .boolean)]
def wsX10_gatherKept_r2 : List Cond := [Cond.methodLink RX4 44 yX4_firstBroken, Cond.instanceMethod yX4_firstBroken, Cond.selects RX4 yX4_firstBroken yX4_firstBroken, Cond.code yX4_firstBroken cX4_firstBroken 4 (some .int), Cond.fieldLink RX4 22 "FairSeats$Lines" "count" "I", Cond.fieldLink RX4 9 "FairSeats$Lines" "sets" "[I", Cond.fieldLink RX4 18 "FairSeats$Lines" "fewer" "[Z", Cond.fieldLink RX4 15 "FairSeats$Lines" "digits" "[I", Cond.methodLink RX4 38 yJ6_bitCount_0f7a4, Cond.methodLink RX10 180 yX2_gather, Cond.instanceMethod yX2_gather, Cond.selects RX2 yX2_gather yX2_gather, Cond.initialized RX2, Cond.code yX2_gather cX2_gather 8 none, Cond.fieldLink RX2 36 "FairSeats$Heaps" "count" "I", Cond.methodLink RX2 40 Lib.Math.min.name, Cond.static Lib.Math.min.name, Cond.initialized "java/lang/Math", Cond.code Lib.Math.min.name Lib.Math.min.code 2 (some .int), Cond.fieldLink RX2 46 "FairSeats$Groups" "count" "I", Cond.fieldLink RX2 9 "FairSeats$Groups" "common" "[I", Cond.fieldLink RX2 27 "FairSeats$Groups" "sets" "[I", Cond.fieldLink RX2 47 "FairSeats$Heaps" "sets" "[I", Cond.fieldLink RX2 15 "FairSeats$Groups" "anyone" "[I"]
def wsX10_gatherKept_r3 : List Cond := [Cond.fieldLink RX2 18 "FairSeats$Groups" "papers" "[I", Cond.fieldLink RX2 52 "FairSeats$Heaps" "papers" "[I", Cond.fieldLink RX2 21 "FairSeats$Groups" "due" "[I", Cond.methodLink RX2 30 yX3_total, Cond.instanceMethod yX3_total, Cond.selects RX3 yX3_total yX3_total, Cond.initialized RX3, Cond.code yX3_total cX3_total 3 (some .int), Cond.fieldLink RX3 22 "FairSeats$Heaps" "count" "I", Cond.fieldLink RX3 15 "FairSeats$Heaps" "papers" "[I", Cond.methodLink RX2 48 yX2_lowestHeap, Cond.static yX2_lowestHeap, Cond.code yX2_lowestHeap cX2_lowestHeap 1 (some .int), Cond.methodLink RX2 53 yJ6_bitCount_0f7a4, Cond.methodLink RX10 237 yX0_keepThoseThatHold, Cond.instanceMethod yX0_keepThoseThatHold, Cond.selects RX0 yX0_keepThoseThatHold yX0_keepThoseThatHold, Cond.code yX0_keepThoseThatHold cX0_keepThoseThatHold 5 none, Cond.fieldLink RX0 37 "FairSeats$Groups" "breachSize" "I", Cond.methodLink RX0 31 yX2_seekBreach, Cond.instanceMethod yX2_seekBreach, Cond.selects RX2 yX2_seekBreach yX2_seekBreach, Cond.code yX2_seekBreach cX2_seekBreach 7 none, Cond.fieldLink RX2 58 "FairSeats$Groups" "breachSize" "I"]
def wsX10_gatherKept_r4 : List Cond := [Cond.fieldLink RX2 61 "FairSeats$Groups" "breachGroup" "I", Cond.fieldLink RX2 24 "FairSeats$Groups" "mostHad" "[I", Cond.methodLink RX2 64 yX2_countMostHad, Cond.instanceMethod yX2_countMostHad, Cond.selects RX2 yX2_countMostHad yX2_countMostHad, Cond.code yX2_countMostHad cX2_countMostHad 4 none, Cond.methodLink RX2 68 Lib.Math.max.name, Cond.static Lib.Math.max.name, Cond.code Lib.Math.max.name Lib.Math.max.code 2 (some .int)]
def wsX10_gatherKept : List Cond := .code yX10_gatherKept cX10_gatherKept 2 none :: ((wsX10_gatherKept_r1 ++ (wsX10_gatherKept_r2 ++ (wsX10_gatherKept_r3 ++ wsX10_gatherKept_r4))) ++ wsX100 ++ wsX00 ++ wsX40 ++ wsX30 ++ wsX20)
def wsX10_kept_r1 : List Cond := [Cond.fieldLink RX10 45 "FairSeats" "lawful" "LFairSeats$Committees;", Cond.fieldLink RX10 201 "FairSeats$Committees" "count" "I", Cond.methodLink RX10 186 yX10_isLaw, Cond.static yX10_isLaw, Cond.initialized RX10, Cond.code yX10_isLaw cX10_isLaw 1 (some .boolean), Cond.methodLink RX10 198 yX10_gatherKept, Cond.instanceMethod yX10_gatherKept, Cond.selects RX10 yX10_gatherKept yX10_gatherKept, Cond.code yX10_gatherKept cX10_gatherKept 2 none, Cond.fieldLink RX10 38 "FairSeats" "lines" "LFairSeats$Lines;", Cond.fieldLink RX10 65 "FairSeats" "seatCount" "I", Cond.fieldLink RX10 52 "FairSeats" "groups" "LFairSeats$Groups;", Cond.fieldLink RX10 21 "FairSeats" "heaps" "LFairSeats$Heaps;", Cond.methodLink RX10 205 yX0_gather, Cond.instanceMethod yX0_gather, Cond.selects RX0 yX0_gather yX0_gather, Cond.initialized RX0, Cond.code yX0_gather cX0_gather 4 none, Cond.fieldLink RX0 15 "FairSeats$Committees" "count" "I", Cond.fieldLink RX0 9 "FairSeats$Committees" "row" "[I", Cond.methodLink RX0 19 yJ6_bitCount_0f7a4, Cond.static yJ6_bitCount_0f7a4, Cond.initialized RJ6]
def wsX10_kept_r2 : List Cond := [Cond.code yJ6_bitCount_0f7a4 cJ6_bitCount_0f7a4 1 (some .int), Cond.constant RJ6 265 (1431655765), Cond.constant RJ6 266 (858993459), Cond.constant RJ6 267 (252645135), Cond.methodLink RX0 25 yX4_allow, Cond.instanceMethod yX4_allow, Cond.selects RX4 yX4_allow yX4_allow, Cond.initialized RX4, Cond.code yX4_allow cX4_allow 2 (some .boolean), Cond.methodLink RX4 44 yX4_firstBroken, Cond.instanceMethod yX4_firstBroken, Cond.selects RX4 yX4_firstBroken yX4_firstBroken, Cond.code yX4_firstBroken cX4_firstBroken 4 (some .int), Cond.fieldLink RX4 22 "FairSeats$Lines" "count" "I", Cond.fieldLink RX4 9 "FairSeats$Lines" "sets" "[I", Cond.fieldLink RX4 18 "FairSeats$Lines" "fewer" "[Z", Cond.fieldLink RX4 15 "FairSeats$Lines" "digits" "[I", Cond.methodLink RX4 38 yJ6_bitCount_0f7a4, Cond.methodLink RX10 180 yX2_gather, Cond.instanceMethod yX2_gather, Cond.selects RX2 yX2_gather yX2_gather, Cond.initialized RX2, Cond.code yX2_gather cX2_gather 8 none, Cond.fieldLink RX2 36 "FairSeats$Heaps" "count" "I"]
def wsX10_kept_r3 : List Cond := [Cond.methodLink RX2 40 Lib.Math.min.name, Cond.static Lib.Math.min.name, Cond.initialized "java/lang/Math", Cond.code Lib.Math.min.name Lib.Math.min.code 2 (some .int), Cond.fieldLink RX2 46 "FairSeats$Groups" "count" "I", Cond.fieldLink RX2 9 "FairSeats$Groups" "common" "[I", Cond.fieldLink RX2 27 "FairSeats$Groups" "sets" "[I", Cond.fieldLink RX2 47 "FairSeats$Heaps" "sets" "[I", Cond.fieldLink RX2 15 "FairSeats$Groups" "anyone" "[I", Cond.fieldLink RX2 18 "FairSeats$Groups" "papers" "[I", Cond.fieldLink RX2 52 "FairSeats$Heaps" "papers" "[I", Cond.fieldLink RX2 21 "FairSeats$Groups" "due" "[I", Cond.methodLink RX2 30 yX3_total, Cond.instanceMethod yX3_total, Cond.selects RX3 yX3_total yX3_total, Cond.initialized RX3, Cond.code yX3_total cX3_total 3 (some .int), Cond.fieldLink RX3 22 "FairSeats$Heaps" "count" "I", Cond.fieldLink RX3 15 "FairSeats$Heaps" "papers" "[I", Cond.methodLink RX2 48 yX2_lowestHeap, Cond.static yX2_lowestHeap, Cond.code yX2_lowestHeap cX2_lowestHeap 1 (some .int), Cond.methodLink RX2 53 yJ6_bitCount_0f7a4, Cond.methodLink RX10 237 yX0_keepThoseThatHold]
def wsX10_kept_r4 : List Cond := [Cond.instanceMethod yX0_keepThoseThatHold, Cond.selects RX0 yX0_keepThoseThatHold yX0_keepThoseThatHold, Cond.code yX0_keepThoseThatHold cX0_keepThoseThatHold 5 none, Cond.fieldLink RX0 37 "FairSeats$Groups" "breachSize" "I", Cond.methodLink RX0 31 yX2_seekBreach, Cond.instanceMethod yX2_seekBreach, Cond.selects RX2 yX2_seekBreach yX2_seekBreach, Cond.code yX2_seekBreach cX2_seekBreach 7 none, Cond.fieldLink RX2 58 "FairSeats$Groups" "breachSize" "I", Cond.fieldLink RX2 61 "FairSeats$Groups" "breachGroup" "I", Cond.fieldLink RX2 24 "FairSeats$Groups" "mostHad" "[I", Cond.methodLink RX2 64 yX2_countMostHad, Cond.instanceMethod yX2_countMostHad, Cond.selects RX2 yX2_countMostHad yX2_countMostHad, Cond.code yX2_countMostHad cX2_countMostHad 4 none, Cond.methodLink RX2 68 Lib.Math.max.name, Cond.static Lib.Math.max.name, Cond.code Lib.Math.max.name Lib.Math.max.code 2 (some .int), Cond.methodLink RX10 202 yX0_at, Cond.instanceMethod yX0_at, Cond.selects RX0 yX0_at yX0_at, Cond.code yX0_at cX0_at 2 (some .int)]
def wsX10_kept : List Cond := .code yX10_kept cX10_kept 3 (some .int) :: ((wsX10_kept_r1 ++ (wsX10_kept_r2 ++ (wsX10_kept_r3 ++ wsX10_kept_r4))) ++ wsX100 ++ wsX00 ++ wsX40 ++ wsX30 ++ wsX20)
def wsX10_least_r1 : List Cond := [Cond.fieldLink RX10 45 "FairSeats" "lawful" "LFairSeats$Committees;", Cond.fieldLink RX10 38 "FairSeats" "lines" "LFairSeats$Lines;", Cond.fieldLink RX10 65 "FairSeats" "seatCount" "I", Cond.fieldLink RX10 21 "FairSeats" "heaps" "LFairSeats$Heaps;", Cond.methodLink RX10 205 yX0_gather, Cond.instanceMethod yX0_gather, Cond.selects RX0 yX0_gather yX0_gather, Cond.initialized RX0, Cond.code yX0_gather cX0_gather 4 none, Cond.fieldLink RX0 15 "FairSeats$Committees" "count" "I", Cond.fieldLink RX0 9 "FairSeats$Committees" "row" "[I", Cond.methodLink RX0 19 yJ6_bitCount_0f7a4, Cond.static yJ6_bitCount_0f7a4, Cond.initialized RJ6, Cond.code yJ6_bitCount_0f7a4 cJ6_bitCount_0f7a4 1 (some .int), Cond.constant RJ6 265 (1431655765), Cond.constant RJ6 266 (858993459), Cond.constant RJ6 267 (252645135), Cond.methodLink RX0 25 yX4_allow, Cond.instanceMethod yX4_allow, Cond.selects RX4 yX4_allow yX4_allow, Cond.initialized RX4, Cond.code yX4_allow cX4_allow 2 (some .boolean), Cond.methodLink RX4 44 yX4_firstBroken]
def wsX10_least_r2 : List Cond := [Cond.instanceMethod yX4_firstBroken, Cond.selects RX4 yX4_firstBroken yX4_firstBroken, Cond.code yX4_firstBroken cX4_firstBroken 4 (some .int), Cond.fieldLink RX4 22 "FairSeats$Lines" "count" "I", Cond.fieldLink RX4 9 "FairSeats$Lines" "sets" "[I", Cond.fieldLink RX4 18 "FairSeats$Lines" "fewer" "[Z", Cond.fieldLink RX4 15 "FairSeats$Lines" "digits" "[I", Cond.methodLink RX4 38 yJ6_bitCount_0f7a4, Cond.methodLink RX10 208 yX0_leastWronged, Cond.instanceMethod yX0_leastWronged, Cond.selects RX0 yX0_leastWronged yX0_leastWronged, Cond.code yX0_leastWronged cX0_leastWronged 6 (some .int), Cond.methodLink RX0 45 yX3_wronged, Cond.instanceMethod yX3_wronged, Cond.selects RX3 yX3_wronged yX3_wronged, Cond.initialized RX3, Cond.code yX3_wronged cX3_wronged 4 (some .int), Cond.fieldLink RX3 22 "FairSeats$Heaps" "count" "I", Cond.fieldLink RX3 9 "FairSeats$Heaps" "sets" "[I", Cond.fieldLink RX3 15 "FairSeats$Heaps" "papers" "[I", Cond.methodLink RX10 128 yX3_wronged]
def wsX10_least : List Cond := .code yX10_least cX10_least 3 (some .int) :: ((wsX10_least_r1 ++ wsX10_least_r2) ++ wsX100 ++ wsX00 ++ wsX40 ++ wsX30)
def wsX10_nearest_r1 : List Cond := [Cond.fieldLink RX10 45 "FairSeats" "lawful" "LFairSeats$Committees;", Cond.methodLink RX10 186 yX10_isLaw, Cond.static yX10_isLaw, Cond.initialized RX10, Cond.code yX10_isLaw cX10_isLaw 1 (some .boolean), Cond.methodLink RX10 118 yX10_isCommittee, Cond.instanceMethod yX10_isCommittee, Cond.selects RX10 yX10_isCommittee yX10_isCommittee, Cond.code yX10_isCommittee cX10_isCommittee 2 (some .boolean), Cond.fieldLink RX10 65 "FairSeats" "seatCount" "I", Cond.methodLink RX10 69 yX10_isSet, Cond.static yX10_isSet, Cond.code yX10_isSet cX10_isSet 1 (some .boolean), Cond.methodLink RX10 232 yJ6_bitCount_0f7a4, Cond.static yJ6_bitCount_0f7a4, Cond.initialized RJ6, Cond.code yJ6_bitCount_0f7a4 cJ6_bitCount_0f7a4 1 (some .int), Cond.constant RJ6 265 (1431655765), Cond.constant RJ6 266 (858993459), Cond.constant RJ6 267 (252645135), Cond.methodLink RX10 198 yX10_gatherKept, Cond.instanceMethod yX10_gatherKept, Cond.selects RX10 yX10_gatherKept yX10_gatherKept, Cond.code yX10_gatherKept cX10_gatherKept 2 none]
def wsX10_nearest_r2 : List Cond := [Cond.fieldLink RX10 38 "FairSeats" "lines" "LFairSeats$Lines;", Cond.fieldLink RX10 52 "FairSeats" "groups" "LFairSeats$Groups;", Cond.fieldLink RX10 21 "FairSeats" "heaps" "LFairSeats$Heaps;", Cond.methodLink RX10 205 yX0_gather, Cond.instanceMethod yX0_gather, Cond.selects RX0 yX0_gather yX0_gather, Cond.initialized RX0, Cond.code yX0_gather cX0_gather 4 none, Cond.fieldLink RX0 15 "FairSeats$Committees" "count" "I", Cond.fieldLink RX0 9 "FairSeats$Committees" "row" "[I", Cond.methodLink RX0 19 yJ6_bitCount_0f7a4, Cond.methodLink RX0 25 yX4_allow, Cond.instanceMethod yX4_allow, Cond.selects RX4 yX4_allow yX4_allow, Cond.initialized RX4, Cond.code yX4_allow cX4_allow 2 (some .boolean), Cond.methodLink RX4 44 yX4_firstBroken, Cond.instanceMethod yX4_firstBroken, Cond.selects RX4 yX4_firstBroken yX4_firstBroken, Cond.code yX4_firstBroken cX4_firstBroken 4 (some .int), Cond.fieldLink RX4 22 "FairSeats$Lines" "count" "I", Cond.fieldLink RX4 9 "FairSeats$Lines" "sets" "[I", Cond.fieldLink RX4 18 "FairSeats$Lines" "fewer" "[Z", Cond.fieldLink RX4 15 "FairSeats$Lines" "digits" "[I"]
def wsX10_nearest_r3 : List Cond := [Cond.methodLink RX4 38 yJ6_bitCount_0f7a4, Cond.methodLink RX10 180 yX2_gather, Cond.instanceMethod yX2_gather, Cond.selects RX2 yX2_gather yX2_gather, Cond.initialized RX2, Cond.code yX2_gather cX2_gather 8 none, Cond.fieldLink RX2 36 "FairSeats$Heaps" "count" "I", Cond.methodLink RX2 40 Lib.Math.min.name, Cond.static Lib.Math.min.name, Cond.initialized "java/lang/Math", Cond.code Lib.Math.min.name Lib.Math.min.code 2 (some .int), Cond.fieldLink RX2 46 "FairSeats$Groups" "count" "I", Cond.fieldLink RX2 9 "FairSeats$Groups" "common" "[I", Cond.fieldLink RX2 27 "FairSeats$Groups" "sets" "[I", Cond.fieldLink RX2 47 "FairSeats$Heaps" "sets" "[I", Cond.fieldLink RX2 15 "FairSeats$Groups" "anyone" "[I", Cond.fieldLink RX2 18 "FairSeats$Groups" "papers" "[I", Cond.fieldLink RX2 52 "FairSeats$Heaps" "papers" "[I", Cond.fieldLink RX2 21 "FairSeats$Groups" "due" "[I", Cond.methodLink RX2 30 yX3_total, Cond.instanceMethod yX3_total, Cond.selects RX3 yX3_total yX3_total, Cond.initialized RX3, Cond.code yX3_total cX3_total 3 (some .int)]
def wsX10_nearest_r4 : List Cond := [Cond.fieldLink RX3 22 "FairSeats$Heaps" "count" "I", Cond.fieldLink RX3 15 "FairSeats$Heaps" "papers" "[I", Cond.methodLink RX2 48 yX2_lowestHeap, Cond.static yX2_lowestHeap, Cond.code yX2_lowestHeap cX2_lowestHeap 1 (some .int), Cond.methodLink RX2 53 yJ6_bitCount_0f7a4, Cond.methodLink RX10 237 yX0_keepThoseThatHold, Cond.instanceMethod yX0_keepThoseThatHold, Cond.selects RX0 yX0_keepThoseThatHold yX0_keepThoseThatHold, Cond.code yX0_keepThoseThatHold cX0_keepThoseThatHold 5 none, Cond.fieldLink RX0 37 "FairSeats$Groups" "breachSize" "I", Cond.methodLink RX0 31 yX2_seekBreach, Cond.instanceMethod yX2_seekBreach, Cond.selects RX2 yX2_seekBreach yX2_seekBreach, Cond.code yX2_seekBreach cX2_seekBreach 7 none, Cond.fieldLink RX2 58 "FairSeats$Groups" "breachSize" "I", Cond.fieldLink RX2 61 "FairSeats$Groups" "breachGroup" "I", Cond.fieldLink RX2 24 "FairSeats$Groups" "mostHad" "[I", Cond.methodLink RX2 64 yX2_countMostHad, Cond.instanceMethod yX2_countMostHad, Cond.selects RX2 yX2_countMostHad yX2_countMostHad, Cond.code yX2_countMostHad cX2_countMostHad 4 none, Cond.methodLink RX2 68 Lib.Math.max.name, Cond.static Lib.Math.max.name]
def wsX10_nearest_r5 : List Cond := [Cond.code Lib.Math.max.name Lib.Math.max.code 2 (some .int), Cond.methodLink RX10 212 yX0_closestTo, Cond.instanceMethod yX0_closestTo, Cond.selects RX0 yX0_closestTo yX0_closestTo, Cond.code yX0_closestTo cX0_closestTo 6 (some .int)]
def wsX10_nearest : List Cond := .code yX10_nearest cX10_nearest 3 (some .int) :: ((wsX10_nearest_r1 ++ (wsX10_nearest_r2 ++ (wsX10_nearest_r3 ++ (wsX10_nearest_r4 ++ wsX10_nearest_r5)))) ++ wsX100 ++ wsX00 ++ wsX40 ++ wsX30 ++ wsX20)
def wsX10_more_r1 : List Cond := [Cond.fieldLink RX10 65 "FairSeats" "seatCount" "I", Cond.fieldLink RX10 61 "FairSeats" "ways" "LFairSeats$Ways;", Cond.fieldLink RX10 140 "FairSeats$Ways" "chosen" "I", Cond.methodLink RX10 134 yX10_isWay, Cond.static yX10_isWay, Cond.initialized RX10, Cond.code yX10_isWay cX10_isWay 1 (some .boolean), Cond.methodLink RX10 137 yX10_runWay, Cond.instanceMethod yX10_runWay, Cond.selects RX10 yX10_runWay yX10_runWay, Cond.code yX10_runWay cX10_runWay 3 none, Cond.fieldLink RX10 45 "FairSeats" "lawful" "LFairSeats$Committees;", Cond.fieldLink RX10 38 "FairSeats" "lines" "LFairSeats$Lines;", Cond.fieldLink RX10 21 "FairSeats" "heaps" "LFairSeats$Heaps;", Cond.methodLink RX10 205 yX0_gather, Cond.instanceMethod yX0_gather, Cond.selects RX0 yX0_gather yX0_gather, Cond.initialized RX0, Cond.code yX0_gather cX0_gather 4 none, Cond.fieldLink RX0 15 "FairSeats$Committees" "count" "I", Cond.fieldLink RX0 9 "FairSeats$Committees" "row" "[I", Cond.methodLink RX0 19 yJ6_bitCount_0f7a4, Cond.static yJ6_bitCount_0f7a4, Cond.initialized RJ6]
def wsX10_more_r2 : List Cond := [Cond.code yJ6_bitCount_0f7a4 cJ6_bitCount_0f7a4 1 (some .int), Cond.constant RJ6 265 (1431655765), Cond.constant RJ6 266 (858993459), Cond.constant RJ6 267 (252645135), Cond.methodLink RX0 25 yX4_allow, Cond.instanceMethod yX4_allow, Cond.selects RX4 yX4_allow yX4_allow, Cond.initialized RX4, Cond.code yX4_allow cX4_allow 2 (some .boolean), Cond.methodLink RX4 44 yX4_firstBroken, Cond.instanceMethod yX4_firstBroken, Cond.selects RX4 yX4_firstBroken yX4_firstBroken, Cond.code yX4_firstBroken cX4_firstBroken 4 (some .int), Cond.fieldLink RX4 22 "FairSeats$Lines" "count" "I", Cond.fieldLink RX4 9 "FairSeats$Lines" "sets" "[I", Cond.fieldLink RX4 18 "FairSeats$Lines" "fewer" "[Z", Cond.fieldLink RX4 15 "FairSeats$Lines" "digits" "[I", Cond.methodLink RX4 38 yJ6_bitCount_0f7a4, Cond.methodLink RX10 219 yX8_run, Cond.instanceMethod yX8_run, Cond.selects RX8 yX8_run yX8_run, Cond.initialized RX8, Cond.code yX8_run cX8_run 4 none, Cond.fieldLink RX8 29 "FairSeats$Ways" "lawful" "LFairSeats$Committees;"]
def wsX10_more_r3 : List Cond := [Cond.methodLink RX8 33 yX8_clear, Cond.instanceMethod yX8_clear, Cond.selects RX8 yX8_clear yX8_clear, Cond.code yX8_clear cX8_clear 1 none, Cond.fieldLink RX8 67 "FairSeats$Ways" "count" "I", Cond.fieldLink RX8 63 "FairSeats$Ways" "chosen" "I", Cond.methodLink RX8 36 yX8_byHeads, Cond.instanceMethod yX8_byHeads, Cond.selects RX8 yX8_byHeads yX8_byHeads, Cond.code yX8_byHeads cX8_byHeads 8 none, Cond.methodLink RX8 73 yX8_holds, Cond.instanceMethod yX8_holds, Cond.selects RX8 yX8_holds yX8_holds, Cond.code yX8_holds cX8_holds 2 (some .boolean), Cond.methodLink RX8 77 yX3_telling, Cond.instanceMethod yX3_telling, Cond.selects RX3 yX3_telling yX3_telling, Cond.initialized RX3, Cond.code yX3_telling cX3_telling 4 (some .int), Cond.fieldLink RX3 22 "FairSeats$Heaps" "count" "I", Cond.fieldLink RX3 15 "FairSeats$Heaps" "papers" "[I", Cond.methodLink RX3 26 yX3_tells, Cond.instanceMethod yX3_tells, Cond.selects RX3 yX3_tells yX3_tells]
def wsX10_more_r4 : List Cond := [Cond.code yX3_tells cX3_tells 3 (some .boolean), Cond.fieldLink RX3 9 "FairSeats$Heaps" "sets" "[I", Cond.methodLink RX8 70 yX8_add, Cond.instanceMethod yX8_add, Cond.selects RX8 yX8_add yX8_add, Cond.code yX8_add cX8_add 2 none, Cond.fieldLink RX8 25 "FairSeats$Ways" "order" "[I", Cond.methodLink RX8 40 yX8_byWorth, Cond.instanceMethod yX8_byWorth, Cond.selects RX8 yX8_byWorth yX8_byWorth, Cond.code yX8_byWorth cX8_byWorth 8 none, Cond.methodLink RX8 83 yX3_worthOf, Cond.instanceMethod yX3_worthOf, Cond.selects RX3 yX3_worthOf yX3_worthOf, Cond.code yX3_worthOf cX3_worthOf 4 (some .int), Cond.fieldLink RX3 18 "FairSeats$Heaps" "worths" "LFairSeats$Worths;", Cond.fieldLink RX3 30 "FairSeats$Worths" "together" "[I", Cond.methodLink RX3 35 yJ6_bitCount_0f7a4, Cond.methodLink RX8 43 yX8_byLoads, Cond.instanceMethod yX8_byLoads, Cond.selects RX8 yX8_byLoads yX8_byLoads, Cond.code yX8_byLoads cX8_byLoads 5 none, Cond.fieldLink RX8 12 "FairSeats$Ways" "loads" "LFairSeats$Loads;", Cond.methodLink RX8 86 ⟨"FairSeats$Loads", "begin", "(I)V"⟩]
def wsX10_more_r5 : List Cond := [Cond.sameMethod "FairSeats$Loads" "FairSeats$Fractions" "begin" "(I)V", Cond.selects RX5 ⟨"FairSeats$Loads", "begin", "(I)V"⟩ yX1_begin, Cond.instanceMethod yX1_begin, Cond.initialized RX1, Cond.code yX1_begin cX1_begin 3 none, Cond.fieldLink RX1 9 "FairSeats$Fractions" "upper" "[J", Cond.fieldLink RX1 15 "FairSeats$Fractions" "lower" "J", Cond.methodLink RX8 89 yX5_lightest, Cond.instanceMethod yX5_lightest, Cond.selects RX5 yX5_lightest yX5_lightest, Cond.initialized RX5, Cond.code yX5_lightest cX5_lightest 12 (some .int), Cond.fieldLink RX5 15 "FairSeats$Loads" "lower" "J", Cond.sameField "FairSeats$Loads" "FairSeats$Fractions" "lower" "J", Cond.methodLink RX5 9 yX3_telling, Cond.methodLink RX5 21 ⟨"FairSeats$Loads", "sumOf", "(LFairSeats$Heaps;I)J"⟩, Cond.sameMethod "FairSeats$Loads" "FairSeats$Fractions" "sumOf" "(LFairSeats$Heaps;I)J", Cond.selects RX5 ⟨"FairSeats$Loads", "sumOf", "(LFairSeats$Heaps;I)J"⟩ yX1_sumOf, Cond.instanceMethod yX1_sumOf, Cond.code yX1_sumOf cX1_sumOf 6 (some .long), Cond.fieldLink RX1 19 "FairSeats$Heaps" "count" "I", Cond.fieldLink RX1 29 "FairSeats$Heaps" "papers" "[I", Cond.methodLink RX1 25 yX3_tells, Cond.methodLink RX8 93 yX5_bear]
def wsX10_more_r6 : List Cond := [Cond.instanceMethod yX5_bear, Cond.selects RX5 yX5_bear yX5_bear, Cond.code yX5_bear cX5_bear 7 none, Cond.fieldLink RX5 29 "FairSeats$Heaps" "count" "I", Cond.fieldLink RX5 37 "FairSeats$Loads" "upper" "[J", Cond.sameField "FairSeats$Loads" "FairSeats$Fractions" "upper" "[J", Cond.methodLink RX5 25 ⟨"FairSeats$Loads", "widen", "(I)V"⟩, Cond.sameMethod "FairSeats$Loads" "FairSeats$Fractions" "widen" "(I)V", Cond.selects RX5 ⟨"FairSeats$Loads", "widen", "(I)V"⟩ yX1_widen, Cond.instanceMethod yX1_widen, Cond.code yX1_widen cX1_widen 3 none, Cond.methodLink RX5 33 yX3_tells, Cond.methodLink RX8 46 yX8_byPurses, Cond.instanceMethod yX8_byPurses, Cond.selects RX8 yX8_byPurses yX8_byPurses, Cond.code yX8_byPurses cX8_byPurses 6 none, Cond.fieldLink RX8 21 "FairSeats$Ways" "purses" "LFairSeats$Purses;", Cond.fieldLink RX8 97 "FairSeats$Ways" "paidCount" "I", Cond.methodLink RX8 96 ⟨"FairSeats$Purses", "begin", "(I)V"⟩, Cond.sameMethod "FairSeats$Purses" "FairSeats$Fractions" "begin" "(I)V", Cond.selects RX6 ⟨"FairSeats$Purses", "begin", "(I)V"⟩ yX1_begin, Cond.methodLink RX8 100 yX6_cheapest, Cond.instanceMethod yX6_cheapest, Cond.selects RX6 yX6_cheapest yX6_cheapest]
def wsX10_more_r7 : List Cond := [Cond.initialized RX6, Cond.code yX6_cheapest cX6_cheapest 10 (some .int), Cond.fieldLink RX6 15 "FairSeats$Purses" "lower" "J", Cond.sameField "FairSeats$Purses" "FairSeats$Fractions" "lower" "J", Cond.fieldLink RX6 33 "FairSeats$Purses" "rest" "J", Cond.fieldLink RX6 36 "FairSeats$Purses" "payers" "I", Cond.methodLink RX6 9 yX3_total, Cond.instanceMethod yX3_total, Cond.selects RX3 yX3_total yX3_total, Cond.code yX3_total cX3_total 3 (some .int), Cond.methodLink RX6 21 yX3_telling, Cond.methodLink RX6 25 ⟨"FairSeats$Purses", "sumOf", "(LFairSeats$Heaps;I)J"⟩, Cond.sameMethod "FairSeats$Purses" "FairSeats$Fractions" "sumOf" "(LFairSeats$Heaps;I)J", Cond.selects RX6 ⟨"FairSeats$Purses", "sumOf", "(LFairSeats$Heaps;I)J"⟩ yX1_sumOf, Cond.methodLink RX6 29 yX6_price, Cond.instanceMethod yX6_price, Cond.selects RX6 yX6_price yX6_price, Cond.code yX6_price cX6_price 11 none, Cond.fieldLink RX6 40 "FairSeats$Heaps" "count" "I", Cond.fieldLink RX6 47 "FairSeats$Purses" "upper" "[J", Cond.sameField "FairSeats$Purses" "FairSeats$Fractions" "upper" "[J", Cond.fieldLink RX6 51 "FairSeats$Heaps" "papers" "[I", Cond.methodLink RX6 43 yX3_tells, Cond.methodLink RX8 103 yX6_pay]
def wsX10_more_r8 : List Cond := [Cond.instanceMethod yX6_pay, Cond.selects RX6 yX6_pay yX6_pay, Cond.code yX6_pay cX6_pay 4 none, Cond.methodLink RX6 59 Lib.MathLoose.max_long.x, Cond.static Lib.MathLoose.max_long.x, Cond.initialized "java/lang/Math", Cond.code Lib.MathLoose.max_long.x Lib.MathLoose.max_long.code 4 (some .long), Cond.methodLink RX6 55 ⟨"FairSeats$Purses", "widen", "(I)V"⟩, Cond.sameMethod "FairSeats$Purses" "FairSeats$Fractions" "widen" "(I)V", Cond.selects RX6 ⟨"FairSeats$Purses", "widen", "(I)V"⟩ yX1_widen, Cond.methodLink RX8 50 yX0_ofMostWorth, Cond.instanceMethod yX0_ofMostWorth, Cond.selects RX0 yX0_ofMostWorth yX0_ofMostWorth, Cond.code yX0_ofMostWorth cX0_ofMostWorth 6 (some .int), Cond.methodLink RX0 40 yX3_worthOf, Cond.methodLink RX8 56 yX8_take, Cond.instanceMethod yX8_take, Cond.selects RX8 yX8_take yX8_take, Cond.code yX8_take cX8_take 3 none, Cond.methodLink RX8 60 yX8_bySwaps, Cond.instanceMethod yX8_bySwaps, Cond.selects RX8 yX8_bySwaps yX8_bySwaps, Cond.code yX8_bySwaps cX8_bySwaps 6 none, Cond.methodLink RX8 106 yX8_bestSwap]
def wsX10_more_r9 : List Cond := [Cond.static yX8_bestSwap, Cond.code yX8_bestSwap cX8_bestSwap 8 (some .int)]
def wsX10_more : List Cond := .code yX10_more cX10_more 5 (some .int) :: ((wsX10_more_r1 ++ (wsX10_more_r2 ++ (wsX10_more_r3 ++ (wsX10_more_r4 ++ (wsX10_more_r5 ++ (wsX10_more_r6 ++ (wsX10_more_r7 ++ (wsX10_more_r8 ++ wsX10_more_r9)))))))) ++ wsX100 ++ wsX80 ++ wsX00 ++ wsX40 ++ wsX30 ++ wsX90 ++ wsX50 ++ wsX60)
def wsX10_turn_r1 : List Cond := [Cond.fieldLink RX10 45 "FairSeats" "lawful" "LFairSeats$Committees;", Cond.fieldLink RX10 38 "FairSeats" "lines" "LFairSeats$Lines;", Cond.fieldLink RX10 65 "FairSeats" "seatCount" "I", Cond.fieldLink RX10 25 "FairSeats" "trial" "LFairSeats$Heaps;", Cond.fieldLink RX10 21 "FairSeats" "heaps" "LFairSeats$Heaps;", Cond.fieldLink RX10 90 "FairSeats$Heaps" "papers" "[I", Cond.fieldLink RX10 61 "FairSeats" "ways" "LFairSeats$Ways;", Cond.methodLink RX10 134 yX10_isWay, Cond.static yX10_isWay, Cond.initialized RX10, Cond.code yX10_isWay cX10_isWay 1 (some .boolean), Cond.methodLink RX10 83 yX10_isHeap, Cond.instanceMethod yX10_isHeap, Cond.selects RX10 yX10_isHeap yX10_isHeap, Cond.code yX10_isHeap cX10_isHeap 2 (some .boolean), Cond.fieldLink RX10 76 "FairSeats$Heaps" "count" "I", Cond.methodLink RX10 205 yX0_gather, Cond.instanceMethod yX0_gather, Cond.selects RX0 yX0_gather yX0_gather, Cond.initialized RX0, Cond.code yX0_gather cX0_gather 4 none, Cond.fieldLink RX0 15 "FairSeats$Committees" "count" "I", Cond.fieldLink RX0 9 "FairSeats$Committees" "row" "[I", Cond.methodLink RX0 19 yJ6_bitCount_0f7a4]
def wsX10_turn_r2 : List Cond := [Cond.static yJ6_bitCount_0f7a4, Cond.initialized RJ6, Cond.code yJ6_bitCount_0f7a4 cJ6_bitCount_0f7a4 1 (some .int), Cond.constant RJ6 265 (1431655765), Cond.constant RJ6 266 (858993459), Cond.constant RJ6 267 (252645135), Cond.methodLink RX0 25 yX4_allow, Cond.instanceMethod yX4_allow, Cond.selects RX4 yX4_allow yX4_allow, Cond.initialized RX4, Cond.code yX4_allow cX4_allow 2 (some .boolean), Cond.methodLink RX4 44 yX4_firstBroken, Cond.instanceMethod yX4_firstBroken, Cond.selects RX4 yX4_firstBroken yX4_firstBroken, Cond.code yX4_firstBroken cX4_firstBroken 4 (some .int), Cond.fieldLink RX4 22 "FairSeats$Lines" "count" "I", Cond.fieldLink RX4 9 "FairSeats$Lines" "sets" "[I", Cond.fieldLink RX4 18 "FairSeats$Lines" "fewer" "[Z", Cond.fieldLink RX4 15 "FairSeats$Lines" "digits" "[I", Cond.methodLink RX4 38 yJ6_bitCount_0f7a4, Cond.methodLink RX10 215 yX3_copyOf, Cond.instanceMethod yX3_copyOf, Cond.selects RX3 yX3_copyOf yX3_copyOf, Cond.initialized RX3]
def wsX10_turn_r3 : List Cond := [Cond.code yX3_copyOf cX3_copyOf 3 none, Cond.fieldLink RX3 9 "FairSeats$Heaps" "sets" "[I", Cond.fieldLink RX3 15 "FairSeats$Heaps" "papers" "[I", Cond.fieldLink RX3 22 "FairSeats$Heaps" "count" "I", Cond.methodLink RX10 79 yX3_append, Cond.instanceMethod yX3_append, Cond.selects RX3 yX3_append yX3_append, Cond.code yX3_append cX3_append 3 none, Cond.methodLink RX10 219 yX8_run, Cond.instanceMethod yX8_run, Cond.selects RX8 yX8_run yX8_run, Cond.initialized RX8, Cond.code yX8_run cX8_run 4 none, Cond.fieldLink RX8 29 "FairSeats$Ways" "lawful" "LFairSeats$Committees;", Cond.methodLink RX8 33 yX8_clear, Cond.instanceMethod yX8_clear, Cond.selects RX8 yX8_clear yX8_clear, Cond.code yX8_clear cX8_clear 1 none, Cond.fieldLink RX8 67 "FairSeats$Ways" "count" "I", Cond.fieldLink RX8 63 "FairSeats$Ways" "chosen" "I", Cond.methodLink RX8 36 yX8_byHeads, Cond.instanceMethod yX8_byHeads, Cond.selects RX8 yX8_byHeads yX8_byHeads, Cond.code yX8_byHeads cX8_byHeads 8 none]
def wsX10_turn_r4 : List Cond := [Cond.methodLink RX8 73 yX8_holds, Cond.instanceMethod yX8_holds, Cond.selects RX8 yX8_holds yX8_holds, Cond.code yX8_holds cX8_holds 2 (some .boolean), Cond.methodLink RX8 77 yX3_telling, Cond.instanceMethod yX3_telling, Cond.selects RX3 yX3_telling yX3_telling, Cond.code yX3_telling cX3_telling 4 (some .int), Cond.methodLink RX3 26 yX3_tells, Cond.instanceMethod yX3_tells, Cond.selects RX3 yX3_tells yX3_tells, Cond.code yX3_tells cX3_tells 3 (some .boolean), Cond.methodLink RX8 70 yX8_add, Cond.instanceMethod yX8_add, Cond.selects RX8 yX8_add yX8_add, Cond.code yX8_add cX8_add 2 none, Cond.fieldLink RX8 25 "FairSeats$Ways" "order" "[I", Cond.methodLink RX8 40 yX8_byWorth, Cond.instanceMethod yX8_byWorth, Cond.selects RX8 yX8_byWorth yX8_byWorth, Cond.code yX8_byWorth cX8_byWorth 8 none, Cond.methodLink RX8 83 yX3_worthOf, Cond.instanceMethod yX3_worthOf, Cond.selects RX3 yX3_worthOf yX3_worthOf]
def wsX10_turn_r5 : List Cond := [Cond.code yX3_worthOf cX3_worthOf 4 (some .int), Cond.fieldLink RX3 18 "FairSeats$Heaps" "worths" "LFairSeats$Worths;", Cond.fieldLink RX3 30 "FairSeats$Worths" "together" "[I", Cond.methodLink RX3 35 yJ6_bitCount_0f7a4, Cond.methodLink RX8 43 yX8_byLoads, Cond.instanceMethod yX8_byLoads, Cond.selects RX8 yX8_byLoads yX8_byLoads, Cond.code yX8_byLoads cX8_byLoads 5 none, Cond.fieldLink RX8 12 "FairSeats$Ways" "loads" "LFairSeats$Loads;", Cond.methodLink RX8 86 ⟨"FairSeats$Loads", "begin", "(I)V"⟩, Cond.sameMethod "FairSeats$Loads" "FairSeats$Fractions" "begin" "(I)V", Cond.selects RX5 ⟨"FairSeats$Loads", "begin", "(I)V"⟩ yX1_begin, Cond.instanceMethod yX1_begin, Cond.initialized RX1, Cond.code yX1_begin cX1_begin 3 none, Cond.fieldLink RX1 9 "FairSeats$Fractions" "upper" "[J", Cond.fieldLink RX1 15 "FairSeats$Fractions" "lower" "J", Cond.methodLink RX8 89 yX5_lightest, Cond.instanceMethod yX5_lightest, Cond.selects RX5 yX5_lightest yX5_lightest, Cond.initialized RX5, Cond.code yX5_lightest cX5_lightest 12 (some .int), Cond.fieldLink RX5 15 "FairSeats$Loads" "lower" "J", Cond.sameField "FairSeats$Loads" "FairSeats$Fractions" "lower" "J"]
def wsX10_turn_r6 : List Cond := [Cond.methodLink RX5 9 yX3_telling, Cond.methodLink RX5 21 ⟨"FairSeats$Loads", "sumOf", "(LFairSeats$Heaps;I)J"⟩, Cond.sameMethod "FairSeats$Loads" "FairSeats$Fractions" "sumOf" "(LFairSeats$Heaps;I)J", Cond.selects RX5 ⟨"FairSeats$Loads", "sumOf", "(LFairSeats$Heaps;I)J"⟩ yX1_sumOf, Cond.instanceMethod yX1_sumOf, Cond.code yX1_sumOf cX1_sumOf 6 (some .long), Cond.fieldLink RX1 19 "FairSeats$Heaps" "count" "I", Cond.fieldLink RX1 29 "FairSeats$Heaps" "papers" "[I", Cond.methodLink RX1 25 yX3_tells, Cond.methodLink RX8 93 yX5_bear, Cond.instanceMethod yX5_bear, Cond.selects RX5 yX5_bear yX5_bear, Cond.code yX5_bear cX5_bear 7 none, Cond.fieldLink RX5 29 "FairSeats$Heaps" "count" "I", Cond.fieldLink RX5 37 "FairSeats$Loads" "upper" "[J", Cond.sameField "FairSeats$Loads" "FairSeats$Fractions" "upper" "[J", Cond.methodLink RX5 25 ⟨"FairSeats$Loads", "widen", "(I)V"⟩, Cond.sameMethod "FairSeats$Loads" "FairSeats$Fractions" "widen" "(I)V", Cond.selects RX5 ⟨"FairSeats$Loads", "widen", "(I)V"⟩ yX1_widen, Cond.instanceMethod yX1_widen, Cond.code yX1_widen cX1_widen 3 none, Cond.methodLink RX5 33 yX3_tells, Cond.methodLink RX8 46 yX8_byPurses, Cond.instanceMethod yX8_byPurses]
def wsX10_turn_r7 : List Cond := [Cond.selects RX8 yX8_byPurses yX8_byPurses, Cond.code yX8_byPurses cX8_byPurses 6 none, Cond.fieldLink RX8 21 "FairSeats$Ways" "purses" "LFairSeats$Purses;", Cond.fieldLink RX8 97 "FairSeats$Ways" "paidCount" "I", Cond.methodLink RX8 96 ⟨"FairSeats$Purses", "begin", "(I)V"⟩, Cond.sameMethod "FairSeats$Purses" "FairSeats$Fractions" "begin" "(I)V", Cond.selects RX6 ⟨"FairSeats$Purses", "begin", "(I)V"⟩ yX1_begin, Cond.methodLink RX8 100 yX6_cheapest, Cond.instanceMethod yX6_cheapest, Cond.selects RX6 yX6_cheapest yX6_cheapest, Cond.initialized RX6, Cond.code yX6_cheapest cX6_cheapest 10 (some .int), Cond.fieldLink RX6 15 "FairSeats$Purses" "lower" "J", Cond.sameField "FairSeats$Purses" "FairSeats$Fractions" "lower" "J", Cond.fieldLink RX6 33 "FairSeats$Purses" "rest" "J", Cond.fieldLink RX6 36 "FairSeats$Purses" "payers" "I", Cond.methodLink RX6 9 yX3_total, Cond.instanceMethod yX3_total, Cond.selects RX3 yX3_total yX3_total, Cond.code yX3_total cX3_total 3 (some .int), Cond.methodLink RX6 21 yX3_telling, Cond.methodLink RX6 25 ⟨"FairSeats$Purses", "sumOf", "(LFairSeats$Heaps;I)J"⟩, Cond.sameMethod "FairSeats$Purses" "FairSeats$Fractions" "sumOf" "(LFairSeats$Heaps;I)J", Cond.selects RX6 ⟨"FairSeats$Purses", "sumOf", "(LFairSeats$Heaps;I)J"⟩ yX1_sumOf]
def wsX10_turn_r8 : List Cond := [Cond.methodLink RX6 29 yX6_price, Cond.instanceMethod yX6_price, Cond.selects RX6 yX6_price yX6_price, Cond.code yX6_price cX6_price 11 none, Cond.fieldLink RX6 40 "FairSeats$Heaps" "count" "I", Cond.fieldLink RX6 47 "FairSeats$Purses" "upper" "[J", Cond.sameField "FairSeats$Purses" "FairSeats$Fractions" "upper" "[J", Cond.fieldLink RX6 51 "FairSeats$Heaps" "papers" "[I", Cond.methodLink RX6 43 yX3_tells, Cond.methodLink RX8 103 yX6_pay, Cond.instanceMethod yX6_pay, Cond.selects RX6 yX6_pay yX6_pay, Cond.code yX6_pay cX6_pay 4 none, Cond.methodLink RX6 59 Lib.MathLoose.max_long.x, Cond.static Lib.MathLoose.max_long.x, Cond.initialized "java/lang/Math", Cond.code Lib.MathLoose.max_long.x Lib.MathLoose.max_long.code 4 (some .long), Cond.methodLink RX6 55 ⟨"FairSeats$Purses", "widen", "(I)V"⟩, Cond.sameMethod "FairSeats$Purses" "FairSeats$Fractions" "widen" "(I)V", Cond.selects RX6 ⟨"FairSeats$Purses", "widen", "(I)V"⟩ yX1_widen, Cond.methodLink RX8 50 yX0_ofMostWorth, Cond.instanceMethod yX0_ofMostWorth, Cond.selects RX0 yX0_ofMostWorth yX0_ofMostWorth, Cond.code yX0_ofMostWorth cX0_ofMostWorth 6 (some .int)]
def wsX10_turn_r9 : List Cond := [Cond.methodLink RX0 40 yX3_worthOf, Cond.methodLink RX8 56 yX8_take, Cond.instanceMethod yX8_take, Cond.selects RX8 yX8_take yX8_take, Cond.code yX8_take cX8_take 3 none, Cond.methodLink RX8 60 yX8_bySwaps, Cond.instanceMethod yX8_bySwaps, Cond.selects RX8 yX8_bySwaps yX8_bySwaps, Cond.code yX8_bySwaps cX8_bySwaps 6 none, Cond.methodLink RX8 106 yX8_bestSwap, Cond.static yX8_bestSwap, Cond.code yX8_bestSwap cX8_bestSwap 8 (some .int), Cond.methodLink RX10 223 yX8_holds, Cond.methodLink RX10 226 yX3_moveToLast, Cond.instanceMethod yX3_moveToLast, Cond.selects RX3 yX3_moveToLast yX3_moveToLast, Cond.code yX3_moveToLast cX3_moveToLast 2 none]
def wsX10_turn : List Cond := .code yX10_turn cX10_turn 6 (some .int) :: ((wsX10_turn_r1 ++ (wsX10_turn_r2 ++ (wsX10_turn_r3 ++ (wsX10_turn_r4 ++ (wsX10_turn_r5 ++ (wsX10_turn_r6 ++ (wsX10_turn_r7 ++ (wsX10_turn_r8 ++ wsX10_turn_r9)))))))) ++ wsX100 ++ wsX30 ++ wsX00 ++ wsX40 ++ wsX80 ++ wsX90 ++ wsX50 ++ wsX60)
def wsX10_told : List Cond := .code yX10_told cX10_told 2 (some .int) :: ([.fieldLink RX10 10 "FairSeats" "worths" "LFairSeats$Worths;", .fieldLink RX10 97 "FairSeats$Worths" "each" "[I", .fieldLink RX10 21 "FairSeats" "heaps" "LFairSeats$Heaps;", .fieldLink RX10 90 "FairSeats$Heaps" "papers" "[I", .fieldLink RX10 86 "FairSeats$Heaps" "sets" "[I", .fieldLink RX10 76 "FairSeats$Heaps" "count" "I", .fieldLink RX10 65 "FairSeats" "seatCount" "I", .fieldLink RX10 31 "FairSeats" "text" "LFairSeats$Text;", .fieldLink RX10 103 "FairSeats$Text" "length" "I", .fieldLink RX10 38 "FairSeats" "lines" "LFairSeats$Lines;", .fieldLink RX10 117 "FairSeats$Lines" "count" "I", .methodLink RX10 83 yX10_isHeap, .instanceMethod yX10_isHeap, .selects RX10 yX10_isHeap yX10_isHeap, .initialized RX10, .code yX10_isHeap cX10_isHeap 2 (some .boolean), .methodLink RX10 229 yX3_total, .instanceMethod yX3_total, .selects RX3 yX3_total yX3_total, .initialized RX3, .code yX3_total cX3_total 3 (some .int), .fieldLink RX3 22 "FairSeats$Heaps" "count" "I", .fieldLink RX3 15 "FairSeats$Heaps" "papers" "[I"] ++ wsX100 ++ wsX90 ++ wsX30 ++ wsX70 ++ wsX40)
def wsX11_init : List Cond := .code yX11_init cX11_init 1 none :: ([.methodLink RX11 1 objectInit, .instanceMethod objectInit, .code objectInit ⟨#[0xb1]⟩ 1 none, .arrayClass .int, .fieldLink RX11 7 "FairSeatsModel" "sets" "[I", .fieldLink RX11 13 "FairSeatsModel" "papers" "[I", .fieldLink RX11 16 "FairSeatsModel" "seats" "I", .fieldLink RX11 20 "FairSeatsModel" "worths" "[I", .fieldLink RX11 23 "FairSeatsModel" "sign" "[I", .fieldLink RX11 26 "FairSeatsModel" "hallSign" "[I", .fieldLink RX11 29 "FairSeatsModel" "chosen" "[I", .arrayClass .long, .fieldLink RX11 32 "FairSeatsModel" "upper" "[J", .fieldLink RX11 36 "FairSeatsModel" "lower" "[J"] ++ wsX110)
def wsX11_in : List Cond := .code yX11_in cX11_in 3 (some .boolean) :: ([])
def wsX11_bits : List Cond := .code yX11_bits cX11_bits 3 (some .int) :: ([])
def wsX11_isHeap : List Cond := .code yX11_isHeap cX11_isHeap 2 (some .boolean) :: ([.fieldLink RX11 39 "FairSeatsModel" "heaps" "I", .methodLink RX11 42 yX11_in, .static yX11_in, .initialized RX11, .code yX11_in cX11_in 3 (some .boolean)] ++ wsX110)
def wsX11_heap : List Cond := .code yX11_heap cX11_heap 3 (some .int) :: ([.fieldLink RX11 39 "FairSeatsModel" "heaps" "I", .fieldLink RX11 7 "FairSeatsModel" "sets" "[I", .fieldLink RX11 13 "FairSeatsModel" "papers" "[I", .methodLink RX11 42 yX11_in, .static yX11_in, .initialized RX11, .code yX11_in cX11_in 3 (some .boolean)] ++ wsX110)
def wsX11_change : List Cond := .code yX11_change cX11_change 5 (some .int) :: ([.fieldLink RX11 7 "FairSeatsModel" "sets" "[I", .fieldLink RX11 13 "FairSeatsModel" "papers" "[I", .methodLink RX11 46 yX11_isHeap, .instanceMethod yX11_isHeap, .selects RX11 yX11_isHeap yX11_isHeap, .initialized RX11, .code yX11_isHeap cX11_isHeap 2 (some .boolean), .fieldLink RX11 39 "FairSeatsModel" "heaps" "I", .methodLink RX11 42 yX11_in, .static yX11_in, .code yX11_in cX11_in 3 (some .boolean)] ++ wsX110)
def wsX11_drop : List Cond := .code yX11_drop cX11_drop 1 (some .int) :: ([.fieldLink RX11 39 "FairSeatsModel" "heaps" "I"] ++ wsX110)
def wsX11_seats : List Cond := .code yX11_seats cX11_seats 3 (some .int) :: ([.fieldLink RX11 16 "FairSeatsModel" "seats" "I", .methodLink RX11 42 yX11_in, .static yX11_in, .initialized RX11, .code yX11_in cX11_in 3 (some .boolean)] ++ wsX110)
def wsX11_worth : List Cond := .code yX11_worth cX11_worth 4 (some .int) :: ([.fieldLink RX11 20 "FairSeatsModel" "worths" "[I", .methodLink RX11 42 yX11_in, .static yX11_in, .initialized RX11, .code yX11_in cX11_in 3 (some .boolean)] ++ wsX110)
def wsX11_say : List Cond := .code yX11_say cX11_say 2 (some .int) :: ([.fieldLink RX11 50 "FairSeatsModel" "signs" "I", .fieldLink RX11 23 "FairSeatsModel" "sign" "[I", .methodLink RX11 42 yX11_in, .static yX11_in, .initialized RX11, .code yX11_in cX11_in 3 (some .boolean)] ++ wsX110)
def wsX11_wipe : List Cond := .code yX11_wipe cX11_wipe 2 (some .int) :: ([.fieldLink RX11 50 "FairSeatsModel" "signs" "I"] ++ wsX110)
def wsX11_faultOf : List Cond := .code yX11_faultOf cX11_faultOf 7 (some .int) :: ([.fieldLink RX11 50 "FairSeatsModel" "signs" "I", .fieldLink RX11 23 "FairSeatsModel" "sign" "[I", .methodLink RX11 42 yX11_in, .static yX11_in, .initialized RX11, .code yX11_in cX11_in 3 (some .boolean)] ++ wsX110)
def wsX11_fault : List Cond := .code yX11_fault cX11_fault 1 (some .int) :: ([.methodLink RX11 53 yX11_faultOf, .instanceMethod yX11_faultOf, .selects RX11 yX11_faultOf yX11_faultOf, .initialized RX11, .code yX11_faultOf cX11_faultOf 7 (some .int), .fieldLink RX11 50 "FairSeatsModel" "signs" "I", .fieldLink RX11 23 "FairSeatsModel" "sign" "[I", .methodLink RX11 42 yX11_in, .static yX11_in, .code yX11_in cX11_in 3 (some .boolean)] ++ wsX110)
def wsX11_hall : List Cond := .code yX11_hall cX11_hall 2 (some .int) :: ([.fieldLink RX11 50 "FairSeatsModel" "signs" "I", .fieldLink RX11 57 "FairSeatsModel" "hallMany" "I", .fieldLink RX11 26 "FairSeatsModel" "hallSign" "[I", .fieldLink RX11 23 "FairSeatsModel" "sign" "[I", .methodLink RX11 53 yX11_faultOf, .instanceMethod yX11_faultOf, .selects RX11 yX11_faultOf yX11_faultOf, .initialized RX11, .code yX11_faultOf cX11_faultOf 7 (some .int), .methodLink RX11 42 yX11_in, .static yX11_in, .code yX11_in cX11_in 3 (some .boolean)] ++ wsX110)
def wsX11_open : List Cond := .code yX11_open cX11_open 2 (some .int) :: ([.fieldLink RX11 57 "FairSeatsModel" "hallMany" "I"] ++ wsX110)
def wsX11_barOf : List Cond := .code yX11_barOf cX11_barOf 8 (some .int) :: ([.fieldLink RX11 57 "FairSeatsModel" "hallMany" "I", .fieldLink RX11 26 "FairSeatsModel" "hallSign" "[I", .methodLink RX11 42 yX11_in, .static yX11_in, .initialized RX11, .code yX11_in cX11_in 3 (some .boolean), .methodLink RX11 60 yX11_bits, .static yX11_bits, .code yX11_bits cX11_bits 3 (some .int)] ++ wsX110)
def wsX11_worthOf : List Cond := .code yX11_worthOf cX11_worthOf 6 (some .int) :: ([.fieldLink RX11 39 "FairSeatsModel" "heaps" "I", .fieldLink RX11 7 "FairSeatsModel" "sets" "[I", .fieldLink RX11 13 "FairSeatsModel" "papers" "[I", .fieldLink RX11 20 "FairSeatsModel" "worths" "[I", .methodLink RX11 60 yX11_bits, .static yX11_bits, .initialized RX11, .code yX11_bits cX11_bits 3 (some .int)] ++ wsX110)
def wsX11_wronged : List Cond := .code yX11_wronged cX11_wronged 4 (some .int) :: ([.fieldLink RX11 39 "FairSeatsModel" "heaps" "I", .fieldLink RX11 7 "FairSeatsModel" "sets" "[I", .fieldLink RX11 13 "FairSeatsModel" "papers" "[I"] ++ wsX110)
def wsX11_isCommittee : List Cond := .code yX11_isCommittee cX11_isCommittee 2 (some .boolean) :: ([.fieldLink RX11 16 "FairSeatsModel" "seats" "I", .methodLink RX11 42 yX11_in, .static yX11_in, .initialized RX11, .code yX11_in cX11_in 3 (some .boolean), .methodLink RX11 60 yX11_bits, .static yX11_bits, .code yX11_bits cX11_bits 3 (some .int)] ++ wsX110)
def wsX11_of_r1 : List Cond := [Cond.methodLink RX11 64 yX11_isCommittee, Cond.instanceMethod yX11_isCommittee, Cond.selects RX11 yX11_isCommittee yX11_isCommittee, Cond.initialized RX11, Cond.code yX11_isCommittee cX11_isCommittee 2 (some .boolean), Cond.fieldLink RX11 16 "FairSeatsModel" "seats" "I", Cond.methodLink RX11 42 yX11_in, Cond.static yX11_in, Cond.code yX11_in cX11_in 3 (some .boolean), Cond.methodLink RX11 60 yX11_bits, Cond.static yX11_bits, Cond.code yX11_bits cX11_bits 3 (some .int), Cond.methodLink RX11 67 yX11_barOf, Cond.instanceMethod yX11_barOf, Cond.selects RX11 yX11_barOf yX11_barOf, Cond.code yX11_barOf cX11_barOf 8 (some .int), Cond.fieldLink RX11 57 "FairSeatsModel" "hallMany" "I", Cond.fieldLink RX11 26 "FairSeatsModel" "hallSign" "[I", Cond.methodLink RX11 70 yX11_worthOf, Cond.instanceMethod yX11_worthOf, Cond.selects RX11 yX11_worthOf yX11_worthOf, Cond.code yX11_worthOf cX11_worthOf 6 (some .int), Cond.fieldLink RX11 39 "FairSeatsModel" "heaps" "I", Cond.fieldLink RX11 7 "FairSeatsModel" "sets" "[I"]
def wsX11_of_r2 : List Cond := [Cond.fieldLink RX11 13 "FairSeatsModel" "papers" "[I", Cond.fieldLink RX11 20 "FairSeatsModel" "worths" "[I", Cond.methodLink RX11 73 yX11_wronged, Cond.instanceMethod yX11_wronged, Cond.selects RX11 yX11_wronged yX11_wronged, Cond.code yX11_wronged cX11_wronged 4 (some .int)]
def wsX11_of : List Cond := .code yX11_of cX11_of 3 (some .int) :: ((wsX11_of_r1 ++ wsX11_of_r2) ++ wsX110)
def wsX11_allPapers : List Cond := .code yX11_allPapers cX11_allPapers 3 (some .int) :: ([.fieldLink RX11 39 "FairSeatsModel" "heaps" "I", .fieldLink RX11 13 "FairSeatsModel" "papers" "[I"] ++ wsX110)
def wsX11_papersOf : List Cond := .code yX11_papersOf cX11_papersOf 4 (some .int) :: ([.fieldLink RX11 39 "FairSeatsModel" "heaps" "I", .fieldLink RX11 7 "FairSeatsModel" "sets" "[I", .fieldLink RX11 13 "FairSeatsModel" "papers" "[I"] ++ wsX110)
def wsX11_pick : List Cond := .code yX11_pick cX11_pick 3 none :: ([.fieldLink RX11 29 "FairSeatsModel" "chosen" "[I", .fieldLink RX11 76 "FairSeatsModel" "chosenSet" "I"] ++ wsX110)
def wsX11_isLeft : List Cond := .code yX11_isLeft cX11_isLeft 2 (some .boolean) :: ([.fieldLink RX11 76 "FairSeatsModel" "chosenSet" "I"] ++ wsX110)
def wsX11_mostOf : List Cond := .code yX11_mostOf cX11_mostOf 3 (some .int) :: ([.methodLink RX11 79 yX11_isLeft, .instanceMethod yX11_isLeft, .selects RX11 yX11_isLeft yX11_isLeft, .initialized RX11, .code yX11_isLeft cX11_isLeft 2 (some .boolean), .fieldLink RX11 76 "FairSeatsModel" "chosenSet" "I", .methodLink RX11 82 yX11_papersOf, .instanceMethod yX11_papersOf, .selects RX11 yX11_papersOf yX11_papersOf, .code yX11_papersOf cX11_papersOf 4 (some .int), .fieldLink RX11 39 "FairSeatsModel" "heaps" "I", .fieldLink RX11 7 "FairSeatsModel" "sets" "[I", .fieldLink RX11 13 "FairSeatsModel" "papers" "[I"] ++ wsX110)
def wsX11_greedyOf : List Cond := .code yX11_greedyOf cX11_greedyOf 3 (some .int) :: ([.fieldLink RX11 76 "FairSeatsModel" "chosenSet" "I", .methodLink RX11 79 yX11_isLeft, .instanceMethod yX11_isLeft, .selects RX11 yX11_isLeft yX11_isLeft, .initialized RX11, .code yX11_isLeft cX11_isLeft 2 (some .boolean), .methodLink RX11 70 yX11_worthOf, .instanceMethod yX11_worthOf, .selects RX11 yX11_worthOf yX11_worthOf, .code yX11_worthOf cX11_worthOf 6 (some .int), .fieldLink RX11 39 "FairSeatsModel" "heaps" "I", .fieldLink RX11 7 "FairSeatsModel" "sets" "[I", .fieldLink RX11 13 "FairSeatsModel" "papers" "[I", .fieldLink RX11 20 "FairSeatsModel" "worths" "[I", .methodLink RX11 60 yX11_bits, .static yX11_bits, .code yX11_bits cX11_bits 3 (some .int)] ++ wsX110)
def wsX11_carry : List Cond := .code yX11_carry cX11_carry 5 none :: ([.fieldLink RX11 36 "FairSeatsModel" "lower" "[J", .fieldLink RX11 32 "FairSeatsModel" "upper" "[J"] ++ wsX110)
def wsX11_loadOne_r1 : List Cond := [Cond.fieldLink RX11 36 "FairSeatsModel" "lower" "[J", Cond.fieldLink RX11 39 "FairSeatsModel" "heaps" "I", Cond.fieldLink RX11 7 "FairSeatsModel" "sets" "[I", Cond.fieldLink RX11 13 "FairSeatsModel" "papers" "[I", Cond.fieldLink RX11 32 "FairSeatsModel" "upper" "[J", Cond.methodLink RX11 82 yX11_papersOf, Cond.instanceMethod yX11_papersOf, Cond.selects RX11 yX11_papersOf yX11_papersOf, Cond.initialized RX11, Cond.code yX11_papersOf cX11_papersOf 4 (some .int), Cond.methodLink RX11 79 yX11_isLeft, Cond.instanceMethod yX11_isLeft, Cond.selects RX11 yX11_isLeft yX11_isLeft, Cond.code yX11_isLeft cX11_isLeft 2 (some .boolean), Cond.fieldLink RX11 76 "FairSeatsModel" "chosenSet" "I", Cond.methodLink RX11 85 yX11_carry, Cond.instanceMethod yX11_carry, Cond.selects RX11 yX11_carry yX11_carry, Cond.code yX11_carry cX11_carry 5 none, Cond.methodLink RX11 89 yX11_mostOf, Cond.instanceMethod yX11_mostOf, Cond.selects RX11 yX11_mostOf yX11_mostOf, Cond.code yX11_mostOf cX11_mostOf 3 (some .int), Cond.methodLink RX11 92 yX11_pick]
def wsX11_loadOne_r2 : List Cond := [Cond.instanceMethod yX11_pick, Cond.selects RX11 yX11_pick yX11_pick, Cond.code yX11_pick cX11_pick 3 none, Cond.fieldLink RX11 29 "FairSeatsModel" "chosen" "[I"]
def wsX11_loadOne : List Cond := .code yX11_loadOne cX11_loadOne 13 none :: ((wsX11_loadOne_r1 ++ wsX11_loadOne_r2) ++ wsX110)
def wsX11_layRho : List Cond := .code yX11_layRho cX11_layRho 12 (some .boolean) :: ([.fieldLink RX11 36 "FairSeatsModel" "lower" "[J", .fieldLink RX11 39 "FairSeatsModel" "heaps" "I", .fieldLink RX11 7 "FairSeatsModel" "sets" "[I", .fieldLink RX11 13 "FairSeatsModel" "papers" "[I", .fieldLink RX11 32 "FairSeatsModel" "upper" "[J", .fieldLink RX11 99 "FairSeatsModel" "rhoUp" "J", .fieldLink RX11 103 "FairSeatsModel" "rhoBy" "J", .methodLink RX11 96 yX11_allPapers, .instanceMethod yX11_allPapers, .selects RX11 yX11_allPapers yX11_allPapers, .initialized RX11, .code yX11_allPapers cX11_allPapers 3 (some .int), .methodLink RX11 82 yX11_papersOf, .instanceMethod yX11_papersOf, .selects RX11 yX11_papersOf yX11_papersOf, .code yX11_papersOf cX11_papersOf 4 (some .int)] ++ wsX110)
def wsX11_share_r1 : List Cond := [Cond.fieldLink RX11 99 "FairSeatsModel" "rhoUp" "J", Cond.fieldLink RX11 103 "FairSeatsModel" "rhoBy" "J", Cond.fieldLink RX11 39 "FairSeatsModel" "heaps" "I", Cond.fieldLink RX11 7 "FairSeatsModel" "sets" "[I", Cond.fieldLink RX11 32 "FairSeatsModel" "upper" "[J", Cond.fieldLink RX11 110 "FairSeatsModel" "paidSeats" "I", Cond.methodLink RX11 79 yX11_isLeft, Cond.instanceMethod yX11_isLeft, Cond.selects RX11 yX11_isLeft yX11_isLeft, Cond.initialized RX11, Cond.code yX11_isLeft cX11_isLeft 2 (some .boolean), Cond.fieldLink RX11 76 "FairSeatsModel" "chosenSet" "I", Cond.methodLink RX11 106 yX11_layRho, Cond.instanceMethod yX11_layRho, Cond.selects RX11 yX11_layRho yX11_layRho, Cond.code yX11_layRho cX11_layRho 12 (some .boolean), Cond.fieldLink RX11 36 "FairSeatsModel" "lower" "[J", Cond.fieldLink RX11 13 "FairSeatsModel" "papers" "[I", Cond.methodLink RX11 96 yX11_allPapers, Cond.instanceMethod yX11_allPapers, Cond.selects RX11 yX11_allPapers yX11_allPapers, Cond.code yX11_allPapers cX11_allPapers 3 (some .int), Cond.methodLink RX11 82 yX11_papersOf, Cond.instanceMethod yX11_papersOf]
def wsX11_share_r2 : List Cond := [Cond.selects RX11 yX11_papersOf yX11_papersOf, Cond.code yX11_papersOf cX11_papersOf 4 (some .int), Cond.methodLink RX11 85 yX11_carry, Cond.instanceMethod yX11_carry, Cond.selects RX11 yX11_carry yX11_carry, Cond.code yX11_carry cX11_carry 5 none, Cond.methodLink RX11 89 yX11_mostOf, Cond.instanceMethod yX11_mostOf, Cond.selects RX11 yX11_mostOf yX11_mostOf, Cond.code yX11_mostOf cX11_mostOf 3 (some .int), Cond.methodLink RX11 92 yX11_pick, Cond.instanceMethod yX11_pick, Cond.selects RX11 yX11_pick yX11_pick, Cond.code yX11_pick cX11_pick 3 none, Cond.fieldLink RX11 29 "FairSeatsModel" "chosen" "[I"]
def wsX11_share : List Cond := .code yX11_share cX11_share 10 none :: ((wsX11_share_r1 ++ wsX11_share_r2) ++ wsX110)
def wsX11_bestOf : List Cond := .code yX11_bestOf cX11_bestOf 4 (some .int) :: ([.fieldLink RX11 16 "FairSeatsModel" "seats" "I", .methodLink RX11 60 yX11_bits, .static yX11_bits, .initialized RX11, .code yX11_bits cX11_bits 3 (some .int), .methodLink RX11 70 yX11_worthOf, .instanceMethod yX11_worthOf, .selects RX11 yX11_worthOf yX11_worthOf, .code yX11_worthOf cX11_worthOf 6 (some .int), .fieldLink RX11 39 "FairSeatsModel" "heaps" "I", .fieldLink RX11 7 "FairSeatsModel" "sets" "[I", .fieldLink RX11 13 "FairSeatsModel" "papers" "[I", .fieldLink RX11 20 "FairSeatsModel" "worths" "[I", .methodLink RX11 67 yX11_barOf, .instanceMethod yX11_barOf, .selects RX11 yX11_barOf yX11_barOf, .code yX11_barOf cX11_barOf 8 (some .int), .fieldLink RX11 57 "FairSeatsModel" "hallMany" "I", .fieldLink RX11 26 "FairSeatsModel" "hallSign" "[I", .methodLink RX11 42 yX11_in, .static yX11_in, .code yX11_in cX11_in 3 (some .boolean)] ++ wsX110)
def wsX11_mend : List Cond := .code yX11_mend cX11_mend 6 none :: ([.fieldLink RX11 76 "FairSeatsModel" "chosenSet" "I", .methodLink RX11 79 yX11_isLeft, .instanceMethod yX11_isLeft, .selects RX11 yX11_isLeft yX11_isLeft, .initialized RX11, .code yX11_isLeft cX11_isLeft 2 (some .boolean), .methodLink RX11 70 yX11_worthOf, .instanceMethod yX11_worthOf, .selects RX11 yX11_worthOf yX11_worthOf, .code yX11_worthOf cX11_worthOf 6 (some .int), .fieldLink RX11 39 "FairSeatsModel" "heaps" "I", .fieldLink RX11 7 "FairSeatsModel" "sets" "[I", .fieldLink RX11 13 "FairSeatsModel" "papers" "[I", .fieldLink RX11 20 "FairSeatsModel" "worths" "[I", .methodLink RX11 60 yX11_bits, .static yX11_bits, .code yX11_bits cX11_bits 3 (some .int)] ++ wsX110)
def wsX11_layWay_r1 : List Cond := [Cond.fieldLink RX11 76 "FairSeatsModel" "chosenSet" "I", Cond.fieldLink RX11 110 "FairSeatsModel" "paidSeats" "I", Cond.fieldLink RX11 36 "FairSeatsModel" "lower" "[J", Cond.fieldLink RX11 32 "FairSeatsModel" "upper" "[J", Cond.fieldLink RX11 16 "FairSeatsModel" "seats" "I", Cond.methodLink RX11 89 yX11_mostOf, Cond.instanceMethod yX11_mostOf, Cond.selects RX11 yX11_mostOf yX11_mostOf, Cond.initialized RX11, Cond.code yX11_mostOf cX11_mostOf 3 (some .int), Cond.methodLink RX11 79 yX11_isLeft, Cond.instanceMethod yX11_isLeft, Cond.selects RX11 yX11_isLeft yX11_isLeft, Cond.code yX11_isLeft cX11_isLeft 2 (some .boolean), Cond.methodLink RX11 82 yX11_papersOf, Cond.instanceMethod yX11_papersOf, Cond.selects RX11 yX11_papersOf yX11_papersOf, Cond.code yX11_papersOf cX11_papersOf 4 (some .int), Cond.fieldLink RX11 39 "FairSeatsModel" "heaps" "I", Cond.fieldLink RX11 7 "FairSeatsModel" "sets" "[I", Cond.fieldLink RX11 13 "FairSeatsModel" "papers" "[I", Cond.methodLink RX11 92 yX11_pick, Cond.instanceMethod yX11_pick, Cond.selects RX11 yX11_pick yX11_pick]
def wsX11_layWay_r2 : List Cond := [Cond.code yX11_pick cX11_pick 3 none, Cond.fieldLink RX11 29 "FairSeatsModel" "chosen" "[I", Cond.methodLink RX11 113 yX11_greedyOf, Cond.instanceMethod yX11_greedyOf, Cond.selects RX11 yX11_greedyOf yX11_greedyOf, Cond.code yX11_greedyOf cX11_greedyOf 3 (some .int), Cond.methodLink RX11 70 yX11_worthOf, Cond.instanceMethod yX11_worthOf, Cond.selects RX11 yX11_worthOf yX11_worthOf, Cond.code yX11_worthOf cX11_worthOf 6 (some .int), Cond.fieldLink RX11 20 "FairSeatsModel" "worths" "[I", Cond.methodLink RX11 60 yX11_bits, Cond.static yX11_bits, Cond.code yX11_bits cX11_bits 3 (some .int), Cond.methodLink RX11 116 yX11_loadOne, Cond.instanceMethod yX11_loadOne, Cond.selects RX11 yX11_loadOne yX11_loadOne, Cond.code yX11_loadOne cX11_loadOne 13 none, Cond.methodLink RX11 85 yX11_carry, Cond.instanceMethod yX11_carry, Cond.selects RX11 yX11_carry yX11_carry, Cond.code yX11_carry cX11_carry 5 none, Cond.methodLink RX11 120 yX11_share, Cond.instanceMethod yX11_share]
def wsX11_layWay_r3 : List Cond := [Cond.selects RX11 yX11_share yX11_share, Cond.code yX11_share cX11_share 10 none, Cond.fieldLink RX11 99 "FairSeatsModel" "rhoUp" "J", Cond.fieldLink RX11 103 "FairSeatsModel" "rhoBy" "J", Cond.methodLink RX11 106 yX11_layRho, Cond.instanceMethod yX11_layRho, Cond.selects RX11 yX11_layRho yX11_layRho, Cond.code yX11_layRho cX11_layRho 12 (some .boolean), Cond.methodLink RX11 96 yX11_allPapers, Cond.instanceMethod yX11_allPapers, Cond.selects RX11 yX11_allPapers yX11_allPapers, Cond.code yX11_allPapers cX11_allPapers 3 (some .int), Cond.methodLink RX11 123 yX11_bestOf, Cond.instanceMethod yX11_bestOf, Cond.selects RX11 yX11_bestOf yX11_bestOf, Cond.code yX11_bestOf cX11_bestOf 4 (some .int), Cond.methodLink RX11 67 yX11_barOf, Cond.instanceMethod yX11_barOf, Cond.selects RX11 yX11_barOf yX11_barOf, Cond.code yX11_barOf cX11_barOf 8 (some .int), Cond.fieldLink RX11 57 "FairSeatsModel" "hallMany" "I", Cond.fieldLink RX11 26 "FairSeatsModel" "hallSign" "[I", Cond.methodLink RX11 42 yX11_in, Cond.static yX11_in]
def wsX11_layWay_r4 : List Cond := [Cond.code yX11_in cX11_in 3 (some .boolean), Cond.methodLink RX11 126 yX11_mend, Cond.instanceMethod yX11_mend, Cond.selects RX11 yX11_mend yX11_mend, Cond.code yX11_mend cX11_mend 6 none]
def wsX11_layWay : List Cond := .code yX11_layWay cX11_layWay 3 none :: ((wsX11_layWay_r1 ++ (wsX11_layWay_r2 ++ (wsX11_layWay_r3 ++ wsX11_layWay_r4))) ++ wsX110)
def wsX11_isWay : List Cond := .code yX11_isWay cX11_isWay 1 (some .boolean) :: ([.methodLink RX11 42 yX11_in, .static yX11_in, .initialized RX11, .code yX11_in cX11_in 3 (some .boolean)])
def wsX11_nth : List Cond := .code yX11_nth cX11_nth 4 (some .int) :: ([])
def wsX11_choose_r1 : List Cond := [Cond.fieldLink RX11 76 "FairSeatsModel" "chosenSet" "I", Cond.fieldLink RX11 16 "FairSeatsModel" "seats" "I", Cond.fieldLink RX11 29 "FairSeatsModel" "chosen" "[I", Cond.methodLink RX11 129 yX11_isWay, Cond.static yX11_isWay, Cond.initialized RX11, Cond.code yX11_isWay cX11_isWay 1 (some .boolean), Cond.methodLink RX11 42 yX11_in, Cond.static yX11_in, Cond.code yX11_in cX11_in 3 (some .boolean), Cond.methodLink RX11 132 yX11_layWay, Cond.instanceMethod yX11_layWay, Cond.selects RX11 yX11_layWay yX11_layWay, Cond.code yX11_layWay cX11_layWay 3 none, Cond.fieldLink RX11 110 "FairSeatsModel" "paidSeats" "I", Cond.fieldLink RX11 36 "FairSeatsModel" "lower" "[J", Cond.fieldLink RX11 32 "FairSeatsModel" "upper" "[J", Cond.methodLink RX11 89 yX11_mostOf, Cond.instanceMethod yX11_mostOf, Cond.selects RX11 yX11_mostOf yX11_mostOf, Cond.code yX11_mostOf cX11_mostOf 3 (some .int), Cond.methodLink RX11 79 yX11_isLeft, Cond.instanceMethod yX11_isLeft, Cond.selects RX11 yX11_isLeft yX11_isLeft]
def wsX11_choose_r2 : List Cond := [Cond.code yX11_isLeft cX11_isLeft 2 (some .boolean), Cond.methodLink RX11 82 yX11_papersOf, Cond.instanceMethod yX11_papersOf, Cond.selects RX11 yX11_papersOf yX11_papersOf, Cond.code yX11_papersOf cX11_papersOf 4 (some .int), Cond.fieldLink RX11 39 "FairSeatsModel" "heaps" "I", Cond.fieldLink RX11 7 "FairSeatsModel" "sets" "[I", Cond.fieldLink RX11 13 "FairSeatsModel" "papers" "[I", Cond.methodLink RX11 92 yX11_pick, Cond.instanceMethod yX11_pick, Cond.selects RX11 yX11_pick yX11_pick, Cond.code yX11_pick cX11_pick 3 none, Cond.methodLink RX11 113 yX11_greedyOf, Cond.instanceMethod yX11_greedyOf, Cond.selects RX11 yX11_greedyOf yX11_greedyOf, Cond.code yX11_greedyOf cX11_greedyOf 3 (some .int), Cond.methodLink RX11 70 yX11_worthOf, Cond.instanceMethod yX11_worthOf, Cond.selects RX11 yX11_worthOf yX11_worthOf, Cond.code yX11_worthOf cX11_worthOf 6 (some .int), Cond.fieldLink RX11 20 "FairSeatsModel" "worths" "[I", Cond.methodLink RX11 60 yX11_bits, Cond.static yX11_bits, Cond.code yX11_bits cX11_bits 3 (some .int)]
def wsX11_choose_r3 : List Cond := [Cond.methodLink RX11 116 yX11_loadOne, Cond.instanceMethod yX11_loadOne, Cond.selects RX11 yX11_loadOne yX11_loadOne, Cond.code yX11_loadOne cX11_loadOne 13 none, Cond.methodLink RX11 85 yX11_carry, Cond.instanceMethod yX11_carry, Cond.selects RX11 yX11_carry yX11_carry, Cond.code yX11_carry cX11_carry 5 none, Cond.methodLink RX11 120 yX11_share, Cond.instanceMethod yX11_share, Cond.selects RX11 yX11_share yX11_share, Cond.code yX11_share cX11_share 10 none, Cond.fieldLink RX11 99 "FairSeatsModel" "rhoUp" "J", Cond.fieldLink RX11 103 "FairSeatsModel" "rhoBy" "J", Cond.methodLink RX11 106 yX11_layRho, Cond.instanceMethod yX11_layRho, Cond.selects RX11 yX11_layRho yX11_layRho, Cond.code yX11_layRho cX11_layRho 12 (some .boolean), Cond.methodLink RX11 96 yX11_allPapers, Cond.instanceMethod yX11_allPapers, Cond.selects RX11 yX11_allPapers yX11_allPapers, Cond.code yX11_allPapers cX11_allPapers 3 (some .int), Cond.methodLink RX11 123 yX11_bestOf, Cond.instanceMethod yX11_bestOf]
def wsX11_choose_r4 : List Cond := [Cond.selects RX11 yX11_bestOf yX11_bestOf, Cond.code yX11_bestOf cX11_bestOf 4 (some .int), Cond.methodLink RX11 67 yX11_barOf, Cond.instanceMethod yX11_barOf, Cond.selects RX11 yX11_barOf yX11_barOf, Cond.code yX11_barOf cX11_barOf 8 (some .int), Cond.fieldLink RX11 57 "FairSeatsModel" "hallMany" "I", Cond.fieldLink RX11 26 "FairSeatsModel" "hallSign" "[I", Cond.methodLink RX11 126 yX11_mend, Cond.instanceMethod yX11_mend, Cond.selects RX11 yX11_mend yX11_mend, Cond.code yX11_mend cX11_mend 6 none, Cond.methodLink RX11 135 yX11_nth, Cond.static yX11_nth, Cond.code yX11_nth cX11_nth 4 (some .int)]
def wsX11_choose : List Cond := .code yX11_choose cX11_choose 3 (some .int) :: ((wsX11_choose_r1 ++ (wsX11_choose_r2 ++ (wsX11_choose_r3 ++ wsX11_choose_r4))) ++ wsX110)
def wsX11_term : List Cond := .code yX11_term cX11_term 11 (some .long) :: ([])
def wsX11_behind_r1 : List Cond := [Cond.constantLong RX11 139 (-1000000000000000001), Cond.fieldLink RX11 16 "FairSeatsModel" "seats" "I", Cond.constantLong RX11 141 (-1000000000000000002), Cond.fieldLink RX11 32 "FairSeatsModel" "upper" "[J", Cond.fieldLink RX11 36 "FairSeatsModel" "lower" "[J", Cond.methodLink RX11 46 yX11_isHeap, Cond.instanceMethod yX11_isHeap, Cond.selects RX11 yX11_isHeap yX11_isHeap, Cond.initialized RX11, Cond.code yX11_isHeap cX11_isHeap 2 (some .boolean), Cond.fieldLink RX11 39 "FairSeatsModel" "heaps" "I", Cond.methodLink RX11 42 yX11_in, Cond.static yX11_in, Cond.code yX11_in cX11_in 3 (some .boolean), Cond.methodLink RX11 132 yX11_layWay, Cond.instanceMethod yX11_layWay, Cond.selects RX11 yX11_layWay yX11_layWay, Cond.code yX11_layWay cX11_layWay 3 none, Cond.fieldLink RX11 76 "FairSeatsModel" "chosenSet" "I", Cond.fieldLink RX11 110 "FairSeatsModel" "paidSeats" "I", Cond.methodLink RX11 89 yX11_mostOf, Cond.instanceMethod yX11_mostOf, Cond.selects RX11 yX11_mostOf yX11_mostOf, Cond.code yX11_mostOf cX11_mostOf 3 (some .int)]
def wsX11_behind_r2 : List Cond := [Cond.methodLink RX11 79 yX11_isLeft, Cond.instanceMethod yX11_isLeft, Cond.selects RX11 yX11_isLeft yX11_isLeft, Cond.code yX11_isLeft cX11_isLeft 2 (some .boolean), Cond.methodLink RX11 82 yX11_papersOf, Cond.instanceMethod yX11_papersOf, Cond.selects RX11 yX11_papersOf yX11_papersOf, Cond.code yX11_papersOf cX11_papersOf 4 (some .int), Cond.fieldLink RX11 7 "FairSeatsModel" "sets" "[I", Cond.fieldLink RX11 13 "FairSeatsModel" "papers" "[I", Cond.methodLink RX11 92 yX11_pick, Cond.instanceMethod yX11_pick, Cond.selects RX11 yX11_pick yX11_pick, Cond.code yX11_pick cX11_pick 3 none, Cond.fieldLink RX11 29 "FairSeatsModel" "chosen" "[I", Cond.methodLink RX11 113 yX11_greedyOf, Cond.instanceMethod yX11_greedyOf, Cond.selects RX11 yX11_greedyOf yX11_greedyOf, Cond.code yX11_greedyOf cX11_greedyOf 3 (some .int), Cond.methodLink RX11 70 yX11_worthOf, Cond.instanceMethod yX11_worthOf, Cond.selects RX11 yX11_worthOf yX11_worthOf, Cond.code yX11_worthOf cX11_worthOf 6 (some .int), Cond.fieldLink RX11 20 "FairSeatsModel" "worths" "[I"]
def wsX11_behind_r3 : List Cond := [Cond.methodLink RX11 60 yX11_bits, Cond.static yX11_bits, Cond.code yX11_bits cX11_bits 3 (some .int), Cond.methodLink RX11 116 yX11_loadOne, Cond.instanceMethod yX11_loadOne, Cond.selects RX11 yX11_loadOne yX11_loadOne, Cond.code yX11_loadOne cX11_loadOne 13 none, Cond.methodLink RX11 85 yX11_carry, Cond.instanceMethod yX11_carry, Cond.selects RX11 yX11_carry yX11_carry, Cond.code yX11_carry cX11_carry 5 none, Cond.methodLink RX11 120 yX11_share, Cond.instanceMethod yX11_share, Cond.selects RX11 yX11_share yX11_share, Cond.code yX11_share cX11_share 10 none, Cond.fieldLink RX11 99 "FairSeatsModel" "rhoUp" "J", Cond.fieldLink RX11 103 "FairSeatsModel" "rhoBy" "J", Cond.methodLink RX11 106 yX11_layRho, Cond.instanceMethod yX11_layRho, Cond.selects RX11 yX11_layRho yX11_layRho, Cond.code yX11_layRho cX11_layRho 12 (some .boolean), Cond.methodLink RX11 96 yX11_allPapers, Cond.instanceMethod yX11_allPapers, Cond.selects RX11 yX11_allPapers yX11_allPapers]
def wsX11_behind_r4 : List Cond := [Cond.code yX11_allPapers cX11_allPapers 3 (some .int), Cond.methodLink RX11 123 yX11_bestOf, Cond.instanceMethod yX11_bestOf, Cond.selects RX11 yX11_bestOf yX11_bestOf, Cond.code yX11_bestOf cX11_bestOf 4 (some .int), Cond.methodLink RX11 67 yX11_barOf, Cond.instanceMethod yX11_barOf, Cond.selects RX11 yX11_barOf yX11_barOf, Cond.code yX11_barOf cX11_barOf 8 (some .int), Cond.fieldLink RX11 57 "FairSeatsModel" "hallMany" "I", Cond.fieldLink RX11 26 "FairSeatsModel" "hallSign" "[I", Cond.methodLink RX11 126 yX11_mend, Cond.instanceMethod yX11_mend, Cond.selects RX11 yX11_mend yX11_mend, Cond.code yX11_mend cX11_mend 6 none, Cond.methodLink RX11 143 yX11_term, Cond.static yX11_term, Cond.code yX11_term cX11_term 11 (some .long)]
def wsX11_behind : List Cond := .code yX11_behind cX11_behind 5 (some .long) :: ((wsX11_behind_r1 ++ (wsX11_behind_r2 ++ (wsX11_behind_r3 ++ wsX11_behind_r4))) ++ wsX110)
def wsX11_load_r1 : List Cond := [Cond.methodLink RX11 147 yX11_behind, Cond.instanceMethod yX11_behind, Cond.selects RX11 yX11_behind yX11_behind, Cond.initialized RX11, Cond.code yX11_behind cX11_behind 5 (some .long), Cond.constantLong RX11 139 (-1000000000000000001), Cond.fieldLink RX11 16 "FairSeatsModel" "seats" "I", Cond.constantLong RX11 141 (-1000000000000000002), Cond.fieldLink RX11 32 "FairSeatsModel" "upper" "[J", Cond.fieldLink RX11 36 "FairSeatsModel" "lower" "[J", Cond.methodLink RX11 46 yX11_isHeap, Cond.instanceMethod yX11_isHeap, Cond.selects RX11 yX11_isHeap yX11_isHeap, Cond.code yX11_isHeap cX11_isHeap 2 (some .boolean), Cond.fieldLink RX11 39 "FairSeatsModel" "heaps" "I", Cond.methodLink RX11 42 yX11_in, Cond.static yX11_in, Cond.code yX11_in cX11_in 3 (some .boolean), Cond.methodLink RX11 132 yX11_layWay, Cond.instanceMethod yX11_layWay, Cond.selects RX11 yX11_layWay yX11_layWay, Cond.code yX11_layWay cX11_layWay 3 none, Cond.fieldLink RX11 76 "FairSeatsModel" "chosenSet" "I", Cond.fieldLink RX11 110 "FairSeatsModel" "paidSeats" "I"]
def wsX11_load_r2 : List Cond := [Cond.methodLink RX11 89 yX11_mostOf, Cond.instanceMethod yX11_mostOf, Cond.selects RX11 yX11_mostOf yX11_mostOf, Cond.code yX11_mostOf cX11_mostOf 3 (some .int), Cond.methodLink RX11 79 yX11_isLeft, Cond.instanceMethod yX11_isLeft, Cond.selects RX11 yX11_isLeft yX11_isLeft, Cond.code yX11_isLeft cX11_isLeft 2 (some .boolean), Cond.methodLink RX11 82 yX11_papersOf, Cond.instanceMethod yX11_papersOf, Cond.selects RX11 yX11_papersOf yX11_papersOf, Cond.code yX11_papersOf cX11_papersOf 4 (some .int), Cond.fieldLink RX11 7 "FairSeatsModel" "sets" "[I", Cond.fieldLink RX11 13 "FairSeatsModel" "papers" "[I", Cond.methodLink RX11 92 yX11_pick, Cond.instanceMethod yX11_pick, Cond.selects RX11 yX11_pick yX11_pick, Cond.code yX11_pick cX11_pick 3 none, Cond.fieldLink RX11 29 "FairSeatsModel" "chosen" "[I", Cond.methodLink RX11 113 yX11_greedyOf, Cond.instanceMethod yX11_greedyOf, Cond.selects RX11 yX11_greedyOf yX11_greedyOf, Cond.code yX11_greedyOf cX11_greedyOf 3 (some .int), Cond.methodLink RX11 70 yX11_worthOf]
def wsX11_load_r3 : List Cond := [Cond.instanceMethod yX11_worthOf, Cond.selects RX11 yX11_worthOf yX11_worthOf, Cond.code yX11_worthOf cX11_worthOf 6 (some .int), Cond.fieldLink RX11 20 "FairSeatsModel" "worths" "[I", Cond.methodLink RX11 60 yX11_bits, Cond.static yX11_bits, Cond.code yX11_bits cX11_bits 3 (some .int), Cond.methodLink RX11 116 yX11_loadOne, Cond.instanceMethod yX11_loadOne, Cond.selects RX11 yX11_loadOne yX11_loadOne, Cond.code yX11_loadOne cX11_loadOne 13 none, Cond.methodLink RX11 85 yX11_carry, Cond.instanceMethod yX11_carry, Cond.selects RX11 yX11_carry yX11_carry, Cond.code yX11_carry cX11_carry 5 none, Cond.methodLink RX11 120 yX11_share, Cond.instanceMethod yX11_share, Cond.selects RX11 yX11_share yX11_share, Cond.code yX11_share cX11_share 10 none, Cond.fieldLink RX11 99 "FairSeatsModel" "rhoUp" "J", Cond.fieldLink RX11 103 "FairSeatsModel" "rhoBy" "J", Cond.methodLink RX11 106 yX11_layRho, Cond.instanceMethod yX11_layRho, Cond.selects RX11 yX11_layRho yX11_layRho]
def wsX11_load_r4 : List Cond := [Cond.code yX11_layRho cX11_layRho 12 (some .boolean), Cond.methodLink RX11 96 yX11_allPapers, Cond.instanceMethod yX11_allPapers, Cond.selects RX11 yX11_allPapers yX11_allPapers, Cond.code yX11_allPapers cX11_allPapers 3 (some .int), Cond.methodLink RX11 123 yX11_bestOf, Cond.instanceMethod yX11_bestOf, Cond.selects RX11 yX11_bestOf yX11_bestOf, Cond.code yX11_bestOf cX11_bestOf 4 (some .int), Cond.methodLink RX11 67 yX11_barOf, Cond.instanceMethod yX11_barOf, Cond.selects RX11 yX11_barOf yX11_barOf, Cond.code yX11_barOf cX11_barOf 8 (some .int), Cond.fieldLink RX11 57 "FairSeatsModel" "hallMany" "I", Cond.fieldLink RX11 26 "FairSeatsModel" "hallSign" "[I", Cond.methodLink RX11 126 yX11_mend, Cond.instanceMethod yX11_mend, Cond.selects RX11 yX11_mend yX11_mend, Cond.code yX11_mend cX11_mend 6 none, Cond.methodLink RX11 143 yX11_term, Cond.static yX11_term, Cond.code yX11_term cX11_term 11 (some .long)]
def wsX11_load : List Cond := .code yX11_load cX11_load 4 (some .long) :: ((wsX11_load_r1 ++ (wsX11_load_r2 ++ (wsX11_load_r3 ++ wsX11_load_r4))) ++ wsX110)
def wsX11_purse_r1 : List Cond := [Cond.methodLink RX11 147 yX11_behind, Cond.instanceMethod yX11_behind, Cond.selects RX11 yX11_behind yX11_behind, Cond.initialized RX11, Cond.code yX11_behind cX11_behind 5 (some .long), Cond.constantLong RX11 139 (-1000000000000000001), Cond.fieldLink RX11 16 "FairSeatsModel" "seats" "I", Cond.constantLong RX11 141 (-1000000000000000002), Cond.fieldLink RX11 32 "FairSeatsModel" "upper" "[J", Cond.fieldLink RX11 36 "FairSeatsModel" "lower" "[J", Cond.methodLink RX11 46 yX11_isHeap, Cond.instanceMethod yX11_isHeap, Cond.selects RX11 yX11_isHeap yX11_isHeap, Cond.code yX11_isHeap cX11_isHeap 2 (some .boolean), Cond.fieldLink RX11 39 "FairSeatsModel" "heaps" "I", Cond.methodLink RX11 42 yX11_in, Cond.static yX11_in, Cond.code yX11_in cX11_in 3 (some .boolean), Cond.methodLink RX11 132 yX11_layWay, Cond.instanceMethod yX11_layWay, Cond.selects RX11 yX11_layWay yX11_layWay, Cond.code yX11_layWay cX11_layWay 3 none, Cond.fieldLink RX11 76 "FairSeatsModel" "chosenSet" "I", Cond.fieldLink RX11 110 "FairSeatsModel" "paidSeats" "I"]
def wsX11_purse_r2 : List Cond := [Cond.methodLink RX11 89 yX11_mostOf, Cond.instanceMethod yX11_mostOf, Cond.selects RX11 yX11_mostOf yX11_mostOf, Cond.code yX11_mostOf cX11_mostOf 3 (some .int), Cond.methodLink RX11 79 yX11_isLeft, Cond.instanceMethod yX11_isLeft, Cond.selects RX11 yX11_isLeft yX11_isLeft, Cond.code yX11_isLeft cX11_isLeft 2 (some .boolean), Cond.methodLink RX11 82 yX11_papersOf, Cond.instanceMethod yX11_papersOf, Cond.selects RX11 yX11_papersOf yX11_papersOf, Cond.code yX11_papersOf cX11_papersOf 4 (some .int), Cond.fieldLink RX11 7 "FairSeatsModel" "sets" "[I", Cond.fieldLink RX11 13 "FairSeatsModel" "papers" "[I", Cond.methodLink RX11 92 yX11_pick, Cond.instanceMethod yX11_pick, Cond.selects RX11 yX11_pick yX11_pick, Cond.code yX11_pick cX11_pick 3 none, Cond.fieldLink RX11 29 "FairSeatsModel" "chosen" "[I", Cond.methodLink RX11 113 yX11_greedyOf, Cond.instanceMethod yX11_greedyOf, Cond.selects RX11 yX11_greedyOf yX11_greedyOf, Cond.code yX11_greedyOf cX11_greedyOf 3 (some .int), Cond.methodLink RX11 70 yX11_worthOf]
def wsX11_purse_r3 : List Cond := [Cond.instanceMethod yX11_worthOf, Cond.selects RX11 yX11_worthOf yX11_worthOf, Cond.code yX11_worthOf cX11_worthOf 6 (some .int), Cond.fieldLink RX11 20 "FairSeatsModel" "worths" "[I", Cond.methodLink RX11 60 yX11_bits, Cond.static yX11_bits, Cond.code yX11_bits cX11_bits 3 (some .int), Cond.methodLink RX11 116 yX11_loadOne, Cond.instanceMethod yX11_loadOne, Cond.selects RX11 yX11_loadOne yX11_loadOne, Cond.code yX11_loadOne cX11_loadOne 13 none, Cond.methodLink RX11 85 yX11_carry, Cond.instanceMethod yX11_carry, Cond.selects RX11 yX11_carry yX11_carry, Cond.code yX11_carry cX11_carry 5 none, Cond.methodLink RX11 120 yX11_share, Cond.instanceMethod yX11_share, Cond.selects RX11 yX11_share yX11_share, Cond.code yX11_share cX11_share 10 none, Cond.fieldLink RX11 99 "FairSeatsModel" "rhoUp" "J", Cond.fieldLink RX11 103 "FairSeatsModel" "rhoBy" "J", Cond.methodLink RX11 106 yX11_layRho, Cond.instanceMethod yX11_layRho, Cond.selects RX11 yX11_layRho yX11_layRho]
def wsX11_purse_r4 : List Cond := [Cond.code yX11_layRho cX11_layRho 12 (some .boolean), Cond.methodLink RX11 96 yX11_allPapers, Cond.instanceMethod yX11_allPapers, Cond.selects RX11 yX11_allPapers yX11_allPapers, Cond.code yX11_allPapers cX11_allPapers 3 (some .int), Cond.methodLink RX11 123 yX11_bestOf, Cond.instanceMethod yX11_bestOf, Cond.selects RX11 yX11_bestOf yX11_bestOf, Cond.code yX11_bestOf cX11_bestOf 4 (some .int), Cond.methodLink RX11 67 yX11_barOf, Cond.instanceMethod yX11_barOf, Cond.selects RX11 yX11_barOf yX11_barOf, Cond.code yX11_barOf cX11_barOf 8 (some .int), Cond.fieldLink RX11 57 "FairSeatsModel" "hallMany" "I", Cond.fieldLink RX11 26 "FairSeatsModel" "hallSign" "[I", Cond.methodLink RX11 126 yX11_mend, Cond.instanceMethod yX11_mend, Cond.selects RX11 yX11_mend yX11_mend, Cond.code yX11_mend cX11_mend 6 none, Cond.methodLink RX11 143 yX11_term, Cond.static yX11_term, Cond.code yX11_term cX11_term 11 (some .long)]
def wsX11_purse : List Cond := .code yX11_purse cX11_purse 4 (some .long) :: ((wsX11_purse_r1 ++ (wsX11_purse_r2 ++ (wsX11_purse_r3 ++ wsX11_purse_r4))) ++ wsX110)
def wsX11_paid_r1 : List Cond := [Cond.fieldLink RX11 110 "FairSeatsModel" "paidSeats" "I", Cond.methodLink RX11 132 yX11_layWay, Cond.instanceMethod yX11_layWay, Cond.selects RX11 yX11_layWay yX11_layWay, Cond.initialized RX11, Cond.code yX11_layWay cX11_layWay 3 none, Cond.fieldLink RX11 76 "FairSeatsModel" "chosenSet" "I", Cond.fieldLink RX11 36 "FairSeatsModel" "lower" "[J", Cond.fieldLink RX11 32 "FairSeatsModel" "upper" "[J", Cond.fieldLink RX11 16 "FairSeatsModel" "seats" "I", Cond.methodLink RX11 89 yX11_mostOf, Cond.instanceMethod yX11_mostOf, Cond.selects RX11 yX11_mostOf yX11_mostOf, Cond.code yX11_mostOf cX11_mostOf 3 (some .int), Cond.methodLink RX11 79 yX11_isLeft, Cond.instanceMethod yX11_isLeft, Cond.selects RX11 yX11_isLeft yX11_isLeft, Cond.code yX11_isLeft cX11_isLeft 2 (some .boolean), Cond.methodLink RX11 82 yX11_papersOf, Cond.instanceMethod yX11_papersOf, Cond.selects RX11 yX11_papersOf yX11_papersOf, Cond.code yX11_papersOf cX11_papersOf 4 (some .int), Cond.fieldLink RX11 39 "FairSeatsModel" "heaps" "I", Cond.fieldLink RX11 7 "FairSeatsModel" "sets" "[I"]
def wsX11_paid_r2 : List Cond := [Cond.fieldLink RX11 13 "FairSeatsModel" "papers" "[I", Cond.methodLink RX11 92 yX11_pick, Cond.instanceMethod yX11_pick, Cond.selects RX11 yX11_pick yX11_pick, Cond.code yX11_pick cX11_pick 3 none, Cond.fieldLink RX11 29 "FairSeatsModel" "chosen" "[I", Cond.methodLink RX11 113 yX11_greedyOf, Cond.instanceMethod yX11_greedyOf, Cond.selects RX11 yX11_greedyOf yX11_greedyOf, Cond.code yX11_greedyOf cX11_greedyOf 3 (some .int), Cond.methodLink RX11 70 yX11_worthOf, Cond.instanceMethod yX11_worthOf, Cond.selects RX11 yX11_worthOf yX11_worthOf, Cond.code yX11_worthOf cX11_worthOf 6 (some .int), Cond.fieldLink RX11 20 "FairSeatsModel" "worths" "[I", Cond.methodLink RX11 60 yX11_bits, Cond.static yX11_bits, Cond.code yX11_bits cX11_bits 3 (some .int), Cond.methodLink RX11 116 yX11_loadOne, Cond.instanceMethod yX11_loadOne, Cond.selects RX11 yX11_loadOne yX11_loadOne, Cond.code yX11_loadOne cX11_loadOne 13 none, Cond.methodLink RX11 85 yX11_carry, Cond.instanceMethod yX11_carry]
def wsX11_paid_r3 : List Cond := [Cond.selects RX11 yX11_carry yX11_carry, Cond.code yX11_carry cX11_carry 5 none, Cond.methodLink RX11 120 yX11_share, Cond.instanceMethod yX11_share, Cond.selects RX11 yX11_share yX11_share, Cond.code yX11_share cX11_share 10 none, Cond.fieldLink RX11 99 "FairSeatsModel" "rhoUp" "J", Cond.fieldLink RX11 103 "FairSeatsModel" "rhoBy" "J", Cond.methodLink RX11 106 yX11_layRho, Cond.instanceMethod yX11_layRho, Cond.selects RX11 yX11_layRho yX11_layRho, Cond.code yX11_layRho cX11_layRho 12 (some .boolean), Cond.methodLink RX11 96 yX11_allPapers, Cond.instanceMethod yX11_allPapers, Cond.selects RX11 yX11_allPapers yX11_allPapers, Cond.code yX11_allPapers cX11_allPapers 3 (some .int), Cond.methodLink RX11 123 yX11_bestOf, Cond.instanceMethod yX11_bestOf, Cond.selects RX11 yX11_bestOf yX11_bestOf, Cond.code yX11_bestOf cX11_bestOf 4 (some .int), Cond.methodLink RX11 67 yX11_barOf, Cond.instanceMethod yX11_barOf, Cond.selects RX11 yX11_barOf yX11_barOf, Cond.code yX11_barOf cX11_barOf 8 (some .int)]
def wsX11_paid_r4 : List Cond := [Cond.fieldLink RX11 57 "FairSeatsModel" "hallMany" "I", Cond.fieldLink RX11 26 "FairSeatsModel" "hallSign" "[I", Cond.methodLink RX11 42 yX11_in, Cond.static yX11_in, Cond.code yX11_in cX11_in 3 (some .boolean), Cond.methodLink RX11 126 yX11_mend, Cond.instanceMethod yX11_mend, Cond.selects RX11 yX11_mend yX11_mend, Cond.code yX11_mend cX11_mend 6 none]
def wsX11_paid : List Cond := .code yX11_paid cX11_paid 1 (some .int) :: ((wsX11_paid_r1 ++ (wsX11_paid_r2 ++ (wsX11_paid_r3 ++ wsX11_paid_r4))) ++ wsX110)
def wsX11_isOwed : List Cond := .code yX11_isOwed cX11_isOwed 6 (some .boolean) :: ([.fieldLink RX11 39 "FairSeatsModel" "heaps" "I", .fieldLink RX11 7 "FairSeatsModel" "sets" "[I", .fieldLink RX11 13 "FairSeatsModel" "papers" "[I", .fieldLink RX11 16 "FairSeatsModel" "seats" "I", .methodLink RX11 60 yX11_bits, .static yX11_bits, .initialized RX11, .code yX11_bits cX11_bits 3 (some .int), .methodLink RX11 96 yX11_allPapers, .instanceMethod yX11_allPapers, .selects RX11 yX11_allPapers yX11_allPapers, .code yX11_allPapers cX11_allPapers 3 (some .int)] ++ wsX110)
def wsX11_owed : List Cond := .code yX11_owed cX11_owed 3 (some .int) :: ([.fieldLink RX11 39 "FairSeatsModel" "heaps" "I", .methodLink RX11 42 yX11_in, .static yX11_in, .initialized RX11, .code yX11_in cX11_in 3 (some .boolean), .methodLink RX11 151 yX11_isOwed, .instanceMethod yX11_isOwed, .selects RX11 yX11_isOwed yX11_isOwed, .code yX11_isOwed cX11_isOwed 6 (some .boolean), .fieldLink RX11 7 "FairSeatsModel" "sets" "[I", .fieldLink RX11 13 "FairSeatsModel" "papers" "[I", .fieldLink RX11 16 "FairSeatsModel" "seats" "I", .methodLink RX11 60 yX11_bits, .static yX11_bits, .code yX11_bits cX11_bits 3 (some .int), .methodLink RX11 96 yX11_allPapers, .instanceMethod yX11_allPapers, .selects RX11 yX11_allPapers yX11_allPapers, .code yX11_allPapers cX11_allPapers 3 (some .int)] ++ wsX110)
def wsX11_lacks : List Cond := .code yX11_lacks cX11_lacks 8 (some .boolean) :: ([.fieldLink RX11 39 "FairSeatsModel" "heaps" "I", .fieldLink RX11 7 "FairSeatsModel" "sets" "[I", .methodLink RX11 60 yX11_bits, .static yX11_bits, .initialized RX11, .code yX11_bits cX11_bits 3 (some .int)] ++ wsX110)
def wsX11_breachOf : List Cond := .code yX11_breachOf cX11_breachOf 5 (some .int) :: ([.fieldLink RX11 39 "FairSeatsModel" "heaps" "I", .fieldLink RX11 158 "FairSeatsModel" "breachGroup" "I", .methodLink RX11 151 yX11_isOwed, .instanceMethod yX11_isOwed, .selects RX11 yX11_isOwed yX11_isOwed, .initialized RX11, .code yX11_isOwed cX11_isOwed 6 (some .boolean), .fieldLink RX11 7 "FairSeatsModel" "sets" "[I", .fieldLink RX11 13 "FairSeatsModel" "papers" "[I", .fieldLink RX11 16 "FairSeatsModel" "seats" "I", .methodLink RX11 60 yX11_bits, .static yX11_bits, .code yX11_bits cX11_bits 3 (some .int), .methodLink RX11 96 yX11_allPapers, .instanceMethod yX11_allPapers, .selects RX11 yX11_allPapers yX11_allPapers, .code yX11_allPapers cX11_allPapers 3 (some .int), .methodLink RX11 154 yX11_lacks, .instanceMethod yX11_lacks, .selects RX11 yX11_lacks yX11_lacks, .code yX11_lacks cX11_lacks 8 (some .boolean)] ++ wsX110)
def wsX11_isLaw : List Cond := .code yX11_isLaw cX11_isLaw 1 (some .boolean) :: ([.methodLink RX11 42 yX11_in, .static yX11_in, .initialized RX11, .code yX11_in cX11_in 3 (some .boolean)])
def wsX11_breach_r1 : List Cond := [Cond.fieldLink RX11 158 "FairSeatsModel" "breachGroup" "I", Cond.methodLink RX11 161 yX11_isLaw, Cond.static yX11_isLaw, Cond.initialized RX11, Cond.code yX11_isLaw cX11_isLaw 1 (some .boolean), Cond.methodLink RX11 42 yX11_in, Cond.static yX11_in, Cond.code yX11_in cX11_in 3 (some .boolean), Cond.methodLink RX11 64 yX11_isCommittee, Cond.instanceMethod yX11_isCommittee, Cond.selects RX11 yX11_isCommittee yX11_isCommittee, Cond.code yX11_isCommittee cX11_isCommittee 2 (some .boolean), Cond.fieldLink RX11 16 "FairSeatsModel" "seats" "I", Cond.methodLink RX11 60 yX11_bits, Cond.static yX11_bits, Cond.code yX11_bits cX11_bits 3 (some .int), Cond.methodLink RX11 164 yX11_breachOf, Cond.instanceMethod yX11_breachOf, Cond.selects RX11 yX11_breachOf yX11_breachOf, Cond.code yX11_breachOf cX11_breachOf 5 (some .int), Cond.fieldLink RX11 39 "FairSeatsModel" "heaps" "I", Cond.methodLink RX11 151 yX11_isOwed, Cond.instanceMethod yX11_isOwed, Cond.selects RX11 yX11_isOwed yX11_isOwed]
def wsX11_breach_r2 : List Cond := [Cond.code yX11_isOwed cX11_isOwed 6 (some .boolean), Cond.fieldLink RX11 7 "FairSeatsModel" "sets" "[I", Cond.fieldLink RX11 13 "FairSeatsModel" "papers" "[I", Cond.methodLink RX11 96 yX11_allPapers, Cond.instanceMethod yX11_allPapers, Cond.selects RX11 yX11_allPapers yX11_allPapers, Cond.code yX11_allPapers cX11_allPapers 3 (some .int), Cond.methodLink RX11 154 yX11_lacks, Cond.instanceMethod yX11_lacks, Cond.selects RX11 yX11_lacks yX11_lacks, Cond.code yX11_lacks cX11_lacks 8 (some .boolean)]
def wsX11_breach : List Cond := .code yX11_breach cX11_breach 5 (some .int) :: ((wsX11_breach_r1 ++ wsX11_breach_r2) ++ wsX110)
def wsX11_isKept_r1 : List Cond := [Cond.methodLink RX11 64 yX11_isCommittee, Cond.instanceMethod yX11_isCommittee, Cond.selects RX11 yX11_isCommittee yX11_isCommittee, Cond.initialized RX11, Cond.code yX11_isCommittee cX11_isCommittee 2 (some .boolean), Cond.fieldLink RX11 16 "FairSeatsModel" "seats" "I", Cond.methodLink RX11 42 yX11_in, Cond.static yX11_in, Cond.code yX11_in cX11_in 3 (some .boolean), Cond.methodLink RX11 60 yX11_bits, Cond.static yX11_bits, Cond.code yX11_bits cX11_bits 3 (some .int), Cond.methodLink RX11 67 yX11_barOf, Cond.instanceMethod yX11_barOf, Cond.selects RX11 yX11_barOf yX11_barOf, Cond.code yX11_barOf cX11_barOf 8 (some .int), Cond.fieldLink RX11 57 "FairSeatsModel" "hallMany" "I", Cond.fieldLink RX11 26 "FairSeatsModel" "hallSign" "[I", Cond.methodLink RX11 164 yX11_breachOf, Cond.instanceMethod yX11_breachOf, Cond.selects RX11 yX11_breachOf yX11_breachOf, Cond.code yX11_breachOf cX11_breachOf 5 (some .int), Cond.fieldLink RX11 39 "FairSeatsModel" "heaps" "I", Cond.fieldLink RX11 158 "FairSeatsModel" "breachGroup" "I"]
def wsX11_isKept_r2 : List Cond := [Cond.methodLink RX11 151 yX11_isOwed, Cond.instanceMethod yX11_isOwed, Cond.selects RX11 yX11_isOwed yX11_isOwed, Cond.code yX11_isOwed cX11_isOwed 6 (some .boolean), Cond.fieldLink RX11 7 "FairSeatsModel" "sets" "[I", Cond.fieldLink RX11 13 "FairSeatsModel" "papers" "[I", Cond.methodLink RX11 96 yX11_allPapers, Cond.instanceMethod yX11_allPapers, Cond.selects RX11 yX11_allPapers yX11_allPapers, Cond.code yX11_allPapers cX11_allPapers 3 (some .int), Cond.methodLink RX11 154 yX11_lacks, Cond.instanceMethod yX11_lacks, Cond.selects RX11 yX11_lacks yX11_lacks, Cond.code yX11_lacks cX11_lacks 8 (some .boolean)]
def wsX11_isKept : List Cond := .code yX11_isKept cX11_isKept 3 (some .boolean) :: ((wsX11_isKept_r1 ++ wsX11_isKept_r2) ++ wsX110)
def wsX11_kept_r1 : List Cond := [Cond.methodLink RX11 161 yX11_isLaw, Cond.static yX11_isLaw, Cond.initialized RX11, Cond.code yX11_isLaw cX11_isLaw 1 (some .boolean), Cond.methodLink RX11 42 yX11_in, Cond.static yX11_in, Cond.code yX11_in cX11_in 3 (some .boolean), Cond.methodLink RX11 167 yX11_isKept, Cond.instanceMethod yX11_isKept, Cond.selects RX11 yX11_isKept yX11_isKept, Cond.code yX11_isKept cX11_isKept 3 (some .boolean), Cond.methodLink RX11 64 yX11_isCommittee, Cond.instanceMethod yX11_isCommittee, Cond.selects RX11 yX11_isCommittee yX11_isCommittee, Cond.code yX11_isCommittee cX11_isCommittee 2 (some .boolean), Cond.fieldLink RX11 16 "FairSeatsModel" "seats" "I", Cond.methodLink RX11 60 yX11_bits, Cond.static yX11_bits, Cond.code yX11_bits cX11_bits 3 (some .int), Cond.methodLink RX11 67 yX11_barOf, Cond.instanceMethod yX11_barOf, Cond.selects RX11 yX11_barOf yX11_barOf, Cond.code yX11_barOf cX11_barOf 8 (some .int), Cond.fieldLink RX11 57 "FairSeatsModel" "hallMany" "I"]
def wsX11_kept_r2 : List Cond := [Cond.fieldLink RX11 26 "FairSeatsModel" "hallSign" "[I", Cond.methodLink RX11 164 yX11_breachOf, Cond.instanceMethod yX11_breachOf, Cond.selects RX11 yX11_breachOf yX11_breachOf, Cond.code yX11_breachOf cX11_breachOf 5 (some .int), Cond.fieldLink RX11 39 "FairSeatsModel" "heaps" "I", Cond.fieldLink RX11 158 "FairSeatsModel" "breachGroup" "I", Cond.methodLink RX11 151 yX11_isOwed, Cond.instanceMethod yX11_isOwed, Cond.selects RX11 yX11_isOwed yX11_isOwed, Cond.code yX11_isOwed cX11_isOwed 6 (some .boolean), Cond.fieldLink RX11 7 "FairSeatsModel" "sets" "[I", Cond.fieldLink RX11 13 "FairSeatsModel" "papers" "[I", Cond.methodLink RX11 96 yX11_allPapers, Cond.instanceMethod yX11_allPapers, Cond.selects RX11 yX11_allPapers yX11_allPapers, Cond.code yX11_allPapers cX11_allPapers 3 (some .int), Cond.methodLink RX11 154 yX11_lacks, Cond.instanceMethod yX11_lacks, Cond.selects RX11 yX11_lacks yX11_lacks, Cond.code yX11_lacks cX11_lacks 8 (some .boolean)]
def wsX11_kept : List Cond := .code yX11_kept cX11_kept 5 (some .int) :: ((wsX11_kept_r1 ++ wsX11_kept_r2) ++ wsX110)
def wsX11_least_r1 : List Cond := [Cond.methodLink RX11 42 yX11_in, Cond.static yX11_in, Cond.initialized RX11, Cond.code yX11_in cX11_in 3 (some .boolean), Cond.methodLink RX11 64 yX11_isCommittee, Cond.instanceMethod yX11_isCommittee, Cond.selects RX11 yX11_isCommittee yX11_isCommittee, Cond.code yX11_isCommittee cX11_isCommittee 2 (some .boolean), Cond.fieldLink RX11 16 "FairSeatsModel" "seats" "I", Cond.methodLink RX11 60 yX11_bits, Cond.static yX11_bits, Cond.code yX11_bits cX11_bits 3 (some .int), Cond.methodLink RX11 67 yX11_barOf, Cond.instanceMethod yX11_barOf, Cond.selects RX11 yX11_barOf yX11_barOf, Cond.code yX11_barOf cX11_barOf 8 (some .int), Cond.fieldLink RX11 57 "FairSeatsModel" "hallMany" "I", Cond.fieldLink RX11 26 "FairSeatsModel" "hallSign" "[I", Cond.methodLink RX11 73 yX11_wronged, Cond.instanceMethod yX11_wronged, Cond.selects RX11 yX11_wronged yX11_wronged, Cond.code yX11_wronged cX11_wronged 4 (some .int), Cond.fieldLink RX11 39 "FairSeatsModel" "heaps" "I", Cond.fieldLink RX11 7 "FairSeatsModel" "sets" "[I"]
def wsX11_least_r2 : List Cond := [Cond.fieldLink RX11 13 "FairSeatsModel" "papers" "[I"]
def wsX11_least : List Cond := .code yX11_least cX11_least 5 (some .int) :: ((wsX11_least_r1 ++ wsX11_least_r2) ++ wsX110)
def wsX11_nearest_r1 : List Cond := [Cond.methodLink RX11 161 yX11_isLaw, Cond.static yX11_isLaw, Cond.initialized RX11, Cond.code yX11_isLaw cX11_isLaw 1 (some .boolean), Cond.methodLink RX11 42 yX11_in, Cond.static yX11_in, Cond.code yX11_in cX11_in 3 (some .boolean), Cond.methodLink RX11 64 yX11_isCommittee, Cond.instanceMethod yX11_isCommittee, Cond.selects RX11 yX11_isCommittee yX11_isCommittee, Cond.code yX11_isCommittee cX11_isCommittee 2 (some .boolean), Cond.fieldLink RX11 16 "FairSeatsModel" "seats" "I", Cond.methodLink RX11 60 yX11_bits, Cond.static yX11_bits, Cond.code yX11_bits cX11_bits 3 (some .int), Cond.methodLink RX11 167 yX11_isKept, Cond.instanceMethod yX11_isKept, Cond.selects RX11 yX11_isKept yX11_isKept, Cond.code yX11_isKept cX11_isKept 3 (some .boolean), Cond.methodLink RX11 67 yX11_barOf, Cond.instanceMethod yX11_barOf, Cond.selects RX11 yX11_barOf yX11_barOf, Cond.code yX11_barOf cX11_barOf 8 (some .int), Cond.fieldLink RX11 57 "FairSeatsModel" "hallMany" "I"]
def wsX11_nearest_r2 : List Cond := [Cond.fieldLink RX11 26 "FairSeatsModel" "hallSign" "[I", Cond.methodLink RX11 164 yX11_breachOf, Cond.instanceMethod yX11_breachOf, Cond.selects RX11 yX11_breachOf yX11_breachOf, Cond.code yX11_breachOf cX11_breachOf 5 (some .int), Cond.fieldLink RX11 39 "FairSeatsModel" "heaps" "I", Cond.fieldLink RX11 158 "FairSeatsModel" "breachGroup" "I", Cond.methodLink RX11 151 yX11_isOwed, Cond.instanceMethod yX11_isOwed, Cond.selects RX11 yX11_isOwed yX11_isOwed, Cond.code yX11_isOwed cX11_isOwed 6 (some .boolean), Cond.fieldLink RX11 7 "FairSeatsModel" "sets" "[I", Cond.fieldLink RX11 13 "FairSeatsModel" "papers" "[I", Cond.methodLink RX11 96 yX11_allPapers, Cond.instanceMethod yX11_allPapers, Cond.selects RX11 yX11_allPapers yX11_allPapers, Cond.code yX11_allPapers cX11_allPapers 3 (some .int), Cond.methodLink RX11 154 yX11_lacks, Cond.instanceMethod yX11_lacks, Cond.selects RX11 yX11_lacks yX11_lacks, Cond.code yX11_lacks cX11_lacks 8 (some .boolean)]
def wsX11_nearest : List Cond := .code yX11_nearest cX11_nearest 6 (some .int) :: ((wsX11_nearest_r1 ++ wsX11_nearest_r2) ++ wsX110)
def wsX11_more_r1 : List Cond := [Cond.fieldLink RX11 16 "FairSeatsModel" "seats" "I", Cond.fieldLink RX11 76 "FairSeatsModel" "chosenSet" "I", Cond.methodLink RX11 129 yX11_isWay, Cond.static yX11_isWay, Cond.initialized RX11, Cond.code yX11_isWay cX11_isWay 1 (some .boolean), Cond.methodLink RX11 42 yX11_in, Cond.static yX11_in, Cond.code yX11_in cX11_in 3 (some .boolean), Cond.methodLink RX11 132 yX11_layWay, Cond.instanceMethod yX11_layWay, Cond.selects RX11 yX11_layWay yX11_layWay, Cond.code yX11_layWay cX11_layWay 3 none, Cond.fieldLink RX11 110 "FairSeatsModel" "paidSeats" "I", Cond.fieldLink RX11 36 "FairSeatsModel" "lower" "[J", Cond.fieldLink RX11 32 "FairSeatsModel" "upper" "[J", Cond.methodLink RX11 89 yX11_mostOf, Cond.instanceMethod yX11_mostOf, Cond.selects RX11 yX11_mostOf yX11_mostOf, Cond.code yX11_mostOf cX11_mostOf 3 (some .int), Cond.methodLink RX11 79 yX11_isLeft, Cond.instanceMethod yX11_isLeft, Cond.selects RX11 yX11_isLeft yX11_isLeft, Cond.code yX11_isLeft cX11_isLeft 2 (some .boolean)]
def wsX11_more_r2 : List Cond := [Cond.methodLink RX11 82 yX11_papersOf, Cond.instanceMethod yX11_papersOf, Cond.selects RX11 yX11_papersOf yX11_papersOf, Cond.code yX11_papersOf cX11_papersOf 4 (some .int), Cond.fieldLink RX11 39 "FairSeatsModel" "heaps" "I", Cond.fieldLink RX11 7 "FairSeatsModel" "sets" "[I", Cond.fieldLink RX11 13 "FairSeatsModel" "papers" "[I", Cond.methodLink RX11 92 yX11_pick, Cond.instanceMethod yX11_pick, Cond.selects RX11 yX11_pick yX11_pick, Cond.code yX11_pick cX11_pick 3 none, Cond.fieldLink RX11 29 "FairSeatsModel" "chosen" "[I", Cond.methodLink RX11 113 yX11_greedyOf, Cond.instanceMethod yX11_greedyOf, Cond.selects RX11 yX11_greedyOf yX11_greedyOf, Cond.code yX11_greedyOf cX11_greedyOf 3 (some .int), Cond.methodLink RX11 70 yX11_worthOf, Cond.instanceMethod yX11_worthOf, Cond.selects RX11 yX11_worthOf yX11_worthOf, Cond.code yX11_worthOf cX11_worthOf 6 (some .int), Cond.fieldLink RX11 20 "FairSeatsModel" "worths" "[I", Cond.methodLink RX11 60 yX11_bits, Cond.static yX11_bits, Cond.code yX11_bits cX11_bits 3 (some .int)]
def wsX11_more_r3 : List Cond := [Cond.methodLink RX11 116 yX11_loadOne, Cond.instanceMethod yX11_loadOne, Cond.selects RX11 yX11_loadOne yX11_loadOne, Cond.code yX11_loadOne cX11_loadOne 13 none, Cond.methodLink RX11 85 yX11_carry, Cond.instanceMethod yX11_carry, Cond.selects RX11 yX11_carry yX11_carry, Cond.code yX11_carry cX11_carry 5 none, Cond.methodLink RX11 120 yX11_share, Cond.instanceMethod yX11_share, Cond.selects RX11 yX11_share yX11_share, Cond.code yX11_share cX11_share 10 none, Cond.fieldLink RX11 99 "FairSeatsModel" "rhoUp" "J", Cond.fieldLink RX11 103 "FairSeatsModel" "rhoBy" "J", Cond.methodLink RX11 106 yX11_layRho, Cond.instanceMethod yX11_layRho, Cond.selects RX11 yX11_layRho yX11_layRho, Cond.code yX11_layRho cX11_layRho 12 (some .boolean), Cond.methodLink RX11 96 yX11_allPapers, Cond.instanceMethod yX11_allPapers, Cond.selects RX11 yX11_allPapers yX11_allPapers, Cond.code yX11_allPapers cX11_allPapers 3 (some .int), Cond.methodLink RX11 123 yX11_bestOf, Cond.instanceMethod yX11_bestOf]
def wsX11_more_r4 : List Cond := [Cond.selects RX11 yX11_bestOf yX11_bestOf, Cond.code yX11_bestOf cX11_bestOf 4 (some .int), Cond.methodLink RX11 67 yX11_barOf, Cond.instanceMethod yX11_barOf, Cond.selects RX11 yX11_barOf yX11_barOf, Cond.code yX11_barOf cX11_barOf 8 (some .int), Cond.fieldLink RX11 57 "FairSeatsModel" "hallMany" "I", Cond.fieldLink RX11 26 "FairSeatsModel" "hallSign" "[I", Cond.methodLink RX11 126 yX11_mend, Cond.instanceMethod yX11_mend, Cond.selects RX11 yX11_mend yX11_mend, Cond.code yX11_mend cX11_mend 6 none]
def wsX11_more : List Cond := .code yX11_more cX11_more 4 (some .int) :: ((wsX11_more_r1 ++ (wsX11_more_r2 ++ (wsX11_more_r3 ++ wsX11_more_r4))) ++ wsX110)
def wsX11_turn_r1 : List Cond := [Cond.fieldLink RX11 13 "FairSeatsModel" "papers" "[I", Cond.fieldLink RX11 39 "FairSeatsModel" "heaps" "I", Cond.fieldLink RX11 7 "FairSeatsModel" "sets" "[I", Cond.methodLink RX11 129 yX11_isWay, Cond.static yX11_isWay, Cond.initialized RX11, Cond.code yX11_isWay cX11_isWay 1 (some .boolean), Cond.methodLink RX11 42 yX11_in, Cond.static yX11_in, Cond.code yX11_in cX11_in 3 (some .boolean), Cond.methodLink RX11 46 yX11_isHeap, Cond.instanceMethod yX11_isHeap, Cond.selects RX11 yX11_isHeap yX11_isHeap, Cond.code yX11_isHeap cX11_isHeap 2 (some .boolean), Cond.methodLink RX11 132 yX11_layWay, Cond.instanceMethod yX11_layWay, Cond.selects RX11 yX11_layWay yX11_layWay, Cond.code yX11_layWay cX11_layWay 3 none, Cond.fieldLink RX11 76 "FairSeatsModel" "chosenSet" "I", Cond.fieldLink RX11 110 "FairSeatsModel" "paidSeats" "I", Cond.fieldLink RX11 36 "FairSeatsModel" "lower" "[J", Cond.fieldLink RX11 32 "FairSeatsModel" "upper" "[J", Cond.fieldLink RX11 16 "FairSeatsModel" "seats" "I", Cond.methodLink RX11 89 yX11_mostOf]
def wsX11_turn_r2 : List Cond := [Cond.instanceMethod yX11_mostOf, Cond.selects RX11 yX11_mostOf yX11_mostOf, Cond.code yX11_mostOf cX11_mostOf 3 (some .int), Cond.methodLink RX11 79 yX11_isLeft, Cond.instanceMethod yX11_isLeft, Cond.selects RX11 yX11_isLeft yX11_isLeft, Cond.code yX11_isLeft cX11_isLeft 2 (some .boolean), Cond.methodLink RX11 82 yX11_papersOf, Cond.instanceMethod yX11_papersOf, Cond.selects RX11 yX11_papersOf yX11_papersOf, Cond.code yX11_papersOf cX11_papersOf 4 (some .int), Cond.methodLink RX11 92 yX11_pick, Cond.instanceMethod yX11_pick, Cond.selects RX11 yX11_pick yX11_pick, Cond.code yX11_pick cX11_pick 3 none, Cond.fieldLink RX11 29 "FairSeatsModel" "chosen" "[I", Cond.methodLink RX11 113 yX11_greedyOf, Cond.instanceMethod yX11_greedyOf, Cond.selects RX11 yX11_greedyOf yX11_greedyOf, Cond.code yX11_greedyOf cX11_greedyOf 3 (some .int), Cond.methodLink RX11 70 yX11_worthOf, Cond.instanceMethod yX11_worthOf, Cond.selects RX11 yX11_worthOf yX11_worthOf, Cond.code yX11_worthOf cX11_worthOf 6 (some .int)]
def wsX11_turn_r3 : List Cond := [Cond.fieldLink RX11 20 "FairSeatsModel" "worths" "[I", Cond.methodLink RX11 60 yX11_bits, Cond.static yX11_bits, Cond.code yX11_bits cX11_bits 3 (some .int), Cond.methodLink RX11 116 yX11_loadOne, Cond.instanceMethod yX11_loadOne, Cond.selects RX11 yX11_loadOne yX11_loadOne, Cond.code yX11_loadOne cX11_loadOne 13 none, Cond.methodLink RX11 85 yX11_carry, Cond.instanceMethod yX11_carry, Cond.selects RX11 yX11_carry yX11_carry, Cond.code yX11_carry cX11_carry 5 none, Cond.methodLink RX11 120 yX11_share, Cond.instanceMethod yX11_share, Cond.selects RX11 yX11_share yX11_share, Cond.code yX11_share cX11_share 10 none, Cond.fieldLink RX11 99 "FairSeatsModel" "rhoUp" "J", Cond.fieldLink RX11 103 "FairSeatsModel" "rhoBy" "J", Cond.methodLink RX11 106 yX11_layRho, Cond.instanceMethod yX11_layRho, Cond.selects RX11 yX11_layRho yX11_layRho, Cond.code yX11_layRho cX11_layRho 12 (some .boolean), Cond.methodLink RX11 96 yX11_allPapers, Cond.instanceMethod yX11_allPapers]
def wsX11_turn_r4 : List Cond := [Cond.selects RX11 yX11_allPapers yX11_allPapers, Cond.code yX11_allPapers cX11_allPapers 3 (some .int), Cond.methodLink RX11 123 yX11_bestOf, Cond.instanceMethod yX11_bestOf, Cond.selects RX11 yX11_bestOf yX11_bestOf, Cond.code yX11_bestOf cX11_bestOf 4 (some .int), Cond.methodLink RX11 67 yX11_barOf, Cond.instanceMethod yX11_barOf, Cond.selects RX11 yX11_barOf yX11_barOf, Cond.code yX11_barOf cX11_barOf 8 (some .int), Cond.fieldLink RX11 57 "FairSeatsModel" "hallMany" "I", Cond.fieldLink RX11 26 "FairSeatsModel" "hallSign" "[I", Cond.methodLink RX11 126 yX11_mend, Cond.instanceMethod yX11_mend, Cond.selects RX11 yX11_mend yX11_mend, Cond.code yX11_mend cX11_mend 6 none]
def wsX11_turn : List Cond := .code yX11_turn cX11_turn 7 (some .int) :: ((wsX11_turn_r1 ++ (wsX11_turn_r2 ++ (wsX11_turn_r3 ++ wsX11_turn_r4))) ++ wsX110)
def wsX11_told : List Cond := .code yX11_told cX11_told 4 (some .int) :: ([.fieldLink RX11 57 "FairSeatsModel" "hallMany" "I", .fieldLink RX11 26 "FairSeatsModel" "hallSign" "[I", .fieldLink RX11 20 "FairSeatsModel" "worths" "[I", .fieldLink RX11 13 "FairSeatsModel" "papers" "[I", .fieldLink RX11 7 "FairSeatsModel" "sets" "[I", .fieldLink RX11 39 "FairSeatsModel" "heaps" "I", .fieldLink RX11 16 "FairSeatsModel" "seats" "I", .fieldLink RX11 50 "FairSeatsModel" "signs" "I", .methodLink RX11 42 yX11_in, .static yX11_in, .initialized RX11, .code yX11_in cX11_in 3 (some .boolean), .methodLink RX11 46 yX11_isHeap, .instanceMethod yX11_isHeap, .selects RX11 yX11_isHeap yX11_isHeap, .code yX11_isHeap cX11_isHeap 2 (some .boolean), .methodLink RX11 96 yX11_allPapers, .instanceMethod yX11_allPapers, .selects RX11 yX11_allPapers yX11_allPapers, .code yX11_allPapers cX11_allPapers 3 (some .int)] ++ wsX110)
def wsJ9_max_7cf53 : List Cond := .code yJ9_max_7cf53 cJ9_max_7cf53 2 (some .int) :: ([])
def wsJ9_max_f86c9 : List Cond := .code yJ9_max_f86c9 cJ9_max_f86c9 4 (some .long) :: ([])
def wsJ9_min_7cf53 : List Cond := .code yJ9_min_7cf53 cJ9_min_7cf53 2 (some .int) :: ([])
def wsL_law_r1 : List Cond := [Cond.classLink RL 7 RX10, Cond.instantiable RX10 9, Cond.initialized RX10, Cond.classLink RL 10 RX11, Cond.instantiable RX11 17, Cond.initialized RX11, Cond.methodLink RL 9 yX10_init, Cond.instanceMethod yX10_init, Cond.code yX10_init cX10_init 1 none, Cond.methodLink RX10 1 objectInit, Cond.instanceMethod objectInit, Cond.code objectInit ⟨#[0xb1]⟩ 1 none, Cond.classLink RX10 7 RX9, Cond.instantiable RX9 2, Cond.initialized RX9, Cond.fieldLink RX10 10 "FairSeats" "worths" "LFairSeats$Worths;", Cond.classLink RX10 16 RX3, Cond.instantiable RX3 4, Cond.initialized RX3, Cond.fieldLink RX10 21 "FairSeats" "heaps" "LFairSeats$Heaps;", Cond.fieldLink RX10 25 "FairSeats" "trial" "LFairSeats$Heaps;", Cond.classLink RX10 28 RX7, Cond.instantiable RX7 2, Cond.initialized RX7]
def wsL_law_r2 : List Cond := [Cond.fieldLink RX10 31 "FairSeats" "text" "LFairSeats$Text;", Cond.classLink RX10 35 RX4, Cond.instantiable RX4 4, Cond.initialized RX4, Cond.fieldLink RX10 38 "FairSeats" "lines" "LFairSeats$Lines;", Cond.classLink RX10 42 RX0, Cond.instantiable RX0 2, Cond.initialized RX0, Cond.fieldLink RX10 45 "FairSeats" "lawful" "LFairSeats$Committees;", Cond.classLink RX10 49 RX2, Cond.instantiable RX2 9, Cond.initialized RX2, Cond.fieldLink RX10 52 "FairSeats" "groups" "LFairSeats$Groups;", Cond.classLink RX10 56 RX8, Cond.instantiable RX8 7, Cond.initialized RX8, Cond.fieldLink RX10 61 "FairSeats" "ways" "LFairSeats$Ways;", Cond.fieldLink RX10 65 "FairSeats" "seatCount" "I", Cond.methodLink RX10 9 yX9_init, Cond.instanceMethod yX9_init, Cond.code yX9_init cX9_init 1 none, Cond.methodLink RX9 3 objectInit, Cond.arrayClass .int, Cond.fieldLink RX9 9 "FairSeats$Worths" "each" "[I"]
def wsL_law_r3 : List Cond := [Cond.fieldLink RX9 15 "FairSeats$Worths" "together" "[I", Cond.methodLink RX9 18 yX9_addUp, Cond.instanceMethod yX9_addUp, Cond.selects RX9 yX9_addUp yX9_addUp, Cond.code yX9_addUp cX9_addUp 2 none, Cond.methodLink RX10 18 yX3_init, Cond.instanceMethod yX3_init, Cond.code yX3_init cX3_init 2 none, Cond.methodLink RX3 3 objectInit, Cond.fieldLink RX3 9 "FairSeats$Heaps" "sets" "[I", Cond.fieldLink RX3 15 "FairSeats$Heaps" "papers" "[I", Cond.fieldLink RX3 18 "FairSeats$Heaps" "worths" "LFairSeats$Worths;", Cond.instanceMethod yX7_init, Cond.code yX7_init cX7_init 1 none, Cond.methodLink RX7 3 objectInit, Cond.fieldLink RX7 9 "FairSeats$Text" "signs" "[I", Cond.instanceMethod yX4_init, Cond.code yX4_init cX4_init 1 none, Cond.methodLink RX4 3 objectInit, Cond.fieldLink RX4 9 "FairSeats$Lines" "sets" "[I", Cond.fieldLink RX4 15 "FairSeats$Lines" "digits" "[I", Cond.arrayClass .boolean, Cond.fieldLink RX4 18 "FairSeats$Lines" "fewer" "[Z", Cond.instanceMethod yX0_init]
def wsL_law_r4 : List Cond := [Cond.code yX0_init cX0_init 1 none, Cond.methodLink RX0 3 objectInit, Cond.fieldLink RX0 9 "FairSeats$Committees" "row" "[I", Cond.instanceMethod yX2_init, Cond.code yX2_init cX2_init 1 none, Cond.methodLink RX2 3 objectInit, Cond.fieldLink RX2 9 "FairSeats$Groups" "common" "[I", Cond.fieldLink RX2 15 "FairSeats$Groups" "anyone" "[I", Cond.fieldLink RX2 18 "FairSeats$Groups" "papers" "[I", Cond.fieldLink RX2 21 "FairSeats$Groups" "due" "[I", Cond.fieldLink RX2 24 "FairSeats$Groups" "mostHad" "[I", Cond.fieldLink RX2 27 "FairSeats$Groups" "sets" "[I", Cond.methodLink RX10 58 yX8_init, Cond.instanceMethod yX8_init, Cond.code yX8_init cX8_init 2 none, Cond.methodLink RX8 3 objectInit, Cond.classLink RX8 9 RX5, Cond.instantiable RX5 2, Cond.initialized RX5, Cond.fieldLink RX8 12 "FairSeats$Ways" "loads" "LFairSeats$Loads;", Cond.classLink RX8 18 RX6, Cond.instantiable RX6 4, Cond.initialized RX6, Cond.fieldLink RX8 21 "FairSeats$Ways" "purses" "LFairSeats$Purses;"]
def wsL_law_r5 : List Cond := [Cond.fieldLink RX8 25 "FairSeats$Ways" "order" "[I", Cond.fieldLink RX8 29 "FairSeats$Ways" "lawful" "LFairSeats$Committees;", Cond.instanceMethod yX5_init, Cond.code yX5_init cX5_init 1 none, Cond.instanceMethod yX1_init, Cond.initialized RX1, Cond.code yX1_init cX1_init 1 none, Cond.methodLink RX1 3 objectInit, Cond.arrayClass .long, Cond.fieldLink RX1 9 "FairSeats$Fractions" "upper" "[J", Cond.instanceMethod yX6_init, Cond.code yX6_init cX6_init 1 none, Cond.methodLink RL 12 yX11_init, Cond.instanceMethod yX11_init, Cond.code yX11_init cX11_init 1 none, Cond.methodLink RX11 1 objectInit, Cond.fieldLink RX11 7 "FairSeatsModel" "sets" "[I", Cond.fieldLink RX11 13 "FairSeatsModel" "papers" "[I", Cond.fieldLink RX11 16 "FairSeatsModel" "seats" "I", Cond.fieldLink RX11 20 "FairSeatsModel" "worths" "[I", Cond.fieldLink RX11 23 "FairSeatsModel" "sign" "[I", Cond.fieldLink RX11 26 "FairSeatsModel" "hallSign" "[I", Cond.fieldLink RX11 29 "FairSeatsModel" "chosen" "[I", Cond.fieldLink RX11 32 "FairSeatsModel" "upper" "[J"]
def wsL_law_r6 : List Cond := [Cond.fieldLink RX11 36 "FairSeatsModel" "lower" "[J", Cond.methodLink RL 13 yX10_heap, Cond.instanceMethod yX10_heap, Cond.selects RX10 yX10_heap yX10_heap, Cond.code yX10_heap cX10_heap 3 (some .int), Cond.fieldLink RX10 76 "FairSeats$Heaps" "count" "I", Cond.methodLink RX10 69 yX10_isSet, Cond.static yX10_isSet, Cond.code yX10_isSet cX10_isSet 1 (some .boolean), Cond.methodLink RX10 73 yX10_isPapers, Cond.static yX10_isPapers, Cond.code yX10_isPapers cX10_isPapers 1 (some .boolean), Cond.methodLink RX10 79 yX3_append, Cond.instanceMethod yX3_append, Cond.selects RX3 yX3_append yX3_append, Cond.code yX3_append cX3_append 3 none, Cond.fieldLink RX3 22 "FairSeats$Heaps" "count" "I", Cond.methodLink RL 17 yX11_heap, Cond.instanceMethod yX11_heap, Cond.selects RX11 yX11_heap yX11_heap, Cond.code yX11_heap cX11_heap 3 (some .int), Cond.fieldLink RX11 39 "FairSeatsModel" "heaps" "I", Cond.methodLink RX11 42 yX11_in, Cond.static yX11_in]
def wsL_law_r7 : List Cond := [Cond.code yX11_in cX11_in 3 (some .boolean), Cond.methodLink RL 18 yX10_change, Cond.instanceMethod yX10_change, Cond.selects RX10 yX10_change yX10_change, Cond.code yX10_change cX10_change 5 (some .int), Cond.fieldLink RX10 86 "FairSeats$Heaps" "sets" "[I", Cond.fieldLink RX10 90 "FairSeats$Heaps" "papers" "[I", Cond.methodLink RX10 83 yX10_isHeap, Cond.instanceMethod yX10_isHeap, Cond.selects RX10 yX10_isHeap yX10_isHeap, Cond.code yX10_isHeap cX10_isHeap 2 (some .boolean), Cond.methodLink RL 22 yX11_change, Cond.instanceMethod yX11_change, Cond.selects RX11 yX11_change yX11_change, Cond.code yX11_change cX11_change 5 (some .int), Cond.methodLink RX11 46 yX11_isHeap, Cond.instanceMethod yX11_isHeap, Cond.selects RX11 yX11_isHeap yX11_isHeap, Cond.code yX11_isHeap cX11_isHeap 2 (some .boolean), Cond.methodLink RL 23 yX10_drop, Cond.instanceMethod yX10_drop, Cond.selects RX10 yX10_drop yX10_drop, Cond.code yX10_drop cX10_drop 1 (some .int), Cond.methodLink RL 27 yX11_drop]
def wsL_law_r8 : List Cond := [Cond.instanceMethod yX11_drop, Cond.selects RX11 yX11_drop yX11_drop, Cond.code yX11_drop cX11_drop 1 (some .int), Cond.methodLink RL 28 yX10_seats, Cond.instanceMethod yX10_seats, Cond.selects RX10 yX10_seats yX10_seats, Cond.code yX10_seats cX10_seats 3 (some .int), Cond.methodLink RL 32 yX11_seats, Cond.instanceMethod yX11_seats, Cond.selects RX11 yX11_seats yX11_seats, Cond.code yX11_seats cX11_seats 3 (some .int), Cond.methodLink RL 33 yX10_worth, Cond.instanceMethod yX10_worth, Cond.selects RX10 yX10_worth yX10_worth, Cond.code yX10_worth cX10_worth 4 (some .int), Cond.fieldLink RX10 97 "FairSeats$Worths" "each" "[I", Cond.methodLink RX10 93 yX9_fits, Cond.instanceMethod yX9_fits, Cond.selects RX9 yX9_fits yX9_fits, Cond.code yX9_fits cX9_fits 5 (some .boolean), Cond.methodLink RX10 100 yX9_put, Cond.instanceMethod yX9_put, Cond.selects RX9 yX9_put yX9_put, Cond.code yX9_put cX9_put 3 none]
def wsL_law_r9 : List Cond := [Cond.methodLink RL 36 yX11_worth, Cond.instanceMethod yX11_worth, Cond.selects RX11 yX11_worth yX11_worth, Cond.code yX11_worth cX11_worth 4 (some .int), Cond.methodLink RL 37 yX10_say, Cond.instanceMethod yX10_say, Cond.selects RX10 yX10_say yX10_say, Cond.code yX10_say cX10_say 2 (some .int), Cond.fieldLink RX10 103 "FairSeats$Text" "length" "I", Cond.methodLink RX10 106 yX7_append, Cond.instanceMethod yX7_append, Cond.selects RX7 yX7_append yX7_append, Cond.code yX7_append cX7_append 2 none, Cond.fieldLink RX7 15 "FairSeats$Text" "length" "I", Cond.methodLink RL 40 yX11_say, Cond.instanceMethod yX11_say, Cond.selects RX11 yX11_say yX11_say, Cond.code yX11_say cX11_say 2 (some .int), Cond.fieldLink RX11 50 "FairSeatsModel" "signs" "I", Cond.methodLink RL 41 yX10_wipe, Cond.instanceMethod yX10_wipe, Cond.selects RX10 yX10_wipe yX10_wipe, Cond.code yX10_wipe cX10_wipe 2 (some .int), Cond.methodLink RL 44 yX11_wipe]
def wsL_law_r10 : List Cond := [Cond.instanceMethod yX11_wipe, Cond.selects RX11 yX11_wipe yX11_wipe, Cond.code yX11_wipe cX11_wipe 2 (some .int), Cond.methodLink RL 45 yX10_fault, Cond.instanceMethod yX10_fault, Cond.selects RX10 yX10_fault yX10_fault, Cond.code yX10_fault cX10_fault 1 (some .int), Cond.methodLink RX10 109 yX7_firstFault, Cond.instanceMethod yX7_firstFault, Cond.selects RX7 yX7_firstFault yX7_firstFault, Cond.code yX7_firstFault cX7_firstFault 3 (some .int), Cond.methodLink RX7 19 yX7_step, Cond.static yX7_step, Cond.code yX7_step cX7_step 3 (some .int), Cond.methodLink RL 48 yX11_fault, Cond.instanceMethod yX11_fault, Cond.selects RX11 yX11_fault yX11_fault, Cond.code yX11_fault cX11_fault 1 (some .int), Cond.methodLink RX11 53 yX11_faultOf, Cond.instanceMethod yX11_faultOf, Cond.selects RX11 yX11_faultOf yX11_faultOf, Cond.code yX11_faultOf cX11_faultOf 7 (some .int), Cond.methodLink RL 49 yX10_hall, Cond.instanceMethod yX10_hall]
def wsL_law_r11 : List Cond := [Cond.selects RX10 yX10_hall yX10_hall, Cond.code yX10_hall cX10_hall 1 (some .int), Cond.methodLink RX10 113 yX4_read, Cond.instanceMethod yX4_read, Cond.selects RX4 yX4_read yX4_read, Cond.code yX4_read cX4_read 6 none, Cond.fieldLink RX4 22 "FairSeats$Lines" "count" "I", Cond.fieldLink RX4 26 "FairSeats$Text" "length" "I", Cond.fieldLink RX4 31 "FairSeats$Text" "signs" "[I", Cond.methodLink RX4 34 yX4_append, Cond.instanceMethod yX4_append, Cond.selects RX4 yX4_append yX4_append, Cond.code yX4_append cX4_append 4 none, Cond.methodLink RL 52 yX11_hall, Cond.instanceMethod yX11_hall, Cond.selects RX11 yX11_hall yX11_hall, Cond.code yX11_hall cX11_hall 2 (some .int), Cond.fieldLink RX11 57 "FairSeatsModel" "hallMany" "I", Cond.methodLink RL 53 yX10_open, Cond.instanceMethod yX10_open, Cond.selects RX10 yX10_open yX10_open, Cond.code yX10_open cX10_open 1 (some .int), Cond.fieldLink RX10 117 "FairSeats$Lines" "count" "I", Cond.methodLink RL 56 yX11_open]
def wsL_law_r12 : List Cond := [Cond.instanceMethod yX11_open, Cond.selects RX11 yX11_open yX11_open, Cond.code yX11_open cX11_open 2 (some .int), Cond.methodLink RL 57 yX10_of, Cond.instanceMethod yX10_of, Cond.selects RX10 yX10_of yX10_of, Cond.code yX10_of cX10_of 3 (some .int), Cond.methodLink RX10 118 yX10_isCommittee, Cond.instanceMethod yX10_isCommittee, Cond.selects RX10 yX10_isCommittee yX10_isCommittee, Cond.code yX10_isCommittee cX10_isCommittee 2 (some .boolean), Cond.methodLink RX10 232 yJ6_bitCount_0f7a4, Cond.static yJ6_bitCount_0f7a4, Cond.initialized RJ6, Cond.code yJ6_bitCount_0f7a4 cJ6_bitCount_0f7a4 1 (some .int), Cond.constant RJ6 265 (1431655765), Cond.constant RJ6 266 (858993459), Cond.constant RJ6 267 (252645135), Cond.methodLink RX10 121 yX4_allow, Cond.instanceMethod yX4_allow, Cond.selects RX4 yX4_allow yX4_allow, Cond.code yX4_allow cX4_allow 2 (some .boolean), Cond.methodLink RX4 44 yX4_firstBroken, Cond.instanceMethod yX4_firstBroken]
def wsL_law_r13 : List Cond := [Cond.selects RX4 yX4_firstBroken yX4_firstBroken, Cond.code yX4_firstBroken cX4_firstBroken 4 (some .int), Cond.methodLink RX4 38 yJ6_bitCount_0f7a4, Cond.methodLink RX10 124 yX3_worthOf, Cond.instanceMethod yX3_worthOf, Cond.selects RX3 yX3_worthOf yX3_worthOf, Cond.code yX3_worthOf cX3_worthOf 4 (some .int), Cond.fieldLink RX3 30 "FairSeats$Worths" "together" "[I", Cond.methodLink RX3 35 yJ6_bitCount_0f7a4, Cond.methodLink RX10 128 yX3_wronged, Cond.instanceMethod yX3_wronged, Cond.selects RX3 yX3_wronged yX3_wronged, Cond.code yX3_wronged cX3_wronged 4 (some .int), Cond.methodLink RX10 131 yX4_firstBroken, Cond.methodLink RL 60 yX11_of, Cond.instanceMethod yX11_of, Cond.selects RX11 yX11_of yX11_of, Cond.code yX11_of cX11_of 3 (some .int), Cond.methodLink RX11 64 yX11_isCommittee, Cond.instanceMethod yX11_isCommittee, Cond.selects RX11 yX11_isCommittee yX11_isCommittee, Cond.code yX11_isCommittee cX11_isCommittee 2 (some .boolean), Cond.methodLink RX11 60 yX11_bits, Cond.static yX11_bits]
def wsL_law_r14 : List Cond := [Cond.code yX11_bits cX11_bits 3 (some .int), Cond.methodLink RX11 67 yX11_barOf, Cond.instanceMethod yX11_barOf, Cond.selects RX11 yX11_barOf yX11_barOf, Cond.code yX11_barOf cX11_barOf 8 (some .int), Cond.methodLink RX11 70 yX11_worthOf, Cond.instanceMethod yX11_worthOf, Cond.selects RX11 yX11_worthOf yX11_worthOf, Cond.code yX11_worthOf cX11_worthOf 6 (some .int), Cond.methodLink RX11 73 yX11_wronged, Cond.instanceMethod yX11_wronged, Cond.selects RX11 yX11_wronged yX11_wronged, Cond.code yX11_wronged cX11_wronged 4 (some .int), Cond.methodLink RL 61 yX10_choose, Cond.instanceMethod yX10_choose, Cond.selects RX10 yX10_choose yX10_choose, Cond.code yX10_choose cX10_choose 3 (some .int), Cond.fieldLink RX10 140 "FairSeats$Ways" "chosen" "I", Cond.methodLink RX10 134 yX10_isWay, Cond.static yX10_isWay, Cond.code yX10_isWay cX10_isWay 1 (some .boolean), Cond.methodLink RX10 137 yX10_runWay, Cond.instanceMethod yX10_runWay, Cond.selects RX10 yX10_runWay yX10_runWay]
def wsL_law_r15 : List Cond := [Cond.code yX10_runWay cX10_runWay 3 none, Cond.methodLink RX10 205 yX0_gather, Cond.instanceMethod yX0_gather, Cond.selects RX0 yX0_gather yX0_gather, Cond.code yX0_gather cX0_gather 4 none, Cond.fieldLink RX0 15 "FairSeats$Committees" "count" "I", Cond.methodLink RX0 19 yJ6_bitCount_0f7a4, Cond.methodLink RX0 25 yX4_allow, Cond.methodLink RX10 219 yX8_run, Cond.instanceMethod yX8_run, Cond.selects RX8 yX8_run yX8_run, Cond.code yX8_run cX8_run 4 none, Cond.methodLink RX8 33 yX8_clear, Cond.instanceMethod yX8_clear, Cond.selects RX8 yX8_clear yX8_clear, Cond.code yX8_clear cX8_clear 1 none, Cond.fieldLink RX8 67 "FairSeats$Ways" "count" "I", Cond.fieldLink RX8 63 "FairSeats$Ways" "chosen" "I", Cond.methodLink RX8 36 yX8_byHeads, Cond.instanceMethod yX8_byHeads, Cond.selects RX8 yX8_byHeads yX8_byHeads, Cond.code yX8_byHeads cX8_byHeads 8 none, Cond.methodLink RX8 73 yX8_holds, Cond.instanceMethod yX8_holds]
def wsL_law_r16 : List Cond := [Cond.selects RX8 yX8_holds yX8_holds, Cond.code yX8_holds cX8_holds 2 (some .boolean), Cond.methodLink RX8 77 yX3_telling, Cond.instanceMethod yX3_telling, Cond.selects RX3 yX3_telling yX3_telling, Cond.code yX3_telling cX3_telling 4 (some .int), Cond.methodLink RX3 26 yX3_tells, Cond.instanceMethod yX3_tells, Cond.selects RX3 yX3_tells yX3_tells, Cond.code yX3_tells cX3_tells 3 (some .boolean), Cond.methodLink RX8 70 yX8_add, Cond.instanceMethod yX8_add, Cond.selects RX8 yX8_add yX8_add, Cond.code yX8_add cX8_add 2 none, Cond.methodLink RX8 40 yX8_byWorth, Cond.instanceMethod yX8_byWorth, Cond.selects RX8 yX8_byWorth yX8_byWorth, Cond.code yX8_byWorth cX8_byWorth 8 none, Cond.methodLink RX8 83 yX3_worthOf, Cond.methodLink RX8 43 yX8_byLoads, Cond.instanceMethod yX8_byLoads, Cond.selects RX8 yX8_byLoads yX8_byLoads, Cond.code yX8_byLoads cX8_byLoads 5 none, Cond.methodLink RX8 86 ⟨"FairSeats$Loads", "begin", "(I)V"⟩]
def wsL_law_r17 : List Cond := [Cond.sameMethod "FairSeats$Loads" "FairSeats$Fractions" "begin" "(I)V", Cond.selects RX5 ⟨"FairSeats$Loads", "begin", "(I)V"⟩ yX1_begin, Cond.instanceMethod yX1_begin, Cond.code yX1_begin cX1_begin 3 none, Cond.fieldLink RX1 15 "FairSeats$Fractions" "lower" "J", Cond.methodLink RX8 89 yX5_lightest, Cond.instanceMethod yX5_lightest, Cond.selects RX5 yX5_lightest yX5_lightest, Cond.code yX5_lightest cX5_lightest 12 (some .int), Cond.fieldLink RX5 15 "FairSeats$Loads" "lower" "J", Cond.sameField "FairSeats$Loads" "FairSeats$Fractions" "lower" "J", Cond.methodLink RX5 9 yX3_telling, Cond.methodLink RX5 21 ⟨"FairSeats$Loads", "sumOf", "(LFairSeats$Heaps;I)J"⟩, Cond.sameMethod "FairSeats$Loads" "FairSeats$Fractions" "sumOf" "(LFairSeats$Heaps;I)J", Cond.selects RX5 ⟨"FairSeats$Loads", "sumOf", "(LFairSeats$Heaps;I)J"⟩ yX1_sumOf, Cond.instanceMethod yX1_sumOf, Cond.code yX1_sumOf cX1_sumOf 6 (some .long), Cond.fieldLink RX1 19 "FairSeats$Heaps" "count" "I", Cond.fieldLink RX1 29 "FairSeats$Heaps" "papers" "[I", Cond.methodLink RX1 25 yX3_tells, Cond.methodLink RX8 93 yX5_bear, Cond.instanceMethod yX5_bear, Cond.selects RX5 yX5_bear yX5_bear, Cond.code yX5_bear cX5_bear 7 none]
def wsL_law_r18 : List Cond := [Cond.fieldLink RX5 29 "FairSeats$Heaps" "count" "I", Cond.fieldLink RX5 37 "FairSeats$Loads" "upper" "[J", Cond.sameField "FairSeats$Loads" "FairSeats$Fractions" "upper" "[J", Cond.methodLink RX5 25 ⟨"FairSeats$Loads", "widen", "(I)V"⟩, Cond.sameMethod "FairSeats$Loads" "FairSeats$Fractions" "widen" "(I)V", Cond.selects RX5 ⟨"FairSeats$Loads", "widen", "(I)V"⟩ yX1_widen, Cond.instanceMethod yX1_widen, Cond.code yX1_widen cX1_widen 3 none, Cond.methodLink RX5 33 yX3_tells, Cond.methodLink RX8 46 yX8_byPurses, Cond.instanceMethod yX8_byPurses, Cond.selects RX8 yX8_byPurses yX8_byPurses, Cond.code yX8_byPurses cX8_byPurses 6 none, Cond.fieldLink RX8 97 "FairSeats$Ways" "paidCount" "I", Cond.methodLink RX8 96 ⟨"FairSeats$Purses", "begin", "(I)V"⟩, Cond.sameMethod "FairSeats$Purses" "FairSeats$Fractions" "begin" "(I)V", Cond.selects RX6 ⟨"FairSeats$Purses", "begin", "(I)V"⟩ yX1_begin, Cond.methodLink RX8 100 yX6_cheapest, Cond.instanceMethod yX6_cheapest, Cond.selects RX6 yX6_cheapest yX6_cheapest, Cond.code yX6_cheapest cX6_cheapest 10 (some .int), Cond.fieldLink RX6 15 "FairSeats$Purses" "lower" "J", Cond.sameField "FairSeats$Purses" "FairSeats$Fractions" "lower" "J", Cond.fieldLink RX6 33 "FairSeats$Purses" "rest" "J"]
def wsL_law_r19 : List Cond := [Cond.fieldLink RX6 36 "FairSeats$Purses" "payers" "I", Cond.methodLink RX6 9 yX3_total, Cond.instanceMethod yX3_total, Cond.selects RX3 yX3_total yX3_total, Cond.code yX3_total cX3_total 3 (some .int), Cond.methodLink RX6 21 yX3_telling, Cond.methodLink RX6 25 ⟨"FairSeats$Purses", "sumOf", "(LFairSeats$Heaps;I)J"⟩, Cond.sameMethod "FairSeats$Purses" "FairSeats$Fractions" "sumOf" "(LFairSeats$Heaps;I)J", Cond.selects RX6 ⟨"FairSeats$Purses", "sumOf", "(LFairSeats$Heaps;I)J"⟩ yX1_sumOf, Cond.methodLink RX6 29 yX6_price, Cond.instanceMethod yX6_price, Cond.selects RX6 yX6_price yX6_price, Cond.code yX6_price cX6_price 11 none, Cond.fieldLink RX6 40 "FairSeats$Heaps" "count" "I", Cond.fieldLink RX6 47 "FairSeats$Purses" "upper" "[J", Cond.sameField "FairSeats$Purses" "FairSeats$Fractions" "upper" "[J", Cond.fieldLink RX6 51 "FairSeats$Heaps" "papers" "[I", Cond.methodLink RX6 43 yX3_tells, Cond.methodLink RX8 103 yX6_pay, Cond.instanceMethod yX6_pay, Cond.selects RX6 yX6_pay yX6_pay, Cond.code yX6_pay cX6_pay 4 none, Cond.methodLink RX6 59 Lib.MathLoose.max_long.x, Cond.static Lib.MathLoose.max_long.x]
def wsL_law_r20 : List Cond := [Cond.initialized "java/lang/Math", Cond.code Lib.MathLoose.max_long.x Lib.MathLoose.max_long.code 4 (some .long), Cond.methodLink RX6 55 ⟨"FairSeats$Purses", "widen", "(I)V"⟩, Cond.sameMethod "FairSeats$Purses" "FairSeats$Fractions" "widen" "(I)V", Cond.selects RX6 ⟨"FairSeats$Purses", "widen", "(I)V"⟩ yX1_widen, Cond.methodLink RX8 50 yX0_ofMostWorth, Cond.instanceMethod yX0_ofMostWorth, Cond.selects RX0 yX0_ofMostWorth yX0_ofMostWorth, Cond.code yX0_ofMostWorth cX0_ofMostWorth 6 (some .int), Cond.methodLink RX0 40 yX3_worthOf, Cond.methodLink RX8 56 yX8_take, Cond.instanceMethod yX8_take, Cond.selects RX8 yX8_take yX8_take, Cond.code yX8_take cX8_take 3 none, Cond.methodLink RX8 60 yX8_bySwaps, Cond.instanceMethod yX8_bySwaps, Cond.selects RX8 yX8_bySwaps yX8_bySwaps, Cond.code yX8_bySwaps cX8_bySwaps 6 none, Cond.methodLink RX8 106 yX8_bestSwap, Cond.static yX8_bestSwap, Cond.code yX8_bestSwap cX8_bestSwap 8 (some .int), Cond.methodLink RX10 143 yX8_chosenAt, Cond.instanceMethod yX8_chosenAt, Cond.selects RX8 yX8_chosenAt yX8_chosenAt]
def wsL_law_r21 : List Cond := [Cond.code yX8_chosenAt cX8_chosenAt 2 (some .int), Cond.methodLink RL 64 yX11_choose, Cond.instanceMethod yX11_choose, Cond.selects RX11 yX11_choose yX11_choose, Cond.code yX11_choose cX11_choose 3 (some .int), Cond.fieldLink RX11 76 "FairSeatsModel" "chosenSet" "I", Cond.methodLink RX11 129 yX11_isWay, Cond.static yX11_isWay, Cond.code yX11_isWay cX11_isWay 1 (some .boolean), Cond.methodLink RX11 132 yX11_layWay, Cond.instanceMethod yX11_layWay, Cond.selects RX11 yX11_layWay yX11_layWay, Cond.code yX11_layWay cX11_layWay 3 none, Cond.fieldLink RX11 110 "FairSeatsModel" "paidSeats" "I", Cond.methodLink RX11 89 yX11_mostOf, Cond.instanceMethod yX11_mostOf, Cond.selects RX11 yX11_mostOf yX11_mostOf, Cond.code yX11_mostOf cX11_mostOf 3 (some .int), Cond.methodLink RX11 79 yX11_isLeft, Cond.instanceMethod yX11_isLeft, Cond.selects RX11 yX11_isLeft yX11_isLeft, Cond.code yX11_isLeft cX11_isLeft 2 (some .boolean), Cond.methodLink RX11 82 yX11_papersOf, Cond.instanceMethod yX11_papersOf]
def wsL_law_r22 : List Cond := [Cond.selects RX11 yX11_papersOf yX11_papersOf, Cond.code yX11_papersOf cX11_papersOf 4 (some .int), Cond.methodLink RX11 92 yX11_pick, Cond.instanceMethod yX11_pick, Cond.selects RX11 yX11_pick yX11_pick, Cond.code yX11_pick cX11_pick 3 none, Cond.methodLink RX11 113 yX11_greedyOf, Cond.instanceMethod yX11_greedyOf, Cond.selects RX11 yX11_greedyOf yX11_greedyOf, Cond.code yX11_greedyOf cX11_greedyOf 3 (some .int), Cond.methodLink RX11 116 yX11_loadOne, Cond.instanceMethod yX11_loadOne, Cond.selects RX11 yX11_loadOne yX11_loadOne, Cond.code yX11_loadOne cX11_loadOne 13 none, Cond.methodLink RX11 85 yX11_carry, Cond.instanceMethod yX11_carry, Cond.selects RX11 yX11_carry yX11_carry, Cond.code yX11_carry cX11_carry 5 none, Cond.methodLink RX11 120 yX11_share, Cond.instanceMethod yX11_share, Cond.selects RX11 yX11_share yX11_share, Cond.code yX11_share cX11_share 10 none, Cond.fieldLink RX11 99 "FairSeatsModel" "rhoUp" "J", Cond.fieldLink RX11 103 "FairSeatsModel" "rhoBy" "J"]
def wsL_law_r23 : List Cond := [Cond.methodLink RX11 106 yX11_layRho, Cond.instanceMethod yX11_layRho, Cond.selects RX11 yX11_layRho yX11_layRho, Cond.code yX11_layRho cX11_layRho 12 (some .boolean), Cond.methodLink RX11 96 yX11_allPapers, Cond.instanceMethod yX11_allPapers, Cond.selects RX11 yX11_allPapers yX11_allPapers, Cond.code yX11_allPapers cX11_allPapers 3 (some .int), Cond.methodLink RX11 123 yX11_bestOf, Cond.instanceMethod yX11_bestOf, Cond.selects RX11 yX11_bestOf yX11_bestOf, Cond.code yX11_bestOf cX11_bestOf 4 (some .int), Cond.methodLink RX11 126 yX11_mend, Cond.instanceMethod yX11_mend, Cond.selects RX11 yX11_mend yX11_mend, Cond.code yX11_mend cX11_mend 6 none, Cond.methodLink RX11 135 yX11_nth, Cond.static yX11_nth, Cond.code yX11_nth cX11_nth 4 (some .int), Cond.methodLink RL 65 yX10_load, Cond.instanceMethod yX10_load, Cond.selects RX10 yX10_load yX10_load, Cond.code yX10_load cX10_load 5 (some .long), Cond.constantLong RX10 150 (-1000000000000000000)]
def wsL_law_r24 : List Cond := [Cond.fieldLink RX10 156 "FairSeats$Ways" "loads" "LFairSeats$Loads;", Cond.methodLink RX10 146 yX10_refusalOfShare, Cond.instanceMethod yX10_refusalOfShare, Cond.selects RX10 yX10_refusalOfShare yX10_refusalOfShare, Cond.code yX10_refusalOfShare cX10_refusalOfShare 4 (some .int), Cond.methodLink RX10 152 yX8_byLoads, Cond.methodLink RX10 160 ⟨"FairSeats$Loads", "lowest", "(II)J"⟩, Cond.sameMethod "FairSeats$Loads" "FairSeats$Fractions" "lowest" "(II)J", Cond.selects RX5 ⟨"FairSeats$Loads", "lowest", "(II)J"⟩ yX1_lowest, Cond.instanceMethod yX1_lowest, Cond.code yX1_lowest cX1_lowest 7 (some .long), Cond.methodLink RX1 33 yX1_commonDivisor, Cond.static yX1_commonDivisor, Cond.code yX1_commonDivisor cX1_commonDivisor 7 (some .long), Cond.methodLink RL 69 yX11_load, Cond.instanceMethod yX11_load, Cond.selects RX11 yX11_load yX11_load, Cond.code yX11_load cX11_load 4 (some .long), Cond.methodLink RX11 147 yX11_behind, Cond.instanceMethod yX11_behind, Cond.selects RX11 yX11_behind yX11_behind, Cond.code yX11_behind cX11_behind 5 (some .long), Cond.constantLong RX11 139 (-1000000000000000001), Cond.constantLong RX11 141 (-1000000000000000002)]
def wsL_law_r25 : List Cond := [Cond.methodLink RX11 143 yX11_term, Cond.static yX11_term, Cond.code yX11_term cX11_term 11 (some .long), Cond.methodLink RL 70 yX10_purse, Cond.instanceMethod yX10_purse, Cond.selects RX10 yX10_purse yX10_purse, Cond.code yX10_purse cX10_purse 5 (some .long), Cond.fieldLink RX10 170 "FairSeats$Ways" "purses" "LFairSeats$Purses;", Cond.methodLink RX10 166 yX8_byPurses, Cond.methodLink RX10 174 ⟨"FairSeats$Purses", "lowest", "(II)J"⟩, Cond.sameMethod "FairSeats$Purses" "FairSeats$Fractions" "lowest" "(II)J", Cond.selects RX6 ⟨"FairSeats$Purses", "lowest", "(II)J"⟩ yX1_lowest, Cond.methodLink RL 73 yX11_purse, Cond.instanceMethod yX11_purse, Cond.selects RX11 yX11_purse yX11_purse, Cond.code yX11_purse cX11_purse 4 (some .long), Cond.methodLink RL 74 yX10_paid, Cond.instanceMethod yX10_paid, Cond.selects RX10 yX10_paid yX10_paid, Cond.code yX10_paid cX10_paid 1 (some .int), Cond.fieldLink RX10 177 "FairSeats$Ways" "paidCount" "I", Cond.methodLink RL 77 yX11_paid, Cond.instanceMethod yX11_paid, Cond.selects RX11 yX11_paid yX11_paid]
def wsL_law_r26 : List Cond := [Cond.code yX11_paid cX11_paid 1 (some .int), Cond.methodLink RL 78 yX10_owed, Cond.instanceMethod yX10_owed, Cond.selects RX10 yX10_owed yX10_owed, Cond.code yX10_owed cX10_owed 3 (some .int), Cond.fieldLink RX10 183 "FairSeats$Groups" "due" "[I", Cond.methodLink RX10 180 yX2_gather, Cond.instanceMethod yX2_gather, Cond.selects RX2 yX2_gather yX2_gather, Cond.code yX2_gather cX2_gather 8 none, Cond.fieldLink RX2 36 "FairSeats$Heaps" "count" "I", Cond.methodLink RX2 40 Lib.Math.min.name, Cond.static Lib.Math.min.name, Cond.code Lib.Math.min.name Lib.Math.min.code 2 (some .int), Cond.fieldLink RX2 46 "FairSeats$Groups" "count" "I", Cond.fieldLink RX2 47 "FairSeats$Heaps" "sets" "[I", Cond.fieldLink RX2 52 "FairSeats$Heaps" "papers" "[I", Cond.methodLink RX2 30 yX3_total, Cond.methodLink RX2 48 yX2_lowestHeap, Cond.static yX2_lowestHeap, Cond.code yX2_lowestHeap cX2_lowestHeap 1 (some .int), Cond.methodLink RX2 53 yJ6_bitCount_0f7a4, Cond.methodLink RL 81 yX11_owed, Cond.instanceMethod yX11_owed]
def wsL_law_r27 : List Cond := [Cond.selects RX11 yX11_owed yX11_owed, Cond.code yX11_owed cX11_owed 3 (some .int), Cond.methodLink RX11 151 yX11_isOwed, Cond.instanceMethod yX11_isOwed, Cond.selects RX11 yX11_isOwed yX11_isOwed, Cond.code yX11_isOwed cX11_isOwed 6 (some .boolean), Cond.methodLink RL 82 yX10_breach, Cond.instanceMethod yX10_breach, Cond.selects RX10 yX10_breach yX10_breach, Cond.code yX10_breach cX10_breach 4 (some .int), Cond.fieldLink RX10 192 "FairSeats$Groups" "breachSize" "I", Cond.fieldLink RX10 195 "FairSeats$Groups" "breachGroup" "I", Cond.methodLink RX10 186 yX10_isLaw, Cond.static yX10_isLaw, Cond.code yX10_isLaw cX10_isLaw 1 (some .boolean), Cond.methodLink RX10 189 yX2_seekBreach, Cond.instanceMethod yX2_seekBreach, Cond.selects RX2 yX2_seekBreach yX2_seekBreach, Cond.code yX2_seekBreach cX2_seekBreach 7 none, Cond.fieldLink RX2 58 "FairSeats$Groups" "breachSize" "I", Cond.fieldLink RX2 61 "FairSeats$Groups" "breachGroup" "I", Cond.methodLink RX2 64 yX2_countMostHad, Cond.instanceMethod yX2_countMostHad, Cond.selects RX2 yX2_countMostHad yX2_countMostHad]
def wsL_law_r28 : List Cond := [Cond.code yX2_countMostHad cX2_countMostHad 4 none, Cond.methodLink RX2 68 Lib.Math.max.name, Cond.static Lib.Math.max.name, Cond.code Lib.Math.max.name Lib.Math.max.code 2 (some .int), Cond.methodLink RL 85 yX11_breach, Cond.instanceMethod yX11_breach, Cond.selects RX11 yX11_breach yX11_breach, Cond.code yX11_breach cX11_breach 5 (some .int), Cond.fieldLink RX11 158 "FairSeatsModel" "breachGroup" "I", Cond.methodLink RX11 161 yX11_isLaw, Cond.static yX11_isLaw, Cond.code yX11_isLaw cX11_isLaw 1 (some .boolean), Cond.methodLink RX11 164 yX11_breachOf, Cond.instanceMethod yX11_breachOf, Cond.selects RX11 yX11_breachOf yX11_breachOf, Cond.code yX11_breachOf cX11_breachOf 5 (some .int), Cond.methodLink RX11 154 yX11_lacks, Cond.instanceMethod yX11_lacks, Cond.selects RX11 yX11_lacks yX11_lacks, Cond.code yX11_lacks cX11_lacks 8 (some .boolean), Cond.methodLink RL 86 yX10_kept, Cond.instanceMethod yX10_kept, Cond.selects RX10 yX10_kept yX10_kept, Cond.code yX10_kept cX10_kept 3 (some .int)]
def wsL_law_r29 : List Cond := [Cond.fieldLink RX10 201 "FairSeats$Committees" "count" "I", Cond.methodLink RX10 198 yX10_gatherKept, Cond.instanceMethod yX10_gatherKept, Cond.selects RX10 yX10_gatherKept yX10_gatherKept, Cond.code yX10_gatherKept cX10_gatherKept 2 none, Cond.methodLink RX10 237 yX0_keepThoseThatHold, Cond.instanceMethod yX0_keepThoseThatHold, Cond.selects RX0 yX0_keepThoseThatHold yX0_keepThoseThatHold, Cond.code yX0_keepThoseThatHold cX0_keepThoseThatHold 5 none, Cond.fieldLink RX0 37 "FairSeats$Groups" "breachSize" "I", Cond.methodLink RX0 31 yX2_seekBreach, Cond.methodLink RX10 202 yX0_at, Cond.instanceMethod yX0_at, Cond.selects RX0 yX0_at yX0_at, Cond.code yX0_at cX0_at 2 (some .int), Cond.methodLink RL 89 yX11_kept, Cond.instanceMethod yX11_kept, Cond.selects RX11 yX11_kept yX11_kept, Cond.code yX11_kept cX11_kept 5 (some .int), Cond.methodLink RX11 167 yX11_isKept, Cond.instanceMethod yX11_isKept, Cond.selects RX11 yX11_isKept yX11_isKept, Cond.code yX11_isKept cX11_isKept 3 (some .boolean), Cond.methodLink RL 90 yX10_least]
def wsL_law_r30 : List Cond := [Cond.instanceMethod yX10_least, Cond.selects RX10 yX10_least yX10_least, Cond.code yX10_least cX10_least 3 (some .int), Cond.methodLink RX10 208 yX0_leastWronged, Cond.instanceMethod yX0_leastWronged, Cond.selects RX0 yX0_leastWronged yX0_leastWronged, Cond.code yX0_leastWronged cX0_leastWronged 6 (some .int), Cond.methodLink RX0 45 yX3_wronged, Cond.methodLink RL 93 yX11_least, Cond.instanceMethod yX11_least, Cond.selects RX11 yX11_least yX11_least, Cond.code yX11_least cX11_least 5 (some .int), Cond.methodLink RL 94 yX10_nearest, Cond.instanceMethod yX10_nearest, Cond.selects RX10 yX10_nearest yX10_nearest, Cond.code yX10_nearest cX10_nearest 3 (some .int), Cond.methodLink RX10 212 yX0_closestTo, Cond.instanceMethod yX0_closestTo, Cond.selects RX0 yX0_closestTo yX0_closestTo, Cond.code yX0_closestTo cX0_closestTo 6 (some .int), Cond.methodLink RL 97 yX11_nearest, Cond.instanceMethod yX11_nearest, Cond.selects RX11 yX11_nearest yX11_nearest, Cond.code yX11_nearest cX11_nearest 6 (some .int)]
def wsL_law_r31 : List Cond := [Cond.methodLink RL 98 yX10_more, Cond.instanceMethod yX10_more, Cond.selects RX10 yX10_more yX10_more, Cond.code yX10_more cX10_more 5 (some .int), Cond.methodLink RL 101 yX11_more, Cond.instanceMethod yX11_more, Cond.selects RX11 yX11_more yX11_more, Cond.code yX11_more cX11_more 4 (some .int), Cond.methodLink RL 102 yX10_turn, Cond.instanceMethod yX10_turn, Cond.selects RX10 yX10_turn yX10_turn, Cond.code yX10_turn cX10_turn 6 (some .int), Cond.methodLink RX10 215 yX3_copyOf, Cond.instanceMethod yX3_copyOf, Cond.selects RX3 yX3_copyOf yX3_copyOf, Cond.code yX3_copyOf cX3_copyOf 3 none, Cond.methodLink RX10 223 yX8_holds, Cond.methodLink RX10 226 yX3_moveToLast, Cond.instanceMethod yX3_moveToLast, Cond.selects RX3 yX3_moveToLast yX3_moveToLast, Cond.code yX3_moveToLast cX3_moveToLast 2 none, Cond.methodLink RL 105 yX11_turn, Cond.instanceMethod yX11_turn, Cond.selects RX11 yX11_turn yX11_turn]
def wsL_law_r32 : List Cond := [Cond.code yX11_turn cX11_turn 7 (some .int), Cond.methodLink RL 106 yX10_told, Cond.instanceMethod yX10_told, Cond.selects RX10 yX10_told yX10_told, Cond.code yX10_told cX10_told 2 (some .int), Cond.methodLink RX10 229 yX3_total, Cond.methodLink RL 109 yX11_told, Cond.instanceMethod yX11_told, Cond.selects RX11 yX11_told yX11_told, Cond.code yX11_told cX11_told 4 (some .int)]
def wsL_law : List Cond := (wsL_law_r1 ++ (wsL_law_r2 ++ (wsL_law_r3 ++ (wsL_law_r4 ++ (wsL_law_r5 ++ (wsL_law_r6 ++ (wsL_law_r7 ++ (wsL_law_r8 ++ (wsL_law_r9 ++ (wsL_law_r10 ++ (wsL_law_r11 ++ (wsL_law_r12 ++ (wsL_law_r13 ++ (wsL_law_r14 ++ (wsL_law_r15 ++ (wsL_law_r16 ++ (wsL_law_r17 ++ (wsL_law_r18 ++ (wsL_law_r19 ++ (wsL_law_r20 ++ (wsL_law_r21 ++ (wsL_law_r22 ++ (wsL_law_r23 ++ (wsL_law_r24 ++ (wsL_law_r25 ++ (wsL_law_r26 ++ (wsL_law_r27 ++ (wsL_law_r28 ++ (wsL_law_r29 ++ (wsL_law_r30 ++ (wsL_law_r31 ++ wsL_law_r32))))))))))))))))))))))))))))))) ++ wsX100 ++ wsX110 ++ wsX90 ++ wsX30 ++ wsX70 ++ wsX40 ++ wsX00 ++ wsX20 ++ wsX80 ++ wsX50 ++ wsX60 ++ ([] : List Cond)
end
section
theorem dX0_init_0 : decode cX0_init 0 = .ok (.aload_n 0, 1) := by decide +kernel
theorem dX0_init_1 : decode cX0_init 1 = .ok (.invokespecial 3, 3) := by decide +kernel
theorem dX0_init_4 : decode cX0_init 4 = .ok (.aload_n 0, 1) := by decide +kernel
theorem dX0_init_5 : decode cX0_init 5 = .ok (.bipush 70, 2) := by decide +kernel
theorem dX0_init_7 : decode cX0_init 7 = .ok (.newarray .int, 2) := by decide +kernel
theorem dX0_init_9 : decode cX0_init 9 = .ok (.putfield 9, 3) := by decide +kernel
theorem dX0_init_12 : decode cX0_init 12 = .ok (.return_, 1) := by decide +kernel
set_option maxRecDepth 20000 in
theorem ggX0_gather_J6_bitCount_0f7a4 : GoodIn wsX0_gather wsJ6_bitCount_0f7a4 := goodIn_r _ [6, 7, 8, 9] (by decide +kernel) (by decide +kernel)
set_option maxRecDepth 20000 in
theorem gX0_gather_J6_bitCount_0f7a4 : GoodIn wsX0_gather (va_wsS RX0 19 yJ6_bitCount_0f7a4 wsJ6_bitCount_0f7a4) := goodIn_app (goodIn_of _ (by decide +kernel)) ggX0_gather_J6_bitCount_0f7a4
set_option maxRecDepth 20000 in
theorem ggX0_gather_X4_allow : GoodIn wsX0_gather wsX4_allow := goodIn_r _ [14, 15, 16, 17, 13, 18, 19, 20, 21, 22, 23, 4, 5, 6, 7, 8, 9, 26, 27, 28, 29] (by decide +kernel) (by decide +kernel)
set_option maxRecDepth 20000 in
theorem gX0_gather_X4_allow : GoodIn wsX0_gather (wsV RX0 25 RX4 yX4_allow wsX4_allow) := goodIn_app (goodIn_of _ (by decide +kernel)) ggX0_gather_X4_allow
theorem dX0_gather_0 : decode cX0_gather 0 = .ok (.aload_n 0, 1) := by decide +kernel
theorem dX0_gather_1 : decode cX0_gather 1 = .ok (.iconst 0, 1) := by decide +kernel
theorem dX0_gather_2 : decode cX0_gather 2 = .ok (.putfield 15, 3) := by decide +kernel
theorem dX0_gather_5 : decode cX0_gather 5 = .ok (.iconst 1, 1) := by decide +kernel
theorem dX0_gather_6 : decode cX0_gather 6 = .ok (.istore_n 3, 1) := by decide +kernel
theorem dX0_gather_7 : decode cX0_gather 7 = .ok (.iload_n 3, 1) := by decide +kernel
theorem dX0_gather_8 : decode cX0_gather 8 = .ok (.sipush 255, 3) := by decide +kernel
theorem dX0_gather_11 : decode cX0_gather 11 = .ok (.if_icmp .gt 54, 3) := by decide +kernel
theorem dX0_gather_14 : decode cX0_gather 14 = .ok (.iload_n 3, 1) := by decide +kernel
theorem dX0_gather_15 : decode cX0_gather 15 = .ok (.invokestatic 19, 3) := by decide +kernel
theorem dX0_gather_18 : decode cX0_gather 18 = .ok (.iload_n 2, 1) := by decide +kernel
theorem dX0_gather_19 : decode cX0_gather 19 = .ok (.if_icmp .ne 40, 3) := by decide +kernel
theorem dX0_gather_22 : decode cX0_gather 22 = .ok (.aload_n 1, 1) := by decide +kernel
theorem dX0_gather_23 : decode cX0_gather 23 = .ok (.iload_n 3, 1) := by decide +kernel
theorem dX0_gather_24 : decode cX0_gather 24 = .ok (.invokevirtual 25, 3) := by decide +kernel
theorem dX0_gather_27 : decode cX0_gather 27 = .ok (.ifCond .eq 32, 3) := by decide +kernel
theorem dX0_gather_30 : decode cX0_gather 30 = .ok (.aload_n 0, 1) := by decide +kernel
theorem dX0_gather_31 : decode cX0_gather 31 = .ok (.getfield 15, 3) := by decide +kernel
theorem dX0_gather_34 : decode cX0_gather 34 = .ok (.bipush 70, 2) := by decide +kernel
theorem dX0_gather_36 : decode cX0_gather 36 = .ok (.if_icmp .ge 23, 3) := by decide +kernel
theorem dX0_gather_39 : decode cX0_gather 39 = .ok (.aload_n 0, 1) := by decide +kernel
theorem dX0_gather_40 : decode cX0_gather 40 = .ok (.getfield 9, 3) := by decide +kernel
theorem dX0_gather_43 : decode cX0_gather 43 = .ok (.aload_n 0, 1) := by decide +kernel
theorem dX0_gather_44 : decode cX0_gather 44 = .ok (.getfield 15, 3) := by decide +kernel
theorem dX0_gather_47 : decode cX0_gather 47 = .ok (.iload_n 3, 1) := by decide +kernel
theorem dX0_gather_48 : decode cX0_gather 48 = .ok (.iastore, 1) := by decide +kernel
theorem dX0_gather_49 : decode cX0_gather 49 = .ok (.aload_n 0, 1) := by decide +kernel
theorem dX0_gather_50 : decode cX0_gather 50 = .ok (.dup, 1) := by decide +kernel
theorem dX0_gather_51 : decode cX0_gather 51 = .ok (.getfield 15, 3) := by decide +kernel
theorem dX0_gather_54 : decode cX0_gather 54 = .ok (.iconst 1, 1) := by decide +kernel
theorem dX0_gather_55 : decode cX0_gather 55 = .ok (.iadd, 1) := by decide +kernel
theorem dX0_gather_56 : decode cX0_gather 56 = .ok (.putfield 15, 3) := by decide +kernel
theorem dX0_gather_59 : decode cX0_gather 59 = .ok (.iinc 3 1, 3) := by decide +kernel
theorem dX0_gather_62 : decode cX0_gather 62 = .ok (.goto (-55), 3) := by decide +kernel
theorem dX0_gather_65 : decode cX0_gather 65 = .ok (.return_, 1) := by decide +kernel
set_option maxRecDepth 20000 in
theorem ggX0_keepThoseThatHold_X2_seekBreach : GoodIn wsX0_keepThoseThatHold wsX2_seekBreach := goodIn_r _ [8, 9, 10, 11, 12, 13, 14, 15, 16, 17, 7, 18, 19, 20, 21, 22, 23, 24, 25, 26, 27, 28, 29, 30, 31, 32, 33, 36, 37, 38, 39, 40, 41, 42, 43, 44] (by decide +kernel) (by decide +kernel)
set_option maxRecDepth 20000 in
theorem gX0_keepThoseThatHold_X2_seekBreach : GoodIn wsX0_keepThoseThatHold (wsV RX0 31 RX2 yX2_seekBreach wsX2_seekBreach) := goodIn_app (goodIn_of _ (by decide +kernel)) ggX0_keepThoseThatHold_X2_seekBreach
theorem dX0_keepThoseThatHold_0 : decode cX0_keepThoseThatHold 0 = .ok (.iconst 0, 1) := by decide +kernel
theorem dX0_keepThoseThatHold_1 : decode cX0_keepThoseThatHold 1 = .ok (.istore_n 3, 1) := by decide +kernel
theorem dX0_keepThoseThatHold_2 : decode cX0_keepThoseThatHold 2 = .ok (.iconst 0, 1) := by decide +kernel
theorem dX0_keepThoseThatHold_3 : decode cX0_keepThoseThatHold 3 = .ok (.istore 4, 2) := by decide +kernel
theorem dX0_keepThoseThatHold_5 : decode cX0_keepThoseThatHold 5 = .ok (.iload 4, 2) := by decide +kernel
theorem dX0_keepThoseThatHold_7 : decode cX0_keepThoseThatHold 7 = .ok (.aload_n 0, 1) := by decide +kernel
theorem dX0_keepThoseThatHold_8 : decode cX0_keepThoseThatHold 8 = .ok (.getfield 15, 3) := by decide +kernel
theorem dX0_keepThoseThatHold_11 : decode cX0_keepThoseThatHold 11 = .ok (.if_icmp .ge 46, 3) := by decide +kernel
theorem dX0_keepThoseThatHold_14 : decode cX0_keepThoseThatHold 14 = .ok (.aload_n 1, 1) := by decide +kernel
theorem dX0_keepThoseThatHold_15 : decode cX0_keepThoseThatHold 15 = .ok (.iload_n 2, 1) := by decide +kernel
theorem dX0_keepThoseThatHold_16 : decode cX0_keepThoseThatHold 16 = .ok (.aload_n 0, 1) := by decide +kernel
theorem dX0_keepThoseThatHold_17 : decode cX0_keepThoseThatHold 17 = .ok (.getfield 9, 3) := by decide +kernel
theorem dX0_keepThoseThatHold_20 : decode cX0_keepThoseThatHold 20 = .ok (.iload 4, 2) := by decide +kernel
theorem dX0_keepThoseThatHold_22 : decode cX0_keepThoseThatHold 22 = .ok (.iaload, 1) := by decide +kernel
theorem dX0_keepThoseThatHold_23 : decode cX0_keepThoseThatHold 23 = .ok (.invokevirtual 31, 3) := by decide +kernel
theorem dX0_keepThoseThatHold_26 : decode cX0_keepThoseThatHold 26 = .ok (.aload_n 1, 1) := by decide +kernel
theorem dX0_keepThoseThatHold_27 : decode cX0_keepThoseThatHold 27 = .ok (.getfield 37, 3) := by decide +kernel
theorem dX0_keepThoseThatHold_30 : decode cX0_keepThoseThatHold 30 = .ok (.bipush (-6), 2) := by decide +kernel
theorem dX0_keepThoseThatHold_32 : decode cX0_keepThoseThatHold 32 = .ok (.if_icmp .ne 19, 3) := by decide +kernel
theorem dX0_keepThoseThatHold_35 : decode cX0_keepThoseThatHold 35 = .ok (.aload_n 0, 1) := by decide +kernel
theorem dX0_keepThoseThatHold_36 : decode cX0_keepThoseThatHold 36 = .ok (.getfield 9, 3) := by decide +kernel
theorem dX0_keepThoseThatHold_39 : decode cX0_keepThoseThatHold 39 = .ok (.iload_n 3, 1) := by decide +kernel
theorem dX0_keepThoseThatHold_40 : decode cX0_keepThoseThatHold 40 = .ok (.aload_n 0, 1) := by decide +kernel
theorem dX0_keepThoseThatHold_41 : decode cX0_keepThoseThatHold 41 = .ok (.getfield 9, 3) := by decide +kernel
theorem dX0_keepThoseThatHold_44 : decode cX0_keepThoseThatHold 44 = .ok (.iload 4, 2) := by decide +kernel
theorem dX0_keepThoseThatHold_46 : decode cX0_keepThoseThatHold 46 = .ok (.iaload, 1) := by decide +kernel
theorem dX0_keepThoseThatHold_47 : decode cX0_keepThoseThatHold 47 = .ok (.iastore, 1) := by decide +kernel
theorem dX0_keepThoseThatHold_48 : decode cX0_keepThoseThatHold 48 = .ok (.iinc 3 1, 3) := by decide +kernel
theorem dX0_keepThoseThatHold_51 : decode cX0_keepThoseThatHold 51 = .ok (.iinc 4 1, 3) := by decide +kernel
theorem dX0_keepThoseThatHold_54 : decode cX0_keepThoseThatHold 54 = .ok (.goto (-49), 3) := by decide +kernel
theorem dX0_keepThoseThatHold_57 : decode cX0_keepThoseThatHold 57 = .ok (.aload_n 0, 1) := by decide +kernel
theorem dX0_keepThoseThatHold_58 : decode cX0_keepThoseThatHold 58 = .ok (.iload_n 3, 1) := by decide +kernel
theorem dX0_keepThoseThatHold_59 : decode cX0_keepThoseThatHold 59 = .ok (.putfield 15, 3) := by decide +kernel
theorem dX0_keepThoseThatHold_62 : decode cX0_keepThoseThatHold 62 = .ok (.return_, 1) := by decide +kernel
theorem dX0_at_0 : decode cX0_at 0 = .ok (.iload_n 1, 1) := by decide +kernel
theorem dX0_at_1 : decode cX0_at 1 = .ok (.ifCond .lt 26, 3) := by decide +kernel
theorem dX0_at_4 : decode cX0_at 4 = .ok (.iload_n 1, 1) := by decide +kernel
theorem dX0_at_5 : decode cX0_at 5 = .ok (.aload_n 0, 1) := by decide +kernel
theorem dX0_at_6 : decode cX0_at 6 = .ok (.getfield 15, 3) := by decide +kernel
theorem dX0_at_9 : decode cX0_at 9 = .ok (.if_icmp .ge 18, 3) := by decide +kernel
theorem dX0_at_12 : decode cX0_at 12 = .ok (.iload_n 1, 1) := by decide +kernel
theorem dX0_at_13 : decode cX0_at 13 = .ok (.bipush 70, 2) := by decide +kernel
theorem dX0_at_15 : decode cX0_at 15 = .ok (.if_icmp .ge 12, 3) := by decide +kernel
theorem dX0_at_18 : decode cX0_at 18 = .ok (.aload_n 0, 1) := by decide +kernel
theorem dX0_at_19 : decode cX0_at 19 = .ok (.getfield 9, 3) := by decide +kernel
theorem dX0_at_22 : decode cX0_at 22 = .ok (.iload_n 1, 1) := by decide +kernel
theorem dX0_at_23 : decode cX0_at 23 = .ok (.iaload, 1) := by decide +kernel
theorem dX0_at_24 : decode cX0_at 24 = .ok (.goto 5, 3) := by decide +kernel
theorem dX0_at_27 : decode cX0_at 27 = .ok (.bipush (-6), 2) := by decide +kernel
theorem dX0_at_29 : decode cX0_at 29 = .ok (.ireturn, 1) := by decide +kernel
set_option maxRecDepth 20000 in
theorem ggX0_ofMostWorth_X3_worthOf : GoodIn wsX0_ofMostWorth wsX3_worthOf := goodIn_r _ [7, 8, 9, 10, 11, 12, 13, 14, 15, 16, 17, 18, 19, 22, 23, 24, 25, 26, 27] (by decide +kernel) (by decide +kernel)
set_option maxRecDepth 20000 in
theorem gX0_ofMostWorth_X3_worthOf : GoodIn wsX0_ofMostWorth (wsV RX0 40 RX3 yX3_worthOf wsX3_worthOf) := goodIn_app (goodIn_of _ (by decide +kernel)) ggX0_ofMostWorth_X3_worthOf
theorem dX0_ofMostWorth_0 : decode cX0_ofMostWorth 0 = .ok (.iconst 0, 1) := by decide +kernel
theorem dX0_ofMostWorth_1 : decode cX0_ofMostWorth 1 = .ok (.istore_n 2, 1) := by decide +kernel
theorem dX0_ofMostWorth_2 : decode cX0_ofMostWorth 2 = .ok (.iconst (-1), 1) := by decide +kernel
theorem dX0_ofMostWorth_3 : decode cX0_ofMostWorth 3 = .ok (.istore_n 3, 1) := by decide +kernel
theorem dX0_ofMostWorth_4 : decode cX0_ofMostWorth 4 = .ok (.iconst 0, 1) := by decide +kernel
theorem dX0_ofMostWorth_5 : decode cX0_ofMostWorth 5 = .ok (.istore 4, 2) := by decide +kernel
theorem dX0_ofMostWorth_7 : decode cX0_ofMostWorth 7 = .ok (.iload 4, 2) := by decide +kernel
theorem dX0_ofMostWorth_9 : decode cX0_ofMostWorth 9 = .ok (.aload_n 0, 1) := by decide +kernel
theorem dX0_ofMostWorth_10 : decode cX0_ofMostWorth 10 = .ok (.getfield 15, 3) := by decide +kernel
theorem dX0_ofMostWorth_13 : decode cX0_ofMostWorth 13 = .ok (.if_icmp .ge 39, 3) := by decide +kernel
theorem dX0_ofMostWorth_16 : decode cX0_ofMostWorth 16 = .ok (.aload_n 1, 1) := by decide +kernel
theorem dX0_ofMostWorth_17 : decode cX0_ofMostWorth 17 = .ok (.aload_n 0, 1) := by decide +kernel
theorem dX0_ofMostWorth_18 : decode cX0_ofMostWorth 18 = .ok (.getfield 9, 3) := by decide +kernel
theorem dX0_ofMostWorth_21 : decode cX0_ofMostWorth 21 = .ok (.iload 4, 2) := by decide +kernel
theorem dX0_ofMostWorth_23 : decode cX0_ofMostWorth 23 = .ok (.iaload, 1) := by decide +kernel
theorem dX0_ofMostWorth_24 : decode cX0_ofMostWorth 24 = .ok (.invokevirtual 40, 3) := by decide +kernel
theorem dX0_ofMostWorth_27 : decode cX0_ofMostWorth 27 = .ok (.istore 5, 2) := by decide +kernel
theorem dX0_ofMostWorth_29 : decode cX0_ofMostWorth 29 = .ok (.iload 5, 2) := by decide +kernel
theorem dX0_ofMostWorth_31 : decode cX0_ofMostWorth 31 = .ok (.iload_n 3, 1) := by decide +kernel
theorem dX0_ofMostWorth_32 : decode cX0_ofMostWorth 32 = .ok (.if_icmp .le 14, 3) := by decide +kernel
theorem dX0_ofMostWorth_35 : decode cX0_ofMostWorth 35 = .ok (.iload 5, 2) := by decide +kernel
theorem dX0_ofMostWorth_37 : decode cX0_ofMostWorth 37 = .ok (.istore_n 3, 1) := by decide +kernel
theorem dX0_ofMostWorth_38 : decode cX0_ofMostWorth 38 = .ok (.aload_n 0, 1) := by decide +kernel
theorem dX0_ofMostWorth_39 : decode cX0_ofMostWorth 39 = .ok (.getfield 9, 3) := by decide +kernel
theorem dX0_ofMostWorth_42 : decode cX0_ofMostWorth 42 = .ok (.iload 4, 2) := by decide +kernel
theorem dX0_ofMostWorth_44 : decode cX0_ofMostWorth 44 = .ok (.iaload, 1) := by decide +kernel
theorem dX0_ofMostWorth_45 : decode cX0_ofMostWorth 45 = .ok (.istore_n 2, 1) := by decide +kernel
theorem dX0_ofMostWorth_46 : decode cX0_ofMostWorth 46 = .ok (.iinc 4 1, 3) := by decide +kernel
theorem dX0_ofMostWorth_49 : decode cX0_ofMostWorth 49 = .ok (.goto (-42), 3) := by decide +kernel
theorem dX0_ofMostWorth_52 : decode cX0_ofMostWorth 52 = .ok (.iload_n 2, 1) := by decide +kernel
theorem dX0_ofMostWorth_53 : decode cX0_ofMostWorth 53 = .ok (.ireturn, 1) := by decide +kernel
set_option maxRecDepth 20000 in
theorem ggX0_leastWronged_X3_wronged : GoodIn wsX0_leastWronged wsX3_wronged := goodIn_r _ [7, 8, 9, 10, 13, 14, 15, 16] (by decide +kernel) (by decide +kernel)
set_option maxRecDepth 20000 in
theorem gX0_leastWronged_X3_wronged : GoodIn wsX0_leastWronged (wsV RX0 45 RX3 yX3_wronged wsX3_wronged) := goodIn_app (goodIn_of _ (by decide +kernel)) ggX0_leastWronged_X3_wronged
theorem dX0_leastWronged_0 : decode cX0_leastWronged 0 = .ok (.bipush (-6), 2) := by decide +kernel
theorem dX0_leastWronged_2 : decode cX0_leastWronged 2 = .ok (.istore_n 2, 1) := by decide +kernel
theorem dX0_leastWronged_3 : decode cX0_leastWronged 3 = .ok (.iconst 0, 1) := by decide +kernel
theorem dX0_leastWronged_4 : decode cX0_leastWronged 4 = .ok (.istore_n 3, 1) := by decide +kernel
theorem dX0_leastWronged_5 : decode cX0_leastWronged 5 = .ok (.iconst 0, 1) := by decide +kernel
theorem dX0_leastWronged_6 : decode cX0_leastWronged 6 = .ok (.istore 4, 2) := by decide +kernel
theorem dX0_leastWronged_8 : decode cX0_leastWronged 8 = .ok (.iload 4, 2) := by decide +kernel
theorem dX0_leastWronged_10 : decode cX0_leastWronged 10 = .ok (.aload_n 0, 1) := by decide +kernel
theorem dX0_leastWronged_11 : decode cX0_leastWronged 11 = .ok (.getfield 15, 3) := by decide +kernel
theorem dX0_leastWronged_14 : decode cX0_leastWronged 14 = .ok (.if_icmp .ge 45, 3) := by decide +kernel
theorem dX0_leastWronged_17 : decode cX0_leastWronged 17 = .ok (.aload_n 1, 1) := by decide +kernel
theorem dX0_leastWronged_18 : decode cX0_leastWronged 18 = .ok (.aload_n 0, 1) := by decide +kernel
theorem dX0_leastWronged_19 : decode cX0_leastWronged 19 = .ok (.getfield 9, 3) := by decide +kernel
theorem dX0_leastWronged_22 : decode cX0_leastWronged 22 = .ok (.iload 4, 2) := by decide +kernel
theorem dX0_leastWronged_24 : decode cX0_leastWronged 24 = .ok (.iaload, 1) := by decide +kernel
theorem dX0_leastWronged_25 : decode cX0_leastWronged 25 = .ok (.invokevirtual 45, 3) := by decide +kernel
theorem dX0_leastWronged_28 : decode cX0_leastWronged 28 = .ok (.istore 5, 2) := by decide +kernel
theorem dX0_leastWronged_30 : decode cX0_leastWronged 30 = .ok (.iload_n 2, 1) := by decide +kernel
theorem dX0_leastWronged_31 : decode cX0_leastWronged 31 = .ok (.bipush (-6), 2) := by decide +kernel
theorem dX0_leastWronged_33 : decode cX0_leastWronged 33 = .ok (.if_icmp .eq 9, 3) := by decide +kernel
theorem dX0_leastWronged_36 : decode cX0_leastWronged 36 = .ok (.iload 5, 2) := by decide +kernel
theorem dX0_leastWronged_38 : decode cX0_leastWronged 38 = .ok (.iload_n 3, 1) := by decide +kernel
theorem dX0_leastWronged_39 : decode cX0_leastWronged 39 = .ok (.if_icmp .ge 14, 3) := by decide +kernel
theorem dX0_leastWronged_42 : decode cX0_leastWronged 42 = .ok (.iload 5, 2) := by decide +kernel
theorem dX0_leastWronged_44 : decode cX0_leastWronged 44 = .ok (.istore_n 3, 1) := by decide +kernel
theorem dX0_leastWronged_45 : decode cX0_leastWronged 45 = .ok (.aload_n 0, 1) := by decide +kernel
theorem dX0_leastWronged_46 : decode cX0_leastWronged 46 = .ok (.getfield 9, 3) := by decide +kernel
theorem dX0_leastWronged_49 : decode cX0_leastWronged 49 = .ok (.iload 4, 2) := by decide +kernel
theorem dX0_leastWronged_51 : decode cX0_leastWronged 51 = .ok (.iaload, 1) := by decide +kernel
theorem dX0_leastWronged_52 : decode cX0_leastWronged 52 = .ok (.istore_n 2, 1) := by decide +kernel
theorem dX0_leastWronged_53 : decode cX0_leastWronged 53 = .ok (.iinc 4 1, 3) := by decide +kernel
theorem dX0_leastWronged_56 : decode cX0_leastWronged 56 = .ok (.goto (-48), 3) := by decide +kernel
theorem dX0_leastWronged_59 : decode cX0_leastWronged 59 = .ok (.iload_n 2, 1) := by decide +kernel
theorem dX0_leastWronged_60 : decode cX0_leastWronged 60 = .ok (.ireturn, 1) := by decide +kernel
set_option maxRecDepth 20000 in
theorem ggX0_closestTo_J6_bitCount_0f7a4 : GoodIn wsX0_closestTo wsJ6_bitCount_0f7a4 := goodIn_r _ [6, 7, 8, 9] (by decide +kernel) (by decide +kernel)
set_option maxRecDepth 20000 in
theorem gX0_closestTo_J6_bitCount_0f7a4 : GoodIn wsX0_closestTo (va_wsS RX0 19 yJ6_bitCount_0f7a4 wsJ6_bitCount_0f7a4) := goodIn_app (goodIn_of _ (by decide +kernel)) ggX0_closestTo_J6_bitCount_0f7a4
theorem dX0_closestTo_0 : decode cX0_closestTo 0 = .ok (.bipush (-6), 2) := by decide +kernel
theorem dX0_closestTo_2 : decode cX0_closestTo 2 = .ok (.istore_n 2, 1) := by decide +kernel
theorem dX0_closestTo_3 : decode cX0_closestTo 3 = .ok (.iconst 0, 1) := by decide +kernel
theorem dX0_closestTo_4 : decode cX0_closestTo 4 = .ok (.istore_n 3, 1) := by decide +kernel
theorem dX0_closestTo_5 : decode cX0_closestTo 5 = .ok (.iconst 0, 1) := by decide +kernel
theorem dX0_closestTo_6 : decode cX0_closestTo 6 = .ok (.istore 4, 2) := by decide +kernel
theorem dX0_closestTo_8 : decode cX0_closestTo 8 = .ok (.iload 4, 2) := by decide +kernel
theorem dX0_closestTo_10 : decode cX0_closestTo 10 = .ok (.aload_n 0, 1) := by decide +kernel
theorem dX0_closestTo_11 : decode cX0_closestTo 11 = .ok (.getfield 15, 3) := by decide +kernel
theorem dX0_closestTo_14 : decode cX0_closestTo 14 = .ok (.if_icmp .ge 48, 3) := by decide +kernel
theorem dX0_closestTo_17 : decode cX0_closestTo 17 = .ok (.aload_n 0, 1) := by decide +kernel
theorem dX0_closestTo_18 : decode cX0_closestTo 18 = .ok (.getfield 9, 3) := by decide +kernel
theorem dX0_closestTo_21 : decode cX0_closestTo 21 = .ok (.iload 4, 2) := by decide +kernel
theorem dX0_closestTo_23 : decode cX0_closestTo 23 = .ok (.iaload, 1) := by decide +kernel
theorem dX0_closestTo_24 : decode cX0_closestTo 24 = .ok (.iload_n 1, 1) := by decide +kernel
theorem dX0_closestTo_25 : decode cX0_closestTo 25 = .ok (.iconst (-1), 1) := by decide +kernel
theorem dX0_closestTo_26 : decode cX0_closestTo 26 = .ok (.ixor, 1) := by decide +kernel
theorem dX0_closestTo_27 : decode cX0_closestTo 27 = .ok (.iand, 1) := by decide +kernel
theorem dX0_closestTo_28 : decode cX0_closestTo 28 = .ok (.invokestatic 19, 3) := by decide +kernel
theorem dX0_closestTo_31 : decode cX0_closestTo 31 = .ok (.istore 5, 2) := by decide +kernel
theorem dX0_closestTo_33 : decode cX0_closestTo 33 = .ok (.iload_n 2, 1) := by decide +kernel
theorem dX0_closestTo_34 : decode cX0_closestTo 34 = .ok (.bipush (-6), 2) := by decide +kernel
theorem dX0_closestTo_36 : decode cX0_closestTo 36 = .ok (.if_icmp .eq 9, 3) := by decide +kernel
theorem dX0_closestTo_39 : decode cX0_closestTo 39 = .ok (.iload 5, 2) := by decide +kernel
theorem dX0_closestTo_41 : decode cX0_closestTo 41 = .ok (.iload_n 3, 1) := by decide +kernel
theorem dX0_closestTo_42 : decode cX0_closestTo 42 = .ok (.if_icmp .ge 14, 3) := by decide +kernel
theorem dX0_closestTo_45 : decode cX0_closestTo 45 = .ok (.iload 5, 2) := by decide +kernel
theorem dX0_closestTo_47 : decode cX0_closestTo 47 = .ok (.istore_n 3, 1) := by decide +kernel
theorem dX0_closestTo_48 : decode cX0_closestTo 48 = .ok (.aload_n 0, 1) := by decide +kernel
theorem dX0_closestTo_49 : decode cX0_closestTo 49 = .ok (.getfield 9, 3) := by decide +kernel
theorem dX0_closestTo_52 : decode cX0_closestTo 52 = .ok (.iload 4, 2) := by decide +kernel
theorem dX0_closestTo_54 : decode cX0_closestTo 54 = .ok (.iaload, 1) := by decide +kernel
theorem dX0_closestTo_55 : decode cX0_closestTo 55 = .ok (.istore_n 2, 1) := by decide +kernel
theorem dX0_closestTo_56 : decode cX0_closestTo 56 = .ok (.iinc 4 1, 3) := by decide +kernel
theorem dX0_closestTo_59 : decode cX0_closestTo 59 = .ok (.goto (-51), 3) := by decide +kernel
theorem dX0_closestTo_62 : decode cX0_closestTo 62 = .ok (.iload_n 2, 1) := by decide +kernel
theorem dX0_closestTo_63 : decode cX0_closestTo 63 = .ok (.ireturn, 1) := by decide +kernel
theorem dX1_init_0 : decode cX1_init 0 = .ok (.aload_n 0, 1) := by decide +kernel
theorem dX1_init_1 : decode cX1_init 1 = .ok (.invokespecial 3, 3) := by decide +kernel
theorem dX1_init_4 : decode cX1_init 4 = .ok (.aload_n 0, 1) := by decide +kernel
theorem dX1_init_5 : decode cX1_init 5 = .ok (.bipush 7, 2) := by decide +kernel
theorem dX1_init_7 : decode cX1_init 7 = .ok (.newarray .long, 2) := by decide +kernel
theorem dX1_init_9 : decode cX1_init 9 = .ok (.putfield 9, 3) := by decide +kernel
theorem dX1_init_12 : decode cX1_init 12 = .ok (.return_, 1) := by decide +kernel
theorem dX1_begin_0 : decode cX1_begin 0 = .ok (.iconst 0, 1) := by decide +kernel
theorem dX1_begin_1 : decode cX1_begin 1 = .ok (.istore_n 2, 1) := by decide +kernel
theorem dX1_begin_2 : decode cX1_begin 2 = .ok (.iload_n 2, 1) := by decide +kernel
theorem dX1_begin_3 : decode cX1_begin 3 = .ok (.bipush 6, 2) := by decide +kernel
theorem dX1_begin_5 : decode cX1_begin 5 = .ok (.if_icmp .gt 17, 3) := by decide +kernel
theorem dX1_begin_8 : decode cX1_begin 8 = .ok (.aload_n 0, 1) := by decide +kernel
theorem dX1_begin_9 : decode cX1_begin 9 = .ok (.getfield 9, 3) := by decide +kernel
theorem dX1_begin_12 : decode cX1_begin 12 = .ok (.iload_n 2, 1) := by decide +kernel
theorem dX1_begin_13 : decode cX1_begin 13 = .ok (.iload_n 1, 1) := by decide +kernel
theorem dX1_begin_14 : decode cX1_begin 14 = .ok (.i2l, 1) := by decide +kernel
theorem dX1_begin_15 : decode cX1_begin 15 = .ok (.lastore, 1) := by decide +kernel
theorem dX1_begin_16 : decode cX1_begin 16 = .ok (.iinc 2 1, 3) := by decide +kernel
theorem dX1_begin_19 : decode cX1_begin 19 = .ok (.goto (-17), 3) := by decide +kernel
theorem dX1_begin_22 : decode cX1_begin 22 = .ok (.aload_n 0, 1) := by decide +kernel
theorem dX1_begin_23 : decode cX1_begin 23 = .ok (.lconst 1, 1) := by decide +kernel
theorem dX1_begin_24 : decode cX1_begin 24 = .ok (.putfield 15, 3) := by decide +kernel
theorem dX1_begin_27 : decode cX1_begin 27 = .ok (.return_, 1) := by decide +kernel
theorem dX1_widen_0 : decode cX1_widen 0 = .ok (.iconst 0, 1) := by decide +kernel
theorem dX1_widen_1 : decode cX1_widen 1 = .ok (.istore_n 2, 1) := by decide +kernel
theorem dX1_widen_2 : decode cX1_widen 2 = .ok (.iload_n 2, 1) := by decide +kernel
theorem dX1_widen_3 : decode cX1_widen 3 = .ok (.bipush 6, 2) := by decide +kernel
theorem dX1_widen_5 : decode cX1_widen 5 = .ok (.if_icmp .gt 20, 3) := by decide +kernel
theorem dX1_widen_8 : decode cX1_widen 8 = .ok (.aload_n 0, 1) := by decide +kernel
theorem dX1_widen_9 : decode cX1_widen 9 = .ok (.getfield 9, 3) := by decide +kernel
theorem dX1_widen_12 : decode cX1_widen 12 = .ok (.iload_n 2, 1) := by decide +kernel
theorem dX1_widen_13 : decode cX1_widen 13 = .ok (.dup2, 1) := by decide +kernel
theorem dX1_widen_14 : decode cX1_widen 14 = .ok (.laload, 1) := by decide +kernel
theorem dX1_widen_15 : decode cX1_widen 15 = .ok (.iload_n 1, 1) := by decide +kernel
theorem dX1_widen_16 : decode cX1_widen 16 = .ok (.i2l, 1) := by decide +kernel
theorem dX1_widen_17 : decode cX1_widen 17 = .ok (.lmul, 1) := by decide +kernel
theorem dX1_widen_18 : decode cX1_widen 18 = .ok (.lastore, 1) := by decide +kernel
theorem dX1_widen_19 : decode cX1_widen 19 = .ok (.iinc 2 1, 3) := by decide +kernel
theorem dX1_widen_22 : decode cX1_widen 22 = .ok (.goto (-20), 3) := by decide +kernel
theorem dX1_widen_25 : decode cX1_widen 25 = .ok (.aload_n 0, 1) := by decide +kernel
theorem dX1_widen_26 : decode cX1_widen 26 = .ok (.dup, 1) := by decide +kernel
theorem dX1_widen_27 : decode cX1_widen 27 = .ok (.getfield 15, 3) := by decide +kernel
theorem dX1_widen_30 : decode cX1_widen 30 = .ok (.iload_n 1, 1) := by decide +kernel
theorem dX1_widen_31 : decode cX1_widen 31 = .ok (.i2l, 1) := by decide +kernel
theorem dX1_widen_32 : decode cX1_widen 32 = .ok (.lmul, 1) := by decide +kernel
theorem dX1_widen_33 : decode cX1_widen 33 = .ok (.putfield 15, 3) := by decide +kernel
theorem dX1_widen_36 : decode cX1_widen 36 = .ok (.return_, 1) := by decide +kernel
set_option maxRecDepth 20000 in
theorem ggX1_sumOf_X3_tells : GoodIn wsX1_sumOf wsX3_tells := goodIn_r _ [8, 9, 10, 11, 12, 13] (by decide +kernel) (by decide +kernel)
set_option maxRecDepth 20000 in
theorem gX1_sumOf_X3_tells : GoodIn wsX1_sumOf (wsV RX1 25 RX3 yX3_tells wsX3_tells) := goodIn_app (goodIn_of _ (by decide +kernel)) ggX1_sumOf_X3_tells
theorem dX1_sumOf_0 : decode cX1_sumOf 0 = .ok (.lconst 0, 1) := by decide +kernel
theorem dX1_sumOf_1 : decode cX1_sumOf 1 = .ok (.lstore_n 3, 1) := by decide +kernel
theorem dX1_sumOf_2 : decode cX1_sumOf 2 = .ok (.iconst 0, 1) := by decide +kernel
theorem dX1_sumOf_3 : decode cX1_sumOf 3 = .ok (.istore 5, 2) := by decide +kernel
theorem dX1_sumOf_5 : decode cX1_sumOf 5 = .ok (.iload 5, 2) := by decide +kernel
theorem dX1_sumOf_7 : decode cX1_sumOf 7 = .ok (.aload_n 1, 1) := by decide +kernel
theorem dX1_sumOf_8 : decode cX1_sumOf 8 = .ok (.getfield 19, 3) := by decide +kernel
theorem dX1_sumOf_11 : decode cX1_sumOf 11 = .ok (.if_icmp .ge 38, 3) := by decide +kernel
theorem dX1_sumOf_14 : decode cX1_sumOf 14 = .ok (.aload_n 1, 1) := by decide +kernel
theorem dX1_sumOf_15 : decode cX1_sumOf 15 = .ok (.iload 5, 2) := by decide +kernel
theorem dX1_sumOf_17 : decode cX1_sumOf 17 = .ok (.iload_n 2, 1) := by decide +kernel
theorem dX1_sumOf_18 : decode cX1_sumOf 18 = .ok (.invokevirtual 25, 3) := by decide +kernel
theorem dX1_sumOf_21 : decode cX1_sumOf 21 = .ok (.ifCond .eq 22, 3) := by decide +kernel
theorem dX1_sumOf_24 : decode cX1_sumOf 24 = .ok (.lload_n 3, 1) := by decide +kernel
theorem dX1_sumOf_25 : decode cX1_sumOf 25 = .ok (.aload_n 0, 1) := by decide +kernel
theorem dX1_sumOf_26 : decode cX1_sumOf 26 = .ok (.getfield 9, 3) := by decide +kernel
theorem dX1_sumOf_29 : decode cX1_sumOf 29 = .ok (.iload 5, 2) := by decide +kernel
theorem dX1_sumOf_31 : decode cX1_sumOf 31 = .ok (.laload, 1) := by decide +kernel
theorem dX1_sumOf_32 : decode cX1_sumOf 32 = .ok (.aload_n 1, 1) := by decide +kernel
theorem dX1_sumOf_33 : decode cX1_sumOf 33 = .ok (.getfield 29, 3) := by decide +kernel
theorem dX1_sumOf_36 : decode cX1_sumOf 36 = .ok (.iload 5, 2) := by decide +kernel
theorem dX1_sumOf_38 : decode cX1_sumOf 38 = .ok (.iaload, 1) := by decide +kernel
theorem dX1_sumOf_39 : decode cX1_sumOf 39 = .ok (.i2l, 1) := by decide +kernel
theorem dX1_sumOf_40 : decode cX1_sumOf 40 = .ok (.lmul, 1) := by decide +kernel
theorem dX1_sumOf_41 : decode cX1_sumOf 41 = .ok (.ladd, 1) := by decide +kernel
theorem dX1_sumOf_42 : decode cX1_sumOf 42 = .ok (.lstore_n 3, 1) := by decide +kernel
theorem dX1_sumOf_43 : decode cX1_sumOf 43 = .ok (.iinc 5 1, 3) := by decide +kernel
theorem dX1_sumOf_46 : decode cX1_sumOf 46 = .ok (.goto (-41), 3) := by decide +kernel
theorem dX1_sumOf_49 : decode cX1_sumOf 49 = .ok (.lload_n 3, 1) := by decide +kernel
theorem dX1_sumOf_50 : decode cX1_sumOf 50 = .ok (.lreturn, 1) := by decide +kernel
set_option maxRecDepth 20000 in
theorem ggX1_lowest_X1_commonDivisor : GoodIn wsX1_lowest wsX1_commonDivisor := goodIn_r _ [6] (by decide +kernel) (by decide +kernel)
set_option maxRecDepth 20000 in
theorem gX1_lowest_X1_commonDivisor : GoodIn wsX1_lowest (va_wsS RX1 33 yX1_commonDivisor wsX1_commonDivisor) := goodIn_app (goodIn_of _ (by decide +kernel)) ggX1_lowest_X1_commonDivisor
theorem dX1_lowest_0 : decode cX1_lowest 0 = .ok (.iload_n 1, 1) := by decide +kernel
theorem dX1_lowest_1 : decode cX1_lowest 1 = .ok (.ifCond .lt 9, 3) := by decide +kernel
theorem dX1_lowest_4 : decode cX1_lowest 4 = .ok (.iload_n 1, 1) := by decide +kernel
theorem dX1_lowest_5 : decode cX1_lowest 5 = .ok (.bipush 6, 2) := by decide +kernel
theorem dX1_lowest_7 : decode cX1_lowest 7 = .ok (.if_icmp .le 5, 3) := by decide +kernel
theorem dX1_lowest_10 : decode cX1_lowest 10 = .ok (.lconst 0, 1) := by decide +kernel
theorem dX1_lowest_11 : decode cX1_lowest 11 = .ok (.lreturn, 1) := by decide +kernel
theorem dX1_lowest_12 : decode cX1_lowest 12 = .ok (.iload_n 2, 1) := by decide +kernel
theorem dX1_lowest_13 : decode cX1_lowest 13 = .ok (.ifCond .ne 12, 3) := by decide +kernel
theorem dX1_lowest_16 : decode cX1_lowest 16 = .ok (.aload_n 0, 1) := by decide +kernel
theorem dX1_lowest_17 : decode cX1_lowest 17 = .ok (.getfield 9, 3) := by decide +kernel
theorem dX1_lowest_20 : decode cX1_lowest 20 = .ok (.iload_n 1, 1) := by decide +kernel
theorem dX1_lowest_21 : decode cX1_lowest 21 = .ok (.laload, 1) := by decide +kernel
theorem dX1_lowest_22 : decode cX1_lowest 22 = .ok (.goto 7, 3) := by decide +kernel
theorem dX1_lowest_25 : decode cX1_lowest 25 = .ok (.aload_n 0, 1) := by decide +kernel
theorem dX1_lowest_26 : decode cX1_lowest 26 = .ok (.getfield 15, 3) := by decide +kernel
theorem dX1_lowest_29 : decode cX1_lowest 29 = .ok (.lstore_n 3, 1) := by decide +kernel
theorem dX1_lowest_30 : decode cX1_lowest 30 = .ok (.aload_n 0, 1) := by decide +kernel
theorem dX1_lowest_31 : decode cX1_lowest 31 = .ok (.getfield 15, 3) := by decide +kernel
theorem dX1_lowest_34 : decode cX1_lowest 34 = .ok (.aload_n 0, 1) := by decide +kernel
theorem dX1_lowest_35 : decode cX1_lowest 35 = .ok (.getfield 9, 3) := by decide +kernel
theorem dX1_lowest_38 : decode cX1_lowest 38 = .ok (.iload_n 1, 1) := by decide +kernel
theorem dX1_lowest_39 : decode cX1_lowest 39 = .ok (.laload, 1) := by decide +kernel
theorem dX1_lowest_40 : decode cX1_lowest 40 = .ok (.invokestatic 33, 3) := by decide +kernel
theorem dX1_lowest_43 : decode cX1_lowest 43 = .ok (.lstore 5, 2) := by decide +kernel
theorem dX1_lowest_45 : decode cX1_lowest 45 = .ok (.lload 5, 2) := by decide +kernel
theorem dX1_lowest_47 : decode cX1_lowest 47 = .ok (.lconst 0, 1) := by decide +kernel
theorem dX1_lowest_48 : decode cX1_lowest 48 = .ok (.lcmp, 1) := by decide +kernel
theorem dX1_lowest_49 : decode cX1_lowest 49 = .ok (.ifCond .ne 7, 3) := by decide +kernel
theorem dX1_lowest_52 : decode cX1_lowest 52 = .ok (.lload_n 3, 1) := by decide +kernel
theorem dX1_lowest_53 : decode cX1_lowest 53 = .ok (.goto 7, 3) := by decide +kernel
theorem dX1_lowest_56 : decode cX1_lowest 56 = .ok (.lload_n 3, 1) := by decide +kernel
theorem dX1_lowest_57 : decode cX1_lowest 57 = .ok (.lload 5, 2) := by decide +kernel
theorem dX1_lowest_59 : decode cX1_lowest 59 = .ok (.ldiv, 1) := by decide +kernel
theorem dX1_lowest_60 : decode cX1_lowest 60 = .ok (.lreturn, 1) := by decide +kernel
theorem dX1_commonDivisor_0 : decode cX1_commonDivisor 0 = .ok (.iconst 0, 1) := by decide +kernel
theorem dX1_commonDivisor_1 : decode cX1_commonDivisor 1 = .ok (.istore 4, 2) := by decide +kernel
theorem dX1_commonDivisor_3 : decode cX1_commonDivisor 3 = .ok (.iload 4, 2) := by decide +kernel
theorem dX1_commonDivisor_5 : decode cX1_commonDivisor 5 = .ok (.bipush 100, 2) := by decide +kernel
theorem dX1_commonDivisor_7 : decode cX1_commonDivisor 7 = .ok (.if_icmp .ge 25, 3) := by decide +kernel
theorem dX1_commonDivisor_10 : decode cX1_commonDivisor 10 = .ok (.lload_n 2, 1) := by decide +kernel
theorem dX1_commonDivisor_11 : decode cX1_commonDivisor 11 = .ok (.lconst 0, 1) := by decide +kernel
theorem dX1_commonDivisor_12 : decode cX1_commonDivisor 12 = .ok (.lcmp, 1) := by decide +kernel
theorem dX1_commonDivisor_13 : decode cX1_commonDivisor 13 = .ok (.ifCond .eq 19, 3) := by decide +kernel
theorem dX1_commonDivisor_16 : decode cX1_commonDivisor 16 = .ok (.lload_n 0, 1) := by decide +kernel
theorem dX1_commonDivisor_17 : decode cX1_commonDivisor 17 = .ok (.lload_n 2, 1) := by decide +kernel
theorem dX1_commonDivisor_18 : decode cX1_commonDivisor 18 = .ok (.lrem, 1) := by decide +kernel
theorem dX1_commonDivisor_19 : decode cX1_commonDivisor 19 = .ok (.lstore 5, 2) := by decide +kernel
theorem dX1_commonDivisor_21 : decode cX1_commonDivisor 21 = .ok (.lload_n 2, 1) := by decide +kernel
theorem dX1_commonDivisor_22 : decode cX1_commonDivisor 22 = .ok (.lstore_n 0, 1) := by decide +kernel
theorem dX1_commonDivisor_23 : decode cX1_commonDivisor 23 = .ok (.lload 5, 2) := by decide +kernel
theorem dX1_commonDivisor_25 : decode cX1_commonDivisor 25 = .ok (.lstore_n 2, 1) := by decide +kernel
theorem dX1_commonDivisor_26 : decode cX1_commonDivisor 26 = .ok (.iinc 4 1, 3) := by decide +kernel
theorem dX1_commonDivisor_29 : decode cX1_commonDivisor 29 = .ok (.goto (-26), 3) := by decide +kernel
theorem dX1_commonDivisor_32 : decode cX1_commonDivisor 32 = .ok (.lload_n 0, 1) := by decide +kernel
theorem dX1_commonDivisor_33 : decode cX1_commonDivisor 33 = .ok (.lreturn, 1) := by decide +kernel
theorem dX2_init_0 : decode cX2_init 0 = .ok (.aload_n 0, 1) := by decide +kernel
theorem dX2_init_1 : decode cX2_init 1 = .ok (.invokespecial 3, 3) := by decide +kernel
theorem dX2_init_4 : decode cX2_init 4 = .ok (.aload_n 0, 1) := by decide +kernel
theorem dX2_init_5 : decode cX2_init 5 = .ok (.bipush 64, 2) := by decide +kernel
theorem dX2_init_7 : decode cX2_init 7 = .ok (.newarray .int, 2) := by decide +kernel
theorem dX2_init_9 : decode cX2_init 9 = .ok (.putfield 9, 3) := by decide +kernel
theorem dX2_init_12 : decode cX2_init 12 = .ok (.aload_n 0, 1) := by decide +kernel
theorem dX2_init_13 : decode cX2_init 13 = .ok (.bipush 64, 2) := by decide +kernel
theorem dX2_init_15 : decode cX2_init 15 = .ok (.newarray .int, 2) := by decide +kernel
theorem dX2_init_17 : decode cX2_init 17 = .ok (.putfield 15, 3) := by decide +kernel
theorem dX2_init_20 : decode cX2_init 20 = .ok (.aload_n 0, 1) := by decide +kernel
theorem dX2_init_21 : decode cX2_init 21 = .ok (.bipush 64, 2) := by decide +kernel
theorem dX2_init_23 : decode cX2_init 23 = .ok (.newarray .int, 2) := by decide +kernel
theorem dX2_init_25 : decode cX2_init 25 = .ok (.putfield 18, 3) := by decide +kernel
theorem dX2_init_28 : decode cX2_init 28 = .ok (.aload_n 0, 1) := by decide +kernel
theorem dX2_init_29 : decode cX2_init 29 = .ok (.bipush 64, 2) := by decide +kernel
theorem dX2_init_31 : decode cX2_init 31 = .ok (.newarray .int, 2) := by decide +kernel
theorem dX2_init_33 : decode cX2_init 33 = .ok (.putfield 21, 3) := by decide +kernel
theorem dX2_init_36 : decode cX2_init 36 = .ok (.aload_n 0, 1) := by decide +kernel
theorem dX2_init_37 : decode cX2_init 37 = .ok (.bipush 64, 2) := by decide +kernel
theorem dX2_init_39 : decode cX2_init 39 = .ok (.newarray .int, 2) := by decide +kernel
theorem dX2_init_41 : decode cX2_init 41 = .ok (.putfield 24, 3) := by decide +kernel
theorem dX2_init_44 : decode cX2_init 44 = .ok (.aload_n 0, 1) := by decide +kernel
theorem dX2_init_45 : decode cX2_init 45 = .ok (.bipush 6, 2) := by decide +kernel
theorem dX2_init_47 : decode cX2_init 47 = .ok (.newarray .int, 2) := by decide +kernel
theorem dX2_init_49 : decode cX2_init 49 = .ok (.putfield 27, 3) := by decide +kernel
theorem dX2_init_52 : decode cX2_init 52 = .ok (.return_, 1) := by decide +kernel
set_option maxRecDepth 20000 in
theorem ggX2_gather_X3_total : GoodIn wsX2_gather wsX3_total := goodIn_r _ [18, 19, 20, 32, 33, 34, 35] (by decide +kernel) (by decide +kernel)
set_option maxRecDepth 20000 in
theorem gX2_gather_X3_total : GoodIn wsX2_gather (wsV RX2 30 RX3 yX3_total wsX3_total) := goodIn_app (goodIn_of _ (by decide +kernel)) ggX2_gather_X3_total
set_option maxRecDepth 20000 in
theorem ggX2_gather_X2_lowestHeap : GoodIn wsX2_gather wsX2_lowestHeap := goodIn_r _ [24, 25, 26, 27, 28, 29, 30, 31] (by decide +kernel) (by decide +kernel)
set_option maxRecDepth 20000 in
theorem gX2_gather_X2_lowestHeap : GoodIn wsX2_gather (va_wsS RX2 48 yX2_lowestHeap wsX2_lowestHeap) := goodIn_app (goodIn_of _ (by decide +kernel)) ggX2_gather_X2_lowestHeap
set_option maxRecDepth 20000 in
theorem ggX2_gather_J6_bitCount_0f7a4 : GoodIn wsX2_gather wsJ6_bitCount_0f7a4 := goodIn_r _ [28, 29, 30, 31] (by decide +kernel) (by decide +kernel)
set_option maxRecDepth 20000 in
theorem gX2_gather_J6_bitCount_0f7a4 : GoodIn wsX2_gather (va_wsS RX2 53 yJ6_bitCount_0f7a4 wsJ6_bitCount_0f7a4) := goodIn_app (goodIn_of _ (by decide +kernel)) ggX2_gather_J6_bitCount_0f7a4
theorem dX2_gather_0 : decode cX2_gather 0 = .ok (.aload_n 1, 1) := by decide +kernel
theorem dX2_gather_1 : decode cX2_gather 1 = .ok (.invokevirtual 30, 3) := by decide +kernel
theorem dX2_gather_4 : decode cX2_gather 4 = .ok (.istore_n 3, 1) := by decide +kernel
theorem dX2_gather_5 : decode cX2_gather 5 = .ok (.aload_n 0, 1) := by decide +kernel
theorem dX2_gather_6 : decode cX2_gather 6 = .ok (.iconst 1, 1) := by decide +kernel
theorem dX2_gather_7 : decode cX2_gather 7 = .ok (.aload_n 1, 1) := by decide +kernel
theorem dX2_gather_8 : decode cX2_gather 8 = .ok (.getfield 36, 3) := by decide +kernel
theorem dX2_gather_11 : decode cX2_gather 11 = .ok (.bipush 6, 2) := by decide +kernel
theorem dX2_gather_13 : decode cX2_gather 13 = .ok (.invokestatic 40, 3) := by decide +kernel
theorem dX2_gather_16 : decode cX2_gather 16 = .ok (.ishl, 1) := by decide +kernel
theorem dX2_gather_17 : decode cX2_gather 17 = .ok (.putfield 46, 3) := by decide +kernel
theorem dX2_gather_20 : decode cX2_gather 20 = .ok (.aload_n 0, 1) := by decide +kernel
theorem dX2_gather_21 : decode cX2_gather 21 = .ok (.getfield 9, 3) := by decide +kernel
theorem dX2_gather_24 : decode cX2_gather 24 = .ok (.iconst 0, 1) := by decide +kernel
theorem dX2_gather_25 : decode cX2_gather 25 = .ok (.sipush 255, 3) := by decide +kernel
theorem dX2_gather_28 : decode cX2_gather 28 = .ok (.iastore, 1) := by decide +kernel
theorem dX2_gather_29 : decode cX2_gather 29 = .ok (.iconst 0, 1) := by decide +kernel
theorem dX2_gather_30 : decode cX2_gather 30 = .ok (.istore 4, 2) := by decide +kernel
theorem dX2_gather_32 : decode cX2_gather 32 = .ok (.iload 4, 2) := by decide +kernel
theorem dX2_gather_34 : decode cX2_gather 34 = .ok (.bipush 6, 2) := by decide +kernel
theorem dX2_gather_36 : decode cX2_gather 36 = .ok (.if_icmp .ge 23, 3) := by decide +kernel
theorem dX2_gather_39 : decode cX2_gather 39 = .ok (.aload_n 0, 1) := by decide +kernel
theorem dX2_gather_40 : decode cX2_gather 40 = .ok (.getfield 27, 3) := by decide +kernel
theorem dX2_gather_43 : decode cX2_gather 43 = .ok (.iload 4, 2) := by decide +kernel
theorem dX2_gather_45 : decode cX2_gather 45 = .ok (.aload_n 1, 1) := by decide +kernel
theorem dX2_gather_46 : decode cX2_gather 46 = .ok (.getfield 47, 3) := by decide +kernel
theorem dX2_gather_49 : decode cX2_gather 49 = .ok (.iload 4, 2) := by decide +kernel
theorem dX2_gather_51 : decode cX2_gather 51 = .ok (.iaload, 1) := by decide +kernel
theorem dX2_gather_52 : decode cX2_gather 52 = .ok (.iastore, 1) := by decide +kernel
theorem dX2_gather_53 : decode cX2_gather 53 = .ok (.iinc 4 1, 3) := by decide +kernel
theorem dX2_gather_56 : decode cX2_gather 56 = .ok (.goto (-24), 3) := by decide +kernel
theorem dX2_gather_59 : decode cX2_gather 59 = .ok (.iconst 1, 1) := by decide +kernel
theorem dX2_gather_60 : decode cX2_gather 60 = .ok (.istore 4, 2) := by decide +kernel
theorem dX2_gather_62 : decode cX2_gather 62 = .ok (.iload 4, 2) := by decide +kernel
theorem dX2_gather_64 : decode cX2_gather 64 = .ok (.aload_n 0, 1) := by decide +kernel
theorem dX2_gather_65 : decode cX2_gather 65 = .ok (.getfield 46, 3) := by decide +kernel
theorem dX2_gather_68 : decode cX2_gather 68 = .ok (.if_icmp .ge 134, 3) := by decide +kernel
theorem dX2_gather_71 : decode cX2_gather 71 = .ok (.iload 4, 2) := by decide +kernel
theorem dX2_gather_73 : decode cX2_gather 73 = .ok (.iload 4, 2) := by decide +kernel
theorem dX2_gather_75 : decode cX2_gather 75 = .ok (.iconst 1, 1) := by decide +kernel
theorem dX2_gather_76 : decode cX2_gather 76 = .ok (.isub, 1) := by decide +kernel
theorem dX2_gather_77 : decode cX2_gather 77 = .ok (.iand, 1) := by decide +kernel
theorem dX2_gather_78 : decode cX2_gather 78 = .ok (.istore 5, 2) := by decide +kernel
theorem dX2_gather_80 : decode cX2_gather 80 = .ok (.iload 4, 2) := by decide +kernel
theorem dX2_gather_82 : decode cX2_gather 82 = .ok (.invokestatic 48, 3) := by decide +kernel
theorem dX2_gather_85 : decode cX2_gather 85 = .ok (.istore 6, 2) := by decide +kernel
theorem dX2_gather_87 : decode cX2_gather 87 = .ok (.aload_n 0, 1) := by decide +kernel
theorem dX2_gather_88 : decode cX2_gather 88 = .ok (.getfield 9, 3) := by decide +kernel
theorem dX2_gather_91 : decode cX2_gather 91 = .ok (.iload 4, 2) := by decide +kernel
theorem dX2_gather_93 : decode cX2_gather 93 = .ok (.aload_n 0, 1) := by decide +kernel
theorem dX2_gather_94 : decode cX2_gather 94 = .ok (.getfield 9, 3) := by decide +kernel
theorem dX2_gather_97 : decode cX2_gather 97 = .ok (.iload 5, 2) := by decide +kernel
theorem dX2_gather_99 : decode cX2_gather 99 = .ok (.iaload, 1) := by decide +kernel
theorem dX2_gather_100 : decode cX2_gather 100 = .ok (.aload_n 1, 1) := by decide +kernel
theorem dX2_gather_101 : decode cX2_gather 101 = .ok (.getfield 47, 3) := by decide +kernel
theorem dX2_gather_104 : decode cX2_gather 104 = .ok (.iload 6, 2) := by decide +kernel
theorem dX2_gather_106 : decode cX2_gather 106 = .ok (.iaload, 1) := by decide +kernel
theorem dX2_gather_107 : decode cX2_gather 107 = .ok (.iand, 1) := by decide +kernel
theorem dX2_gather_108 : decode cX2_gather 108 = .ok (.iastore, 1) := by decide +kernel
theorem dX2_gather_109 : decode cX2_gather 109 = .ok (.aload_n 0, 1) := by decide +kernel
theorem dX2_gather_110 : decode cX2_gather 110 = .ok (.getfield 15, 3) := by decide +kernel
theorem dX2_gather_113 : decode cX2_gather 113 = .ok (.iload 4, 2) := by decide +kernel
theorem dX2_gather_115 : decode cX2_gather 115 = .ok (.aload_n 0, 1) := by decide +kernel
theorem dX2_gather_116 : decode cX2_gather 116 = .ok (.getfield 15, 3) := by decide +kernel
theorem dX2_gather_119 : decode cX2_gather 119 = .ok (.iload 5, 2) := by decide +kernel
theorem dX2_gather_121 : decode cX2_gather 121 = .ok (.iaload, 1) := by decide +kernel
theorem dX2_gather_122 : decode cX2_gather 122 = .ok (.aload_n 1, 1) := by decide +kernel
theorem dX2_gather_123 : decode cX2_gather 123 = .ok (.getfield 47, 3) := by decide +kernel
theorem dX2_gather_126 : decode cX2_gather 126 = .ok (.iload 6, 2) := by decide +kernel
theorem dX2_gather_128 : decode cX2_gather 128 = .ok (.iaload, 1) := by decide +kernel
theorem dX2_gather_129 : decode cX2_gather 129 = .ok (.ior, 1) := by decide +kernel
theorem dX2_gather_130 : decode cX2_gather 130 = .ok (.iastore, 1) := by decide +kernel
theorem dX2_gather_131 : decode cX2_gather 131 = .ok (.aload_n 0, 1) := by decide +kernel
theorem dX2_gather_132 : decode cX2_gather 132 = .ok (.getfield 18, 3) := by decide +kernel
theorem dX2_gather_135 : decode cX2_gather 135 = .ok (.iload 4, 2) := by decide +kernel
theorem dX2_gather_137 : decode cX2_gather 137 = .ok (.aload_n 0, 1) := by decide +kernel
theorem dX2_gather_138 : decode cX2_gather 138 = .ok (.getfield 18, 3) := by decide +kernel
theorem dX2_gather_141 : decode cX2_gather 141 = .ok (.iload 5, 2) := by decide +kernel
theorem dX2_gather_143 : decode cX2_gather 143 = .ok (.iaload, 1) := by decide +kernel
theorem dX2_gather_144 : decode cX2_gather 144 = .ok (.aload_n 1, 1) := by decide +kernel
theorem dX2_gather_145 : decode cX2_gather 145 = .ok (.getfield 52, 3) := by decide +kernel
theorem dX2_gather_148 : decode cX2_gather 148 = .ok (.iload 6, 2) := by decide +kernel
theorem dX2_gather_150 : decode cX2_gather 150 = .ok (.iaload, 1) := by decide +kernel
theorem dX2_gather_151 : decode cX2_gather 151 = .ok (.iadd, 1) := by decide +kernel
theorem dX2_gather_152 : decode cX2_gather 152 = .ok (.iastore, 1) := by decide +kernel
theorem dX2_gather_153 : decode cX2_gather 153 = .ok (.iload_n 3, 1) := by decide +kernel
theorem dX2_gather_154 : decode cX2_gather 154 = .ok (.ifCond .le 17, 3) := by decide +kernel
theorem dX2_gather_157 : decode cX2_gather 157 = .ok (.aload_n 0, 1) := by decide +kernel
theorem dX2_gather_158 : decode cX2_gather 158 = .ok (.getfield 18, 3) := by decide +kernel
theorem dX2_gather_161 : decode cX2_gather 161 = .ok (.iload 4, 2) := by decide +kernel
theorem dX2_gather_163 : decode cX2_gather 163 = .ok (.iaload, 1) := by decide +kernel
theorem dX2_gather_164 : decode cX2_gather 164 = .ok (.iload_n 2, 1) := by decide +kernel
theorem dX2_gather_165 : decode cX2_gather 165 = .ok (.imul, 1) := by decide +kernel
theorem dX2_gather_166 : decode cX2_gather 166 = .ok (.iload_n 3, 1) := by decide +kernel
theorem dX2_gather_167 : decode cX2_gather 167 = .ok (.idiv, 1) := by decide +kernel
theorem dX2_gather_168 : decode cX2_gather 168 = .ok (.goto 4, 3) := by decide +kernel
theorem dX2_gather_171 : decode cX2_gather 171 = .ok (.iconst 0, 1) := by decide +kernel
theorem dX2_gather_172 : decode cX2_gather 172 = .ok (.istore 7, 2) := by decide +kernel
theorem dX2_gather_174 : decode cX2_gather 174 = .ok (.aload_n 0, 1) := by decide +kernel
theorem dX2_gather_175 : decode cX2_gather 175 = .ok (.getfield 21, 3) := by decide +kernel
theorem dX2_gather_178 : decode cX2_gather 178 = .ok (.iload 4, 2) := by decide +kernel
theorem dX2_gather_180 : decode cX2_gather 180 = .ok (.aload_n 0, 1) := by decide +kernel
theorem dX2_gather_181 : decode cX2_gather 181 = .ok (.getfield 9, 3) := by decide +kernel
theorem dX2_gather_184 : decode cX2_gather 184 = .ok (.iload 4, 2) := by decide +kernel
theorem dX2_gather_186 : decode cX2_gather 186 = .ok (.iaload, 1) := by decide +kernel
theorem dX2_gather_187 : decode cX2_gather 187 = .ok (.invokestatic 53, 3) := by decide +kernel
theorem dX2_gather_190 : decode cX2_gather 190 = .ok (.iload 7, 2) := by decide +kernel
theorem dX2_gather_192 : decode cX2_gather 192 = .ok (.invokestatic 40, 3) := by decide +kernel
theorem dX2_gather_195 : decode cX2_gather 195 = .ok (.iastore, 1) := by decide +kernel
theorem dX2_gather_196 : decode cX2_gather 196 = .ok (.iinc 4 1, 3) := by decide +kernel
theorem dX2_gather_199 : decode cX2_gather 199 = .ok (.goto (-137), 3) := by decide +kernel
theorem dX2_gather_202 : decode cX2_gather 202 = .ok (.return_, 1) := by decide +kernel
set_option maxRecDepth 20000 in
theorem ggX2_seekBreach_X2_countMostHad : GoodIn wsX2_seekBreach wsX2_countMostHad := goodIn_r _ [11, 3, 12, 5, 13, 14, 15, 16, 17, 18, 10, 19, 20, 21, 22, 23, 24, 25, 26, 27, 28, 29, 30, 31, 32, 33, 34, 35] (by decide +kernel) (by decide +kernel)
set_option maxRecDepth 20000 in
theorem gX2_seekBreach_X2_countMostHad : GoodIn wsX2_seekBreach (wsV RX2 64 RX2 yX2_countMostHad wsX2_countMostHad) := goodIn_app (goodIn_of _ (by decide +kernel)) ggX2_seekBreach_X2_countMostHad
set_option maxRecDepth 20000 in
theorem ggX2_seekBreach_J6_bitCount_0f7a4 : GoodIn wsX2_seekBreach wsJ6_bitCount_0f7a4 := goodIn_r _ [23, 24, 25, 26] (by decide +kernel) (by decide +kernel)
set_option maxRecDepth 20000 in
theorem gX2_seekBreach_J6_bitCount_0f7a4 : GoodIn wsX2_seekBreach (va_wsS RX2 53 yJ6_bitCount_0f7a4 wsJ6_bitCount_0f7a4) := goodIn_app (goodIn_of _ (by decide +kernel)) ggX2_seekBreach_J6_bitCount_0f7a4
theorem dX2_seekBreach_0 : decode cX2_seekBreach 0 = .ok (.aload_n 0, 1) := by decide +kernel
theorem dX2_seekBreach_1 : decode cX2_seekBreach 1 = .ok (.bipush (-6), 2) := by decide +kernel
theorem dX2_seekBreach_3 : decode cX2_seekBreach 3 = .ok (.putfield 58, 3) := by decide +kernel
theorem dX2_seekBreach_6 : decode cX2_seekBreach 6 = .ok (.aload_n 0, 1) := by decide +kernel
theorem dX2_seekBreach_7 : decode cX2_seekBreach 7 = .ok (.bipush (-6), 2) := by decide +kernel
theorem dX2_seekBreach_9 : decode cX2_seekBreach 9 = .ok (.putfield 61, 3) := by decide +kernel
theorem dX2_seekBreach_12 : decode cX2_seekBreach 12 = .ok (.iload_n 1, 1) := by decide +kernel
theorem dX2_seekBreach_13 : decode cX2_seekBreach 13 = .ok (.iconst 1, 1) := by decide +kernel
theorem dX2_seekBreach_14 : decode cX2_seekBreach 14 = .ok (.if_icmp .eq 8, 3) := by decide +kernel
theorem dX2_seekBreach_17 : decode cX2_seekBreach 17 = .ok (.aload_n 0, 1) := by decide +kernel
theorem dX2_seekBreach_18 : decode cX2_seekBreach 18 = .ok (.iload_n 2, 1) := by decide +kernel
theorem dX2_seekBreach_19 : decode cX2_seekBreach 19 = .ok (.invokevirtual 64, 3) := by decide +kernel
theorem dX2_seekBreach_22 : decode cX2_seekBreach 22 = .ok (.iconst 1, 1) := by decide +kernel
theorem dX2_seekBreach_23 : decode cX2_seekBreach 23 = .ok (.istore_n 3, 1) := by decide +kernel
theorem dX2_seekBreach_24 : decode cX2_seekBreach 24 = .ok (.iload_n 3, 1) := by decide +kernel
theorem dX2_seekBreach_25 : decode cX2_seekBreach 25 = .ok (.aload_n 0, 1) := by decide +kernel
theorem dX2_seekBreach_26 : decode cX2_seekBreach 26 = .ok (.getfield 46, 3) := by decide +kernel
theorem dX2_seekBreach_29 : decode cX2_seekBreach 29 = .ok (.if_icmp .ge 113, 3) := by decide +kernel
theorem dX2_seekBreach_32 : decode cX2_seekBreach 32 = .ok (.iload_n 1, 1) := by decide +kernel
theorem dX2_seekBreach_33 : decode cX2_seekBreach 33 = .ok (.iconst 1, 1) := by decide +kernel
theorem dX2_seekBreach_34 : decode cX2_seekBreach 34 = .ok (.if_icmp .ne 17, 3) := by decide +kernel
theorem dX2_seekBreach_37 : decode cX2_seekBreach 37 = .ok (.aload_n 0, 1) := by decide +kernel
theorem dX2_seekBreach_38 : decode cX2_seekBreach 38 = .ok (.getfield 15, 3) := by decide +kernel
theorem dX2_seekBreach_41 : decode cX2_seekBreach 41 = .ok (.iload_n 3, 1) := by decide +kernel
theorem dX2_seekBreach_42 : decode cX2_seekBreach 42 = .ok (.iaload, 1) := by decide +kernel
theorem dX2_seekBreach_43 : decode cX2_seekBreach 43 = .ok (.iload_n 2, 1) := by decide +kernel
theorem dX2_seekBreach_44 : decode cX2_seekBreach 44 = .ok (.iand, 1) := by decide +kernel
theorem dX2_seekBreach_45 : decode cX2_seekBreach 45 = .ok (.invokestatic 53, 3) := by decide +kernel
theorem dX2_seekBreach_48 : decode cX2_seekBreach 48 = .ok (.goto 9, 3) := by decide +kernel
theorem dX2_seekBreach_51 : decode cX2_seekBreach 51 = .ok (.aload_n 0, 1) := by decide +kernel
theorem dX2_seekBreach_52 : decode cX2_seekBreach 52 = .ok (.getfield 24, 3) := by decide +kernel
theorem dX2_seekBreach_55 : decode cX2_seekBreach 55 = .ok (.iload_n 3, 1) := by decide +kernel
theorem dX2_seekBreach_56 : decode cX2_seekBreach 56 = .ok (.iaload, 1) := by decide +kernel
theorem dX2_seekBreach_57 : decode cX2_seekBreach 57 = .ok (.istore 4, 2) := by decide +kernel
theorem dX2_seekBreach_59 : decode cX2_seekBreach 59 = .ok (.iload_n 1, 1) := by decide +kernel
theorem dX2_seekBreach_60 : decode cX2_seekBreach 60 = .ok (.ifCond .ne 8, 3) := by decide +kernel
theorem dX2_seekBreach_63 : decode cX2_seekBreach 63 = .ok (.iload 4, 2) := by decide +kernel
theorem dX2_seekBreach_65 : decode cX2_seekBreach 65 = .ok (.ifCond .ne 7, 3) := by decide +kernel
theorem dX2_seekBreach_68 : decode cX2_seekBreach 68 = .ok (.iconst 1, 1) := by decide +kernel
theorem dX2_seekBreach_69 : decode cX2_seekBreach 69 = .ok (.goto 4, 3) := by decide +kernel
theorem dX2_seekBreach_72 : decode cX2_seekBreach 72 = .ok (.iconst 0, 1) := by decide +kernel
theorem dX2_seekBreach_73 : decode cX2_seekBreach 73 = .ok (.istore 5, 2) := by decide +kernel
theorem dX2_seekBreach_75 : decode cX2_seekBreach 75 = .ok (.iload 5, 2) := by decide +kernel
theorem dX2_seekBreach_77 : decode cX2_seekBreach 77 = .ok (.ifCond .eq 18, 3) := by decide +kernel
theorem dX2_seekBreach_80 : decode cX2_seekBreach 80 = .ok (.iload 4, 2) := by decide +kernel
theorem dX2_seekBreach_82 : decode cX2_seekBreach 82 = .ok (.aload_n 0, 1) := by decide +kernel
theorem dX2_seekBreach_83 : decode cX2_seekBreach 83 = .ok (.getfield 21, 3) := by decide +kernel
theorem dX2_seekBreach_86 : decode cX2_seekBreach 86 = .ok (.iload_n 3, 1) := by decide +kernel
theorem dX2_seekBreach_87 : decode cX2_seekBreach 87 = .ok (.iaload, 1) := by decide +kernel
theorem dX2_seekBreach_88 : decode cX2_seekBreach 88 = .ok (.if_icmp .ge 7, 3) := by decide +kernel
theorem dX2_seekBreach_91 : decode cX2_seekBreach 91 = .ok (.iconst 1, 1) := by decide +kernel
theorem dX2_seekBreach_92 : decode cX2_seekBreach 92 = .ok (.goto 4, 3) := by decide +kernel
theorem dX2_seekBreach_95 : decode cX2_seekBreach 95 = .ok (.iconst 0, 1) := by decide +kernel
theorem dX2_seekBreach_96 : decode cX2_seekBreach 96 = .ok (.istore 6, 2) := by decide +kernel
theorem dX2_seekBreach_98 : decode cX2_seekBreach 98 = .ok (.iload 6, 2) := by decide +kernel
theorem dX2_seekBreach_100 : decode cX2_seekBreach 100 = .ok (.ifCond .eq 36, 3) := by decide +kernel
theorem dX2_seekBreach_103 : decode cX2_seekBreach 103 = .ok (.aload_n 0, 1) := by decide +kernel
theorem dX2_seekBreach_104 : decode cX2_seekBreach 104 = .ok (.getfield 58, 3) := by decide +kernel
theorem dX2_seekBreach_107 : decode cX2_seekBreach 107 = .ok (.bipush (-6), 2) := by decide +kernel
theorem dX2_seekBreach_109 : decode cX2_seekBreach 109 = .ok (.if_icmp .eq 14, 3) := by decide +kernel
theorem dX2_seekBreach_112 : decode cX2_seekBreach 112 = .ok (.iload 4, 2) := by decide +kernel
theorem dX2_seekBreach_114 : decode cX2_seekBreach 114 = .ok (.iconst 1, 1) := by decide +kernel
theorem dX2_seekBreach_115 : decode cX2_seekBreach 115 = .ok (.iadd, 1) := by decide +kernel
theorem dX2_seekBreach_116 : decode cX2_seekBreach 116 = .ok (.aload_n 0, 1) := by decide +kernel
theorem dX2_seekBreach_117 : decode cX2_seekBreach 117 = .ok (.getfield 58, 3) := by decide +kernel
theorem dX2_seekBreach_120 : decode cX2_seekBreach 120 = .ok (.if_icmp .ge 16, 3) := by decide +kernel
theorem dX2_seekBreach_123 : decode cX2_seekBreach 123 = .ok (.aload_n 0, 1) := by decide +kernel
theorem dX2_seekBreach_124 : decode cX2_seekBreach 124 = .ok (.iload 4, 2) := by decide +kernel
theorem dX2_seekBreach_126 : decode cX2_seekBreach 126 = .ok (.iconst 1, 1) := by decide +kernel
theorem dX2_seekBreach_127 : decode cX2_seekBreach 127 = .ok (.iadd, 1) := by decide +kernel
theorem dX2_seekBreach_128 : decode cX2_seekBreach 128 = .ok (.putfield 58, 3) := by decide +kernel
theorem dX2_seekBreach_131 : decode cX2_seekBreach 131 = .ok (.aload_n 0, 1) := by decide +kernel
theorem dX2_seekBreach_132 : decode cX2_seekBreach 132 = .ok (.iload_n 3, 1) := by decide +kernel
theorem dX2_seekBreach_133 : decode cX2_seekBreach 133 = .ok (.putfield 61, 3) := by decide +kernel
theorem dX2_seekBreach_136 : decode cX2_seekBreach 136 = .ok (.iinc 3 1, 3) := by decide +kernel
theorem dX2_seekBreach_139 : decode cX2_seekBreach 139 = .ok (.goto (-115), 3) := by decide +kernel
theorem dX2_seekBreach_142 : decode cX2_seekBreach 142 = .ok (.return_, 1) := by decide +kernel
set_option maxRecDepth 20000 in
theorem ggX2_lowestHeap_J6_bitCount_0f7a4 : GoodIn wsX2_lowestHeap wsJ6_bitCount_0f7a4 := goodIn_r _ [4, 5, 6, 7] (by decide +kernel) (by decide +kernel)
set_option maxRecDepth 20000 in
theorem gX2_lowestHeap_J6_bitCount_0f7a4 : GoodIn wsX2_lowestHeap (va_wsS RX2 53 yJ6_bitCount_0f7a4 wsJ6_bitCount_0f7a4) := goodIn_app (goodIn_of _ (by decide +kernel)) ggX2_lowestHeap_J6_bitCount_0f7a4
theorem dX2_lowestHeap_0 : decode cX2_lowestHeap 0 = .ok (.iload_n 0, 1) := by decide +kernel
theorem dX2_lowestHeap_1 : decode cX2_lowestHeap 1 = .ok (.iload_n 0, 1) := by decide +kernel
theorem dX2_lowestHeap_2 : decode cX2_lowestHeap 2 = .ok (.ineg, 1) := by decide +kernel
theorem dX2_lowestHeap_3 : decode cX2_lowestHeap 3 = .ok (.iand, 1) := by decide +kernel
theorem dX2_lowestHeap_4 : decode cX2_lowestHeap 4 = .ok (.iconst 1, 1) := by decide +kernel
theorem dX2_lowestHeap_5 : decode cX2_lowestHeap 5 = .ok (.isub, 1) := by decide +kernel
theorem dX2_lowestHeap_6 : decode cX2_lowestHeap 6 = .ok (.invokestatic 53, 3) := by decide +kernel
theorem dX2_lowestHeap_9 : decode cX2_lowestHeap 9 = .ok (.ireturn, 1) := by decide +kernel
set_option maxRecDepth 20000 in
theorem ggX2_countMostHad_X2_lowestHeap : GoodIn wsX2_countMostHad wsX2_lowestHeap := goodIn_r _ [11, 12, 13, 14, 15, 16, 17, 18] (by decide +kernel) (by decide +kernel)
set_option maxRecDepth 20000 in
theorem gX2_countMostHad_X2_lowestHeap : GoodIn wsX2_countMostHad (va_wsS RX2 48 yX2_lowestHeap wsX2_lowestHeap) := goodIn_app (goodIn_of _ (by decide +kernel)) ggX2_countMostHad_X2_lowestHeap
set_option maxRecDepth 20000 in
theorem ggX2_countMostHad_J6_bitCount_0f7a4 : GoodIn wsX2_countMostHad wsJ6_bitCount_0f7a4 := goodIn_r _ [15, 16, 17, 18] (by decide +kernel) (by decide +kernel)
set_option maxRecDepth 20000 in
theorem gX2_countMostHad_J6_bitCount_0f7a4 : GoodIn wsX2_countMostHad (va_wsS RX2 53 yJ6_bitCount_0f7a4 wsJ6_bitCount_0f7a4) := goodIn_app (goodIn_of _ (by decide +kernel)) ggX2_countMostHad_J6_bitCount_0f7a4
theorem dX2_countMostHad_0 : decode cX2_countMostHad 0 = .ok (.iconst 1, 1) := by decide +kernel
theorem dX2_countMostHad_1 : decode cX2_countMostHad 1 = .ok (.istore_n 2, 1) := by decide +kernel
theorem dX2_countMostHad_2 : decode cX2_countMostHad 2 = .ok (.iload_n 2, 1) := by decide +kernel
theorem dX2_countMostHad_3 : decode cX2_countMostHad 3 = .ok (.aload_n 0, 1) := by decide +kernel
theorem dX2_countMostHad_4 : decode cX2_countMostHad 4 = .ok (.getfield 46, 3) := by decide +kernel
theorem dX2_countMostHad_7 : decode cX2_countMostHad 7 = .ok (.if_icmp .ge 44, 3) := by decide +kernel
theorem dX2_countMostHad_10 : decode cX2_countMostHad 10 = .ok (.aload_n 0, 1) := by decide +kernel
theorem dX2_countMostHad_11 : decode cX2_countMostHad 11 = .ok (.getfield 27, 3) := by decide +kernel
theorem dX2_countMostHad_14 : decode cX2_countMostHad 14 = .ok (.iload_n 2, 1) := by decide +kernel
theorem dX2_countMostHad_15 : decode cX2_countMostHad 15 = .ok (.invokestatic 48, 3) := by decide +kernel
theorem dX2_countMostHad_18 : decode cX2_countMostHad 18 = .ok (.iaload, 1) := by decide +kernel
theorem dX2_countMostHad_19 : decode cX2_countMostHad 19 = .ok (.iload_n 1, 1) := by decide +kernel
theorem dX2_countMostHad_20 : decode cX2_countMostHad 20 = .ok (.iand, 1) := by decide +kernel
theorem dX2_countMostHad_21 : decode cX2_countMostHad 21 = .ok (.invokestatic 53, 3) := by decide +kernel
theorem dX2_countMostHad_24 : decode cX2_countMostHad 24 = .ok (.istore_n 3, 1) := by decide +kernel
theorem dX2_countMostHad_25 : decode cX2_countMostHad 25 = .ok (.aload_n 0, 1) := by decide +kernel
theorem dX2_countMostHad_26 : decode cX2_countMostHad 26 = .ok (.getfield 24, 3) := by decide +kernel
theorem dX2_countMostHad_29 : decode cX2_countMostHad 29 = .ok (.iload_n 2, 1) := by decide +kernel
theorem dX2_countMostHad_30 : decode cX2_countMostHad 30 = .ok (.aload_n 0, 1) := by decide +kernel
theorem dX2_countMostHad_31 : decode cX2_countMostHad 31 = .ok (.getfield 24, 3) := by decide +kernel
theorem dX2_countMostHad_34 : decode cX2_countMostHad 34 = .ok (.iload_n 2, 1) := by decide +kernel
theorem dX2_countMostHad_35 : decode cX2_countMostHad 35 = .ok (.iload_n 2, 1) := by decide +kernel
theorem dX2_countMostHad_36 : decode cX2_countMostHad 36 = .ok (.iconst 1, 1) := by decide +kernel
theorem dX2_countMostHad_37 : decode cX2_countMostHad 37 = .ok (.isub, 1) := by decide +kernel
theorem dX2_countMostHad_38 : decode cX2_countMostHad 38 = .ok (.iand, 1) := by decide +kernel
theorem dX2_countMostHad_39 : decode cX2_countMostHad 39 = .ok (.iaload, 1) := by decide +kernel
theorem dX2_countMostHad_40 : decode cX2_countMostHad 40 = .ok (.iload_n 3, 1) := by decide +kernel
theorem dX2_countMostHad_41 : decode cX2_countMostHad 41 = .ok (.invokestatic 68, 3) := by decide +kernel
theorem dX2_countMostHad_44 : decode cX2_countMostHad 44 = .ok (.iastore, 1) := by decide +kernel
theorem dX2_countMostHad_45 : decode cX2_countMostHad 45 = .ok (.iinc 2 1, 3) := by decide +kernel
theorem dX2_countMostHad_48 : decode cX2_countMostHad 48 = .ok (.goto (-46), 3) := by decide +kernel
theorem dX2_countMostHad_51 : decode cX2_countMostHad 51 = .ok (.return_, 1) := by decide +kernel
theorem dX3_init_0 : decode cX3_init 0 = .ok (.aload_n 0, 1) := by decide +kernel
theorem dX3_init_1 : decode cX3_init 1 = .ok (.invokespecial 3, 3) := by decide +kernel
theorem dX3_init_4 : decode cX3_init 4 = .ok (.aload_n 0, 1) := by decide +kernel
theorem dX3_init_5 : decode cX3_init 5 = .ok (.bipush 7, 2) := by decide +kernel
theorem dX3_init_7 : decode cX3_init 7 = .ok (.newarray .int, 2) := by decide +kernel
theorem dX3_init_9 : decode cX3_init 9 = .ok (.putfield 9, 3) := by decide +kernel
theorem dX3_init_12 : decode cX3_init 12 = .ok (.aload_n 0, 1) := by decide +kernel
theorem dX3_init_13 : decode cX3_init 13 = .ok (.bipush 7, 2) := by decide +kernel
theorem dX3_init_15 : decode cX3_init 15 = .ok (.newarray .int, 2) := by decide +kernel
theorem dX3_init_17 : decode cX3_init 17 = .ok (.putfield 15, 3) := by decide +kernel
theorem dX3_init_20 : decode cX3_init 20 = .ok (.aload_n 0, 1) := by decide +kernel
theorem dX3_init_21 : decode cX3_init 21 = .ok (.aload_n 1, 1) := by decide +kernel
theorem dX3_init_22 : decode cX3_init 22 = .ok (.putfield 18, 3) := by decide +kernel
theorem dX3_init_25 : decode cX3_init 25 = .ok (.return_, 1) := by decide +kernel
theorem dX3_append_0 : decode cX3_append 0 = .ok (.aload_n 0, 1) := by decide +kernel
theorem dX3_append_1 : decode cX3_append 1 = .ok (.getfield 22, 3) := by decide +kernel
theorem dX3_append_4 : decode cX3_append 4 = .ok (.ifCond .lt 42, 3) := by decide +kernel
theorem dX3_append_7 : decode cX3_append 7 = .ok (.aload_n 0, 1) := by decide +kernel
theorem dX3_append_8 : decode cX3_append 8 = .ok (.getfield 22, 3) := by decide +kernel
theorem dX3_append_11 : decode cX3_append 11 = .ok (.bipush 6, 2) := by decide +kernel
theorem dX3_append_13 : decode cX3_append 13 = .ok (.if_icmp .gt 33, 3) := by decide +kernel
theorem dX3_append_16 : decode cX3_append 16 = .ok (.aload_n 0, 1) := by decide +kernel
theorem dX3_append_17 : decode cX3_append 17 = .ok (.getfield 9, 3) := by decide +kernel
theorem dX3_append_20 : decode cX3_append 20 = .ok (.aload_n 0, 1) := by decide +kernel
theorem dX3_append_21 : decode cX3_append 21 = .ok (.getfield 22, 3) := by decide +kernel
theorem dX3_append_24 : decode cX3_append 24 = .ok (.iload_n 1, 1) := by decide +kernel
theorem dX3_append_25 : decode cX3_append 25 = .ok (.iastore, 1) := by decide +kernel
theorem dX3_append_26 : decode cX3_append 26 = .ok (.aload_n 0, 1) := by decide +kernel
theorem dX3_append_27 : decode cX3_append 27 = .ok (.getfield 15, 3) := by decide +kernel
theorem dX3_append_30 : decode cX3_append 30 = .ok (.aload_n 0, 1) := by decide +kernel
theorem dX3_append_31 : decode cX3_append 31 = .ok (.getfield 22, 3) := by decide +kernel
theorem dX3_append_34 : decode cX3_append 34 = .ok (.iload_n 2, 1) := by decide +kernel
theorem dX3_append_35 : decode cX3_append 35 = .ok (.iastore, 1) := by decide +kernel
theorem dX3_append_36 : decode cX3_append 36 = .ok (.aload_n 0, 1) := by decide +kernel
theorem dX3_append_37 : decode cX3_append 37 = .ok (.dup, 1) := by decide +kernel
theorem dX3_append_38 : decode cX3_append 38 = .ok (.getfield 22, 3) := by decide +kernel
theorem dX3_append_41 : decode cX3_append 41 = .ok (.iconst 1, 1) := by decide +kernel
theorem dX3_append_42 : decode cX3_append 42 = .ok (.iadd, 1) := by decide +kernel
theorem dX3_append_43 : decode cX3_append 43 = .ok (.putfield 22, 3) := by decide +kernel
theorem dX3_append_46 : decode cX3_append 46 = .ok (.return_, 1) := by decide +kernel
theorem dX3_copyOf_0 : decode cX3_copyOf 0 = .ok (.iconst 0, 1) := by decide +kernel
theorem dX3_copyOf_1 : decode cX3_copyOf 1 = .ok (.istore_n 2, 1) := by decide +kernel
theorem dX3_copyOf_2 : decode cX3_copyOf 2 = .ok (.iload_n 2, 1) := by decide +kernel
theorem dX3_copyOf_3 : decode cX3_copyOf 3 = .ok (.bipush 6, 2) := by decide +kernel
theorem dX3_copyOf_5 : decode cX3_copyOf 5 = .ok (.if_icmp .gt 33, 3) := by decide +kernel
theorem dX3_copyOf_8 : decode cX3_copyOf 8 = .ok (.aload_n 0, 1) := by decide +kernel
theorem dX3_copyOf_9 : decode cX3_copyOf 9 = .ok (.getfield 9, 3) := by decide +kernel
theorem dX3_copyOf_12 : decode cX3_copyOf 12 = .ok (.iload_n 2, 1) := by decide +kernel
theorem dX3_copyOf_13 : decode cX3_copyOf 13 = .ok (.aload_n 1, 1) := by decide +kernel
theorem dX3_copyOf_14 : decode cX3_copyOf 14 = .ok (.getfield 9, 3) := by decide +kernel
theorem dX3_copyOf_17 : decode cX3_copyOf 17 = .ok (.iload_n 2, 1) := by decide +kernel
theorem dX3_copyOf_18 : decode cX3_copyOf 18 = .ok (.iaload, 1) := by decide +kernel
theorem dX3_copyOf_19 : decode cX3_copyOf 19 = .ok (.iastore, 1) := by decide +kernel
theorem dX3_copyOf_20 : decode cX3_copyOf 20 = .ok (.aload_n 0, 1) := by decide +kernel
theorem dX3_copyOf_21 : decode cX3_copyOf 21 = .ok (.getfield 15, 3) := by decide +kernel
theorem dX3_copyOf_24 : decode cX3_copyOf 24 = .ok (.iload_n 2, 1) := by decide +kernel
theorem dX3_copyOf_25 : decode cX3_copyOf 25 = .ok (.aload_n 1, 1) := by decide +kernel
theorem dX3_copyOf_26 : decode cX3_copyOf 26 = .ok (.getfield 15, 3) := by decide +kernel
theorem dX3_copyOf_29 : decode cX3_copyOf 29 = .ok (.iload_n 2, 1) := by decide +kernel
theorem dX3_copyOf_30 : decode cX3_copyOf 30 = .ok (.iaload, 1) := by decide +kernel
theorem dX3_copyOf_31 : decode cX3_copyOf 31 = .ok (.iastore, 1) := by decide +kernel
theorem dX3_copyOf_32 : decode cX3_copyOf 32 = .ok (.iinc 2 1, 3) := by decide +kernel
theorem dX3_copyOf_35 : decode cX3_copyOf 35 = .ok (.goto (-33), 3) := by decide +kernel
theorem dX3_copyOf_38 : decode cX3_copyOf 38 = .ok (.aload_n 0, 1) := by decide +kernel
theorem dX3_copyOf_39 : decode cX3_copyOf 39 = .ok (.aload_n 1, 1) := by decide +kernel
theorem dX3_copyOf_40 : decode cX3_copyOf 40 = .ok (.getfield 22, 3) := by decide +kernel
theorem dX3_copyOf_43 : decode cX3_copyOf 43 = .ok (.putfield 22, 3) := by decide +kernel
theorem dX3_copyOf_46 : decode cX3_copyOf 46 = .ok (.return_, 1) := by decide +kernel
theorem dX3_moveToLast_0 : decode cX3_moveToLast 0 = .ok (.iload_n 1, 1) := by decide +kernel
theorem dX3_moveToLast_1 : decode cX3_moveToLast 1 = .ok (.ifCond .lt 56, 3) := by decide +kernel
theorem dX3_moveToLast_4 : decode cX3_moveToLast 4 = .ok (.iload_n 1, 1) := by decide +kernel
theorem dX3_moveToLast_5 : decode cX3_moveToLast 5 = .ok (.aload_n 0, 1) := by decide +kernel
theorem dX3_moveToLast_6 : decode cX3_moveToLast 6 = .ok (.getfield 22, 3) := by decide +kernel
theorem dX3_moveToLast_9 : decode cX3_moveToLast 9 = .ok (.iconst 1, 1) := by decide +kernel
theorem dX3_moveToLast_10 : decode cX3_moveToLast 10 = .ok (.isub, 1) := by decide +kernel
theorem dX3_moveToLast_11 : decode cX3_moveToLast 11 = .ok (.if_icmp .ge 46, 3) := by decide +kernel
theorem dX3_moveToLast_14 : decode cX3_moveToLast 14 = .ok (.aload_n 0, 1) := by decide +kernel
theorem dX3_moveToLast_15 : decode cX3_moveToLast 15 = .ok (.getfield 22, 3) := by decide +kernel
theorem dX3_moveToLast_18 : decode cX3_moveToLast 18 = .ok (.bipush 7, 2) := by decide +kernel
theorem dX3_moveToLast_20 : decode cX3_moveToLast 20 = .ok (.if_icmp .gt 37, 3) := by decide +kernel
theorem dX3_moveToLast_23 : decode cX3_moveToLast 23 = .ok (.aload_n 0, 1) := by decide +kernel
theorem dX3_moveToLast_24 : decode cX3_moveToLast 24 = .ok (.getfield 15, 3) := by decide +kernel
theorem dX3_moveToLast_27 : decode cX3_moveToLast 27 = .ok (.iload_n 1, 1) := by decide +kernel
theorem dX3_moveToLast_28 : decode cX3_moveToLast 28 = .ok (.iaload, 1) := by decide +kernel
theorem dX3_moveToLast_29 : decode cX3_moveToLast 29 = .ok (.ifCond .le 28, 3) := by decide +kernel
theorem dX3_moveToLast_32 : decode cX3_moveToLast 32 = .ok (.aload_n 0, 1) := by decide +kernel
theorem dX3_moveToLast_33 : decode cX3_moveToLast 33 = .ok (.getfield 15, 3) := by decide +kernel
theorem dX3_moveToLast_36 : decode cX3_moveToLast 36 = .ok (.iload_n 1, 1) := by decide +kernel
theorem dX3_moveToLast_37 : decode cX3_moveToLast 37 = .ok (.dup2, 1) := by decide +kernel
theorem dX3_moveToLast_38 : decode cX3_moveToLast 38 = .ok (.iaload, 1) := by decide +kernel
theorem dX3_moveToLast_39 : decode cX3_moveToLast 39 = .ok (.iconst 1, 1) := by decide +kernel
theorem dX3_moveToLast_40 : decode cX3_moveToLast 40 = .ok (.isub, 1) := by decide +kernel
theorem dX3_moveToLast_41 : decode cX3_moveToLast 41 = .ok (.iastore, 1) := by decide +kernel
theorem dX3_moveToLast_42 : decode cX3_moveToLast 42 = .ok (.aload_n 0, 1) := by decide +kernel
theorem dX3_moveToLast_43 : decode cX3_moveToLast 43 = .ok (.getfield 15, 3) := by decide +kernel
theorem dX3_moveToLast_46 : decode cX3_moveToLast 46 = .ok (.aload_n 0, 1) := by decide +kernel
theorem dX3_moveToLast_47 : decode cX3_moveToLast 47 = .ok (.getfield 22, 3) := by decide +kernel
theorem dX3_moveToLast_50 : decode cX3_moveToLast 50 = .ok (.iconst 1, 1) := by decide +kernel
theorem dX3_moveToLast_51 : decode cX3_moveToLast 51 = .ok (.isub, 1) := by decide +kernel
theorem dX3_moveToLast_52 : decode cX3_moveToLast 52 = .ok (.dup2, 1) := by decide +kernel
theorem dX3_moveToLast_53 : decode cX3_moveToLast 53 = .ok (.iaload, 1) := by decide +kernel
theorem dX3_moveToLast_54 : decode cX3_moveToLast 54 = .ok (.iconst 1, 1) := by decide +kernel
theorem dX3_moveToLast_55 : decode cX3_moveToLast 55 = .ok (.iadd, 1) := by decide +kernel
theorem dX3_moveToLast_56 : decode cX3_moveToLast 56 = .ok (.iastore, 1) := by decide +kernel
theorem dX3_moveToLast_57 : decode cX3_moveToLast 57 = .ok (.return_, 1) := by decide +kernel
theorem dX3_tells_0 : decode cX3_tells 0 = .ok (.aload_n 0, 1) := by decide +kernel
theorem dX3_tells_1 : decode cX3_tells 1 = .ok (.getfield 9, 3) := by decide +kernel
theorem dX3_tells_4 : decode cX3_tells 4 = .ok (.iload_n 1, 1) := by decide +kernel
theorem dX3_tells_5 : decode cX3_tells 5 = .ok (.iaload, 1) := by decide +kernel
theorem dX3_tells_6 : decode cX3_tells 6 = .ok (.iload_n 2, 1) := by decide +kernel
theorem dX3_tells_7 : decode cX3_tells 7 = .ok (.ishr, 1) := by decide +kernel
theorem dX3_tells_8 : decode cX3_tells 8 = .ok (.iconst 1, 1) := by decide +kernel
theorem dX3_tells_9 : decode cX3_tells 9 = .ok (.iand, 1) := by decide +kernel
theorem dX3_tells_10 : decode cX3_tells 10 = .ok (.iconst 1, 1) := by decide +kernel
theorem dX3_tells_11 : decode cX3_tells 11 = .ok (.if_icmp .ne 7, 3) := by decide +kernel
theorem dX3_tells_14 : decode cX3_tells 14 = .ok (.iconst 1, 1) := by decide +kernel
theorem dX3_tells_15 : decode cX3_tells 15 = .ok (.goto 4, 3) := by decide +kernel
theorem dX3_tells_18 : decode cX3_tells 18 = .ok (.iconst 0, 1) := by decide +kernel
theorem dX3_tells_19 : decode cX3_tells 19 = .ok (.ireturn, 1) := by decide +kernel
theorem dX3_total_0 : decode cX3_total 0 = .ok (.iconst 0, 1) := by decide +kernel
theorem dX3_total_1 : decode cX3_total 1 = .ok (.istore_n 1, 1) := by decide +kernel
theorem dX3_total_2 : decode cX3_total 2 = .ok (.iconst 0, 1) := by decide +kernel
theorem dX3_total_3 : decode cX3_total 3 = .ok (.istore_n 2, 1) := by decide +kernel
theorem dX3_total_4 : decode cX3_total 4 = .ok (.iload_n 2, 1) := by decide +kernel
theorem dX3_total_5 : decode cX3_total 5 = .ok (.aload_n 0, 1) := by decide +kernel
theorem dX3_total_6 : decode cX3_total 6 = .ok (.getfield 22, 3) := by decide +kernel
theorem dX3_total_9 : decode cX3_total 9 = .ok (.if_icmp .ge 18, 3) := by decide +kernel
theorem dX3_total_12 : decode cX3_total 12 = .ok (.iload_n 1, 1) := by decide +kernel
theorem dX3_total_13 : decode cX3_total 13 = .ok (.aload_n 0, 1) := by decide +kernel
theorem dX3_total_14 : decode cX3_total 14 = .ok (.getfield 15, 3) := by decide +kernel
theorem dX3_total_17 : decode cX3_total 17 = .ok (.iload_n 2, 1) := by decide +kernel
theorem dX3_total_18 : decode cX3_total 18 = .ok (.iaload, 1) := by decide +kernel
theorem dX3_total_19 : decode cX3_total 19 = .ok (.iadd, 1) := by decide +kernel
theorem dX3_total_20 : decode cX3_total 20 = .ok (.istore_n 1, 1) := by decide +kernel
theorem dX3_total_21 : decode cX3_total 21 = .ok (.iinc 2 1, 3) := by decide +kernel
theorem dX3_total_24 : decode cX3_total 24 = .ok (.goto (-20), 3) := by decide +kernel
theorem dX3_total_27 : decode cX3_total 27 = .ok (.iload_n 1, 1) := by decide +kernel
theorem dX3_total_28 : decode cX3_total 28 = .ok (.ireturn, 1) := by decide +kernel
set_option maxRecDepth 20000 in
theorem ggX3_telling_X3_tells : GoodIn wsX3_telling wsX3_tells := goodIn_r _ [7, 8, 9, 10, 11, 12] (by decide +kernel) (by decide +kernel)
set_option maxRecDepth 20000 in
theorem gX3_telling_X3_tells : GoodIn wsX3_telling (wsV RX3 26 RX3 yX3_tells wsX3_tells) := goodIn_app (goodIn_of _ (by decide +kernel)) ggX3_telling_X3_tells
theorem dX3_telling_0 : decode cX3_telling 0 = .ok (.iconst 0, 1) := by decide +kernel
theorem dX3_telling_1 : decode cX3_telling 1 = .ok (.istore_n 2, 1) := by decide +kernel
theorem dX3_telling_2 : decode cX3_telling 2 = .ok (.iconst 0, 1) := by decide +kernel
theorem dX3_telling_3 : decode cX3_telling 3 = .ok (.istore_n 3, 1) := by decide +kernel
theorem dX3_telling_4 : decode cX3_telling 4 = .ok (.iload_n 3, 1) := by decide +kernel
theorem dX3_telling_5 : decode cX3_telling 5 = .ok (.aload_n 0, 1) := by decide +kernel
theorem dX3_telling_6 : decode cX3_telling 6 = .ok (.getfield 22, 3) := by decide +kernel
theorem dX3_telling_9 : decode cX3_telling 9 = .ok (.if_icmp .ge 27, 3) := by decide +kernel
theorem dX3_telling_12 : decode cX3_telling 12 = .ok (.aload_n 0, 1) := by decide +kernel
theorem dX3_telling_13 : decode cX3_telling 13 = .ok (.iload_n 3, 1) := by decide +kernel
theorem dX3_telling_14 : decode cX3_telling 14 = .ok (.iload_n 1, 1) := by decide +kernel
theorem dX3_telling_15 : decode cX3_telling 15 = .ok (.invokevirtual 26, 3) := by decide +kernel
theorem dX3_telling_18 : decode cX3_telling 18 = .ok (.ifCond .eq 12, 3) := by decide +kernel
theorem dX3_telling_21 : decode cX3_telling 21 = .ok (.iload_n 2, 1) := by decide +kernel
theorem dX3_telling_22 : decode cX3_telling 22 = .ok (.aload_n 0, 1) := by decide +kernel
theorem dX3_telling_23 : decode cX3_telling 23 = .ok (.getfield 15, 3) := by decide +kernel
theorem dX3_telling_26 : decode cX3_telling 26 = .ok (.iload_n 3, 1) := by decide +kernel
theorem dX3_telling_27 : decode cX3_telling 27 = .ok (.iaload, 1) := by decide +kernel
theorem dX3_telling_28 : decode cX3_telling 28 = .ok (.iadd, 1) := by decide +kernel
theorem dX3_telling_29 : decode cX3_telling 29 = .ok (.istore_n 2, 1) := by decide +kernel
theorem dX3_telling_30 : decode cX3_telling 30 = .ok (.iinc 3 1, 3) := by decide +kernel
theorem dX3_telling_33 : decode cX3_telling 33 = .ok (.goto (-29), 3) := by decide +kernel
theorem dX3_telling_36 : decode cX3_telling 36 = .ok (.iload_n 2, 1) := by decide +kernel
theorem dX3_telling_37 : decode cX3_telling 37 = .ok (.ireturn, 1) := by decide +kernel
set_option maxRecDepth 20000 in
theorem ggX3_worthOf_J6_bitCount_0f7a4 : GoodIn wsX3_worthOf wsJ6_bitCount_0f7a4 := goodIn_r _ [9, 10, 11, 12] (by decide +kernel) (by decide +kernel)
set_option maxRecDepth 20000 in
theorem gX3_worthOf_J6_bitCount_0f7a4 : GoodIn wsX3_worthOf (va_wsS RX3 35 yJ6_bitCount_0f7a4 wsJ6_bitCount_0f7a4) := goodIn_app (goodIn_of _ (by decide +kernel)) ggX3_worthOf_J6_bitCount_0f7a4
theorem dX3_worthOf_0 : decode cX3_worthOf 0 = .ok (.iconst 0, 1) := by decide +kernel
theorem dX3_worthOf_1 : decode cX3_worthOf 1 = .ok (.istore_n 2, 1) := by decide +kernel
theorem dX3_worthOf_2 : decode cX3_worthOf 2 = .ok (.iconst 0, 1) := by decide +kernel
theorem dX3_worthOf_3 : decode cX3_worthOf 3 = .ok (.istore_n 3, 1) := by decide +kernel
theorem dX3_worthOf_4 : decode cX3_worthOf 4 = .ok (.iload_n 3, 1) := by decide +kernel
theorem dX3_worthOf_5 : decode cX3_worthOf 5 = .ok (.aload_n 0, 1) := by decide +kernel
theorem dX3_worthOf_6 : decode cX3_worthOf 6 = .ok (.getfield 22, 3) := by decide +kernel
theorem dX3_worthOf_9 : decode cX3_worthOf 9 = .ok (.if_icmp .ge 42, 3) := by decide +kernel
theorem dX3_worthOf_12 : decode cX3_worthOf 12 = .ok (.iload_n 2, 1) := by decide +kernel
theorem dX3_worthOf_13 : decode cX3_worthOf 13 = .ok (.aload_n 0, 1) := by decide +kernel
theorem dX3_worthOf_14 : decode cX3_worthOf 14 = .ok (.getfield 15, 3) := by decide +kernel
theorem dX3_worthOf_17 : decode cX3_worthOf 17 = .ok (.iload_n 3, 1) := by decide +kernel
theorem dX3_worthOf_18 : decode cX3_worthOf 18 = .ok (.iaload, 1) := by decide +kernel
theorem dX3_worthOf_19 : decode cX3_worthOf 19 = .ok (.aload_n 0, 1) := by decide +kernel
theorem dX3_worthOf_20 : decode cX3_worthOf 20 = .ok (.getfield 18, 3) := by decide +kernel
theorem dX3_worthOf_23 : decode cX3_worthOf 23 = .ok (.getfield 30, 3) := by decide +kernel
theorem dX3_worthOf_26 : decode cX3_worthOf 26 = .ok (.aload_n 0, 1) := by decide +kernel
theorem dX3_worthOf_27 : decode cX3_worthOf 27 = .ok (.getfield 9, 3) := by decide +kernel
theorem dX3_worthOf_30 : decode cX3_worthOf 30 = .ok (.iload_n 3, 1) := by decide +kernel
theorem dX3_worthOf_31 : decode cX3_worthOf 31 = .ok (.iaload, 1) := by decide +kernel
theorem dX3_worthOf_32 : decode cX3_worthOf 32 = .ok (.iload_n 1, 1) := by decide +kernel
theorem dX3_worthOf_33 : decode cX3_worthOf 33 = .ok (.iand, 1) := by decide +kernel
theorem dX3_worthOf_34 : decode cX3_worthOf 34 = .ok (.sipush 255, 3) := by decide +kernel
theorem dX3_worthOf_37 : decode cX3_worthOf 37 = .ok (.iand, 1) := by decide +kernel
theorem dX3_worthOf_38 : decode cX3_worthOf 38 = .ok (.invokestatic 35, 3) := by decide +kernel
theorem dX3_worthOf_41 : decode cX3_worthOf 41 = .ok (.iaload, 1) := by decide +kernel
theorem dX3_worthOf_42 : decode cX3_worthOf 42 = .ok (.imul, 1) := by decide +kernel
theorem dX3_worthOf_43 : decode cX3_worthOf 43 = .ok (.iadd, 1) := by decide +kernel
theorem dX3_worthOf_44 : decode cX3_worthOf 44 = .ok (.istore_n 2, 1) := by decide +kernel
theorem dX3_worthOf_45 : decode cX3_worthOf 45 = .ok (.iinc 3 1, 3) := by decide +kernel
theorem dX3_worthOf_48 : decode cX3_worthOf 48 = .ok (.goto (-44), 3) := by decide +kernel
theorem dX3_worthOf_51 : decode cX3_worthOf 51 = .ok (.iload_n 2, 1) := by decide +kernel
theorem dX3_worthOf_52 : decode cX3_worthOf 52 = .ok (.ireturn, 1) := by decide +kernel
theorem dX3_wronged_0 : decode cX3_wronged 0 = .ok (.iconst 0, 1) := by decide +kernel
theorem dX3_wronged_1 : decode cX3_wronged 1 = .ok (.istore_n 2, 1) := by decide +kernel
theorem dX3_wronged_2 : decode cX3_wronged 2 = .ok (.iconst 0, 1) := by decide +kernel
theorem dX3_wronged_3 : decode cX3_wronged 3 = .ok (.istore_n 3, 1) := by decide +kernel
theorem dX3_wronged_4 : decode cX3_wronged 4 = .ok (.iload_n 3, 1) := by decide +kernel
theorem dX3_wronged_5 : decode cX3_wronged 5 = .ok (.aload_n 0, 1) := by decide +kernel
theorem dX3_wronged_6 : decode cX3_wronged 6 = .ok (.getfield 22, 3) := by decide +kernel
theorem dX3_wronged_9 : decode cX3_wronged 9 = .ok (.if_icmp .ge 29, 3) := by decide +kernel
theorem dX3_wronged_12 : decode cX3_wronged 12 = .ok (.aload_n 0, 1) := by decide +kernel
theorem dX3_wronged_13 : decode cX3_wronged 13 = .ok (.getfield 9, 3) := by decide +kernel
theorem dX3_wronged_16 : decode cX3_wronged 16 = .ok (.iload_n 3, 1) := by decide +kernel
theorem dX3_wronged_17 : decode cX3_wronged 17 = .ok (.iaload, 1) := by decide +kernel
theorem dX3_wronged_18 : decode cX3_wronged 18 = .ok (.iload_n 1, 1) := by decide +kernel
theorem dX3_wronged_19 : decode cX3_wronged 19 = .ok (.iand, 1) := by decide +kernel
theorem dX3_wronged_20 : decode cX3_wronged 20 = .ok (.ifCond .ne 12, 3) := by decide +kernel
theorem dX3_wronged_23 : decode cX3_wronged 23 = .ok (.iload_n 2, 1) := by decide +kernel
theorem dX3_wronged_24 : decode cX3_wronged 24 = .ok (.aload_n 0, 1) := by decide +kernel
theorem dX3_wronged_25 : decode cX3_wronged 25 = .ok (.getfield 15, 3) := by decide +kernel
theorem dX3_wronged_28 : decode cX3_wronged 28 = .ok (.iload_n 3, 1) := by decide +kernel
theorem dX3_wronged_29 : decode cX3_wronged 29 = .ok (.iaload, 1) := by decide +kernel
theorem dX3_wronged_30 : decode cX3_wronged 30 = .ok (.iadd, 1) := by decide +kernel
theorem dX3_wronged_31 : decode cX3_wronged 31 = .ok (.istore_n 2, 1) := by decide +kernel
theorem dX3_wronged_32 : decode cX3_wronged 32 = .ok (.iinc 3 1, 3) := by decide +kernel
theorem dX3_wronged_35 : decode cX3_wronged 35 = .ok (.goto (-31), 3) := by decide +kernel
theorem dX3_wronged_38 : decode cX3_wronged 38 = .ok (.iload_n 2, 1) := by decide +kernel
theorem dX3_wronged_39 : decode cX3_wronged 39 = .ok (.ireturn, 1) := by decide +kernel
theorem dX4_init_0 : decode cX4_init 0 = .ok (.aload_n 0, 1) := by decide +kernel
theorem dX4_init_1 : decode cX4_init 1 = .ok (.invokespecial 3, 3) := by decide +kernel
theorem dX4_init_4 : decode cX4_init 4 = .ok (.aload_n 0, 1) := by decide +kernel
theorem dX4_init_5 : decode cX4_init 5 = .ok (.bipush 10, 2) := by decide +kernel
theorem dX4_init_7 : decode cX4_init 7 = .ok (.newarray .int, 2) := by decide +kernel
theorem dX4_init_9 : decode cX4_init 9 = .ok (.putfield 9, 3) := by decide +kernel
theorem dX4_init_12 : decode cX4_init 12 = .ok (.aload_n 0, 1) := by decide +kernel
theorem dX4_init_13 : decode cX4_init 13 = .ok (.bipush 10, 2) := by decide +kernel
theorem dX4_init_15 : decode cX4_init 15 = .ok (.newarray .int, 2) := by decide +kernel
theorem dX4_init_17 : decode cX4_init 17 = .ok (.putfield 15, 3) := by decide +kernel
theorem dX4_init_20 : decode cX4_init 20 = .ok (.aload_n 0, 1) := by decide +kernel
theorem dX4_init_21 : decode cX4_init 21 = .ok (.bipush 10, 2) := by decide +kernel
theorem dX4_init_23 : decode cX4_init 23 = .ok (.newarray .boolean, 2) := by decide +kernel
theorem dX4_init_25 : decode cX4_init 25 = .ok (.putfield 18, 3) := by decide +kernel
theorem dX4_init_28 : decode cX4_init 28 = .ok (.return_, 1) := by decide +kernel
set_option maxRecDepth 20000 in
theorem ggX4_read_X4_append : GoodIn wsX4_read wsX4_append := goodIn_r _ [8, 1, 9, 10, 11, 12, 13, 14, 15] (by decide +kernel) (by decide +kernel)
set_option maxRecDepth 20000 in
theorem gX4_read_X4_append : GoodIn wsX4_read (wsV RX4 34 RX4 yX4_append wsX4_append) := goodIn_app (goodIn_of _ (by decide +kernel)) ggX4_read_X4_append
theorem dX4_read_0 : decode cX4_read 0 = .ok (.aload_n 0, 1) := by decide +kernel
theorem dX4_read_1 : decode cX4_read 1 = .ok (.iconst 0, 1) := by decide +kernel
theorem dX4_read_2 : decode cX4_read 2 = .ok (.putfield 22, 3) := by decide +kernel
theorem dX4_read_5 : decode cX4_read 5 = .ok (.iconst 0, 1) := by decide +kernel
theorem dX4_read_6 : decode cX4_read 6 = .ok (.istore_n 2, 1) := by decide +kernel
theorem dX4_read_7 : decode cX4_read 7 = .ok (.iconst 0, 1) := by decide +kernel
theorem dX4_read_8 : decode cX4_read 8 = .ok (.istore_n 3, 1) := by decide +kernel
theorem dX4_read_9 : decode cX4_read 9 = .ok (.iconst 0, 1) := by decide +kernel
theorem dX4_read_10 : decode cX4_read 10 = .ok (.istore 4, 2) := by decide +kernel
theorem dX4_read_12 : decode cX4_read 12 = .ok (.iload 4, 2) := by decide +kernel
theorem dX4_read_14 : decode cX4_read 14 = .ok (.aload_n 1, 1) := by decide +kernel
theorem dX4_read_15 : decode cX4_read 15 = .ok (.getfield 26, 3) := by decide +kernel
theorem dX4_read_18 : decode cX4_read 18 = .ok (.if_icmp .ge 95, 3) := by decide +kernel
theorem dX4_read_21 : decode cX4_read 21 = .ok (.aload_n 1, 1) := by decide +kernel
theorem dX4_read_22 : decode cX4_read 22 = .ok (.getfield 31, 3) := by decide +kernel
theorem dX4_read_25 : decode cX4_read 25 = .ok (.iload 4, 2) := by decide +kernel
theorem dX4_read_27 : decode cX4_read 27 = .ok (.iaload, 1) := by decide +kernel
theorem dX4_read_28 : decode cX4_read 28 = .ok (.istore 5, 2) := by decide +kernel
theorem dX4_read_30 : decode cX4_read 30 = .ok (.iload 5, 2) := by decide +kernel
theorem dX4_read_32 : decode cX4_read 32 = .ok (.bipush 97, 2) := by decide +kernel
theorem dX4_read_34 : decode cX4_read 34 = .ok (.if_icmp .lt 23, 3) := by decide +kernel
theorem dX4_read_37 : decode cX4_read 37 = .ok (.iload 5, 2) := by decide +kernel
theorem dX4_read_39 : decode cX4_read 39 = .ok (.bipush 104, 2) := by decide +kernel
theorem dX4_read_41 : decode cX4_read 41 = .ok (.if_icmp .gt 16, 3) := by decide +kernel
theorem dX4_read_44 : decode cX4_read 44 = .ok (.iload_n 2, 1) := by decide +kernel
theorem dX4_read_45 : decode cX4_read 45 = .ok (.iconst 1, 1) := by decide +kernel
theorem dX4_read_46 : decode cX4_read 46 = .ok (.iload 5, 2) := by decide +kernel
theorem dX4_read_48 : decode cX4_read 48 = .ok (.bipush 97, 2) := by decide +kernel
theorem dX4_read_50 : decode cX4_read 50 = .ok (.isub, 1) := by decide +kernel
theorem dX4_read_51 : decode cX4_read 51 = .ok (.ishl, 1) := by decide +kernel
theorem dX4_read_52 : decode cX4_read 52 = .ok (.ior, 1) := by decide +kernel
theorem dX4_read_53 : decode cX4_read 53 = .ok (.istore_n 2, 1) := by decide +kernel
theorem dX4_read_54 : decode cX4_read 54 = .ok (.goto 53, 3) := by decide +kernel
theorem dX4_read_57 : decode cX4_read 57 = .ok (.iload 5, 2) := by decide +kernel
theorem dX4_read_59 : decode cX4_read 59 = .ok (.bipush 60, 2) := by decide +kernel
theorem dX4_read_61 : decode cX4_read 61 = .ok (.if_icmp .eq 10, 3) := by decide +kernel
theorem dX4_read_64 : decode cX4_read 64 = .ok (.iload 5, 2) := by decide +kernel
theorem dX4_read_66 : decode cX4_read 66 = .ok (.bipush 62, 2) := by decide +kernel
theorem dX4_read_68 : decode cX4_read 68 = .ok (.if_icmp .ne 19, 3) := by decide +kernel
theorem dX4_read_71 : decode cX4_read 71 = .ok (.iload 5, 2) := by decide +kernel
theorem dX4_read_73 : decode cX4_read 73 = .ok (.bipush 60, 2) := by decide +kernel
theorem dX4_read_75 : decode cX4_read 75 = .ok (.if_icmp .ne 7, 3) := by decide +kernel
theorem dX4_read_78 : decode cX4_read 78 = .ok (.iconst 1, 1) := by decide +kernel
theorem dX4_read_79 : decode cX4_read 79 = .ok (.goto 4, 3) := by decide +kernel
theorem dX4_read_82 : decode cX4_read 82 = .ok (.iconst 0, 1) := by decide +kernel
theorem dX4_read_83 : decode cX4_read 83 = .ok (.istore_n 3, 1) := by decide +kernel
theorem dX4_read_84 : decode cX4_read 84 = .ok (.goto 23, 3) := by decide +kernel
theorem dX4_read_87 : decode cX4_read 87 = .ok (.iload 5, 2) := by decide +kernel
theorem dX4_read_89 : decode cX4_read 89 = .ok (.bipush 59, 2) := by decide +kernel
theorem dX4_read_91 : decode cX4_read 91 = .ok (.if_icmp .eq 16, 3) := by decide +kernel
theorem dX4_read_94 : decode cX4_read 94 = .ok (.aload_n 0, 1) := by decide +kernel
theorem dX4_read_95 : decode cX4_read 95 = .ok (.iload_n 2, 1) := by decide +kernel
theorem dX4_read_96 : decode cX4_read 96 = .ok (.iload_n 3, 1) := by decide +kernel
theorem dX4_read_97 : decode cX4_read 97 = .ok (.iload 5, 2) := by decide +kernel
theorem dX4_read_99 : decode cX4_read 99 = .ok (.bipush 48, 2) := by decide +kernel
theorem dX4_read_101 : decode cX4_read 101 = .ok (.isub, 1) := by decide +kernel
theorem dX4_read_102 : decode cX4_read 102 = .ok (.invokevirtual 34, 3) := by decide +kernel
theorem dX4_read_105 : decode cX4_read 105 = .ok (.iconst 0, 1) := by decide +kernel
theorem dX4_read_106 : decode cX4_read 106 = .ok (.istore_n 2, 1) := by decide +kernel
theorem dX4_read_107 : decode cX4_read 107 = .ok (.iinc 4 1, 3) := by decide +kernel
theorem dX4_read_110 : decode cX4_read 110 = .ok (.goto (-98), 3) := by decide +kernel
theorem dX4_read_113 : decode cX4_read 113 = .ok (.return_, 1) := by decide +kernel
theorem dX4_append_0 : decode cX4_append 0 = .ok (.aload_n 0, 1) := by decide +kernel
theorem dX4_append_1 : decode cX4_append 1 = .ok (.getfield 22, 3) := by decide +kernel
theorem dX4_append_4 : decode cX4_append 4 = .ok (.ifCond .lt 52, 3) := by decide +kernel
theorem dX4_append_7 : decode cX4_append 7 = .ok (.aload_n 0, 1) := by decide +kernel
theorem dX4_append_8 : decode cX4_append 8 = .ok (.getfield 22, 3) := by decide +kernel
theorem dX4_append_11 : decode cX4_append 11 = .ok (.bipush 10, 2) := by decide +kernel
theorem dX4_append_13 : decode cX4_append 13 = .ok (.if_icmp .ge 43, 3) := by decide +kernel
theorem dX4_append_16 : decode cX4_append 16 = .ok (.aload_n 0, 1) := by decide +kernel
theorem dX4_append_17 : decode cX4_append 17 = .ok (.getfield 9, 3) := by decide +kernel
theorem dX4_append_20 : decode cX4_append 20 = .ok (.aload_n 0, 1) := by decide +kernel
theorem dX4_append_21 : decode cX4_append 21 = .ok (.getfield 22, 3) := by decide +kernel
theorem dX4_append_24 : decode cX4_append 24 = .ok (.iload_n 1, 1) := by decide +kernel
theorem dX4_append_25 : decode cX4_append 25 = .ok (.iastore, 1) := by decide +kernel
theorem dX4_append_26 : decode cX4_append 26 = .ok (.aload_n 0, 1) := by decide +kernel
theorem dX4_append_27 : decode cX4_append 27 = .ok (.getfield 18, 3) := by decide +kernel
theorem dX4_append_30 : decode cX4_append 30 = .ok (.aload_n 0, 1) := by decide +kernel
theorem dX4_append_31 : decode cX4_append 31 = .ok (.getfield 22, 3) := by decide +kernel
theorem dX4_append_34 : decode cX4_append 34 = .ok (.iload_n 2, 1) := by decide +kernel
theorem dX4_append_35 : decode cX4_append 35 = .ok (.bastore, 1) := by decide +kernel
theorem dX4_append_36 : decode cX4_append 36 = .ok (.aload_n 0, 1) := by decide +kernel
theorem dX4_append_37 : decode cX4_append 37 = .ok (.getfield 15, 3) := by decide +kernel
theorem dX4_append_40 : decode cX4_append 40 = .ok (.aload_n 0, 1) := by decide +kernel
theorem dX4_append_41 : decode cX4_append 41 = .ok (.getfield 22, 3) := by decide +kernel
theorem dX4_append_44 : decode cX4_append 44 = .ok (.iload_n 3, 1) := by decide +kernel
theorem dX4_append_45 : decode cX4_append 45 = .ok (.iastore, 1) := by decide +kernel
theorem dX4_append_46 : decode cX4_append 46 = .ok (.aload_n 0, 1) := by decide +kernel
theorem dX4_append_47 : decode cX4_append 47 = .ok (.dup, 1) := by decide +kernel
theorem dX4_append_48 : decode cX4_append 48 = .ok (.getfield 22, 3) := by decide +kernel
theorem dX4_append_51 : decode cX4_append 51 = .ok (.iconst 1, 1) := by decide +kernel
theorem dX4_append_52 : decode cX4_append 52 = .ok (.iadd, 1) := by decide +kernel
theorem dX4_append_53 : decode cX4_append 53 = .ok (.putfield 22, 3) := by decide +kernel
theorem dX4_append_56 : decode cX4_append 56 = .ok (.return_, 1) := by decide +kernel
set_option maxRecDepth 20000 in
theorem ggX4_firstBroken_J6_bitCount_0f7a4 : GoodIn wsX4_firstBroken wsJ6_bitCount_0f7a4 := goodIn_r _ [8, 9, 10, 11] (by decide +kernel) (by decide +kernel)
set_option maxRecDepth 20000 in
theorem gX4_firstBroken_J6_bitCount_0f7a4 : GoodIn wsX4_firstBroken (va_wsS RX4 38 yJ6_bitCount_0f7a4 wsJ6_bitCount_0f7a4) := goodIn_app (goodIn_of _ (by decide +kernel)) ggX4_firstBroken_J6_bitCount_0f7a4
theorem dX4_firstBroken_0 : decode cX4_firstBroken 0 = .ok (.iconst 0, 1) := by decide +kernel
theorem dX4_firstBroken_1 : decode cX4_firstBroken 1 = .ok (.istore_n 2, 1) := by decide +kernel
theorem dX4_firstBroken_2 : decode cX4_firstBroken 2 = .ok (.iload_n 2, 1) := by decide +kernel
theorem dX4_firstBroken_3 : decode cX4_firstBroken 3 = .ok (.aload_n 0, 1) := by decide +kernel
theorem dX4_firstBroken_4 : decode cX4_firstBroken 4 = .ok (.getfield 22, 3) := by decide +kernel
theorem dX4_firstBroken_7 : decode cX4_firstBroken 7 = .ok (.if_icmp .ge 55, 3) := by decide +kernel
theorem dX4_firstBroken_10 : decode cX4_firstBroken 10 = .ok (.aload_n 0, 1) := by decide +kernel
theorem dX4_firstBroken_11 : decode cX4_firstBroken 11 = .ok (.getfield 9, 3) := by decide +kernel
theorem dX4_firstBroken_14 : decode cX4_firstBroken 14 = .ok (.iload_n 2, 1) := by decide +kernel
theorem dX4_firstBroken_15 : decode cX4_firstBroken 15 = .ok (.iaload, 1) := by decide +kernel
theorem dX4_firstBroken_16 : decode cX4_firstBroken 16 = .ok (.iload_n 1, 1) := by decide +kernel
theorem dX4_firstBroken_17 : decode cX4_firstBroken 17 = .ok (.iand, 1) := by decide +kernel
theorem dX4_firstBroken_18 : decode cX4_firstBroken 18 = .ok (.invokestatic 38, 3) := by decide +kernel
theorem dX4_firstBroken_21 : decode cX4_firstBroken 21 = .ok (.istore_n 3, 1) := by decide +kernel
theorem dX4_firstBroken_22 : decode cX4_firstBroken 22 = .ok (.aload_n 0, 1) := by decide +kernel
theorem dX4_firstBroken_23 : decode cX4_firstBroken 23 = .ok (.getfield 18, 3) := by decide +kernel
theorem dX4_firstBroken_26 : decode cX4_firstBroken 26 = .ok (.iload_n 2, 1) := by decide +kernel
theorem dX4_firstBroken_27 : decode cX4_firstBroken 27 = .ok (.baload, 1) := by decide +kernel
theorem dX4_firstBroken_28 : decode cX4_firstBroken 28 = .ok (.ifCond .eq 16, 3) := by decide +kernel
theorem dX4_firstBroken_31 : decode cX4_firstBroken 31 = .ok (.iload_n 3, 1) := by decide +kernel
theorem dX4_firstBroken_32 : decode cX4_firstBroken 32 = .ok (.aload_n 0, 1) := by decide +kernel
theorem dX4_firstBroken_33 : decode cX4_firstBroken 33 = .ok (.getfield 15, 3) := by decide +kernel
theorem dX4_firstBroken_36 : decode cX4_firstBroken 36 = .ok (.iload_n 2, 1) := by decide +kernel
theorem dX4_firstBroken_37 : decode cX4_firstBroken 37 = .ok (.iaload, 1) := by decide +kernel
theorem dX4_firstBroken_38 : decode cX4_firstBroken 38 = .ok (.if_icmp .lt 18, 3) := by decide +kernel
theorem dX4_firstBroken_41 : decode cX4_firstBroken 41 = .ok (.goto 13, 3) := by decide +kernel
theorem dX4_firstBroken_44 : decode cX4_firstBroken 44 = .ok (.iload_n 3, 1) := by decide +kernel
theorem dX4_firstBroken_45 : decode cX4_firstBroken 45 = .ok (.aload_n 0, 1) := by decide +kernel
theorem dX4_firstBroken_46 : decode cX4_firstBroken 46 = .ok (.getfield 15, 3) := by decide +kernel
theorem dX4_firstBroken_49 : decode cX4_firstBroken 49 = .ok (.iload_n 2, 1) := by decide +kernel
theorem dX4_firstBroken_50 : decode cX4_firstBroken 50 = .ok (.iaload, 1) := by decide +kernel
theorem dX4_firstBroken_51 : decode cX4_firstBroken 51 = .ok (.if_icmp .gt 5, 3) := by decide +kernel
theorem dX4_firstBroken_54 : decode cX4_firstBroken 54 = .ok (.iload_n 2, 1) := by decide +kernel
theorem dX4_firstBroken_55 : decode cX4_firstBroken 55 = .ok (.ireturn, 1) := by decide +kernel
theorem dX4_firstBroken_56 : decode cX4_firstBroken 56 = .ok (.iinc 2 1, 3) := by decide +kernel
theorem dX4_firstBroken_59 : decode cX4_firstBroken 59 = .ok (.goto (-57), 3) := by decide +kernel
theorem dX4_firstBroken_62 : decode cX4_firstBroken 62 = .ok (.bipush (-6), 2) := by decide +kernel
theorem dX4_firstBroken_64 : decode cX4_firstBroken 64 = .ok (.ireturn, 1) := by decide +kernel
set_option maxRecDepth 20000 in
theorem ggX4_allow_X4_firstBroken : GoodIn wsX4_allow wsX4_firstBroken := goodIn_r _ [5, 6, 7, 8, 9, 10, 11, 12, 13, 14, 15, 16, 17, 18, 19, 20] (by decide +kernel) (by decide +kernel)
set_option maxRecDepth 20000 in
theorem gX4_allow_X4_firstBroken : GoodIn wsX4_allow (wsV RX4 44 RX4 yX4_firstBroken wsX4_firstBroken) := goodIn_app (goodIn_of _ (by decide +kernel)) ggX4_allow_X4_firstBroken
theorem dX4_allow_0 : decode cX4_allow 0 = .ok (.aload_n 0, 1) := by decide +kernel
theorem dX4_allow_1 : decode cX4_allow 1 = .ok (.iload_n 1, 1) := by decide +kernel
theorem dX4_allow_2 : decode cX4_allow 2 = .ok (.invokevirtual 44, 3) := by decide +kernel
theorem dX4_allow_5 : decode cX4_allow 5 = .ok (.bipush (-6), 2) := by decide +kernel
theorem dX4_allow_7 : decode cX4_allow 7 = .ok (.if_icmp .ne 7, 3) := by decide +kernel
theorem dX4_allow_10 : decode cX4_allow 10 = .ok (.iconst 1, 1) := by decide +kernel
theorem dX4_allow_11 : decode cX4_allow 11 = .ok (.goto 4, 3) := by decide +kernel
theorem dX4_allow_14 : decode cX4_allow 14 = .ok (.iconst 0, 1) := by decide +kernel
theorem dX4_allow_15 : decode cX4_allow 15 = .ok (.ireturn, 1) := by decide +kernel
set_option maxRecDepth 20000 in
theorem ggX5_init_X1_init : GoodIn wsX5_init wsX1_init := goodIn_r _ [3, 4, 5, 6, 7, 8, 9, 10, 11, 12, 13, 14] (by decide +kernel) (by decide +kernel)
set_option maxRecDepth 20000 in
theorem gX5_init_X1_init_n3 : GoodIn wsX5_init (wsX1_init) := ggX5_init_X1_init
theorem dX5_init_0 : decode cX5_init 0 = .ok (.aload_n 0, 1) := by decide +kernel
theorem dX5_init_1 : decode cX5_init 1 = .ok (.invokespecial 3, 3) := by decide +kernel
theorem dX5_init_4 : decode cX5_init 4 = .ok (.return_, 1) := by decide +kernel
set_option maxRecDepth 20000 in
theorem ggX5_lightest_X3_telling : GoodIn wsX5_lightest wsX3_telling := goodIn_r _ [7, 8, 9, 10, 11, 12, 6, 13, 14, 31, 32, 33, 34] (by decide +kernel) (by decide +kernel)
set_option maxRecDepth 20000 in
theorem gX5_lightest_X3_telling : GoodIn wsX5_lightest (wsV RX5 9 RX3 yX3_telling wsX3_telling) := goodIn_app (goodIn_of _ (by decide +kernel)) ggX5_lightest_X3_telling
set_option maxRecDepth 20000 in
theorem ggX5_lightest_X1_sumOf : GoodIn wsX5_lightest wsX1_sumOf := goodIn_r _ [20, 21, 22, 23, 24, 11, 12, 6, 13, 14, 31, 32, 33, 34, 25, 26, 27, 28, 29, 30] (by decide +kernel) (by decide +kernel)
set_option maxRecDepth 20000 in
theorem gX5_lightest_X1_sumOf_u21X5 : GoodIn wsX5_lightest (va_wsU RX5 21 RX5 "FairSeats$Fractions" ⟨"FairSeats$Loads", "sumOf", "(LFairSeats$Heaps;I)J"⟩ yX1_sumOf wsX1_sumOf) := goodIn_app (goodIn_of _ (by decide +kernel)) ggX5_lightest_X1_sumOf
theorem dX5_lightest_0 : decode cX5_lightest 0 = .ok (.bipush (-6), 2) := by decide +kernel
theorem dX5_lightest_2 : decode cX5_lightest 2 = .ok (.istore_n 3, 1) := by decide +kernel
theorem dX5_lightest_3 : decode cX5_lightest 3 = .ok (.lconst 0, 1) := by decide +kernel
theorem dX5_lightest_4 : decode cX5_lightest 4 = .ok (.lstore 4, 2) := by decide +kernel
theorem dX5_lightest_6 : decode cX5_lightest 6 = .ok (.iconst 0, 1) := by decide +kernel
theorem dX5_lightest_7 : decode cX5_lightest 7 = .ok (.istore 6, 2) := by decide +kernel
theorem dX5_lightest_9 : decode cX5_lightest 9 = .ok (.iconst 0, 1) := by decide +kernel
theorem dX5_lightest_10 : decode cX5_lightest 10 = .ok (.istore 7, 2) := by decide +kernel
theorem dX5_lightest_12 : decode cX5_lightest 12 = .ok (.iload 7, 2) := by decide +kernel
theorem dX5_lightest_14 : decode cX5_lightest 14 = .ok (.bipush 8, 2) := by decide +kernel
theorem dX5_lightest_16 : decode cX5_lightest 16 = .ok (.if_icmp .ge 99, 3) := by decide +kernel
theorem dX5_lightest_19 : decode cX5_lightest 19 = .ok (.iload_n 2, 1) := by decide +kernel
theorem dX5_lightest_20 : decode cX5_lightest 20 = .ok (.iload 7, 2) := by decide +kernel
theorem dX5_lightest_22 : decode cX5_lightest 22 = .ok (.ishr, 1) := by decide +kernel
theorem dX5_lightest_23 : decode cX5_lightest 23 = .ok (.iconst 1, 1) := by decide +kernel
theorem dX5_lightest_24 : decode cX5_lightest 24 = .ok (.iand, 1) := by decide +kernel
theorem dX5_lightest_25 : decode cX5_lightest 25 = .ok (.iconst 1, 1) := by decide +kernel
theorem dX5_lightest_26 : decode cX5_lightest 26 = .ok (.if_icmp .ne 6, 3) := by decide +kernel
theorem dX5_lightest_29 : decode cX5_lightest 29 = .ok (.goto 80, 3) := by decide +kernel
theorem dX5_lightest_32 : decode cX5_lightest 32 = .ok (.aload_n 1, 1) := by decide +kernel
theorem dX5_lightest_33 : decode cX5_lightest 33 = .ok (.iload 7, 2) := by decide +kernel
theorem dX5_lightest_35 : decode cX5_lightest 35 = .ok (.invokevirtual 9, 3) := by decide +kernel
theorem dX5_lightest_38 : decode cX5_lightest 38 = .ok (.istore 8, 2) := by decide +kernel
theorem dX5_lightest_40 : decode cX5_lightest 40 = .ok (.aload_n 0, 1) := by decide +kernel
theorem dX5_lightest_41 : decode cX5_lightest 41 = .ok (.getfield 15, 3) := by decide +kernel
theorem dX5_lightest_44 : decode cX5_lightest 44 = .ok (.aload_n 0, 1) := by decide +kernel
theorem dX5_lightest_45 : decode cX5_lightest 45 = .ok (.aload_n 1, 1) := by decide +kernel
theorem dX5_lightest_46 : decode cX5_lightest 46 = .ok (.iload 7, 2) := by decide +kernel
theorem dX5_lightest_48 : decode cX5_lightest 48 = .ok (.invokevirtual 21, 3) := by decide +kernel
theorem dX5_lightest_51 : decode cX5_lightest 51 = .ok (.ladd, 1) := by decide +kernel
theorem dX5_lightest_52 : decode cX5_lightest 52 = .ok (.lstore 9, 2) := by decide +kernel
theorem dX5_lightest_54 : decode cX5_lightest 54 = .ok (.iload 8, 2) := by decide +kernel
theorem dX5_lightest_56 : decode cX5_lightest 56 = .ok (.ifCond .le 28, 3) := by decide +kernel
theorem dX5_lightest_59 : decode cX5_lightest 59 = .ok (.iload 6, 2) := by decide +kernel
theorem dX5_lightest_61 : decode cX5_lightest 61 = .ok (.ifCond .eq 19, 3) := by decide +kernel
theorem dX5_lightest_64 : decode cX5_lightest 64 = .ok (.lload 9, 2) := by decide +kernel
theorem dX5_lightest_66 : decode cX5_lightest 66 = .ok (.iload 6, 2) := by decide +kernel
theorem dX5_lightest_68 : decode cX5_lightest 68 = .ok (.i2l, 1) := by decide +kernel
theorem dX5_lightest_69 : decode cX5_lightest 69 = .ok (.lmul, 1) := by decide +kernel
theorem dX5_lightest_70 : decode cX5_lightest 70 = .ok (.lload 4, 2) := by decide +kernel
theorem dX5_lightest_72 : decode cX5_lightest 72 = .ok (.iload 8, 2) := by decide +kernel
theorem dX5_lightest_74 : decode cX5_lightest 74 = .ok (.i2l, 1) := by decide +kernel
theorem dX5_lightest_75 : decode cX5_lightest 75 = .ok (.lmul, 1) := by decide +kernel
theorem dX5_lightest_76 : decode cX5_lightest 76 = .ok (.lcmp, 1) := by decide +kernel
theorem dX5_lightest_77 : decode cX5_lightest 77 = .ok (.ifCond .ge 7, 3) := by decide +kernel
theorem dX5_lightest_80 : decode cX5_lightest 80 = .ok (.iconst 1, 1) := by decide +kernel
theorem dX5_lightest_81 : decode cX5_lightest 81 = .ok (.goto 4, 3) := by decide +kernel
theorem dX5_lightest_84 : decode cX5_lightest 84 = .ok (.iconst 0, 1) := by decide +kernel
theorem dX5_lightest_85 : decode cX5_lightest 85 = .ok (.istore 11, 2) := by decide +kernel
theorem dX5_lightest_87 : decode cX5_lightest 87 = .ok (.iload_n 3, 1) := by decide +kernel
theorem dX5_lightest_88 : decode cX5_lightest 88 = .ok (.bipush (-6), 2) := by decide +kernel
theorem dX5_lightest_90 : decode cX5_lightest 90 = .ok (.if_icmp .eq 8, 3) := by decide +kernel
theorem dX5_lightest_93 : decode cX5_lightest 93 = .ok (.iload 11, 2) := by decide +kernel
theorem dX5_lightest_95 : decode cX5_lightest 95 = .ok (.ifCond .eq 14, 3) := by decide +kernel
theorem dX5_lightest_98 : decode cX5_lightest 98 = .ok (.iload 7, 2) := by decide +kernel
theorem dX5_lightest_100 : decode cX5_lightest 100 = .ok (.istore_n 3, 1) := by decide +kernel
theorem dX5_lightest_101 : decode cX5_lightest 101 = .ok (.lload 9, 2) := by decide +kernel
theorem dX5_lightest_103 : decode cX5_lightest 103 = .ok (.lstore 4, 2) := by decide +kernel
theorem dX5_lightest_105 : decode cX5_lightest 105 = .ok (.iload 8, 2) := by decide +kernel
theorem dX5_lightest_107 : decode cX5_lightest 107 = .ok (.istore 6, 2) := by decide +kernel
theorem dX5_lightest_109 : decode cX5_lightest 109 = .ok (.iinc 7 1, 3) := by decide +kernel
theorem dX5_lightest_112 : decode cX5_lightest 112 = .ok (.goto (-100), 3) := by decide +kernel
theorem dX5_lightest_115 : decode cX5_lightest 115 = .ok (.iload_n 3, 1) := by decide +kernel
theorem dX5_lightest_116 : decode cX5_lightest 116 = .ok (.ireturn, 1) := by decide +kernel
set_option maxRecDepth 20000 in
theorem ggX5_bear_X3_telling : GoodIn wsX5_bear wsX3_telling := goodIn_r _ [10, 11, 12, 13, 14, 15, 9, 16, 17, 41, 42, 43, 44] (by decide +kernel) (by decide +kernel)
set_option maxRecDepth 20000 in
theorem gX5_bear_X3_telling : GoodIn wsX5_bear (wsV RX5 9 RX3 yX3_telling wsX3_telling) := goodIn_app (goodIn_of _ (by decide +kernel)) ggX5_bear_X3_telling
set_option maxRecDepth 20000 in
theorem ggX5_bear_X1_sumOf : GoodIn wsX5_bear wsX1_sumOf := goodIn_r _ [23, 24, 25, 26, 27, 14, 15, 9, 16, 17, 41, 42, 43, 44, 35, 36, 37, 38, 39, 40] (by decide +kernel) (by decide +kernel)
set_option maxRecDepth 20000 in
theorem gX5_bear_X1_sumOf_u21X5 : GoodIn wsX5_bear (va_wsU RX5 21 RX5 "FairSeats$Fractions" ⟨"FairSeats$Loads", "sumOf", "(LFairSeats$Heaps;I)J"⟩ yX1_sumOf wsX1_sumOf) := goodIn_app (goodIn_of _ (by decide +kernel)) ggX5_bear_X1_sumOf
set_option maxRecDepth 20000 in
theorem ggX5_bear_X1_widen : GoodIn wsX5_bear wsX1_widen := goodIn_r _ [32, 25, 33, 35, 36, 37, 38, 39, 40] (by decide +kernel) (by decide +kernel)
set_option maxRecDepth 20000 in
theorem gX5_bear_X1_widen_u25X5 : GoodIn wsX5_bear (va_wsU RX5 25 RX5 "FairSeats$Fractions" ⟨"FairSeats$Loads", "widen", "(I)V"⟩ yX1_widen wsX1_widen) := goodIn_app (goodIn_of _ (by decide +kernel)) ggX5_bear_X1_widen
set_option maxRecDepth 20000 in
theorem ggX5_bear_X3_tells : GoodIn wsX5_bear wsX3_tells := goodIn_r _ [16, 17, 41, 42, 43, 44] (by decide +kernel) (by decide +kernel)
set_option maxRecDepth 20000 in
theorem gX5_bear_X3_tells : GoodIn wsX5_bear (wsV RX5 33 RX3 yX3_tells wsX3_tells) := goodIn_app (goodIn_of _ (by decide +kernel)) ggX5_bear_X3_tells
theorem dX5_bear_0 : decode cX5_bear 0 = .ok (.aload_n 1, 1) := by decide +kernel
theorem dX5_bear_1 : decode cX5_bear 1 = .ok (.iload_n 2, 1) := by decide +kernel
theorem dX5_bear_2 : decode cX5_bear 2 = .ok (.invokevirtual 9, 3) := by decide +kernel
theorem dX5_bear_5 : decode cX5_bear 5 = .ok (.istore_n 3, 1) := by decide +kernel
theorem dX5_bear_6 : decode cX5_bear 6 = .ok (.iload_n 3, 1) := by decide +kernel
theorem dX5_bear_7 : decode cX5_bear 7 = .ok (.ifCond .ne 4, 3) := by decide +kernel
theorem dX5_bear_10 : decode cX5_bear 10 = .ok (.return_, 1) := by decide +kernel
theorem dX5_bear_11 : decode cX5_bear 11 = .ok (.aload_n 0, 1) := by decide +kernel
theorem dX5_bear_12 : decode cX5_bear 12 = .ok (.getfield 15, 3) := by decide +kernel
theorem dX5_bear_15 : decode cX5_bear 15 = .ok (.aload_n 0, 1) := by decide +kernel
theorem dX5_bear_16 : decode cX5_bear 16 = .ok (.aload_n 1, 1) := by decide +kernel
theorem dX5_bear_17 : decode cX5_bear 17 = .ok (.iload_n 2, 1) := by decide +kernel
theorem dX5_bear_18 : decode cX5_bear 18 = .ok (.invokevirtual 21, 3) := by decide +kernel
theorem dX5_bear_21 : decode cX5_bear 21 = .ok (.ladd, 1) := by decide +kernel
theorem dX5_bear_22 : decode cX5_bear 22 = .ok (.lstore 4, 2) := by decide +kernel
theorem dX5_bear_24 : decode cX5_bear 24 = .ok (.aload_n 0, 1) := by decide +kernel
theorem dX5_bear_25 : decode cX5_bear 25 = .ok (.iload_n 3, 1) := by decide +kernel
theorem dX5_bear_26 : decode cX5_bear 26 = .ok (.invokevirtual 25, 3) := by decide +kernel
theorem dX5_bear_29 : decode cX5_bear 29 = .ok (.iconst 0, 1) := by decide +kernel
theorem dX5_bear_30 : decode cX5_bear 30 = .ok (.istore 6, 2) := by decide +kernel
theorem dX5_bear_32 : decode cX5_bear 32 = .ok (.iload 6, 2) := by decide +kernel
theorem dX5_bear_34 : decode cX5_bear 34 = .ok (.aload_n 1, 1) := by decide +kernel
theorem dX5_bear_35 : decode cX5_bear 35 = .ok (.getfield 29, 3) := by decide +kernel
theorem dX5_bear_38 : decode cX5_bear 38 = .ok (.if_icmp .ge 28, 3) := by decide +kernel
theorem dX5_bear_41 : decode cX5_bear 41 = .ok (.aload_n 1, 1) := by decide +kernel
theorem dX5_bear_42 : decode cX5_bear 42 = .ok (.iload 6, 2) := by decide +kernel
theorem dX5_bear_44 : decode cX5_bear 44 = .ok (.iload_n 2, 1) := by decide +kernel
theorem dX5_bear_45 : decode cX5_bear 45 = .ok (.invokevirtual 33, 3) := by decide +kernel
theorem dX5_bear_48 : decode cX5_bear 48 = .ok (.ifCond .eq 12, 3) := by decide +kernel
theorem dX5_bear_51 : decode cX5_bear 51 = .ok (.aload_n 0, 1) := by decide +kernel
theorem dX5_bear_52 : decode cX5_bear 52 = .ok (.getfield 37, 3) := by decide +kernel
theorem dX5_bear_55 : decode cX5_bear 55 = .ok (.iload 6, 2) := by decide +kernel
theorem dX5_bear_57 : decode cX5_bear 57 = .ok (.lload 4, 2) := by decide +kernel
theorem dX5_bear_59 : decode cX5_bear 59 = .ok (.lastore, 1) := by decide +kernel
theorem dX5_bear_60 : decode cX5_bear 60 = .ok (.iinc 6 1, 3) := by decide +kernel
theorem dX5_bear_63 : decode cX5_bear 63 = .ok (.goto (-31), 3) := by decide +kernel
theorem dX5_bear_66 : decode cX5_bear 66 = .ok (.return_, 1) := by decide +kernel
set_option maxRecDepth 20000 in
theorem ggX6_init_X1_init : GoodIn wsX6_init wsX1_init := goodIn_r _ [3, 4, 5, 6, 7, 8, 9, 10, 11, 12, 13, 14] (by decide +kernel) (by decide +kernel)
set_option maxRecDepth 20000 in
theorem gX6_init_X1_init_n3 : GoodIn wsX6_init (wsX1_init) := ggX6_init_X1_init
theorem dX6_init_0 : decode cX6_init 0 = .ok (.aload_n 0, 1) := by decide +kernel
theorem dX6_init_1 : decode cX6_init 1 = .ok (.invokespecial 3, 3) := by decide +kernel
theorem dX6_init_4 : decode cX6_init 4 = .ok (.return_, 1) := by decide +kernel
set_option maxRecDepth 20000 in
theorem ggX6_cheapest_X3_total : GoodIn wsX6_cheapest wsX3_total := goodIn_r _ [9, 10, 11, 47, 48, 49, 50] (by decide +kernel) (by decide +kernel)
set_option maxRecDepth 20000 in
theorem gX6_cheapest_X3_total : GoodIn wsX6_cheapest (wsV RX6 9 RX3 yX3_total wsX3_total) := goodIn_app (goodIn_of _ (by decide +kernel)) ggX6_cheapest_X3_total
set_option maxRecDepth 20000 in
theorem ggX6_cheapest_X3_telling : GoodIn wsX6_cheapest wsX3_telling := goodIn_r _ [15, 10, 11, 16, 17, 18, 8, 19, 20, 47, 48, 49, 50] (by decide +kernel) (by decide +kernel)
set_option maxRecDepth 20000 in
theorem gX6_cheapest_X3_telling : GoodIn wsX6_cheapest (wsV RX6 21 RX3 yX3_telling wsX3_telling) := goodIn_app (goodIn_of _ (by decide +kernel)) ggX6_cheapest_X3_telling
set_option maxRecDepth 20000 in
theorem ggX6_cheapest_X1_sumOf : GoodIn wsX6_cheapest wsX1_sumOf := goodIn_r _ [26, 27, 28, 29, 30, 17, 18, 8, 19, 20, 47, 48, 49, 50, 41, 42, 43, 44, 45, 46] (by decide +kernel) (by decide +kernel)
set_option maxRecDepth 20000 in
theorem gX6_cheapest_X1_sumOf_u25X6 : GoodIn wsX6_cheapest (va_wsU RX6 25 RX6 "FairSeats$Fractions" ⟨"FairSeats$Purses", "sumOf", "(LFairSeats$Heaps;I)J"⟩ yX1_sumOf wsX1_sumOf) := goodIn_app (goodIn_of _ (by decide +kernel)) ggX6_cheapest_X1_sumOf
set_option maxRecDepth 20000 in
theorem ggX6_cheapest_X6_price : GoodIn wsX6_cheapest wsX6_price := goodIn_r _ [35, 1, 2, 3, 4, 36, 37, 38, 39, 12, 13, 14, 8, 15, 10, 11, 16, 17, 18, 19, 20, 5, 6, 7, 9, 40, 41, 42, 43, 44, 45, 46, 47, 48, 49, 50] (by decide +kernel) (by decide +kernel)
set_option maxRecDepth 20000 in
theorem gX6_cheapest_X6_price : GoodIn wsX6_cheapest (wsV RX6 29 RX6 yX6_price wsX6_price) := goodIn_app (goodIn_of _ (by decide +kernel)) ggX6_cheapest_X6_price
theorem dX6_cheapest_0 : decode cX6_cheapest 0 = .ok (.bipush (-6), 2) := by decide +kernel
theorem dX6_cheapest_2 : decode cX6_cheapest 2 = .ok (.istore_n 3, 1) := by decide +kernel
theorem dX6_cheapest_3 : decode cX6_cheapest 3 = .ok (.lconst 0, 1) := by decide +kernel
theorem dX6_cheapest_4 : decode cX6_cheapest 4 = .ok (.lstore 4, 2) := by decide +kernel
theorem dX6_cheapest_6 : decode cX6_cheapest 6 = .ok (.iconst 0, 1) := by decide +kernel
theorem dX6_cheapest_7 : decode cX6_cheapest 7 = .ok (.istore 6, 2) := by decide +kernel
theorem dX6_cheapest_9 : decode cX6_cheapest 9 = .ok (.aload_n 1, 1) := by decide +kernel
theorem dX6_cheapest_10 : decode cX6_cheapest 10 = .ok (.invokevirtual 9, 3) := by decide +kernel
theorem dX6_cheapest_13 : decode cX6_cheapest 13 = .ok (.i2l, 1) := by decide +kernel
theorem dX6_cheapest_14 : decode cX6_cheapest 14 = .ok (.aload_n 0, 1) := by decide +kernel
theorem dX6_cheapest_15 : decode cX6_cheapest 15 = .ok (.getfield 15, 3) := by decide +kernel
theorem dX6_cheapest_18 : decode cX6_cheapest 18 = .ok (.lmul, 1) := by decide +kernel
theorem dX6_cheapest_19 : decode cX6_cheapest 19 = .ok (.lstore 7, 2) := by decide +kernel
theorem dX6_cheapest_21 : decode cX6_cheapest 21 = .ok (.iconst 0, 1) := by decide +kernel
theorem dX6_cheapest_22 : decode cX6_cheapest 22 = .ok (.istore 9, 2) := by decide +kernel
theorem dX6_cheapest_24 : decode cX6_cheapest 24 = .ok (.iload 9, 2) := by decide +kernel
theorem dX6_cheapest_26 : decode cX6_cheapest 26 = .ok (.bipush 8, 2) := by decide +kernel
theorem dX6_cheapest_28 : decode cX6_cheapest 28 = .ok (.if_icmp .ge 92, 3) := by decide +kernel
theorem dX6_cheapest_31 : decode cX6_cheapest 31 = .ok (.iload_n 2, 1) := by decide +kernel
theorem dX6_cheapest_32 : decode cX6_cheapest 32 = .ok (.iload 9, 2) := by decide +kernel
theorem dX6_cheapest_34 : decode cX6_cheapest 34 = .ok (.ishr, 1) := by decide +kernel
theorem dX6_cheapest_35 : decode cX6_cheapest 35 = .ok (.iconst 1, 1) := by decide +kernel
theorem dX6_cheapest_36 : decode cX6_cheapest 36 = .ok (.iand, 1) := by decide +kernel
theorem dX6_cheapest_37 : decode cX6_cheapest 37 = .ok (.iconst 1, 1) := by decide +kernel
theorem dX6_cheapest_38 : decode cX6_cheapest 38 = .ok (.if_icmp .eq 76, 3) := by decide +kernel
theorem dX6_cheapest_41 : decode cX6_cheapest 41 = .ok (.aload_n 1, 1) := by decide +kernel
theorem dX6_cheapest_42 : decode cX6_cheapest 42 = .ok (.iload 9, 2) := by decide +kernel
theorem dX6_cheapest_44 : decode cX6_cheapest 44 = .ok (.invokevirtual 21, 3) := by decide +kernel
theorem dX6_cheapest_47 : decode cX6_cheapest 47 = .ok (.ifCond .eq 67, 3) := by decide +kernel
theorem dX6_cheapest_50 : decode cX6_cheapest 50 = .ok (.aload_n 0, 1) := by decide +kernel
theorem dX6_cheapest_51 : decode cX6_cheapest 51 = .ok (.aload_n 1, 1) := by decide +kernel
theorem dX6_cheapest_52 : decode cX6_cheapest 52 = .ok (.iload 9, 2) := by decide +kernel
theorem dX6_cheapest_54 : decode cX6_cheapest 54 = .ok (.invokevirtual 25, 3) := by decide +kernel
theorem dX6_cheapest_57 : decode cX6_cheapest 57 = .ok (.lload 7, 2) := by decide +kernel
theorem dX6_cheapest_59 : decode cX6_cheapest 59 = .ok (.lcmp, 1) := by decide +kernel
theorem dX6_cheapest_60 : decode cX6_cheapest 60 = .ok (.ifCond .ge 6, 3) := by decide +kernel
theorem dX6_cheapest_63 : decode cX6_cheapest 63 = .ok (.goto 51, 3) := by decide +kernel
theorem dX6_cheapest_66 : decode cX6_cheapest 66 = .ok (.aload_n 0, 1) := by decide +kernel
theorem dX6_cheapest_67 : decode cX6_cheapest 67 = .ok (.aload_n 1, 1) := by decide +kernel
theorem dX6_cheapest_68 : decode cX6_cheapest 68 = .ok (.iload 9, 2) := by decide +kernel
theorem dX6_cheapest_70 : decode cX6_cheapest 70 = .ok (.invokevirtual 29, 3) := by decide +kernel
theorem dX6_cheapest_73 : decode cX6_cheapest 73 = .ok (.iload_n 3, 1) := by decide +kernel
theorem dX6_cheapest_74 : decode cX6_cheapest 74 = .ok (.bipush (-6), 2) := by decide +kernel
theorem dX6_cheapest_76 : decode cX6_cheapest 76 = .ok (.if_icmp .eq 23, 3) := by decide +kernel
theorem dX6_cheapest_79 : decode cX6_cheapest 79 = .ok (.aload_n 0, 1) := by decide +kernel
theorem dX6_cheapest_80 : decode cX6_cheapest 80 = .ok (.getfield 33, 3) := by decide +kernel
theorem dX6_cheapest_83 : decode cX6_cheapest 83 = .ok (.iload 6, 2) := by decide +kernel
theorem dX6_cheapest_85 : decode cX6_cheapest 85 = .ok (.i2l, 1) := by decide +kernel
theorem dX6_cheapest_86 : decode cX6_cheapest 86 = .ok (.lmul, 1) := by decide +kernel
theorem dX6_cheapest_87 : decode cX6_cheapest 87 = .ok (.lload 4, 2) := by decide +kernel
theorem dX6_cheapest_89 : decode cX6_cheapest 89 = .ok (.aload_n 0, 1) := by decide +kernel
theorem dX6_cheapest_90 : decode cX6_cheapest 90 = .ok (.getfield 36, 3) := by decide +kernel
theorem dX6_cheapest_93 : decode cX6_cheapest 93 = .ok (.i2l, 1) := by decide +kernel
theorem dX6_cheapest_94 : decode cX6_cheapest 94 = .ok (.lmul, 1) := by decide +kernel
theorem dX6_cheapest_95 : decode cX6_cheapest 95 = .ok (.lcmp, 1) := by decide +kernel
theorem dX6_cheapest_96 : decode cX6_cheapest 96 = .ok (.ifCond .ge 18, 3) := by decide +kernel
theorem dX6_cheapest_99 : decode cX6_cheapest 99 = .ok (.iload 9, 2) := by decide +kernel
theorem dX6_cheapest_101 : decode cX6_cheapest 101 = .ok (.istore_n 3, 1) := by decide +kernel
theorem dX6_cheapest_102 : decode cX6_cheapest 102 = .ok (.aload_n 0, 1) := by decide +kernel
theorem dX6_cheapest_103 : decode cX6_cheapest 103 = .ok (.getfield 33, 3) := by decide +kernel
theorem dX6_cheapest_106 : decode cX6_cheapest 106 = .ok (.lstore 4, 2) := by decide +kernel
theorem dX6_cheapest_108 : decode cX6_cheapest 108 = .ok (.aload_n 0, 1) := by decide +kernel
theorem dX6_cheapest_109 : decode cX6_cheapest 109 = .ok (.getfield 36, 3) := by decide +kernel
theorem dX6_cheapest_112 : decode cX6_cheapest 112 = .ok (.istore 6, 2) := by decide +kernel
theorem dX6_cheapest_114 : decode cX6_cheapest 114 = .ok (.iinc 9 1, 3) := by decide +kernel
theorem dX6_cheapest_117 : decode cX6_cheapest 117 = .ok (.goto (-93), 3) := by decide +kernel
theorem dX6_cheapest_120 : decode cX6_cheapest 120 = .ok (.iload_n 3, 1) := by decide +kernel
theorem dX6_cheapest_121 : decode cX6_cheapest 121 = .ok (.ireturn, 1) := by decide +kernel
set_option maxRecDepth 20000 in
theorem ggX6_price_X3_telling : GoodIn wsX6_price wsX3_telling := goodIn_r _ [13, 14, 15, 16, 17, 18, 12, 19, 20, 32, 33, 34, 35] (by decide +kernel) (by decide +kernel)
set_option maxRecDepth 20000 in
theorem gX6_price_X3_telling : GoodIn wsX6_price (wsV RX6 21 RX3 yX3_telling wsX3_telling) := goodIn_app (goodIn_of _ (by decide +kernel)) ggX6_price_X3_telling
set_option maxRecDepth 20000 in
theorem ggX6_price_X3_total : GoodIn wsX6_price wsX3_total := goodIn_r _ [24, 14, 15, 32, 33, 34, 35] (by decide +kernel) (by decide +kernel)
set_option maxRecDepth 20000 in
theorem gX6_price_X3_total : GoodIn wsX6_price (wsV RX6 9 RX3 yX3_total wsX3_total) := goodIn_app (goodIn_of _ (by decide +kernel)) ggX6_price_X3_total
set_option maxRecDepth 20000 in
theorem ggX6_price_X3_tells : GoodIn wsX6_price wsX3_tells := goodIn_r _ [19, 20, 32, 33, 34, 35] (by decide +kernel) (by decide +kernel)
set_option maxRecDepth 20000 in
theorem gX6_price_X3_tells : GoodIn wsX6_price (wsV RX6 43 RX3 yX3_tells wsX3_tells) := goodIn_app (goodIn_of _ (by decide +kernel)) ggX6_price_X3_tells
theorem dX6_price_0 : decode cX6_price 0 = .ok (.aload_n 1, 1) := by decide +kernel
theorem dX6_price_1 : decode cX6_price 1 = .ok (.iload_n 2, 1) := by decide +kernel
theorem dX6_price_2 : decode cX6_price 2 = .ok (.invokevirtual 21, 3) := by decide +kernel
theorem dX6_price_5 : decode cX6_price 5 = .ok (.istore_n 3, 1) := by decide +kernel
theorem dX6_price_6 : decode cX6_price 6 = .ok (.aload_n 1, 1) := by decide +kernel
theorem dX6_price_7 : decode cX6_price 7 = .ok (.invokevirtual 9, 3) := by decide +kernel
theorem dX6_price_10 : decode cX6_price 10 = .ok (.i2l, 1) := by decide +kernel
theorem dX6_price_11 : decode cX6_price 11 = .ok (.aload_n 0, 1) := by decide +kernel
theorem dX6_price_12 : decode cX6_price 12 = .ok (.getfield 15, 3) := by decide +kernel
theorem dX6_price_15 : decode cX6_price 15 = .ok (.lmul, 1) := by decide +kernel
theorem dX6_price_16 : decode cX6_price 16 = .ok (.lstore 4, 2) := by decide +kernel
theorem dX6_price_18 : decode cX6_price 18 = .ok (.aload_n 0, 1) := by decide +kernel
theorem dX6_price_19 : decode cX6_price 19 = .ok (.lload 4, 2) := by decide +kernel
theorem dX6_price_21 : decode cX6_price 21 = .ok (.putfield 33, 3) := by decide +kernel
theorem dX6_price_24 : decode cX6_price 24 = .ok (.aload_n 0, 1) := by decide +kernel
theorem dX6_price_25 : decode cX6_price 25 = .ok (.iload_n 3, 1) := by decide +kernel
theorem dX6_price_26 : decode cX6_price 26 = .ok (.putfield 36, 3) := by decide +kernel
theorem dX6_price_29 : decode cX6_price 29 = .ok (.iconst 0, 1) := by decide +kernel
theorem dX6_price_30 : decode cX6_price 30 = .ok (.istore 6, 2) := by decide +kernel
theorem dX6_price_32 : decode cX6_price 32 = .ok (.iload 6, 2) := by decide +kernel
theorem dX6_price_34 : decode cX6_price 34 = .ok (.bipush 6, 2) := by decide +kernel
theorem dX6_price_36 : decode cX6_price 36 = .ok (.if_icmp .gt 126, 3) := by decide +kernel
theorem dX6_price_39 : decode cX6_price 39 = .ok (.lconst 0, 1) := by decide +kernel
theorem dX6_price_40 : decode cX6_price 40 = .ok (.lstore 7, 2) := by decide +kernel
theorem dX6_price_42 : decode cX6_price 42 = .ok (.iconst 0, 1) := by decide +kernel
theorem dX6_price_43 : decode cX6_price 43 = .ok (.istore 9, 2) := by decide +kernel
theorem dX6_price_45 : decode cX6_price 45 = .ok (.iconst 0, 1) := by decide +kernel
theorem dX6_price_46 : decode cX6_price 46 = .ok (.istore 10, 2) := by decide +kernel
theorem dX6_price_48 : decode cX6_price 48 = .ok (.iload 10, 2) := by decide +kernel
theorem dX6_price_50 : decode cX6_price 50 = .ok (.aload_n 1, 1) := by decide +kernel
theorem dX6_price_51 : decode cX6_price 51 = .ok (.getfield 40, 3) := by decide +kernel
theorem dX6_price_54 : decode cX6_price 54 = .ok (.if_icmp .ge 73, 3) := by decide +kernel
theorem dX6_price_57 : decode cX6_price 57 = .ok (.aload_n 1, 1) := by decide +kernel
theorem dX6_price_58 : decode cX6_price 58 = .ok (.iload 10, 2) := by decide +kernel
theorem dX6_price_60 : decode cX6_price 60 = .ok (.iload_n 2, 1) := by decide +kernel
theorem dX6_price_61 : decode cX6_price 61 = .ok (.invokevirtual 43, 3) := by decide +kernel
theorem dX6_price_64 : decode cX6_price 64 = .ok (.ifCond .eq 57, 3) := by decide +kernel
theorem dX6_price_67 : decode cX6_price 67 = .ok (.aload_n 0, 1) := by decide +kernel
theorem dX6_price_68 : decode cX6_price 68 = .ok (.getfield 47, 3) := by decide +kernel
theorem dX6_price_71 : decode cX6_price 71 = .ok (.iload 10, 2) := by decide +kernel
theorem dX6_price_73 : decode cX6_price 73 = .ok (.laload, 1) := by decide +kernel
theorem dX6_price_74 : decode cX6_price 74 = .ok (.aload_n 0, 1) := by decide +kernel
theorem dX6_price_75 : decode cX6_price 75 = .ok (.getfield 36, 3) := by decide +kernel
theorem dX6_price_78 : decode cX6_price 78 = .ok (.i2l, 1) := by decide +kernel
theorem dX6_price_79 : decode cX6_price 79 = .ok (.lmul, 1) := by decide +kernel
theorem dX6_price_80 : decode cX6_price 80 = .ok (.aload_n 0, 1) := by decide +kernel
theorem dX6_price_81 : decode cX6_price 81 = .ok (.getfield 33, 3) := by decide +kernel
theorem dX6_price_84 : decode cX6_price 84 = .ok (.lcmp, 1) := by decide +kernel
theorem dX6_price_85 : decode cX6_price 85 = .ok (.ifCond .ge 36, 3) := by decide +kernel
theorem dX6_price_88 : decode cX6_price 88 = .ok (.lload 7, 2) := by decide +kernel
theorem dX6_price_90 : decode cX6_price 90 = .ok (.aload_n 0, 1) := by decide +kernel
theorem dX6_price_91 : decode cX6_price 91 = .ok (.getfield 47, 3) := by decide +kernel
theorem dX6_price_94 : decode cX6_price 94 = .ok (.iload 10, 2) := by decide +kernel
theorem dX6_price_96 : decode cX6_price 96 = .ok (.laload, 1) := by decide +kernel
theorem dX6_price_97 : decode cX6_price 97 = .ok (.aload_n 1, 1) := by decide +kernel
theorem dX6_price_98 : decode cX6_price 98 = .ok (.getfield 51, 3) := by decide +kernel
theorem dX6_price_101 : decode cX6_price 101 = .ok (.iload 10, 2) := by decide +kernel
theorem dX6_price_103 : decode cX6_price 103 = .ok (.iaload, 1) := by decide +kernel
theorem dX6_price_104 : decode cX6_price 104 = .ok (.i2l, 1) := by decide +kernel
theorem dX6_price_105 : decode cX6_price 105 = .ok (.lmul, 1) := by decide +kernel
theorem dX6_price_106 : decode cX6_price 106 = .ok (.ladd, 1) := by decide +kernel
theorem dX6_price_107 : decode cX6_price 107 = .ok (.lstore 7, 2) := by decide +kernel
theorem dX6_price_109 : decode cX6_price 109 = .ok (.iload 9, 2) := by decide +kernel
theorem dX6_price_111 : decode cX6_price 111 = .ok (.aload_n 1, 1) := by decide +kernel
theorem dX6_price_112 : decode cX6_price 112 = .ok (.getfield 51, 3) := by decide +kernel
theorem dX6_price_115 : decode cX6_price 115 = .ok (.iload 10, 2) := by decide +kernel
theorem dX6_price_117 : decode cX6_price 117 = .ok (.iaload, 1) := by decide +kernel
theorem dX6_price_118 : decode cX6_price 118 = .ok (.iadd, 1) := by decide +kernel
theorem dX6_price_119 : decode cX6_price 119 = .ok (.istore 9, 2) := by decide +kernel
theorem dX6_price_121 : decode cX6_price 121 = .ok (.iinc 10 1, 3) := by decide +kernel
theorem dX6_price_124 : decode cX6_price 124 = .ok (.goto (-76), 3) := by decide +kernel
theorem dX6_price_127 : decode cX6_price 127 = .ok (.iload_n 3, 1) := by decide +kernel
theorem dX6_price_128 : decode cX6_price 128 = .ok (.iload 9, 2) := by decide +kernel
theorem dX6_price_130 : decode cX6_price 130 = .ok (.isub, 1) := by decide +kernel
theorem dX6_price_131 : decode cX6_price 131 = .ok (.aload_n 0, 1) := by decide +kernel
theorem dX6_price_132 : decode cX6_price 132 = .ok (.getfield 36, 3) := by decide +kernel
theorem dX6_price_135 : decode cX6_price 135 = .ok (.if_icmp .ne 4, 3) := by decide +kernel
theorem dX6_price_138 : decode cX6_price 138 = .ok (.return_, 1) := by decide +kernel
theorem dX6_price_139 : decode cX6_price 139 = .ok (.aload_n 0, 1) := by decide +kernel
theorem dX6_price_140 : decode cX6_price 140 = .ok (.lload 4, 2) := by decide +kernel
theorem dX6_price_142 : decode cX6_price 142 = .ok (.lload 7, 2) := by decide +kernel
theorem dX6_price_144 : decode cX6_price 144 = .ok (.lsub, 1) := by decide +kernel
theorem dX6_price_145 : decode cX6_price 145 = .ok (.putfield 33, 3) := by decide +kernel
theorem dX6_price_148 : decode cX6_price 148 = .ok (.aload_n 0, 1) := by decide +kernel
theorem dX6_price_149 : decode cX6_price 149 = .ok (.iload_n 3, 1) := by decide +kernel
theorem dX6_price_150 : decode cX6_price 150 = .ok (.iload 9, 2) := by decide +kernel
theorem dX6_price_152 : decode cX6_price 152 = .ok (.isub, 1) := by decide +kernel
theorem dX6_price_153 : decode cX6_price 153 = .ok (.putfield 36, 3) := by decide +kernel
theorem dX6_price_156 : decode cX6_price 156 = .ok (.iinc 6 1, 3) := by decide +kernel
theorem dX6_price_159 : decode cX6_price 159 = .ok (.goto (-127), 3) := by decide +kernel
theorem dX6_price_162 : decode cX6_price 162 = .ok (.return_, 1) := by decide +kernel
set_option maxRecDepth 20000 in
theorem ggX6_pay_X6_price : GoodIn wsX6_pay wsX6_price := goodIn_r _ [14, 15, 16, 5, 1, 2, 3, 4, 17, 18, 19, 20, 21, 22, 23, 24, 25, 26, 27, 28, 29, 30, 31, 32, 33, 34, 51, 52, 43, 44, 45, 46, 47, 48, 49, 50] (by decide +kernel) (by decide +kernel)
set_option maxRecDepth 20000 in
theorem gX6_pay_X6_price : GoodIn wsX6_pay (wsV RX6 29 RX6 yX6_price wsX6_price) := goodIn_app (goodIn_of _ (by decide +kernel)) ggX6_pay_X6_price
set_option maxRecDepth 20000 in
theorem ggX6_pay_X1_widen : GoodIn wsX6_pay wsX1_widen := goodIn_r _ [40, 41, 42, 51, 52, 43, 44, 45, 46] (by decide +kernel) (by decide +kernel)
set_option maxRecDepth 20000 in
theorem gX6_pay_X1_widen_u55X6 : GoodIn wsX6_pay (va_wsU RX6 55 RX6 "FairSeats$Fractions" ⟨"FairSeats$Purses", "widen", "(I)V"⟩ yX1_widen wsX1_widen) := goodIn_app (goodIn_of _ (by decide +kernel)) ggX6_pay_X1_widen
set_option maxRecDepth 20000 in
theorem ggX6_pay_X3_tells : GoodIn wsX6_pay wsX3_tells := goodIn_r _ [28, 29, 47, 48, 49, 50] (by decide +kernel) (by decide +kernel)
set_option maxRecDepth 20000 in
theorem gX6_pay_X3_tells : GoodIn wsX6_pay (wsV RX6 43 RX3 yX3_tells wsX3_tells) := goodIn_app (goodIn_of _ (by decide +kernel)) ggX6_pay_X3_tells
theorem dX6_pay_0 : decode cX6_pay 0 = .ok (.aload_n 0, 1) := by decide +kernel
theorem dX6_pay_1 : decode cX6_pay 1 = .ok (.aload_n 1, 1) := by decide +kernel
theorem dX6_pay_2 : decode cX6_pay 2 = .ok (.iload_n 2, 1) := by decide +kernel
theorem dX6_pay_3 : decode cX6_pay 3 = .ok (.invokevirtual 29, 3) := by decide +kernel
theorem dX6_pay_6 : decode cX6_pay 6 = .ok (.aload_n 0, 1) := by decide +kernel
theorem dX6_pay_7 : decode cX6_pay 7 = .ok (.aload_n 0, 1) := by decide +kernel
theorem dX6_pay_8 : decode cX6_pay 8 = .ok (.getfield 36, 3) := by decide +kernel
theorem dX6_pay_11 : decode cX6_pay 11 = .ok (.invokevirtual 55, 3) := by decide +kernel
theorem dX6_pay_14 : decode cX6_pay 14 = .ok (.iconst 0, 1) := by decide +kernel
theorem dX6_pay_15 : decode cX6_pay 15 = .ok (.istore_n 3, 1) := by decide +kernel
theorem dX6_pay_16 : decode cX6_pay 16 = .ok (.iload_n 3, 1) := by decide +kernel
theorem dX6_pay_17 : decode cX6_pay 17 = .ok (.aload_n 1, 1) := by decide +kernel
theorem dX6_pay_18 : decode cX6_pay 18 = .ok (.getfield 40, 3) := by decide +kernel
theorem dX6_pay_21 : decode cX6_pay 21 = .ok (.if_icmp .ge 39, 3) := by decide +kernel
theorem dX6_pay_24 : decode cX6_pay 24 = .ok (.aload_n 1, 1) := by decide +kernel
theorem dX6_pay_25 : decode cX6_pay 25 = .ok (.iload_n 3, 1) := by decide +kernel
theorem dX6_pay_26 : decode cX6_pay 26 = .ok (.iload_n 2, 1) := by decide +kernel
theorem dX6_pay_27 : decode cX6_pay 27 = .ok (.invokevirtual 43, 3) := by decide +kernel
theorem dX6_pay_30 : decode cX6_pay 30 = .ok (.ifCond .eq 24, 3) := by decide +kernel
theorem dX6_pay_33 : decode cX6_pay 33 = .ok (.aload_n 0, 1) := by decide +kernel
theorem dX6_pay_34 : decode cX6_pay 34 = .ok (.getfield 47, 3) := by decide +kernel
theorem dX6_pay_37 : decode cX6_pay 37 = .ok (.iload_n 3, 1) := by decide +kernel
theorem dX6_pay_38 : decode cX6_pay 38 = .ok (.lconst 0, 1) := by decide +kernel
theorem dX6_pay_39 : decode cX6_pay 39 = .ok (.aload_n 0, 1) := by decide +kernel
theorem dX6_pay_40 : decode cX6_pay 40 = .ok (.getfield 47, 3) := by decide +kernel
theorem dX6_pay_43 : decode cX6_pay 43 = .ok (.iload_n 3, 1) := by decide +kernel
theorem dX6_pay_44 : decode cX6_pay 44 = .ok (.laload, 1) := by decide +kernel
theorem dX6_pay_45 : decode cX6_pay 45 = .ok (.aload_n 0, 1) := by decide +kernel
theorem dX6_pay_46 : decode cX6_pay 46 = .ok (.getfield 33, 3) := by decide +kernel
theorem dX6_pay_49 : decode cX6_pay 49 = .ok (.lsub, 1) := by decide +kernel
theorem dX6_pay_50 : decode cX6_pay 50 = .ok (.invokestatic 59, 3) := by decide +kernel
theorem dX6_pay_53 : decode cX6_pay 53 = .ok (.lastore, 1) := by decide +kernel
theorem dX6_pay_54 : decode cX6_pay 54 = .ok (.iinc 3 1, 3) := by decide +kernel
theorem dX6_pay_57 : decode cX6_pay 57 = .ok (.goto (-41), 3) := by decide +kernel
theorem dX6_pay_60 : decode cX6_pay 60 = .ok (.return_, 1) := by decide +kernel
theorem dX7_init_0 : decode cX7_init 0 = .ok (.aload_n 0, 1) := by decide +kernel
theorem dX7_init_1 : decode cX7_init 1 = .ok (.invokespecial 3, 3) := by decide +kernel
theorem dX7_init_4 : decode cX7_init 4 = .ok (.aload_n 0, 1) := by decide +kernel
theorem dX7_init_5 : decode cX7_init 5 = .ok (.bipush 40, 2) := by decide +kernel
theorem dX7_init_7 : decode cX7_init 7 = .ok (.newarray .int, 2) := by decide +kernel
theorem dX7_init_9 : decode cX7_init 9 = .ok (.putfield 9, 3) := by decide +kernel
theorem dX7_init_12 : decode cX7_init 12 = .ok (.return_, 1) := by decide +kernel
theorem dX7_append_0 : decode cX7_append 0 = .ok (.aload_n 0, 1) := by decide +kernel
theorem dX7_append_1 : decode cX7_append 1 = .ok (.getfield 15, 3) := by decide +kernel
theorem dX7_append_4 : decode cX7_append 4 = .ok (.ifCond .lt 32, 3) := by decide +kernel
theorem dX7_append_7 : decode cX7_append 7 = .ok (.aload_n 0, 1) := by decide +kernel
theorem dX7_append_8 : decode cX7_append 8 = .ok (.getfield 15, 3) := by decide +kernel
theorem dX7_append_11 : decode cX7_append 11 = .ok (.bipush 40, 2) := by decide +kernel
theorem dX7_append_13 : decode cX7_append 13 = .ok (.if_icmp .ge 23, 3) := by decide +kernel
theorem dX7_append_16 : decode cX7_append 16 = .ok (.aload_n 0, 1) := by decide +kernel
theorem dX7_append_17 : decode cX7_append 17 = .ok (.getfield 9, 3) := by decide +kernel
theorem dX7_append_20 : decode cX7_append 20 = .ok (.aload_n 0, 1) := by decide +kernel
theorem dX7_append_21 : decode cX7_append 21 = .ok (.getfield 15, 3) := by decide +kernel
theorem dX7_append_24 : decode cX7_append 24 = .ok (.iload_n 1, 1) := by decide +kernel
theorem dX7_append_25 : decode cX7_append 25 = .ok (.iastore, 1) := by decide +kernel
theorem dX7_append_26 : decode cX7_append 26 = .ok (.aload_n 0, 1) := by decide +kernel
theorem dX7_append_27 : decode cX7_append 27 = .ok (.dup, 1) := by decide +kernel
theorem dX7_append_28 : decode cX7_append 28 = .ok (.getfield 15, 3) := by decide +kernel
theorem dX7_append_31 : decode cX7_append 31 = .ok (.iconst 1, 1) := by decide +kernel
theorem dX7_append_32 : decode cX7_append 32 = .ok (.iadd, 1) := by decide +kernel
theorem dX7_append_33 : decode cX7_append 33 = .ok (.putfield 15, 3) := by decide +kernel
theorem dX7_append_36 : decode cX7_append 36 = .ok (.return_, 1) := by decide +kernel
theorem dX7_step_0 : decode cX7_step 0 = .ok (.iload_n 0, 1) := by decide +kernel
theorem dX7_step_1 : decode cX7_step 1 = .ok (.bipush 10, 2) := by decide +kernel
theorem dX7_step_3 : decode cX7_step 3 = .ok (.if_icmp .ne 15, 3) := by decide +kernel
theorem dX7_step_6 : decode cX7_step 6 = .ok (.iload_n 1, 1) := by decide +kernel
theorem dX7_step_7 : decode cX7_step 7 = .ok (.bipush 59, 2) := by decide +kernel
theorem dX7_step_9 : decode cX7_step 9 = .ok (.if_icmp .ne 7, 3) := by decide +kernel
theorem dX7_step_12 : decode cX7_step 12 = .ok (.iconst 0, 1) := by decide +kernel
theorem dX7_step_13 : decode cX7_step 13 = .ok (.goto 4, 3) := by decide +kernel
theorem dX7_step_16 : decode cX7_step 16 = .ok (.iconst (-1), 1) := by decide +kernel
theorem dX7_step_17 : decode cX7_step 17 = .ok (.ireturn, 1) := by decide +kernel
theorem dX7_step_18 : decode cX7_step 18 = .ok (.iload_n 0, 1) := by decide +kernel
theorem dX7_step_19 : decode cX7_step 19 = .ok (.bipush 9, 2) := by decide +kernel
theorem dX7_step_21 : decode cX7_step 21 = .ok (.if_icmp .ne 22, 3) := by decide +kernel
theorem dX7_step_24 : decode cX7_step 24 = .ok (.iload_n 1, 1) := by decide +kernel
theorem dX7_step_25 : decode cX7_step 25 = .ok (.bipush 48, 2) := by decide +kernel
theorem dX7_step_27 : decode cX7_step 27 = .ok (.if_icmp .lt 14, 3) := by decide +kernel
theorem dX7_step_30 : decode cX7_step 30 = .ok (.iload_n 1, 1) := by decide +kernel
theorem dX7_step_31 : decode cX7_step 31 = .ok (.bipush 52, 2) := by decide +kernel
theorem dX7_step_33 : decode cX7_step 33 = .ok (.if_icmp .gt 8, 3) := by decide +kernel
theorem dX7_step_36 : decode cX7_step 36 = .ok (.bipush 10, 2) := by decide +kernel
theorem dX7_step_38 : decode cX7_step 38 = .ok (.goto 4, 3) := by decide +kernel
theorem dX7_step_41 : decode cX7_step 41 = .ok (.iconst (-1), 1) := by decide +kernel
theorem dX7_step_42 : decode cX7_step 42 = .ok (.ireturn, 1) := by decide +kernel
theorem dX7_step_43 : decode cX7_step 43 = .ok (.iload_n 1, 1) := by decide +kernel
theorem dX7_step_44 : decode cX7_step 44 = .ok (.bipush 97, 2) := by decide +kernel
theorem dX7_step_46 : decode cX7_step 46 = .ok (.iload_n 0, 1) := by decide +kernel
theorem dX7_step_47 : decode cX7_step 47 = .ok (.iadd, 1) := by decide +kernel
theorem dX7_step_48 : decode cX7_step 48 = .ok (.if_icmp .lt 16, 3) := by decide +kernel
theorem dX7_step_51 : decode cX7_step 51 = .ok (.iload_n 1, 1) := by decide +kernel
theorem dX7_step_52 : decode cX7_step 52 = .ok (.bipush 104, 2) := by decide +kernel
theorem dX7_step_54 : decode cX7_step 54 = .ok (.if_icmp .gt 10, 3) := by decide +kernel
theorem dX7_step_57 : decode cX7_step 57 = .ok (.iload_n 1, 1) := by decide +kernel
theorem dX7_step_58 : decode cX7_step 58 = .ok (.bipush 97, 2) := by decide +kernel
theorem dX7_step_60 : decode cX7_step 60 = .ok (.isub, 1) := by decide +kernel
theorem dX7_step_61 : decode cX7_step 61 = .ok (.iconst 1, 1) := by decide +kernel
theorem dX7_step_62 : decode cX7_step 62 = .ok (.iadd, 1) := by decide +kernel
theorem dX7_step_63 : decode cX7_step 63 = .ok (.ireturn, 1) := by decide +kernel
theorem dX7_step_64 : decode cX7_step 64 = .ok (.iload_n 1, 1) := by decide +kernel
theorem dX7_step_65 : decode cX7_step 65 = .ok (.bipush 60, 2) := by decide +kernel
theorem dX7_step_67 : decode cX7_step 67 = .ok (.if_icmp .eq 9, 3) := by decide +kernel
theorem dX7_step_70 : decode cX7_step 70 = .ok (.iload_n 1, 1) := by decide +kernel
theorem dX7_step_71 : decode cX7_step 71 = .ok (.bipush 62, 2) := by decide +kernel
theorem dX7_step_73 : decode cX7_step 73 = .ok (.if_icmp .ne 7, 3) := by decide +kernel
theorem dX7_step_76 : decode cX7_step 76 = .ok (.iconst 1, 1) := by decide +kernel
theorem dX7_step_77 : decode cX7_step 77 = .ok (.goto 4, 3) := by decide +kernel
theorem dX7_step_80 : decode cX7_step 80 = .ok (.iconst 0, 1) := by decide +kernel
theorem dX7_step_81 : decode cX7_step 81 = .ok (.istore_n 2, 1) := by decide +kernel
theorem dX7_step_82 : decode cX7_step 82 = .ok (.iload_n 0, 1) := by decide +kernel
theorem dX7_step_83 : decode cX7_step 83 = .ok (.ifCond .eq 12, 3) := by decide +kernel
theorem dX7_step_86 : decode cX7_step 86 = .ok (.iload_n 2, 1) := by decide +kernel
theorem dX7_step_87 : decode cX7_step 87 = .ok (.ifCond .eq 8, 3) := by decide +kernel
theorem dX7_step_90 : decode cX7_step 90 = .ok (.bipush 9, 2) := by decide +kernel
theorem dX7_step_92 : decode cX7_step 92 = .ok (.goto 4, 3) := by decide +kernel
theorem dX7_step_95 : decode cX7_step 95 = .ok (.iconst (-1), 1) := by decide +kernel
theorem dX7_step_96 : decode cX7_step 96 = .ok (.ireturn, 1) := by decide +kernel
set_option maxRecDepth 20000 in
theorem ggX7_firstFault_X7_step : GoodIn wsX7_firstFault wsX7_step := goodIn_r _ [6] (by decide +kernel) (by decide +kernel)
set_option maxRecDepth 20000 in
theorem gX7_firstFault_X7_step : GoodIn wsX7_firstFault (va_wsS RX7 19 yX7_step wsX7_step) := goodIn_app (goodIn_of _ (by decide +kernel)) ggX7_firstFault_X7_step
theorem dX7_firstFault_0 : decode cX7_firstFault 0 = .ok (.iconst 0, 1) := by decide +kernel
theorem dX7_firstFault_1 : decode cX7_firstFault 1 = .ok (.istore_n 1, 1) := by decide +kernel
theorem dX7_firstFault_2 : decode cX7_firstFault 2 = .ok (.iconst 0, 1) := by decide +kernel
theorem dX7_firstFault_3 : decode cX7_firstFault 3 = .ok (.istore_n 2, 1) := by decide +kernel
theorem dX7_firstFault_4 : decode cX7_firstFault 4 = .ok (.iload_n 2, 1) := by decide +kernel
theorem dX7_firstFault_5 : decode cX7_firstFault 5 = .ok (.aload_n 0, 1) := by decide +kernel
theorem dX7_firstFault_6 : decode cX7_firstFault 6 = .ok (.getfield 15, 3) := by decide +kernel
theorem dX7_firstFault_9 : decode cX7_firstFault 9 = .ok (.if_icmp .ge 27, 3) := by decide +kernel
theorem dX7_firstFault_12 : decode cX7_firstFault 12 = .ok (.iload_n 1, 1) := by decide +kernel
theorem dX7_firstFault_13 : decode cX7_firstFault 13 = .ok (.aload_n 0, 1) := by decide +kernel
theorem dX7_firstFault_14 : decode cX7_firstFault 14 = .ok (.getfield 9, 3) := by decide +kernel
theorem dX7_firstFault_17 : decode cX7_firstFault 17 = .ok (.iload_n 2, 1) := by decide +kernel
theorem dX7_firstFault_18 : decode cX7_firstFault 18 = .ok (.iaload, 1) := by decide +kernel
theorem dX7_firstFault_19 : decode cX7_firstFault 19 = .ok (.invokestatic 19, 3) := by decide +kernel
theorem dX7_firstFault_22 : decode cX7_firstFault 22 = .ok (.istore_n 1, 1) := by decide +kernel
theorem dX7_firstFault_23 : decode cX7_firstFault 23 = .ok (.iload_n 1, 1) := by decide +kernel
theorem dX7_firstFault_24 : decode cX7_firstFault 24 = .ok (.iconst (-1), 1) := by decide +kernel
theorem dX7_firstFault_25 : decode cX7_firstFault 25 = .ok (.if_icmp .ne 5, 3) := by decide +kernel
theorem dX7_firstFault_28 : decode cX7_firstFault 28 = .ok (.iload_n 2, 1) := by decide +kernel
theorem dX7_firstFault_29 : decode cX7_firstFault 29 = .ok (.ireturn, 1) := by decide +kernel
theorem dX7_firstFault_30 : decode cX7_firstFault 30 = .ok (.iinc 2 1, 3) := by decide +kernel
theorem dX7_firstFault_33 : decode cX7_firstFault 33 = .ok (.goto (-29), 3) := by decide +kernel
theorem dX7_firstFault_36 : decode cX7_firstFault 36 = .ok (.iload_n 1, 1) := by decide +kernel
theorem dX7_firstFault_37 : decode cX7_firstFault 37 = .ok (.bipush 10, 2) := by decide +kernel
theorem dX7_firstFault_39 : decode cX7_firstFault 39 = .ok (.if_icmp .ne 8, 3) := by decide +kernel
theorem dX7_firstFault_42 : decode cX7_firstFault 42 = .ok (.bipush (-6), 2) := by decide +kernel
theorem dX7_firstFault_44 : decode cX7_firstFault 44 = .ok (.goto 7, 3) := by decide +kernel
theorem dX7_firstFault_47 : decode cX7_firstFault 47 = .ok (.aload_n 0, 1) := by decide +kernel
theorem dX7_firstFault_48 : decode cX7_firstFault 48 = .ok (.getfield 15, 3) := by decide +kernel
theorem dX7_firstFault_51 : decode cX7_firstFault 51 = .ok (.ireturn, 1) := by decide +kernel
set_option maxRecDepth 20000 in
theorem ggX8_init_X5_init : GoodIn wsX8_init wsX5_init := goodIn_r _ [16, 17, 18, 19, 20, 2, 3, 21, 22, 25, 26, 34, 35, 36, 37] (by decide +kernel) (by decide +kernel)
set_option maxRecDepth 20000 in
theorem gX8_init_X5_init_n11 : GoodIn wsX8_init (wsX5_init) := ggX8_init_X5_init
set_option maxRecDepth 20000 in
theorem ggX8_init_X6_init : GoodIn wsX8_init wsX6_init := goodIn_r _ [24, 17, 18, 19, 20, 2, 3, 21, 22, 25, 26, 34, 35, 36, 37] (by decide +kernel) (by decide +kernel)
set_option maxRecDepth 20000 in
theorem gX8_init_X6_init_n20 : GoodIn wsX8_init (wsX6_init) := ggX8_init_X6_init
theorem dX8_init_0 : decode cX8_init 0 = .ok (.aload_n 0, 1) := by decide +kernel
theorem dX8_init_1 : decode cX8_init 1 = .ok (.invokespecial 3, 3) := by decide +kernel
theorem dX8_init_4 : decode cX8_init 4 = .ok (.aload_n 0, 1) := by decide +kernel
theorem dX8_init_5 : decode cX8_init 5 = .ok (.new 9, 3) := by decide +kernel
theorem dX8_init_8 : decode cX8_init 8 = .ok (.dup, 1) := by decide +kernel
theorem dX8_init_9 : decode cX8_init 9 = .ok (.invokespecial 11, 3) := by decide +kernel
theorem dX8_init_12 : decode cX8_init 12 = .ok (.putfield 12, 3) := by decide +kernel
theorem dX8_init_15 : decode cX8_init 15 = .ok (.aload_n 0, 1) := by decide +kernel
theorem dX8_init_16 : decode cX8_init 16 = .ok (.new 18, 3) := by decide +kernel
theorem dX8_init_19 : decode cX8_init 19 = .ok (.dup, 1) := by decide +kernel
theorem dX8_init_20 : decode cX8_init 20 = .ok (.invokespecial 20, 3) := by decide +kernel
theorem dX8_init_23 : decode cX8_init 23 = .ok (.putfield 21, 3) := by decide +kernel
theorem dX8_init_26 : decode cX8_init 26 = .ok (.aload_n 0, 1) := by decide +kernel
theorem dX8_init_27 : decode cX8_init 27 = .ok (.iconst 4, 1) := by decide +kernel
theorem dX8_init_28 : decode cX8_init 28 = .ok (.newarray .int, 2) := by decide +kernel
theorem dX8_init_30 : decode cX8_init 30 = .ok (.putfield 25, 3) := by decide +kernel
theorem dX8_init_33 : decode cX8_init 33 = .ok (.aload_n 0, 1) := by decide +kernel
theorem dX8_init_34 : decode cX8_init 34 = .ok (.aload_n 1, 1) := by decide +kernel
theorem dX8_init_35 : decode cX8_init 35 = .ok (.putfield 29, 3) := by decide +kernel
theorem dX8_init_38 : decode cX8_init 38 = .ok (.return_, 1) := by decide +kernel
set_option maxRecDepth 20000 in
theorem ggX8_run_X8_clear : GoodIn wsX8_run wsX8_clear := goodIn_r _ [6, 7, 8, 158, 159, 160, 161, 162, 163, 164] (by decide +kernel) (by decide +kernel)
set_option maxRecDepth 20000 in
theorem gX8_run_X8_clear : GoodIn wsX8_run (wsV RX8 33 RX8 yX8_clear wsX8_clear) := goodIn_app (goodIn_of _ (by decide +kernel)) ggX8_run_X8_clear
set_option maxRecDepth 20000 in
theorem ggX8_run_X8_byHeads : GoodIn wsX8_run wsX8_byHeads := goodIn_r _ [12, 7, 13, 14, 15, 5, 16, 8, 17, 18, 19, 20, 21, 22, 23, 24, 25, 26, 27, 28, 29, 30, 31, 32, 33, 158, 159, 160, 161, 162, 163, 164, 165, 166, 167, 168] (by decide +kernel) (by decide +kernel)
set_option maxRecDepth 20000 in
theorem gX8_run_X8_byHeads : GoodIn wsX8_run (wsV RX8 36 RX8 yX8_byHeads wsX8_byHeads) := goodIn_app (goodIn_of _ (by decide +kernel)) ggX8_run_X8_byHeads
set_option maxRecDepth 20000 in
theorem ggX8_run_X8_byWorth : GoodIn wsX8_run wsX8_byWorth := goodIn_r _ [37, 8, 13, 14, 15, 5, 16, 38, 39, 40, 20, 41, 22, 23, 42, 43, 28, 44, 45, 46, 47, 48, 49, 50, 29, 30, 31, 32, 7, 33, 158, 159, 160, 161, 162, 163, 164, 165, 166, 167, 168, 169, 170] (by decide +kernel) (by decide +kernel)
set_option maxRecDepth 20000 in
theorem gX8_run_X8_byWorth : GoodIn wsX8_run (wsV RX8 40 RX8 yX8_byWorth wsX8_byWorth) := goodIn_app (goodIn_of _ (by decide +kernel)) ggX8_run_X8_byWorth
set_option maxRecDepth 20000 in
theorem ggX8_run_X8_byLoads : GoodIn wsX8_run wsX8_byLoads := goodIn_r _ [54, 55, 8, 2, 3, 4, 5, 6, 7, 56, 57, 58, 59, 60, 61, 62, 63, 64, 65, 66, 67, 68, 69, 70, 71, 18, 19, 20, 21, 22, 23, 24, 25, 26, 27, 28, 72, 73, 74, 75, 76, 77, 78, 79, 80, 81, 82, 83, 84, 85, 86, 87, 88, 89, 90, 91, 92, 29, 30, 31, 32, 33, 158, 159, 160, 161, 162, 163, 164, 171, 172, 173, 174, 175, 176, 165, 166, 167, 168] (by decide +kernel) (by decide +kernel)
set_option maxRecDepth 20000 in
theorem gX8_run_X8_byLoads : GoodIn wsX8_run (wsV RX8 43 RX8 yX8_byLoads wsX8_byLoads) := goodIn_app (goodIn_of _ (by decide +kernel)) ggX8_run_X8_byLoads
set_option maxRecDepth 20000 in
theorem ggX8_run_X8_byPurses : GoodIn wsX8_run wsX8_byPurses := goodIn_r _ [96, 97, 98, 8, 2, 3, 4, 5, 6, 7, 99, 100, 101, 59, 60, 61, 62, 63, 102, 103, 104, 105, 106, 107, 108, 109, 110, 111, 112, 113, 20, 114, 22, 23, 115, 18, 19, 21, 24, 25, 26, 27, 28, 116, 117, 118, 75, 76, 77, 78, 79, 119, 120, 121, 122, 123, 124, 125, 126, 127, 128, 129, 130, 131, 132, 133, 134, 135, 136, 137, 138, 90, 91, 29, 30, 31, 32, 33, 9, 10, 11, 12, 13, 14, 15, 16, 17, 158, 159, 160, 161, 162, 163, 164, 171, 172, 173, 174, 175, 176, 165, 166, 167, 168] (by decide +kernel) (by decide +kernel)
set_option maxRecDepth 20000 in
theorem gX8_run_X8_byPurses : GoodIn wsX8_run (wsV RX8 46 RX8 yX8_byPurses wsX8_byPurses) := goodIn_app (goodIn_of _ (by decide +kernel)) ggX8_run_X8_byPurses
set_option maxRecDepth 20000 in
theorem ggX8_run_X0_ofMostWorth : GoodIn wsX8_run wsX0_ofMostWorth := goodIn_r _ [143, 144, 145, 146, 39, 40, 20, 41, 22, 23, 42, 43, 28, 44, 45, 46, 47, 48, 49, 50, 177, 178, 165, 166, 167, 168, 169, 170] (by decide +kernel) (by decide +kernel)
set_option maxRecDepth 20000 in
theorem gX8_run_X0_ofMostWorth : GoodIn wsX8_run (wsV RX8 50 RX0 yX0_ofMostWorth wsX0_ofMostWorth) := goodIn_app (goodIn_of _ (by decide +kernel)) ggX8_run_X0_ofMostWorth
set_option maxRecDepth 20000 in
theorem ggX8_run_X8_take : GoodIn wsX8_run wsX8_take := goodIn_r _ [150, 2, 3, 4, 5, 6, 7, 8, 29, 30, 31, 32, 33, 158, 159, 160, 161, 162, 163, 164] (by decide +kernel) (by decide +kernel)
set_option maxRecDepth 20000 in
theorem gX8_run_X8_take : GoodIn wsX8_run (wsV RX8 56 RX8 yX8_take wsX8_take) := goodIn_app (goodIn_of _ (by decide +kernel)) ggX8_run_X8_take
set_option maxRecDepth 20000 in
theorem ggX8_run_X8_bySwaps : GoodIn wsX8_run wsX8_bySwaps := goodIn_r _ [154, 8, 34, 35, 36, 5, 37, 13, 14, 15, 16, 38, 39, 40, 20, 41, 22, 23, 42, 43, 28, 44, 45, 46, 47, 48, 49, 50, 29, 30, 31, 32, 7, 33, 155, 156, 157, 147, 148, 149, 150, 2, 3, 4, 6, 158, 159, 160, 161, 162, 163, 164, 165, 166, 167, 168, 169, 170] (by decide +kernel) (by decide +kernel)
set_option maxRecDepth 20000 in
theorem gX8_run_X8_bySwaps : GoodIn wsX8_run (wsV RX8 60 RX8 yX8_bySwaps wsX8_bySwaps) := goodIn_app (goodIn_of _ (by decide +kernel)) ggX8_run_X8_bySwaps
theorem dX8_run_0 : decode cX8_run 0 = .ok (.aload_n 0, 1) := by decide +kernel
theorem dX8_run_1 : decode cX8_run 1 = .ok (.invokevirtual 33, 3) := by decide +kernel
theorem dX8_run_4 : decode cX8_run 4 = .ok (.iload_n 1, 1) := by decide +kernel
theorem dX8_run_5 : decode cX8_run 5 = .ok (.tableswitch 87 0 4 #[35, 44, 53, 62, 72], 35) := by decide +kernel
theorem dX8_run_40 : decode cX8_run 40 = .ok (.aload_n 0, 1) := by decide +kernel
theorem dX8_run_41 : decode cX8_run 41 = .ok (.aload_n 2, 1) := by decide +kernel
theorem dX8_run_42 : decode cX8_run 42 = .ok (.iload_n 3, 1) := by decide +kernel
theorem dX8_run_43 : decode cX8_run 43 = .ok (.invokevirtual 36, 3) := by decide +kernel
theorem dX8_run_46 : decode cX8_run 46 = .ok (.goto 52, 3) := by decide +kernel
theorem dX8_run_49 : decode cX8_run 49 = .ok (.aload_n 0, 1) := by decide +kernel
theorem dX8_run_50 : decode cX8_run 50 = .ok (.aload_n 2, 1) := by decide +kernel
theorem dX8_run_51 : decode cX8_run 51 = .ok (.iload_n 3, 1) := by decide +kernel
theorem dX8_run_52 : decode cX8_run 52 = .ok (.invokevirtual 40, 3) := by decide +kernel
theorem dX8_run_55 : decode cX8_run 55 = .ok (.goto 43, 3) := by decide +kernel
theorem dX8_run_58 : decode cX8_run 58 = .ok (.aload_n 0, 1) := by decide +kernel
theorem dX8_run_59 : decode cX8_run 59 = .ok (.aload_n 2, 1) := by decide +kernel
theorem dX8_run_60 : decode cX8_run 60 = .ok (.iload_n 3, 1) := by decide +kernel
theorem dX8_run_61 : decode cX8_run 61 = .ok (.invokevirtual 43, 3) := by decide +kernel
theorem dX8_run_64 : decode cX8_run 64 = .ok (.goto 34, 3) := by decide +kernel
theorem dX8_run_67 : decode cX8_run 67 = .ok (.aload_n 0, 1) := by decide +kernel
theorem dX8_run_68 : decode cX8_run 68 = .ok (.aload_n 2, 1) := by decide +kernel
theorem dX8_run_69 : decode cX8_run 69 = .ok (.iload_n 3, 1) := by decide +kernel
theorem dX8_run_70 : decode cX8_run 70 = .ok (.iload_n 3, 1) := by decide +kernel
theorem dX8_run_71 : decode cX8_run 71 = .ok (.invokevirtual 46, 3) := by decide +kernel
theorem dX8_run_74 : decode cX8_run 74 = .ok (.goto 24, 3) := by decide +kernel
theorem dX8_run_77 : decode cX8_run 77 = .ok (.aload_n 0, 1) := by decide +kernel
theorem dX8_run_78 : decode cX8_run 78 = .ok (.aload_n 0, 1) := by decide +kernel
theorem dX8_run_79 : decode cX8_run 79 = .ok (.getfield 29, 3) := by decide +kernel
theorem dX8_run_82 : decode cX8_run 82 = .ok (.aload_n 2, 1) := by decide +kernel
theorem dX8_run_83 : decode cX8_run 83 = .ok (.invokevirtual 50, 3) := by decide +kernel
theorem dX8_run_86 : decode cX8_run 86 = .ok (.invokevirtual 56, 3) := by decide +kernel
theorem dX8_run_89 : decode cX8_run 89 = .ok (.goto 9, 3) := by decide +kernel
theorem dX8_run_92 : decode cX8_run 92 = .ok (.aload_n 0, 1) := by decide +kernel
theorem dX8_run_93 : decode cX8_run 93 = .ok (.aload_n 2, 1) := by decide +kernel
theorem dX8_run_94 : decode cX8_run 94 = .ok (.iload_n 3, 1) := by decide +kernel
theorem dX8_run_95 : decode cX8_run 95 = .ok (.invokevirtual 60, 3) := by decide +kernel
theorem dX8_run_98 : decode cX8_run 98 = .ok (.return_, 1) := by decide +kernel
theorem dX8_holds_0 : decode cX8_holds 0 = .ok (.aload_n 0, 1) := by decide +kernel
theorem dX8_holds_1 : decode cX8_holds 1 = .ok (.getfield 63, 3) := by decide +kernel
theorem dX8_holds_4 : decode cX8_holds 4 = .ok (.iload_n 1, 1) := by decide +kernel
theorem dX8_holds_5 : decode cX8_holds 5 = .ok (.ishr, 1) := by decide +kernel
theorem dX8_holds_6 : decode cX8_holds 6 = .ok (.iconst 1, 1) := by decide +kernel
theorem dX8_holds_7 : decode cX8_holds 7 = .ok (.iand, 1) := by decide +kernel
theorem dX8_holds_8 : decode cX8_holds 8 = .ok (.iconst 1, 1) := by decide +kernel
theorem dX8_holds_9 : decode cX8_holds 9 = .ok (.if_icmp .ne 7, 3) := by decide +kernel
theorem dX8_holds_12 : decode cX8_holds 12 = .ok (.iconst 1, 1) := by decide +kernel
theorem dX8_holds_13 : decode cX8_holds 13 = .ok (.goto 4, 3) := by decide +kernel
theorem dX8_holds_16 : decode cX8_holds 16 = .ok (.iconst 0, 1) := by decide +kernel
theorem dX8_holds_17 : decode cX8_holds 17 = .ok (.ireturn, 1) := by decide +kernel
theorem dX8_chosenAt_0 : decode cX8_chosenAt 0 = .ok (.iload_n 1, 1) := by decide +kernel
theorem dX8_chosenAt_1 : decode cX8_chosenAt 1 = .ok (.ifCond .lt 25, 3) := by decide +kernel
theorem dX8_chosenAt_4 : decode cX8_chosenAt 4 = .ok (.iload_n 1, 1) := by decide +kernel
theorem dX8_chosenAt_5 : decode cX8_chosenAt 5 = .ok (.aload_n 0, 1) := by decide +kernel
theorem dX8_chosenAt_6 : decode cX8_chosenAt 6 = .ok (.getfield 67, 3) := by decide +kernel
theorem dX8_chosenAt_9 : decode cX8_chosenAt 9 = .ok (.if_icmp .ge 17, 3) := by decide +kernel
theorem dX8_chosenAt_12 : decode cX8_chosenAt 12 = .ok (.iload_n 1, 1) := by decide +kernel
theorem dX8_chosenAt_13 : decode cX8_chosenAt 13 = .ok (.iconst 4, 1) := by decide +kernel
theorem dX8_chosenAt_14 : decode cX8_chosenAt 14 = .ok (.if_icmp .ge 12, 3) := by decide +kernel
theorem dX8_chosenAt_17 : decode cX8_chosenAt 17 = .ok (.aload_n 0, 1) := by decide +kernel
theorem dX8_chosenAt_18 : decode cX8_chosenAt 18 = .ok (.getfield 25, 3) := by decide +kernel
theorem dX8_chosenAt_21 : decode cX8_chosenAt 21 = .ok (.iload_n 1, 1) := by decide +kernel
theorem dX8_chosenAt_22 : decode cX8_chosenAt 22 = .ok (.iaload, 1) := by decide +kernel
theorem dX8_chosenAt_23 : decode cX8_chosenAt 23 = .ok (.goto 5, 3) := by decide +kernel
theorem dX8_chosenAt_26 : decode cX8_chosenAt 26 = .ok (.bipush (-6), 2) := by decide +kernel
theorem dX8_chosenAt_28 : decode cX8_chosenAt 28 = .ok (.ireturn, 1) := by decide +kernel
theorem dX8_clear_0 : decode cX8_clear 0 = .ok (.aload_n 0, 1) := by decide +kernel
theorem dX8_clear_1 : decode cX8_clear 1 = .ok (.iconst 0, 1) := by decide +kernel
theorem dX8_clear_2 : decode cX8_clear 2 = .ok (.putfield 67, 3) := by decide +kernel
theorem dX8_clear_5 : decode cX8_clear 5 = .ok (.aload_n 0, 1) := by decide +kernel
theorem dX8_clear_6 : decode cX8_clear 6 = .ok (.iconst 0, 1) := by decide +kernel
theorem dX8_clear_7 : decode cX8_clear 7 = .ok (.putfield 63, 3) := by decide +kernel
theorem dX8_clear_10 : decode cX8_clear 10 = .ok (.return_, 1) := by decide +kernel
theorem dX8_add_0 : decode cX8_add 0 = .ok (.iload_n 1, 1) := by decide +kernel
theorem dX8_add_1 : decode cX8_add 1 = .ok (.ifCond .lt 49, 3) := by decide +kernel
theorem dX8_add_4 : decode cX8_add 4 = .ok (.iload_n 1, 1) := by decide +kernel
theorem dX8_add_5 : decode cX8_add 5 = .ok (.bipush 8, 2) := by decide +kernel
theorem dX8_add_7 : decode cX8_add 7 = .ok (.if_icmp .ge 43, 3) := by decide +kernel
theorem dX8_add_10 : decode cX8_add 10 = .ok (.aload_n 0, 1) := by decide +kernel
theorem dX8_add_11 : decode cX8_add 11 = .ok (.getfield 67, 3) := by decide +kernel
theorem dX8_add_14 : decode cX8_add 14 = .ok (.iconst 4, 1) := by decide +kernel
theorem dX8_add_15 : decode cX8_add 15 = .ok (.if_icmp .ge 35, 3) := by decide +kernel
theorem dX8_add_18 : decode cX8_add 18 = .ok (.aload_n 0, 1) := by decide +kernel
theorem dX8_add_19 : decode cX8_add 19 = .ok (.getfield 25, 3) := by decide +kernel
theorem dX8_add_22 : decode cX8_add 22 = .ok (.aload_n 0, 1) := by decide +kernel
theorem dX8_add_23 : decode cX8_add 23 = .ok (.getfield 67, 3) := by decide +kernel
theorem dX8_add_26 : decode cX8_add 26 = .ok (.iload_n 1, 1) := by decide +kernel
theorem dX8_add_27 : decode cX8_add 27 = .ok (.iastore, 1) := by decide +kernel
theorem dX8_add_28 : decode cX8_add 28 = .ok (.aload_n 0, 1) := by decide +kernel
theorem dX8_add_29 : decode cX8_add 29 = .ok (.dup, 1) := by decide +kernel
theorem dX8_add_30 : decode cX8_add 30 = .ok (.getfield 67, 3) := by decide +kernel
theorem dX8_add_33 : decode cX8_add 33 = .ok (.iconst 1, 1) := by decide +kernel
theorem dX8_add_34 : decode cX8_add 34 = .ok (.iadd, 1) := by decide +kernel
theorem dX8_add_35 : decode cX8_add 35 = .ok (.putfield 67, 3) := by decide +kernel
theorem dX8_add_38 : decode cX8_add 38 = .ok (.aload_n 0, 1) := by decide +kernel
theorem dX8_add_39 : decode cX8_add 39 = .ok (.dup, 1) := by decide +kernel
theorem dX8_add_40 : decode cX8_add 40 = .ok (.getfield 63, 3) := by decide +kernel
theorem dX8_add_43 : decode cX8_add 43 = .ok (.iconst 1, 1) := by decide +kernel
theorem dX8_add_44 : decode cX8_add 44 = .ok (.iload_n 1, 1) := by decide +kernel
theorem dX8_add_45 : decode cX8_add 45 = .ok (.ishl, 1) := by decide +kernel
theorem dX8_add_46 : decode cX8_add 46 = .ok (.ior, 1) := by decide +kernel
theorem dX8_add_47 : decode cX8_add 47 = .ok (.putfield 63, 3) := by decide +kernel
theorem dX8_add_50 : decode cX8_add 50 = .ok (.return_, 1) := by decide +kernel
set_option maxRecDepth 20000 in
theorem ggX8_take_X8_clear : GoodIn wsX8_take wsX8_clear := goodIn_r _ [5, 6, 7, 13, 14, 15, 16, 17, 18, 19] (by decide +kernel) (by decide +kernel)
set_option maxRecDepth 20000 in
theorem gX8_take_X8_clear : GoodIn wsX8_take (wsV RX8 33 RX8 yX8_clear wsX8_clear) := goodIn_app (goodIn_of _ (by decide +kernel)) ggX8_take_X8_clear
set_option maxRecDepth 20000 in
theorem ggX8_take_X8_add : GoodIn wsX8_take wsX8_add := goodIn_r _ [11, 6, 12, 7, 13, 14, 15, 16, 17, 18, 19] (by decide +kernel) (by decide +kernel)
set_option maxRecDepth 20000 in
theorem gX8_take_X8_add : GoodIn wsX8_take (wsV RX8 70 RX8 yX8_add wsX8_add) := goodIn_app (goodIn_of _ (by decide +kernel)) ggX8_take_X8_add
theorem dX8_take_0 : decode cX8_take 0 = .ok (.aload_n 0, 1) := by decide +kernel
theorem dX8_take_1 : decode cX8_take 1 = .ok (.invokevirtual 33, 3) := by decide +kernel
theorem dX8_take_4 : decode cX8_take 4 = .ok (.iconst 0, 1) := by decide +kernel
theorem dX8_take_5 : decode cX8_take 5 = .ok (.istore_n 2, 1) := by decide +kernel
theorem dX8_take_6 : decode cX8_take 6 = .ok (.iload_n 2, 1) := by decide +kernel
theorem dX8_take_7 : decode cX8_take 7 = .ok (.bipush 8, 2) := by decide +kernel
theorem dX8_take_9 : decode cX8_take 9 = .ok (.if_icmp .ge 23, 3) := by decide +kernel
theorem dX8_take_12 : decode cX8_take 12 = .ok (.iload_n 1, 1) := by decide +kernel
theorem dX8_take_13 : decode cX8_take 13 = .ok (.iload_n 2, 1) := by decide +kernel
theorem dX8_take_14 : decode cX8_take 14 = .ok (.ishr, 1) := by decide +kernel
theorem dX8_take_15 : decode cX8_take 15 = .ok (.iconst 1, 1) := by decide +kernel
theorem dX8_take_16 : decode cX8_take 16 = .ok (.iand, 1) := by decide +kernel
theorem dX8_take_17 : decode cX8_take 17 = .ok (.iconst 1, 1) := by decide +kernel
theorem dX8_take_18 : decode cX8_take 18 = .ok (.if_icmp .ne 8, 3) := by decide +kernel
theorem dX8_take_21 : decode cX8_take 21 = .ok (.aload_n 0, 1) := by decide +kernel
theorem dX8_take_22 : decode cX8_take 22 = .ok (.iload_n 2, 1) := by decide +kernel
theorem dX8_take_23 : decode cX8_take 23 = .ok (.invokevirtual 70, 3) := by decide +kernel
theorem dX8_take_26 : decode cX8_take 26 = .ok (.iinc 2 1, 3) := by decide +kernel
theorem dX8_take_29 : decode cX8_take 29 = .ok (.goto (-23), 3) := by decide +kernel
theorem dX8_take_32 : decode cX8_take 32 = .ok (.return_, 1) := by decide +kernel
set_option maxRecDepth 20000 in
theorem ggX8_byHeads_X8_holds : GoodIn wsX8_byHeads wsX8_holds := goodIn_r _ [6, 7, 25, 26, 27, 28, 29, 30, 31] (by decide +kernel) (by decide +kernel)
set_option maxRecDepth 20000 in
theorem gX8_byHeads_X8_holds : GoodIn wsX8_byHeads (wsV RX8 73 RX8 yX8_holds wsX8_holds) := goodIn_app (goodIn_of _ (by decide +kernel)) ggX8_byHeads_X8_holds
set_option maxRecDepth 20000 in
theorem ggX8_byHeads_X3_telling : GoodIn wsX8_byHeads wsX3_telling := goodIn_r _ [12, 13, 14, 15, 16, 17, 11, 18, 19, 32, 33, 34, 35] (by decide +kernel) (by decide +kernel)
set_option maxRecDepth 20000 in
theorem gX8_byHeads_X3_telling : GoodIn wsX8_byHeads (wsV RX8 77 RX3 yX3_telling wsX3_telling) := goodIn_app (goodIn_of _ (by decide +kernel)) ggX8_byHeads_X3_telling
set_option maxRecDepth 20000 in
theorem ggX8_byHeads_X8_add : GoodIn wsX8_byHeads wsX8_add := goodIn_r _ [23, 1, 24, 7, 25, 26, 27, 28, 29, 30, 31] (by decide +kernel) (by decide +kernel)
set_option maxRecDepth 20000 in
theorem gX8_byHeads_X8_add : GoodIn wsX8_byHeads (wsV RX8 70 RX8 yX8_add wsX8_add) := goodIn_app (goodIn_of _ (by decide +kernel)) ggX8_byHeads_X8_add
theorem dX8_byHeads_0 : decode cX8_byHeads 0 = .ok (.aload_n 0, 1) := by decide +kernel
theorem dX8_byHeads_1 : decode cX8_byHeads 1 = .ok (.getfield 67, 3) := by decide +kernel
theorem dX8_byHeads_4 : decode cX8_byHeads 4 = .ok (.istore_n 3, 1) := by decide +kernel
theorem dX8_byHeads_5 : decode cX8_byHeads 5 = .ok (.iload_n 3, 1) := by decide +kernel
theorem dX8_byHeads_6 : decode cX8_byHeads 6 = .ok (.iload_n 2, 1) := by decide +kernel
theorem dX8_byHeads_7 : decode cX8_byHeads 7 = .ok (.if_icmp .ge 74, 3) := by decide +kernel
theorem dX8_byHeads_10 : decode cX8_byHeads 10 = .ok (.bipush (-6), 2) := by decide +kernel
theorem dX8_byHeads_12 : decode cX8_byHeads 12 = .ok (.istore 4, 2) := by decide +kernel
theorem dX8_byHeads_14 : decode cX8_byHeads 14 = .ok (.iconst (-1), 1) := by decide +kernel
theorem dX8_byHeads_15 : decode cX8_byHeads 15 = .ok (.istore 5, 2) := by decide +kernel
theorem dX8_byHeads_17 : decode cX8_byHeads 17 = .ok (.iconst 0, 1) := by decide +kernel
theorem dX8_byHeads_18 : decode cX8_byHeads 18 = .ok (.istore 6, 2) := by decide +kernel
theorem dX8_byHeads_20 : decode cX8_byHeads 20 = .ok (.iload 6, 2) := by decide +kernel
theorem dX8_byHeads_22 : decode cX8_byHeads 22 = .ok (.bipush 8, 2) := by decide +kernel
theorem dX8_byHeads_24 : decode cX8_byHeads 24 = .ok (.if_icmp .ge 45, 3) := by decide +kernel
theorem dX8_byHeads_27 : decode cX8_byHeads 27 = .ok (.aload_n 0, 1) := by decide +kernel
theorem dX8_byHeads_28 : decode cX8_byHeads 28 = .ok (.iload 6, 2) := by decide +kernel
theorem dX8_byHeads_30 : decode cX8_byHeads 30 = .ok (.invokevirtual 73, 3) := by decide +kernel
theorem dX8_byHeads_33 : decode cX8_byHeads 33 = .ok (.ifCond .eq 7, 3) := by decide +kernel
theorem dX8_byHeads_36 : decode cX8_byHeads 36 = .ok (.iconst (-1), 1) := by decide +kernel
theorem dX8_byHeads_37 : decode cX8_byHeads 37 = .ok (.goto 9, 3) := by decide +kernel
theorem dX8_byHeads_40 : decode cX8_byHeads 40 = .ok (.aload_n 1, 1) := by decide +kernel
theorem dX8_byHeads_41 : decode cX8_byHeads 41 = .ok (.iload 6, 2) := by decide +kernel
theorem dX8_byHeads_43 : decode cX8_byHeads 43 = .ok (.invokevirtual 77, 3) := by decide +kernel
theorem dX8_byHeads_46 : decode cX8_byHeads 46 = .ok (.istore 7, 2) := by decide +kernel
theorem dX8_byHeads_48 : decode cX8_byHeads 48 = .ok (.iload 7, 2) := by decide +kernel
theorem dX8_byHeads_50 : decode cX8_byHeads 50 = .ok (.iload 5, 2) := by decide +kernel
theorem dX8_byHeads_52 : decode cX8_byHeads 52 = .ok (.if_icmp .le 11, 3) := by decide +kernel
theorem dX8_byHeads_55 : decode cX8_byHeads 55 = .ok (.iload 7, 2) := by decide +kernel
theorem dX8_byHeads_57 : decode cX8_byHeads 57 = .ok (.istore 5, 2) := by decide +kernel
theorem dX8_byHeads_59 : decode cX8_byHeads 59 = .ok (.iload 6, 2) := by decide +kernel
theorem dX8_byHeads_61 : decode cX8_byHeads 61 = .ok (.istore 4, 2) := by decide +kernel
theorem dX8_byHeads_63 : decode cX8_byHeads 63 = .ok (.iinc 6 1, 3) := by decide +kernel
theorem dX8_byHeads_66 : decode cX8_byHeads 66 = .ok (.goto (-46), 3) := by decide +kernel
theorem dX8_byHeads_69 : decode cX8_byHeads 69 = .ok (.aload_n 0, 1) := by decide +kernel
theorem dX8_byHeads_70 : decode cX8_byHeads 70 = .ok (.iload 4, 2) := by decide +kernel
theorem dX8_byHeads_72 : decode cX8_byHeads 72 = .ok (.invokevirtual 70, 3) := by decide +kernel
theorem dX8_byHeads_75 : decode cX8_byHeads 75 = .ok (.iinc 3 1, 3) := by decide +kernel
theorem dX8_byHeads_78 : decode cX8_byHeads 78 = .ok (.goto (-73), 3) := by decide +kernel
theorem dX8_byHeads_81 : decode cX8_byHeads 81 = .ok (.return_, 1) := by decide +kernel
set_option maxRecDepth 20000 in
theorem ggX8_byWorth_X8_holds : GoodIn wsX8_byWorth wsX8_holds := goodIn_r _ [6, 1, 30, 31, 32, 33, 34, 35, 36] (by decide +kernel) (by decide +kernel)
set_option maxRecDepth 20000 in
theorem gX8_byWorth_X8_holds : GoodIn wsX8_byWorth (wsV RX8 73 RX8 yX8_holds wsX8_holds) := goodIn_app (goodIn_of _ (by decide +kernel)) ggX8_byWorth_X8_holds
set_option maxRecDepth 20000 in
theorem ggX8_byWorth_X3_worthOf : GoodIn wsX8_byWorth wsX3_worthOf := goodIn_r _ [11, 12, 13, 14, 15, 16, 17, 18, 19, 20, 21, 22, 23, 37, 38, 39, 40, 41, 42] (by decide +kernel) (by decide +kernel)
set_option maxRecDepth 20000 in
theorem gX8_byWorth_X3_worthOf : GoodIn wsX8_byWorth (wsV RX8 83 RX3 yX3_worthOf wsX3_worthOf) := goodIn_app (goodIn_of _ (by decide +kernel)) ggX8_byWorth_X3_worthOf
set_option maxRecDepth 20000 in
theorem ggX8_byWorth_X8_add : GoodIn wsX8_byWorth wsX8_add := goodIn_r _ [27, 28, 29, 1, 30, 31, 32, 33, 34, 35, 36] (by decide +kernel) (by decide +kernel)
set_option maxRecDepth 20000 in
theorem gX8_byWorth_X8_add : GoodIn wsX8_byWorth (wsV RX8 70 RX8 yX8_add wsX8_add) := goodIn_app (goodIn_of _ (by decide +kernel)) ggX8_byWorth_X8_add
theorem dX8_byWorth_0 : decode cX8_byWorth 0 = .ok (.iconst 0, 1) := by decide +kernel
theorem dX8_byWorth_1 : decode cX8_byWorth 1 = .ok (.istore_n 3, 1) := by decide +kernel
theorem dX8_byWorth_2 : decode cX8_byWorth 2 = .ok (.iload_n 3, 1) := by decide +kernel
theorem dX8_byWorth_3 : decode cX8_byWorth 3 = .ok (.iload_n 2, 1) := by decide +kernel
theorem dX8_byWorth_4 : decode cX8_byWorth 4 = .ok (.if_icmp .ge 81, 3) := by decide +kernel
theorem dX8_byWorth_7 : decode cX8_byWorth 7 = .ok (.bipush (-6), 2) := by decide +kernel
theorem dX8_byWorth_9 : decode cX8_byWorth 9 = .ok (.istore 4, 2) := by decide +kernel
theorem dX8_byWorth_11 : decode cX8_byWorth 11 = .ok (.iconst (-1), 1) := by decide +kernel
theorem dX8_byWorth_12 : decode cX8_byWorth 12 = .ok (.istore 5, 2) := by decide +kernel
theorem dX8_byWorth_14 : decode cX8_byWorth 14 = .ok (.iconst 0, 1) := by decide +kernel
theorem dX8_byWorth_15 : decode cX8_byWorth 15 = .ok (.istore 6, 2) := by decide +kernel
theorem dX8_byWorth_17 : decode cX8_byWorth 17 = .ok (.iload 6, 2) := by decide +kernel
theorem dX8_byWorth_19 : decode cX8_byWorth 19 = .ok (.bipush 8, 2) := by decide +kernel
theorem dX8_byWorth_21 : decode cX8_byWorth 21 = .ok (.if_icmp .ge 52, 3) := by decide +kernel
theorem dX8_byWorth_24 : decode cX8_byWorth 24 = .ok (.aload_n 0, 1) := by decide +kernel
theorem dX8_byWorth_25 : decode cX8_byWorth 25 = .ok (.iload 6, 2) := by decide +kernel
theorem dX8_byWorth_27 : decode cX8_byWorth 27 = .ok (.invokevirtual 73, 3) := by decide +kernel
theorem dX8_byWorth_30 : decode cX8_byWorth 30 = .ok (.ifCond .eq 7, 3) := by decide +kernel
theorem dX8_byWorth_33 : decode cX8_byWorth 33 = .ok (.iconst (-1), 1) := by decide +kernel
theorem dX8_byWorth_34 : decode cX8_byWorth 34 = .ok (.goto 16, 3) := by decide +kernel
theorem dX8_byWorth_37 : decode cX8_byWorth 37 = .ok (.aload_n 1, 1) := by decide +kernel
theorem dX8_byWorth_38 : decode cX8_byWorth 38 = .ok (.aload_n 0, 1) := by decide +kernel
theorem dX8_byWorth_39 : decode cX8_byWorth 39 = .ok (.getfield 63, 3) := by decide +kernel
theorem dX8_byWorth_42 : decode cX8_byWorth 42 = .ok (.iconst 1, 1) := by decide +kernel
theorem dX8_byWorth_43 : decode cX8_byWorth 43 = .ok (.iload 6, 2) := by decide +kernel
theorem dX8_byWorth_45 : decode cX8_byWorth 45 = .ok (.ishl, 1) := by decide +kernel
theorem dX8_byWorth_46 : decode cX8_byWorth 46 = .ok (.ior, 1) := by decide +kernel
theorem dX8_byWorth_47 : decode cX8_byWorth 47 = .ok (.invokevirtual 83, 3) := by decide +kernel
theorem dX8_byWorth_50 : decode cX8_byWorth 50 = .ok (.istore 7, 2) := by decide +kernel
theorem dX8_byWorth_52 : decode cX8_byWorth 52 = .ok (.iload 7, 2) := by decide +kernel
theorem dX8_byWorth_54 : decode cX8_byWorth 54 = .ok (.iload 5, 2) := by decide +kernel
theorem dX8_byWorth_56 : decode cX8_byWorth 56 = .ok (.if_icmp .le 11, 3) := by decide +kernel
theorem dX8_byWorth_59 : decode cX8_byWorth 59 = .ok (.iload 7, 2) := by decide +kernel
theorem dX8_byWorth_61 : decode cX8_byWorth 61 = .ok (.istore 5, 2) := by decide +kernel
theorem dX8_byWorth_63 : decode cX8_byWorth 63 = .ok (.iload 6, 2) := by decide +kernel
theorem dX8_byWorth_65 : decode cX8_byWorth 65 = .ok (.istore 4, 2) := by decide +kernel
theorem dX8_byWorth_67 : decode cX8_byWorth 67 = .ok (.iinc 6 1, 3) := by decide +kernel
theorem dX8_byWorth_70 : decode cX8_byWorth 70 = .ok (.goto (-53), 3) := by decide +kernel
theorem dX8_byWorth_73 : decode cX8_byWorth 73 = .ok (.aload_n 0, 1) := by decide +kernel
theorem dX8_byWorth_74 : decode cX8_byWorth 74 = .ok (.iload 4, 2) := by decide +kernel
theorem dX8_byWorth_76 : decode cX8_byWorth 76 = .ok (.invokevirtual 70, 3) := by decide +kernel
theorem dX8_byWorth_79 : decode cX8_byWorth 79 = .ok (.iinc 3 1, 3) := by decide +kernel
theorem dX8_byWorth_82 : decode cX8_byWorth 82 = .ok (.goto (-80), 3) := by decide +kernel
theorem dX8_byWorth_85 : decode cX8_byWorth 85 = .ok (.return_, 1) := by decide +kernel
set_option maxRecDepth 20000 in
theorem ggX8_byLoads_X8_clear : GoodIn wsX8_byLoads wsX8_clear := goodIn_r _ [7, 8, 2, 62, 63, 64, 65, 66, 67, 68] (by decide +kernel) (by decide +kernel)
set_option maxRecDepth 20000 in
theorem gX8_byLoads_X8_clear : GoodIn wsX8_byLoads (wsV RX8 33 RX8 yX8_clear wsX8_clear) := goodIn_app (goodIn_of _ (by decide +kernel)) ggX8_byLoads_X8_clear
set_option maxRecDepth 20000 in
theorem ggX8_byLoads_X1_begin : GoodIn wsX8_byLoads wsX1_begin := goodIn_r _ [14, 15, 16, 69, 70, 71, 72, 73, 74] (by decide +kernel) (by decide +kernel)
set_option maxRecDepth 20000 in
theorem gX8_byLoads_X1_begin_u86X5 : GoodIn wsX8_byLoads (va_wsU RX8 86 RX5 "FairSeats$Fractions" ⟨"FairSeats$Loads", "begin", "(I)V"⟩ yX1_begin wsX1_begin) := goodIn_app (goodIn_of _ (by decide +kernel)) ggX8_byLoads_X1_begin
set_option maxRecDepth 20000 in
theorem ggX8_byLoads_X5_lightest : GoodIn wsX8_byLoads wsX5_lightest := goodIn_r _ [21, 22, 23, 24, 25, 26, 27, 28, 29, 30, 31, 32, 33, 34, 35, 36, 37, 38, 39, 13, 40, 41, 15, 42, 43, 69, 70, 71, 72, 73, 74, 75, 76, 77, 78] (by decide +kernel) (by decide +kernel)
set_option maxRecDepth 20000 in
theorem gX8_byLoads_X5_lightest : GoodIn wsX8_byLoads (wsV RX8 89 RX5 yX5_lightest wsX5_lightest) := goodIn_app (goodIn_of _ (by decide +kernel)) ggX8_byLoads_X5_lightest
set_option maxRecDepth 20000 in
theorem ggX8_byLoads_X5_bear : GoodIn wsX8_byLoads wsX5_bear := goodIn_r _ [47, 22, 23, 48, 49, 50, 24, 25, 26, 27, 28, 29, 30, 31, 32, 33, 34, 35, 36, 37, 38, 39, 13, 40, 41, 15, 42, 43, 51, 52, 53, 54, 55, 16, 56, 69, 70, 71, 72, 73, 74, 75, 76, 77, 78] (by decide +kernel) (by decide +kernel)
set_option maxRecDepth 20000 in
theorem gX8_byLoads_X5_bear : GoodIn wsX8_byLoads (wsV RX8 93 RX5 yX5_bear wsX5_bear) := goodIn_app (goodIn_of _ (by decide +kernel)) ggX8_byLoads_X5_bear
set_option maxRecDepth 20000 in
theorem ggX8_byLoads_X8_add : GoodIn wsX8_byLoads wsX8_add := goodIn_r _ [60, 8, 61, 2, 62, 63, 64, 65, 66, 67, 68] (by decide +kernel) (by decide +kernel)
set_option maxRecDepth 20000 in
theorem gX8_byLoads_X8_add : GoodIn wsX8_byLoads (wsV RX8 70 RX8 yX8_add wsX8_add) := goodIn_app (goodIn_of _ (by decide +kernel)) ggX8_byLoads_X8_add
theorem dX8_byLoads_0 : decode cX8_byLoads 0 = .ok (.aload_n 0, 1) := by decide +kernel
theorem dX8_byLoads_1 : decode cX8_byLoads 1 = .ok (.invokevirtual 33, 3) := by decide +kernel
theorem dX8_byLoads_4 : decode cX8_byLoads 4 = .ok (.aload_n 0, 1) := by decide +kernel
theorem dX8_byLoads_5 : decode cX8_byLoads 5 = .ok (.getfield 12, 3) := by decide +kernel
theorem dX8_byLoads_8 : decode cX8_byLoads 8 = .ok (.iconst 0, 1) := by decide +kernel
theorem dX8_byLoads_9 : decode cX8_byLoads 9 = .ok (.invokevirtual 86, 3) := by decide +kernel
theorem dX8_byLoads_12 : decode cX8_byLoads 12 = .ok (.iconst 0, 1) := by decide +kernel
theorem dX8_byLoads_13 : decode cX8_byLoads 13 = .ok (.istore_n 3, 1) := by decide +kernel
theorem dX8_byLoads_14 : decode cX8_byLoads 14 = .ok (.iload_n 3, 1) := by decide +kernel
theorem dX8_byLoads_15 : decode cX8_byLoads 15 = .ok (.iload_n 2, 1) := by decide +kernel
theorem dX8_byLoads_16 : decode cX8_byLoads 16 = .ok (.if_icmp .ge 39, 3) := by decide +kernel
theorem dX8_byLoads_19 : decode cX8_byLoads 19 = .ok (.aload_n 0, 1) := by decide +kernel
theorem dX8_byLoads_20 : decode cX8_byLoads 20 = .ok (.getfield 12, 3) := by decide +kernel
theorem dX8_byLoads_23 : decode cX8_byLoads 23 = .ok (.aload_n 1, 1) := by decide +kernel
theorem dX8_byLoads_24 : decode cX8_byLoads 24 = .ok (.aload_n 0, 1) := by decide +kernel
theorem dX8_byLoads_25 : decode cX8_byLoads 25 = .ok (.getfield 63, 3) := by decide +kernel
theorem dX8_byLoads_28 : decode cX8_byLoads 28 = .ok (.invokevirtual 89, 3) := by decide +kernel
theorem dX8_byLoads_31 : decode cX8_byLoads 31 = .ok (.istore 4, 2) := by decide +kernel
theorem dX8_byLoads_33 : decode cX8_byLoads 33 = .ok (.aload_n 0, 1) := by decide +kernel
theorem dX8_byLoads_34 : decode cX8_byLoads 34 = .ok (.getfield 12, 3) := by decide +kernel
theorem dX8_byLoads_37 : decode cX8_byLoads 37 = .ok (.aload_n 1, 1) := by decide +kernel
theorem dX8_byLoads_38 : decode cX8_byLoads 38 = .ok (.iload 4, 2) := by decide +kernel
theorem dX8_byLoads_40 : decode cX8_byLoads 40 = .ok (.invokevirtual 93, 3) := by decide +kernel
theorem dX8_byLoads_43 : decode cX8_byLoads 43 = .ok (.aload_n 0, 1) := by decide +kernel
theorem dX8_byLoads_44 : decode cX8_byLoads 44 = .ok (.iload 4, 2) := by decide +kernel
theorem dX8_byLoads_46 : decode cX8_byLoads 46 = .ok (.invokevirtual 70, 3) := by decide +kernel
theorem dX8_byLoads_49 : decode cX8_byLoads 49 = .ok (.iinc 3 1, 3) := by decide +kernel
theorem dX8_byLoads_52 : decode cX8_byLoads 52 = .ok (.goto (-38), 3) := by decide +kernel
theorem dX8_byLoads_55 : decode cX8_byLoads 55 = .ok (.return_, 1) := by decide +kernel
set_option maxRecDepth 20000 in
theorem ggX8_byPurses_X8_clear : GoodIn wsX8_byPurses wsX8_clear := goodIn_r _ [8, 9, 3, 87, 88, 89, 90, 91, 92, 93] (by decide +kernel) (by decide +kernel)
set_option maxRecDepth 20000 in
theorem gX8_byPurses_X8_clear : GoodIn wsX8_byPurses (wsV RX8 33 RX8 yX8_clear wsX8_clear) := goodIn_app (goodIn_of _ (by decide +kernel)) ggX8_byPurses_X8_clear
set_option maxRecDepth 20000 in
theorem ggX8_byPurses_X1_begin : GoodIn wsX8_byPurses wsX1_begin := goodIn_r _ [15, 16, 17, 94, 95, 96, 97, 98, 99] (by decide +kernel) (by decide +kernel)
set_option maxRecDepth 20000 in
theorem gX8_byPurses_X1_begin_u96X6 : GoodIn wsX8_byPurses (va_wsU RX8 96 RX6 "FairSeats$Fractions" ⟨"FairSeats$Purses", "begin", "(I)V"⟩ yX1_begin wsX1_begin) := goodIn_app (goodIn_of _ (by decide +kernel)) ggX8_byPurses_X1_begin
set_option maxRecDepth 20000 in
theorem ggX8_byPurses_X6_cheapest : GoodIn wsX8_byPurses wsX6_cheapest := goodIn_r _ [22, 23, 24, 25, 26, 27, 28, 29, 30, 31, 32, 33, 34, 35, 36, 37, 38, 39, 40, 41, 42, 43, 44, 45, 46, 14, 47, 48, 16, 49, 50, 51, 52, 53, 21, 54, 55, 56, 57, 58, 59, 94, 95, 96, 97, 98, 99, 100, 101, 102, 103] (by decide +kernel) (by decide +kernel)
set_option maxRecDepth 20000 in
theorem gX8_byPurses_X6_cheapest : GoodIn wsX8_byPurses (wsV RX8 100 RX6 yX6_cheapest wsX6_cheapest) := goodIn_app (goodIn_of _ (by decide +kernel)) ggX8_byPurses_X6_cheapest
set_option maxRecDepth 20000 in
theorem ggX8_byPurses_X6_pay : GoodIn wsX8_byPurses wsX6_pay := goodIn_r _ [63, 26, 55, 56, 57, 25, 64, 65, 66, 67, 51, 52, 53, 21, 54, 23, 24, 58, 34, 35, 36, 30, 37, 32, 33, 38, 39, 40, 41, 42, 27, 28, 29, 31, 59, 68, 69, 70, 71, 14, 72, 16, 17, 96, 97, 98, 99, 100, 101, 102, 103, 94, 95] (by decide +kernel) (by decide +kernel)
set_option maxRecDepth 20000 in
theorem gX8_byPurses_X6_pay : GoodIn wsX8_byPurses (wsV RX8 103 RX6 yX6_pay wsX6_pay) := goodIn_app (goodIn_of _ (by decide +kernel)) ggX8_byPurses_X6_pay
set_option maxRecDepth 20000 in
theorem ggX8_byPurses_X8_add : GoodIn wsX8_byPurses wsX8_add := goodIn_r _ [76, 9, 77, 3, 87, 88, 89, 90, 91, 92, 93] (by decide +kernel) (by decide +kernel)
set_option maxRecDepth 20000 in
theorem gX8_byPurses_X8_add : GoodIn wsX8_byPurses (wsV RX8 70 RX8 yX8_add wsX8_add) := goodIn_app (goodIn_of _ (by decide +kernel)) ggX8_byPurses_X8_add
set_option maxRecDepth 20000 in
theorem ggX8_byPurses_X8_byHeads : GoodIn wsX8_byPurses wsX8_byHeads := goodIn_r _ [81, 9, 82, 83, 84, 7, 85, 3, 86, 35, 36, 30, 37, 32, 33, 38, 39, 40, 41, 42, 73, 74, 75, 76, 77, 87, 88, 89, 90, 91, 92, 93, 100, 101, 102, 103] (by decide +kernel) (by decide +kernel)
set_option maxRecDepth 20000 in
theorem gX8_byPurses_X8_byHeads : GoodIn wsX8_byPurses (wsV RX8 36 RX8 yX8_byHeads wsX8_byHeads) := goodIn_app (goodIn_of _ (by decide +kernel)) ggX8_byPurses_X8_byHeads
theorem dX8_byPurses_0 : decode cX8_byPurses 0 = .ok (.aload_n 0, 1) := by decide +kernel
theorem dX8_byPurses_1 : decode cX8_byPurses 1 = .ok (.invokevirtual 33, 3) := by decide +kernel
theorem dX8_byPurses_4 : decode cX8_byPurses 4 = .ok (.aload_n 0, 1) := by decide +kernel
theorem dX8_byPurses_5 : decode cX8_byPurses 5 = .ok (.getfield 21, 3) := by decide +kernel
theorem dX8_byPurses_8 : decode cX8_byPurses 8 = .ok (.iload_n 2, 1) := by decide +kernel
theorem dX8_byPurses_9 : decode cX8_byPurses 9 = .ok (.invokevirtual 96, 3) := by decide +kernel
theorem dX8_byPurses_12 : decode cX8_byPurses 12 = .ok (.aload_n 0, 1) := by decide +kernel
theorem dX8_byPurses_13 : decode cX8_byPurses 13 = .ok (.iconst 0, 1) := by decide +kernel
theorem dX8_byPurses_14 : decode cX8_byPurses 14 = .ok (.putfield 97, 3) := by decide +kernel
theorem dX8_byPurses_17 : decode cX8_byPurses 17 = .ok (.iconst 0, 1) := by decide +kernel
theorem dX8_byPurses_18 : decode cX8_byPurses 18 = .ok (.istore 4, 2) := by decide +kernel
theorem dX8_byPurses_20 : decode cX8_byPurses 20 = .ok (.iload 4, 2) := by decide +kernel
theorem dX8_byPurses_22 : decode cX8_byPurses 22 = .ok (.iload_n 3, 1) := by decide +kernel
theorem dX8_byPurses_23 : decode cX8_byPurses 23 = .ok (.if_icmp .ge 59, 3) := by decide +kernel
theorem dX8_byPurses_26 : decode cX8_byPurses 26 = .ok (.aload_n 0, 1) := by decide +kernel
theorem dX8_byPurses_27 : decode cX8_byPurses 27 = .ok (.getfield 21, 3) := by decide +kernel
theorem dX8_byPurses_30 : decode cX8_byPurses 30 = .ok (.aload_n 1, 1) := by decide +kernel
theorem dX8_byPurses_31 : decode cX8_byPurses 31 = .ok (.aload_n 0, 1) := by decide +kernel
theorem dX8_byPurses_32 : decode cX8_byPurses 32 = .ok (.getfield 63, 3) := by decide +kernel
theorem dX8_byPurses_35 : decode cX8_byPurses 35 = .ok (.invokevirtual 100, 3) := by decide +kernel
theorem dX8_byPurses_38 : decode cX8_byPurses 38 = .ok (.istore 5, 2) := by decide +kernel
theorem dX8_byPurses_40 : decode cX8_byPurses 40 = .ok (.iload 5, 2) := by decide +kernel
theorem dX8_byPurses_42 : decode cX8_byPurses 42 = .ok (.bipush (-6), 2) := by decide +kernel
theorem dX8_byPurses_44 : decode cX8_byPurses 44 = .ok (.if_icmp .ne 6, 3) := by decide +kernel
theorem dX8_byPurses_47 : decode cX8_byPurses 47 = .ok (.goto 35, 3) := by decide +kernel
theorem dX8_byPurses_50 : decode cX8_byPurses 50 = .ok (.aload_n 0, 1) := by decide +kernel
theorem dX8_byPurses_51 : decode cX8_byPurses 51 = .ok (.getfield 21, 3) := by decide +kernel
theorem dX8_byPurses_54 : decode cX8_byPurses 54 = .ok (.aload_n 1, 1) := by decide +kernel
theorem dX8_byPurses_55 : decode cX8_byPurses 55 = .ok (.iload 5, 2) := by decide +kernel
theorem dX8_byPurses_57 : decode cX8_byPurses 57 = .ok (.invokevirtual 103, 3) := by decide +kernel
theorem dX8_byPurses_60 : decode cX8_byPurses 60 = .ok (.aload_n 0, 1) := by decide +kernel
theorem dX8_byPurses_61 : decode cX8_byPurses 61 = .ok (.iload 5, 2) := by decide +kernel
theorem dX8_byPurses_63 : decode cX8_byPurses 63 = .ok (.invokevirtual 70, 3) := by decide +kernel
theorem dX8_byPurses_66 : decode cX8_byPurses 66 = .ok (.aload_n 0, 1) := by decide +kernel
theorem dX8_byPurses_67 : decode cX8_byPurses 67 = .ok (.dup, 1) := by decide +kernel
theorem dX8_byPurses_68 : decode cX8_byPurses 68 = .ok (.getfield 97, 3) := by decide +kernel
theorem dX8_byPurses_71 : decode cX8_byPurses 71 = .ok (.iconst 1, 1) := by decide +kernel
theorem dX8_byPurses_72 : decode cX8_byPurses 72 = .ok (.iadd, 1) := by decide +kernel
theorem dX8_byPurses_73 : decode cX8_byPurses 73 = .ok (.putfield 97, 3) := by decide +kernel
theorem dX8_byPurses_76 : decode cX8_byPurses 76 = .ok (.iinc 4 1, 3) := by decide +kernel
theorem dX8_byPurses_79 : decode cX8_byPurses 79 = .ok (.goto (-59), 3) := by decide +kernel
theorem dX8_byPurses_82 : decode cX8_byPurses 82 = .ok (.aload_n 0, 1) := by decide +kernel
theorem dX8_byPurses_83 : decode cX8_byPurses 83 = .ok (.aload_n 1, 1) := by decide +kernel
theorem dX8_byPurses_84 : decode cX8_byPurses 84 = .ok (.iload_n 3, 1) := by decide +kernel
theorem dX8_byPurses_85 : decode cX8_byPurses 85 = .ok (.invokevirtual 36, 3) := by decide +kernel
theorem dX8_byPurses_88 : decode cX8_byPurses 88 = .ok (.return_, 1) := by decide +kernel
set_option maxRecDepth 20000 in
theorem ggX8_bySwaps_X8_byWorth : GoodIn wsX8_bySwaps wsX8_byWorth := goodIn_r _ [6, 1, 7, 8, 9, 5, 10, 11, 12, 13, 14, 15, 16, 17, 18, 19, 20, 21, 22, 23, 24, 25, 26, 27, 28, 29, 30, 31, 32, 33, 45, 46, 47, 48, 49, 50, 51, 52, 53, 54, 55, 56, 57] (by decide +kernel) (by decide +kernel)
set_option maxRecDepth 20000 in
theorem gX8_bySwaps_X8_byWorth : GoodIn wsX8_bySwaps (wsV RX8 40 RX8 yX8_byWorth wsX8_byWorth) := goodIn_app (goodIn_of _ (by decide +kernel)) ggX8_bySwaps_X8_byWorth
set_option maxRecDepth 20000 in
theorem ggX8_bySwaps_X8_bestSwap : GoodIn wsX8_bySwaps wsX8_bestSwap := goodIn_r _ [36, 11, 12, 13, 14, 15, 16, 17, 18, 19, 20, 21, 22, 23, 24, 25, 26, 27, 52, 53, 54, 55, 56, 57] (by decide +kernel) (by decide +kernel)
set_option maxRecDepth 20000 in
theorem gX8_bySwaps_X8_bestSwap : GoodIn wsX8_bySwaps (va_wsS RX8 106 yX8_bestSwap wsX8_bestSwap) := goodIn_app (goodIn_of _ (by decide +kernel)) ggX8_bySwaps_X8_bestSwap
set_option maxRecDepth 20000 in
theorem ggX8_bySwaps_X8_take : GoodIn wsX8_bySwaps wsX8_take := goodIn_r _ [40, 41, 42, 43, 5, 44, 32, 1, 28, 29, 30, 31, 33, 45, 46, 47, 48, 49, 50, 51] (by decide +kernel) (by decide +kernel)
set_option maxRecDepth 20000 in
theorem gX8_bySwaps_X8_take : GoodIn wsX8_bySwaps (wsV RX8 56 RX8 yX8_take wsX8_take) := goodIn_app (goodIn_of _ (by decide +kernel)) ggX8_bySwaps_X8_take
theorem dX8_bySwaps_0 : decode cX8_bySwaps 0 = .ok (.aload_n 0, 1) := by decide +kernel
theorem dX8_bySwaps_1 : decode cX8_bySwaps 1 = .ok (.aload_n 1, 1) := by decide +kernel
theorem dX8_bySwaps_2 : decode cX8_bySwaps 2 = .ok (.iload_n 2, 1) := by decide +kernel
theorem dX8_bySwaps_3 : decode cX8_bySwaps 3 = .ok (.invokevirtual 40, 3) := by decide +kernel
theorem dX8_bySwaps_6 : decode cX8_bySwaps 6 = .ok (.aload_n 0, 1) := by decide +kernel
theorem dX8_bySwaps_7 : decode cX8_bySwaps 7 = .ok (.getfield 63, 3) := by decide +kernel
theorem dX8_bySwaps_10 : decode cX8_bySwaps 10 = .ok (.istore_n 3, 1) := by decide +kernel
theorem dX8_bySwaps_11 : decode cX8_bySwaps 11 = .ok (.iconst 0, 1) := by decide +kernel
theorem dX8_bySwaps_12 : decode cX8_bySwaps 12 = .ok (.istore 4, 2) := by decide +kernel
theorem dX8_bySwaps_14 : decode cX8_bySwaps 14 = .ok (.iload 4, 2) := by decide +kernel
theorem dX8_bySwaps_16 : decode cX8_bySwaps 16 = .ok (.bipush 70, 2) := by decide +kernel
theorem dX8_bySwaps_18 : decode cX8_bySwaps 18 = .ok (.if_icmp .ge 28, 3) := by decide +kernel
theorem dX8_bySwaps_21 : decode cX8_bySwaps 21 = .ok (.aload_n 1, 1) := by decide +kernel
theorem dX8_bySwaps_22 : decode cX8_bySwaps 22 = .ok (.iload_n 3, 1) := by decide +kernel
theorem dX8_bySwaps_23 : decode cX8_bySwaps 23 = .ok (.invokestatic 106, 3) := by decide +kernel
theorem dX8_bySwaps_26 : decode cX8_bySwaps 26 = .ok (.istore 5, 2) := by decide +kernel
theorem dX8_bySwaps_28 : decode cX8_bySwaps 28 = .ok (.iload 5, 2) := by decide +kernel
theorem dX8_bySwaps_30 : decode cX8_bySwaps 30 = .ok (.iload_n 3, 1) := by decide +kernel
theorem dX8_bySwaps_31 : decode cX8_bySwaps 31 = .ok (.if_icmp .ne 6, 3) := by decide +kernel
theorem dX8_bySwaps_34 : decode cX8_bySwaps 34 = .ok (.goto 12, 3) := by decide +kernel
theorem dX8_bySwaps_37 : decode cX8_bySwaps 37 = .ok (.iload 5, 2) := by decide +kernel
theorem dX8_bySwaps_39 : decode cX8_bySwaps 39 = .ok (.istore_n 3, 1) := by decide +kernel
theorem dX8_bySwaps_40 : decode cX8_bySwaps 40 = .ok (.iinc 4 1, 3) := by decide +kernel
theorem dX8_bySwaps_43 : decode cX8_bySwaps 43 = .ok (.goto (-29), 3) := by decide +kernel
theorem dX8_bySwaps_46 : decode cX8_bySwaps 46 = .ok (.aload_n 0, 1) := by decide +kernel
theorem dX8_bySwaps_47 : decode cX8_bySwaps 47 = .ok (.iload_n 3, 1) := by decide +kernel
theorem dX8_bySwaps_48 : decode cX8_bySwaps 48 = .ok (.invokevirtual 56, 3) := by decide +kernel
theorem dX8_bySwaps_51 : decode cX8_bySwaps 51 = .ok (.return_, 1) := by decide +kernel
set_option maxRecDepth 20000 in
theorem ggX8_bestSwap_X3_worthOf : GoodIn wsX8_bestSwap wsX3_worthOf := goodIn_r _ [5, 6, 7, 8, 9, 10, 11, 12, 13, 14, 15, 16, 17, 18, 19, 20, 21, 22, 23] (by decide +kernel) (by decide +kernel)
set_option maxRecDepth 20000 in
theorem gX8_bestSwap_X3_worthOf : GoodIn wsX8_bestSwap (wsV RX8 83 RX3 yX3_worthOf wsX3_worthOf) := goodIn_app (goodIn_of _ (by decide +kernel)) ggX8_bestSwap_X3_worthOf
theorem dX8_bestSwap_0 : decode cX8_bestSwap 0 = .ok (.iload_n 1, 1) := by decide +kernel
theorem dX8_bestSwap_1 : decode cX8_bestSwap 1 = .ok (.istore_n 2, 1) := by decide +kernel
theorem dX8_bestSwap_2 : decode cX8_bestSwap 2 = .ok (.aload_n 0, 1) := by decide +kernel
theorem dX8_bestSwap_3 : decode cX8_bestSwap 3 = .ok (.iload_n 1, 1) := by decide +kernel
theorem dX8_bestSwap_4 : decode cX8_bestSwap 4 = .ok (.invokevirtual 83, 3) := by decide +kernel
theorem dX8_bestSwap_7 : decode cX8_bestSwap 7 = .ok (.istore_n 3, 1) := by decide +kernel
theorem dX8_bestSwap_8 : decode cX8_bestSwap 8 = .ok (.iconst 0, 1) := by decide +kernel
theorem dX8_bestSwap_9 : decode cX8_bestSwap 9 = .ok (.istore 4, 2) := by decide +kernel
theorem dX8_bestSwap_11 : decode cX8_bestSwap 11 = .ok (.iload 4, 2) := by decide +kernel
theorem dX8_bestSwap_13 : decode cX8_bestSwap 13 = .ok (.bipush 8, 2) := by decide +kernel
theorem dX8_bestSwap_15 : decode cX8_bestSwap 15 = .ok (.if_icmp .ge 82, 3) := by decide +kernel
theorem dX8_bestSwap_18 : decode cX8_bestSwap 18 = .ok (.iconst 0, 1) := by decide +kernel
theorem dX8_bestSwap_19 : decode cX8_bestSwap 19 = .ok (.istore 5, 2) := by decide +kernel
theorem dX8_bestSwap_21 : decode cX8_bestSwap 21 = .ok (.iload 5, 2) := by decide +kernel
theorem dX8_bestSwap_23 : decode cX8_bestSwap 23 = .ok (.bipush 8, 2) := by decide +kernel
theorem dX8_bestSwap_25 : decode cX8_bestSwap 25 = .ok (.if_icmp .ge 66, 3) := by decide +kernel
theorem dX8_bestSwap_28 : decode cX8_bestSwap 28 = .ok (.iload_n 1, 1) := by decide +kernel
theorem dX8_bestSwap_29 : decode cX8_bestSwap 29 = .ok (.iload 4, 2) := by decide +kernel
theorem dX8_bestSwap_31 : decode cX8_bestSwap 31 = .ok (.ishr, 1) := by decide +kernel
theorem dX8_bestSwap_32 : decode cX8_bestSwap 32 = .ok (.iconst 1, 1) := by decide +kernel
theorem dX8_bestSwap_33 : decode cX8_bestSwap 33 = .ok (.iand, 1) := by decide +kernel
theorem dX8_bestSwap_34 : decode cX8_bestSwap 34 = .ok (.ifCond .eq 51, 3) := by decide +kernel
theorem dX8_bestSwap_37 : decode cX8_bestSwap 37 = .ok (.iload_n 1, 1) := by decide +kernel
theorem dX8_bestSwap_38 : decode cX8_bestSwap 38 = .ok (.iload 5, 2) := by decide +kernel
theorem dX8_bestSwap_40 : decode cX8_bestSwap 40 = .ok (.ishr, 1) := by decide +kernel
theorem dX8_bestSwap_41 : decode cX8_bestSwap 41 = .ok (.iconst 1, 1) := by decide +kernel
theorem dX8_bestSwap_42 : decode cX8_bestSwap 42 = .ok (.iand, 1) := by decide +kernel
theorem dX8_bestSwap_43 : decode cX8_bestSwap 43 = .ok (.iconst 1, 1) := by decide +kernel
theorem dX8_bestSwap_44 : decode cX8_bestSwap 44 = .ok (.if_icmp .ne 6, 3) := by decide +kernel
theorem dX8_bestSwap_47 : decode cX8_bestSwap 47 = .ok (.goto 38, 3) := by decide +kernel
theorem dX8_bestSwap_50 : decode cX8_bestSwap 50 = .ok (.iload_n 1, 1) := by decide +kernel
theorem dX8_bestSwap_51 : decode cX8_bestSwap 51 = .ok (.iconst 1, 1) := by decide +kernel
theorem dX8_bestSwap_52 : decode cX8_bestSwap 52 = .ok (.iload 4, 2) := by decide +kernel
theorem dX8_bestSwap_54 : decode cX8_bestSwap 54 = .ok (.ishl, 1) := by decide +kernel
theorem dX8_bestSwap_55 : decode cX8_bestSwap 55 = .ok (.iconst (-1), 1) := by decide +kernel
theorem dX8_bestSwap_56 : decode cX8_bestSwap 56 = .ok (.ixor, 1) := by decide +kernel
theorem dX8_bestSwap_57 : decode cX8_bestSwap 57 = .ok (.iand, 1) := by decide +kernel
theorem dX8_bestSwap_58 : decode cX8_bestSwap 58 = .ok (.iconst 1, 1) := by decide +kernel
theorem dX8_bestSwap_59 : decode cX8_bestSwap 59 = .ok (.iload 5, 2) := by decide +kernel
theorem dX8_bestSwap_61 : decode cX8_bestSwap 61 = .ok (.ishl, 1) := by decide +kernel
theorem dX8_bestSwap_62 : decode cX8_bestSwap 62 = .ok (.ior, 1) := by decide +kernel
theorem dX8_bestSwap_63 : decode cX8_bestSwap 63 = .ok (.istore 6, 2) := by decide +kernel
theorem dX8_bestSwap_65 : decode cX8_bestSwap 65 = .ok (.aload_n 0, 1) := by decide +kernel
theorem dX8_bestSwap_66 : decode cX8_bestSwap 66 = .ok (.iload 6, 2) := by decide +kernel
theorem dX8_bestSwap_68 : decode cX8_bestSwap 68 = .ok (.invokevirtual 83, 3) := by decide +kernel
theorem dX8_bestSwap_71 : decode cX8_bestSwap 71 = .ok (.istore 7, 2) := by decide +kernel
theorem dX8_bestSwap_73 : decode cX8_bestSwap 73 = .ok (.iload 7, 2) := by decide +kernel
theorem dX8_bestSwap_75 : decode cX8_bestSwap 75 = .ok (.iload_n 3, 1) := by decide +kernel
theorem dX8_bestSwap_76 : decode cX8_bestSwap 76 = .ok (.if_icmp .le 9, 3) := by decide +kernel
theorem dX8_bestSwap_79 : decode cX8_bestSwap 79 = .ok (.iload 7, 2) := by decide +kernel
theorem dX8_bestSwap_81 : decode cX8_bestSwap 81 = .ok (.istore_n 3, 1) := by decide +kernel
theorem dX8_bestSwap_82 : decode cX8_bestSwap 82 = .ok (.iload 6, 2) := by decide +kernel
theorem dX8_bestSwap_84 : decode cX8_bestSwap 84 = .ok (.istore_n 2, 1) := by decide +kernel
theorem dX8_bestSwap_85 : decode cX8_bestSwap 85 = .ok (.iinc 5 1, 3) := by decide +kernel
theorem dX8_bestSwap_88 : decode cX8_bestSwap 88 = .ok (.goto (-67), 3) := by decide +kernel
theorem dX8_bestSwap_91 : decode cX8_bestSwap 91 = .ok (.iinc 4 1, 3) := by decide +kernel
theorem dX8_bestSwap_94 : decode cX8_bestSwap 94 = .ok (.goto (-83), 3) := by decide +kernel
theorem dX8_bestSwap_97 : decode cX8_bestSwap 97 = .ok (.iload_n 2, 1) := by decide +kernel
theorem dX8_bestSwap_98 : decode cX8_bestSwap 98 = .ok (.ireturn, 1) := by decide +kernel
set_option maxRecDepth 20000 in
theorem ggX9_init_X9_addUp : GoodIn wsX9_init wsX9_addUp := goodIn_r _ [11, 6, 5, 12, 13] (by decide +kernel) (by decide +kernel)
set_option maxRecDepth 20000 in
theorem gX9_init_X9_addUp : GoodIn wsX9_init (wsV RX9 18 RX9 yX9_addUp wsX9_addUp) := goodIn_app (goodIn_of _ (by decide +kernel)) ggX9_init_X9_addUp
theorem dX9_init_0 : decode cX9_init 0 = .ok (.aload_n 0, 1) := by decide +kernel
theorem dX9_init_1 : decode cX9_init 1 = .ok (.invokespecial 3, 3) := by decide +kernel
theorem dX9_init_4 : decode cX9_init 4 = .ok (.aload_n 0, 1) := by decide +kernel
theorem dX9_init_5 : decode cX9_init 5 = .ok (.iconst 4, 1) := by decide +kernel
theorem dX9_init_6 : decode cX9_init 6 = .ok (.newarray .int, 2) := by decide +kernel
theorem dX9_init_8 : decode cX9_init 8 = .ok (.putfield 9, 3) := by decide +kernel
theorem dX9_init_11 : decode cX9_init 11 = .ok (.aload_n 0, 1) := by decide +kernel
theorem dX9_init_12 : decode cX9_init 12 = .ok (.bipush 9, 2) := by decide +kernel
theorem dX9_init_14 : decode cX9_init 14 = .ok (.newarray .int, 2) := by decide +kernel
theorem dX9_init_16 : decode cX9_init 16 = .ok (.putfield 15, 3) := by decide +kernel
theorem dX9_init_19 : decode cX9_init 19 = .ok (.aload_n 0, 1) := by decide +kernel
theorem dX9_init_20 : decode cX9_init 20 = .ok (.getfield 9, 3) := by decide +kernel
theorem dX9_init_23 : decode cX9_init 23 = .ok (.iconst 0, 1) := by decide +kernel
theorem dX9_init_24 : decode cX9_init 24 = .ok (.bipush 60, 2) := by decide +kernel
theorem dX9_init_26 : decode cX9_init 26 = .ok (.iastore, 1) := by decide +kernel
theorem dX9_init_27 : decode cX9_init 27 = .ok (.aload_n 0, 1) := by decide +kernel
theorem dX9_init_28 : decode cX9_init 28 = .ok (.getfield 9, 3) := by decide +kernel
theorem dX9_init_31 : decode cX9_init 31 = .ok (.iconst 1, 1) := by decide +kernel
theorem dX9_init_32 : decode cX9_init 32 = .ok (.bipush 30, 2) := by decide +kernel
theorem dX9_init_34 : decode cX9_init 34 = .ok (.iastore, 1) := by decide +kernel
theorem dX9_init_35 : decode cX9_init 35 = .ok (.aload_n 0, 1) := by decide +kernel
theorem dX9_init_36 : decode cX9_init 36 = .ok (.getfield 9, 3) := by decide +kernel
theorem dX9_init_39 : decode cX9_init 39 = .ok (.iconst 2, 1) := by decide +kernel
theorem dX9_init_40 : decode cX9_init 40 = .ok (.bipush 20, 2) := by decide +kernel
theorem dX9_init_42 : decode cX9_init 42 = .ok (.iastore, 1) := by decide +kernel
theorem dX9_init_43 : decode cX9_init 43 = .ok (.aload_n 0, 1) := by decide +kernel
theorem dX9_init_44 : decode cX9_init 44 = .ok (.getfield 9, 3) := by decide +kernel
theorem dX9_init_47 : decode cX9_init 47 = .ok (.iconst 3, 1) := by decide +kernel
theorem dX9_init_48 : decode cX9_init 48 = .ok (.bipush 15, 2) := by decide +kernel
theorem dX9_init_50 : decode cX9_init 50 = .ok (.iastore, 1) := by decide +kernel
theorem dX9_init_51 : decode cX9_init 51 = .ok (.aload_n 0, 1) := by decide +kernel
theorem dX9_init_52 : decode cX9_init 52 = .ok (.invokevirtual 18, 3) := by decide +kernel
theorem dX9_init_55 : decode cX9_init 55 = .ok (.return_, 1) := by decide +kernel
theorem dX9_addUp_0 : decode cX9_addUp 0 = .ok (.iconst 0, 1) := by decide +kernel
theorem dX9_addUp_1 : decode cX9_addUp 1 = .ok (.istore_n 1, 1) := by decide +kernel
theorem dX9_addUp_2 : decode cX9_addUp 2 = .ok (.iload_n 1, 1) := by decide +kernel
theorem dX9_addUp_3 : decode cX9_addUp 3 = .ok (.bipush 8, 2) := by decide +kernel
theorem dX9_addUp_5 : decode cX9_addUp 5 = .ok (.if_icmp .ge 39, 3) := by decide +kernel
theorem dX9_addUp_8 : decode cX9_addUp 8 = .ok (.aload_n 0, 1) := by decide +kernel
theorem dX9_addUp_9 : decode cX9_addUp 9 = .ok (.getfield 15, 3) := by decide +kernel
theorem dX9_addUp_12 : decode cX9_addUp 12 = .ok (.iload_n 1, 1) := by decide +kernel
theorem dX9_addUp_13 : decode cX9_addUp 13 = .ok (.iconst 1, 1) := by decide +kernel
theorem dX9_addUp_14 : decode cX9_addUp 14 = .ok (.iadd, 1) := by decide +kernel
theorem dX9_addUp_15 : decode cX9_addUp 15 = .ok (.aload_n 0, 1) := by decide +kernel
theorem dX9_addUp_16 : decode cX9_addUp 16 = .ok (.getfield 15, 3) := by decide +kernel
theorem dX9_addUp_19 : decode cX9_addUp 19 = .ok (.iload_n 1, 1) := by decide +kernel
theorem dX9_addUp_20 : decode cX9_addUp 20 = .ok (.iaload, 1) := by decide +kernel
theorem dX9_addUp_21 : decode cX9_addUp 21 = .ok (.iload_n 1, 1) := by decide +kernel
theorem dX9_addUp_22 : decode cX9_addUp 22 = .ok (.iconst 4, 1) := by decide +kernel
theorem dX9_addUp_23 : decode cX9_addUp 23 = .ok (.if_icmp .ge 12, 3) := by decide +kernel
theorem dX9_addUp_26 : decode cX9_addUp 26 = .ok (.aload_n 0, 1) := by decide +kernel
theorem dX9_addUp_27 : decode cX9_addUp 27 = .ok (.getfield 9, 3) := by decide +kernel
theorem dX9_addUp_30 : decode cX9_addUp 30 = .ok (.iload_n 1, 1) := by decide +kernel
theorem dX9_addUp_31 : decode cX9_addUp 31 = .ok (.iaload, 1) := by decide +kernel
theorem dX9_addUp_32 : decode cX9_addUp 32 = .ok (.goto 4, 3) := by decide +kernel
theorem dX9_addUp_35 : decode cX9_addUp 35 = .ok (.iconst 0, 1) := by decide +kernel
theorem dX9_addUp_36 : decode cX9_addUp 36 = .ok (.iadd, 1) := by decide +kernel
theorem dX9_addUp_37 : decode cX9_addUp 37 = .ok (.iastore, 1) := by decide +kernel
theorem dX9_addUp_38 : decode cX9_addUp 38 = .ok (.iinc 1 1, 3) := by decide +kernel
theorem dX9_addUp_41 : decode cX9_addUp 41 = .ok (.goto (-39), 3) := by decide +kernel
theorem dX9_addUp_44 : decode cX9_addUp 44 = .ok (.return_, 1) := by decide +kernel
theorem dX9_fits_0 : decode cX9_fits 0 = .ok (.iload_n 1, 1) := by decide +kernel
theorem dX9_fits_1 : decode cX9_fits 1 = .ok (.ifCond .le 19, 3) := by decide +kernel
theorem dX9_fits_4 : decode cX9_fits 4 = .ok (.iload_n 1, 1) := by decide +kernel
theorem dX9_fits_5 : decode cX9_fits 5 = .ok (.iconst 4, 1) := by decide +kernel
theorem dX9_fits_6 : decode cX9_fits 6 = .ok (.if_icmp .gt 14, 3) := by decide +kernel
theorem dX9_fits_9 : decode cX9_fits 9 = .ok (.aload_n 0, 1) := by decide +kernel
theorem dX9_fits_10 : decode cX9_fits 10 = .ok (.getfield 9, 3) := by decide +kernel
theorem dX9_fits_13 : decode cX9_fits 13 = .ok (.iload_n 1, 1) := by decide +kernel
theorem dX9_fits_14 : decode cX9_fits 14 = .ok (.iconst 1, 1) := by decide +kernel
theorem dX9_fits_15 : decode cX9_fits 15 = .ok (.isub, 1) := by decide +kernel
theorem dX9_fits_16 : decode cX9_fits 16 = .ok (.iaload, 1) := by decide +kernel
theorem dX9_fits_17 : decode cX9_fits 17 = .ok (.goto 5, 3) := by decide +kernel
theorem dX9_fits_20 : decode cX9_fits 20 = .ok (.bipush 60, 2) := by decide +kernel
theorem dX9_fits_22 : decode cX9_fits 22 = .ok (.istore_n 3, 1) := by decide +kernel
theorem dX9_fits_23 : decode cX9_fits 23 = .ok (.iload_n 1, 1) := by decide +kernel
theorem dX9_fits_24 : decode cX9_fits 24 = .ok (.ifCond .lt 21, 3) := by decide +kernel
theorem dX9_fits_27 : decode cX9_fits 27 = .ok (.iload_n 1, 1) := by decide +kernel
theorem dX9_fits_28 : decode cX9_fits 28 = .ok (.iconst 1, 1) := by decide +kernel
theorem dX9_fits_29 : decode cX9_fits 29 = .ok (.iadd, 1) := by decide +kernel
theorem dX9_fits_30 : decode cX9_fits 30 = .ok (.iconst 4, 1) := by decide +kernel
theorem dX9_fits_31 : decode cX9_fits 31 = .ok (.if_icmp .ge 14, 3) := by decide +kernel
theorem dX9_fits_34 : decode cX9_fits 34 = .ok (.aload_n 0, 1) := by decide +kernel
theorem dX9_fits_35 : decode cX9_fits 35 = .ok (.getfield 9, 3) := by decide +kernel
theorem dX9_fits_38 : decode cX9_fits 38 = .ok (.iload_n 1, 1) := by decide +kernel
theorem dX9_fits_39 : decode cX9_fits 39 = .ok (.iconst 1, 1) := by decide +kernel
theorem dX9_fits_40 : decode cX9_fits 40 = .ok (.iadd, 1) := by decide +kernel
theorem dX9_fits_41 : decode cX9_fits 41 = .ok (.iaload, 1) := by decide +kernel
theorem dX9_fits_42 : decode cX9_fits 42 = .ok (.goto 4, 3) := by decide +kernel
theorem dX9_fits_45 : decode cX9_fits 45 = .ok (.iconst 0, 1) := by decide +kernel
theorem dX9_fits_46 : decode cX9_fits 46 = .ok (.istore 4, 2) := by decide +kernel
theorem dX9_fits_48 : decode cX9_fits 48 = .ok (.iload_n 2, 1) := by decide +kernel
theorem dX9_fits_49 : decode cX9_fits 49 = .ok (.iload 4, 2) := by decide +kernel
theorem dX9_fits_51 : decode cX9_fits 51 = .ok (.if_icmp .lt 12, 3) := by decide +kernel
theorem dX9_fits_54 : decode cX9_fits 54 = .ok (.iload_n 2, 1) := by decide +kernel
theorem dX9_fits_55 : decode cX9_fits 55 = .ok (.iload_n 3, 1) := by decide +kernel
theorem dX9_fits_56 : decode cX9_fits 56 = .ok (.if_icmp .gt 7, 3) := by decide +kernel
theorem dX9_fits_59 : decode cX9_fits 59 = .ok (.iconst 1, 1) := by decide +kernel
theorem dX9_fits_60 : decode cX9_fits 60 = .ok (.goto 4, 3) := by decide +kernel
theorem dX9_fits_63 : decode cX9_fits 63 = .ok (.iconst 0, 1) := by decide +kernel
theorem dX9_fits_64 : decode cX9_fits 64 = .ok (.ireturn, 1) := by decide +kernel
set_option maxRecDepth 20000 in
theorem ggX9_put_X9_addUp : GoodIn wsX9_put wsX9_addUp := goodIn_r _ [6, 7, 1, 8, 9] (by decide +kernel) (by decide +kernel)
set_option maxRecDepth 20000 in
theorem gX9_put_X9_addUp : GoodIn wsX9_put (wsV RX9 18 RX9 yX9_addUp wsX9_addUp) := goodIn_app (goodIn_of _ (by decide +kernel)) ggX9_put_X9_addUp
theorem dX9_put_0 : decode cX9_put 0 = .ok (.iload_n 1, 1) := by decide +kernel
theorem dX9_put_1 : decode cX9_put 1 = .ok (.ifCond .lt 19, 3) := by decide +kernel
theorem dX9_put_4 : decode cX9_put 4 = .ok (.iload_n 1, 1) := by decide +kernel
theorem dX9_put_5 : decode cX9_put 5 = .ok (.iconst 4, 1) := by decide +kernel
theorem dX9_put_6 : decode cX9_put 6 = .ok (.if_icmp .ge 14, 3) := by decide +kernel
theorem dX9_put_9 : decode cX9_put 9 = .ok (.aload_n 0, 1) := by decide +kernel
theorem dX9_put_10 : decode cX9_put 10 = .ok (.getfield 9, 3) := by decide +kernel
theorem dX9_put_13 : decode cX9_put 13 = .ok (.iload_n 1, 1) := by decide +kernel
theorem dX9_put_14 : decode cX9_put 14 = .ok (.iload_n 2, 1) := by decide +kernel
theorem dX9_put_15 : decode cX9_put 15 = .ok (.iastore, 1) := by decide +kernel
theorem dX9_put_16 : decode cX9_put 16 = .ok (.aload_n 0, 1) := by decide +kernel
theorem dX9_put_17 : decode cX9_put 17 = .ok (.invokevirtual 18, 3) := by decide +kernel
theorem dX9_put_20 : decode cX9_put 20 = .ok (.return_, 1) := by decide +kernel
set_option maxRecDepth 20000 in
theorem ggX10_init_X9_init : GoodIn wsX10_init wsX9_init := goodIn_r _ [36, 37, 2, 3, 38, 39, 40, 41, 42, 43, 6, 44, 100, 101] (by decide +kernel) (by decide +kernel)
set_option maxRecDepth 20000 in
theorem gX10_init_X9_init : GoodIn wsX10_init (wsX9_init) := ggX10_init_X9_init
set_option maxRecDepth 20000 in
theorem ggX10_init_X3_init : GoodIn wsX10_init wsX3_init := goodIn_r _ [47, 48, 2, 3, 38, 49, 50, 51, 111, 112, 113, 114] (by decide +kernel) (by decide +kernel)
set_option maxRecDepth 20000 in
theorem gX10_init_X3_init : GoodIn wsX10_init (wsX3_init) := ggX10_init_X3_init
set_option maxRecDepth 20000 in
theorem ggX10_init_X7_init : GoodIn wsX10_init wsX7_init := goodIn_r _ [53, 54, 2, 3, 38, 55, 115, 116] (by decide +kernel) (by decide +kernel)
set_option maxRecDepth 20000 in
theorem gX10_init_X7_init_n30 : GoodIn wsX10_init (wsX7_init) := ggX10_init_X7_init
set_option maxRecDepth 20000 in
theorem ggX10_init_X4_init : GoodIn wsX10_init wsX4_init := goodIn_r _ [57, 58, 2, 3, 38, 59, 60, 61, 62, 117, 118, 119, 120] (by decide +kernel) (by decide +kernel)
set_option maxRecDepth 20000 in
theorem gX10_init_X4_init_n37 : GoodIn wsX10_init (wsX4_init) := ggX10_init_X4_init
set_option maxRecDepth 20000 in
theorem ggX10_init_X0_init : GoodIn wsX10_init wsX0_init := goodIn_r _ [64, 65, 2, 3, 38, 66, 121, 122] (by decide +kernel) (by decide +kernel)
set_option maxRecDepth 20000 in
theorem gX10_init_X0_init_n44 : GoodIn wsX10_init (wsX0_init) := ggX10_init_X0_init
set_option maxRecDepth 20000 in
theorem ggX10_init_X2_init : GoodIn wsX10_init wsX2_init := goodIn_r _ [68, 69, 2, 3, 38, 70, 71, 72, 73, 74, 75, 123, 124, 125, 126, 127, 128, 129, 130, 131] (by decide +kernel) (by decide +kernel)
set_option maxRecDepth 20000 in
theorem gX10_init_X2_init_n51 : GoodIn wsX10_init (wsX2_init) := ggX10_init_X2_init
set_option maxRecDepth 20000 in
theorem ggX10_init_X8_init : GoodIn wsX10_init wsX8_init := goodIn_r _ [78, 79, 2, 3, 80, 81, 82, 83, 84, 85, 86, 87, 38, 88, 89, 90, 91, 92, 93, 94, 95, 96, 97, 98, 99, 139, 140, 132, 133, 134, 135, 136, 137, 138, 141, 142, 143, 144] (by decide +kernel) (by decide +kernel)
set_option maxRecDepth 20000 in
theorem gX10_init_X8_init : GoodIn wsX10_init (wsX8_init) := ggX10_init_X8_init
theorem dX10_init_0 : decode cX10_init 0 = .ok (.aload_n 0, 1) := by decide +kernel
theorem dX10_init_1 : decode cX10_init 1 = .ok (.invokespecial 1, 3) := by decide +kernel
theorem dX10_init_4 : decode cX10_init 4 = .ok (.aload_n 0, 1) := by decide +kernel
theorem dX10_init_5 : decode cX10_init 5 = .ok (.new 7, 3) := by decide +kernel
theorem dX10_init_8 : decode cX10_init 8 = .ok (.dup, 1) := by decide +kernel
theorem dX10_init_9 : decode cX10_init 9 = .ok (.invokespecial 9, 3) := by decide +kernel
theorem dX10_init_12 : decode cX10_init 12 = .ok (.putfield 10, 3) := by decide +kernel
theorem dX10_init_15 : decode cX10_init 15 = .ok (.aload_n 0, 1) := by decide +kernel
theorem dX10_init_16 : decode cX10_init 16 = .ok (.new 16, 3) := by decide +kernel
theorem dX10_init_19 : decode cX10_init 19 = .ok (.dup, 1) := by decide +kernel
theorem dX10_init_20 : decode cX10_init 20 = .ok (.aload_n 0, 1) := by decide +kernel
theorem dX10_init_21 : decode cX10_init 21 = .ok (.getfield 10, 3) := by decide +kernel
theorem dX10_init_24 : decode cX10_init 24 = .ok (.invokespecial 18, 3) := by decide +kernel
theorem dX10_init_27 : decode cX10_init 27 = .ok (.putfield 21, 3) := by decide +kernel
theorem dX10_init_30 : decode cX10_init 30 = .ok (.aload_n 0, 1) := by decide +kernel
theorem dX10_init_31 : decode cX10_init 31 = .ok (.new 16, 3) := by decide +kernel
theorem dX10_init_34 : decode cX10_init 34 = .ok (.dup, 1) := by decide +kernel
theorem dX10_init_35 : decode cX10_init 35 = .ok (.aload_n 0, 1) := by decide +kernel
theorem dX10_init_36 : decode cX10_init 36 = .ok (.getfield 10, 3) := by decide +kernel
theorem dX10_init_39 : decode cX10_init 39 = .ok (.invokespecial 18, 3) := by decide +kernel
theorem dX10_init_42 : decode cX10_init 42 = .ok (.putfield 25, 3) := by decide +kernel
theorem dX10_init_45 : decode cX10_init 45 = .ok (.aload_n 0, 1) := by decide +kernel
theorem dX10_init_46 : decode cX10_init 46 = .ok (.new 28, 3) := by decide +kernel
theorem dX10_init_49 : decode cX10_init 49 = .ok (.dup, 1) := by decide +kernel
theorem dX10_init_50 : decode cX10_init 50 = .ok (.invokespecial 30, 3) := by decide +kernel
theorem dX10_init_53 : decode cX10_init 53 = .ok (.putfield 31, 3) := by decide +kernel
theorem dX10_init_56 : decode cX10_init 56 = .ok (.aload_n 0, 1) := by decide +kernel
theorem dX10_init_57 : decode cX10_init 57 = .ok (.new 35, 3) := by decide +kernel
theorem dX10_init_60 : decode cX10_init 60 = .ok (.dup, 1) := by decide +kernel
theorem dX10_init_61 : decode cX10_init 61 = .ok (.invokespecial 37, 3) := by decide +kernel
theorem dX10_init_64 : decode cX10_init 64 = .ok (.putfield 38, 3) := by decide +kernel
theorem dX10_init_67 : decode cX10_init 67 = .ok (.aload_n 0, 1) := by decide +kernel
theorem dX10_init_68 : decode cX10_init 68 = .ok (.new 42, 3) := by decide +kernel
theorem dX10_init_71 : decode cX10_init 71 = .ok (.dup, 1) := by decide +kernel
theorem dX10_init_72 : decode cX10_init 72 = .ok (.invokespecial 44, 3) := by decide +kernel
theorem dX10_init_75 : decode cX10_init 75 = .ok (.putfield 45, 3) := by decide +kernel
theorem dX10_init_78 : decode cX10_init 78 = .ok (.aload_n 0, 1) := by decide +kernel
theorem dX10_init_79 : decode cX10_init 79 = .ok (.new 49, 3) := by decide +kernel
theorem dX10_init_82 : decode cX10_init 82 = .ok (.dup, 1) := by decide +kernel
theorem dX10_init_83 : decode cX10_init 83 = .ok (.invokespecial 51, 3) := by decide +kernel
theorem dX10_init_86 : decode cX10_init 86 = .ok (.putfield 52, 3) := by decide +kernel
theorem dX10_init_89 : decode cX10_init 89 = .ok (.aload_n 0, 1) := by decide +kernel
theorem dX10_init_90 : decode cX10_init 90 = .ok (.new 56, 3) := by decide +kernel
theorem dX10_init_93 : decode cX10_init 93 = .ok (.dup, 1) := by decide +kernel
theorem dX10_init_94 : decode cX10_init 94 = .ok (.aload_n 0, 1) := by decide +kernel
theorem dX10_init_95 : decode cX10_init 95 = .ok (.getfield 45, 3) := by decide +kernel
theorem dX10_init_98 : decode cX10_init 98 = .ok (.invokespecial 58, 3) := by decide +kernel
theorem dX10_init_101 : decode cX10_init 101 = .ok (.putfield 61, 3) := by decide +kernel
theorem dX10_init_104 : decode cX10_init 104 = .ok (.aload_n 0, 1) := by decide +kernel
theorem dX10_init_105 : decode cX10_init 105 = .ok (.iconst 2, 1) := by decide +kernel
theorem dX10_init_106 : decode cX10_init 106 = .ok (.putfield 65, 3) := by decide +kernel
theorem dX10_init_109 : decode cX10_init 109 = .ok (.return_, 1) := by decide +kernel
set_option maxRecDepth 20000 in
theorem ggX10_heap_X10_isSet : GoodIn wsX10_heap wsX10_isSet := goodIn_r _ [6] (by decide +kernel) (by decide +kernel)
set_option maxRecDepth 20000 in
theorem gX10_heap_X10_isSet : GoodIn wsX10_heap (va_wsS RX10 69 yX10_isSet wsX10_isSet) := goodIn_app (goodIn_of _ (by decide +kernel)) ggX10_heap_X10_isSet
set_option maxRecDepth 20000 in
theorem ggX10_heap_X10_isPapers : GoodIn wsX10_heap wsX10_isPapers := goodIn_r _ [9] (by decide +kernel) (by decide +kernel)
set_option maxRecDepth 20000 in
theorem gX10_heap_X10_isPapers : GoodIn wsX10_heap (va_wsS RX10 73 yX10_isPapers wsX10_isPapers) := goodIn_app (goodIn_of _ (by decide +kernel)) ggX10_heap_X10_isPapers
set_option maxRecDepth 20000 in
theorem ggX10_heap_X3_append : GoodIn wsX10_heap wsX3_append := goodIn_r _ [14, 15, 16, 17, 27, 28, 29, 30] (by decide +kernel) (by decide +kernel)
set_option maxRecDepth 20000 in
theorem gX10_heap_X3_append : GoodIn wsX10_heap (wsV RX10 79 RX3 yX3_append wsX3_append) := goodIn_app (goodIn_of _ (by decide +kernel)) ggX10_heap_X3_append
theorem dX10_heap_0 : decode cX10_heap 0 = .ok (.iload_n 1, 1) := by decide +kernel
theorem dX10_heap_1 : decode cX10_heap 1 = .ok (.invokestatic 69, 3) := by decide +kernel
theorem dX10_heap_4 : decode cX10_heap 4 = .ok (.ifCond .eq 10, 3) := by decide +kernel
theorem dX10_heap_7 : decode cX10_heap 7 = .ok (.iload_n 2, 1) := by decide +kernel
theorem dX10_heap_8 : decode cX10_heap 8 = .ok (.invokestatic 73, 3) := by decide +kernel
theorem dX10_heap_11 : decode cX10_heap 11 = .ok (.ifCond .ne 6, 3) := by decide +kernel
theorem dX10_heap_14 : decode cX10_heap 14 = .ok (.bipush (-2), 2) := by decide +kernel
theorem dX10_heap_16 : decode cX10_heap 16 = .ok (.ireturn, 1) := by decide +kernel
theorem dX10_heap_17 : decode cX10_heap 17 = .ok (.aload_n 0, 1) := by decide +kernel
theorem dX10_heap_18 : decode cX10_heap 18 = .ok (.getfield 21, 3) := by decide +kernel
theorem dX10_heap_21 : decode cX10_heap 21 = .ok (.getfield 76, 3) := by decide +kernel
theorem dX10_heap_24 : decode cX10_heap 24 = .ok (.bipush 6, 2) := by decide +kernel
theorem dX10_heap_26 : decode cX10_heap 26 = .ok (.if_icmp .lt 6, 3) := by decide +kernel
theorem dX10_heap_29 : decode cX10_heap 29 = .ok (.bipush (-4), 2) := by decide +kernel
theorem dX10_heap_31 : decode cX10_heap 31 = .ok (.ireturn, 1) := by decide +kernel
theorem dX10_heap_32 : decode cX10_heap 32 = .ok (.aload_n 0, 1) := by decide +kernel
theorem dX10_heap_33 : decode cX10_heap 33 = .ok (.getfield 21, 3) := by decide +kernel
theorem dX10_heap_36 : decode cX10_heap 36 = .ok (.iload_n 1, 1) := by decide +kernel
theorem dX10_heap_37 : decode cX10_heap 37 = .ok (.iload_n 2, 1) := by decide +kernel
theorem dX10_heap_38 : decode cX10_heap 38 = .ok (.invokevirtual 79, 3) := by decide +kernel
theorem dX10_heap_41 : decode cX10_heap 41 = .ok (.aload_n 0, 1) := by decide +kernel
theorem dX10_heap_42 : decode cX10_heap 42 = .ok (.getfield 21, 3) := by decide +kernel
theorem dX10_heap_45 : decode cX10_heap 45 = .ok (.getfield 76, 3) := by decide +kernel
theorem dX10_heap_48 : decode cX10_heap 48 = .ok (.iconst 1, 1) := by decide +kernel
theorem dX10_heap_49 : decode cX10_heap 49 = .ok (.isub, 1) := by decide +kernel
theorem dX10_heap_50 : decode cX10_heap 50 = .ok (.ireturn, 1) := by decide +kernel
set_option maxRecDepth 20000 in
theorem ggX10_change_X10_isHeap : GoodIn wsX10_change wsX10_isHeap := goodIn_r _ [8, 1, 9, 16, 17, 18, 19, 20, 21, 22, 23, 24, 25, 26, 27, 28] (by decide +kernel) (by decide +kernel)
set_option maxRecDepth 20000 in
theorem gX10_change_X10_isHeap : GoodIn wsX10_change (wsV RX10 83 RX10 yX10_isHeap wsX10_isHeap) := goodIn_app (goodIn_of _ (by decide +kernel)) ggX10_change_X10_isHeap
set_option maxRecDepth 20000 in
theorem ggX10_change_X10_isSet : GoodIn wsX10_change wsX10_isSet := goodIn_r _ [12] (by decide +kernel) (by decide +kernel)
end
section
set_option maxRecDepth 20000 in
theorem gX10_change_X10_isSet : GoodIn wsX10_change (va_wsS RX10 69 yX10_isSet wsX10_isSet) := goodIn_app (goodIn_of _ (by decide +kernel)) ggX10_change_X10_isSet
set_option maxRecDepth 20000 in
theorem ggX10_change_X10_isPapers : GoodIn wsX10_change wsX10_isPapers := goodIn_r _ [15] (by decide +kernel) (by decide +kernel)
set_option maxRecDepth 20000 in
theorem gX10_change_X10_isPapers : GoodIn wsX10_change (va_wsS RX10 73 yX10_isPapers wsX10_isPapers) := goodIn_app (goodIn_of _ (by decide +kernel)) ggX10_change_X10_isPapers
theorem dX10_change_0 : decode cX10_change 0 = .ok (.aload_n 0, 1) := by decide +kernel
theorem dX10_change_1 : decode cX10_change 1 = .ok (.iload_n 1, 1) := by decide +kernel
theorem dX10_change_2 : decode cX10_change 2 = .ok (.invokevirtual 83, 3) := by decide +kernel
theorem dX10_change_5 : decode cX10_change 5 = .ok (.ifCond .ne 5, 3) := by decide +kernel
theorem dX10_change_8 : decode cX10_change 8 = .ok (.iconst (-1), 1) := by decide +kernel
theorem dX10_change_9 : decode cX10_change 9 = .ok (.ireturn, 1) := by decide +kernel
theorem dX10_change_10 : decode cX10_change 10 = .ok (.iload_n 2, 1) := by decide +kernel
theorem dX10_change_11 : decode cX10_change 11 = .ok (.ifCond .ne 34, 3) := by decide +kernel
theorem dX10_change_14 : decode cX10_change 14 = .ok (.iload_n 3, 1) := by decide +kernel
theorem dX10_change_15 : decode cX10_change 15 = .ok (.invokestatic 69, 3) := by decide +kernel
theorem dX10_change_18 : decode cX10_change 18 = .ok (.ifCond .eq 27, 3) := by decide +kernel
theorem dX10_change_21 : decode cX10_change 21 = .ok (.aload_n 0, 1) := by decide +kernel
theorem dX10_change_22 : decode cX10_change 22 = .ok (.getfield 21, 3) := by decide +kernel
theorem dX10_change_25 : decode cX10_change 25 = .ok (.getfield 86, 3) := by decide +kernel
theorem dX10_change_28 : decode cX10_change 28 = .ok (.iload_n 1, 1) := by decide +kernel
theorem dX10_change_29 : decode cX10_change 29 = .ok (.iaload, 1) := by decide +kernel
theorem dX10_change_30 : decode cX10_change 30 = .ok (.istore 4, 2) := by decide +kernel
theorem dX10_change_32 : decode cX10_change 32 = .ok (.aload_n 0, 1) := by decide +kernel
theorem dX10_change_33 : decode cX10_change 33 = .ok (.getfield 21, 3) := by decide +kernel
theorem dX10_change_36 : decode cX10_change 36 = .ok (.getfield 86, 3) := by decide +kernel
theorem dX10_change_39 : decode cX10_change 39 = .ok (.iload_n 1, 1) := by decide +kernel
theorem dX10_change_40 : decode cX10_change 40 = .ok (.iload_n 3, 1) := by decide +kernel
theorem dX10_change_41 : decode cX10_change 41 = .ok (.iastore, 1) := by decide +kernel
theorem dX10_change_42 : decode cX10_change 42 = .ok (.iload 4, 2) := by decide +kernel
theorem dX10_change_44 : decode cX10_change 44 = .ok (.ireturn, 1) := by decide +kernel
theorem dX10_change_45 : decode cX10_change 45 = .ok (.iload_n 2, 1) := by decide +kernel
theorem dX10_change_46 : decode cX10_change 46 = .ok (.iconst 1, 1) := by decide +kernel
theorem dX10_change_47 : decode cX10_change 47 = .ok (.if_icmp .ne 34, 3) := by decide +kernel
theorem dX10_change_50 : decode cX10_change 50 = .ok (.iload_n 3, 1) := by decide +kernel
theorem dX10_change_51 : decode cX10_change 51 = .ok (.invokestatic 73, 3) := by decide +kernel
theorem dX10_change_54 : decode cX10_change 54 = .ok (.ifCond .eq 27, 3) := by decide +kernel
theorem dX10_change_57 : decode cX10_change 57 = .ok (.aload_n 0, 1) := by decide +kernel
theorem dX10_change_58 : decode cX10_change 58 = .ok (.getfield 21, 3) := by decide +kernel
theorem dX10_change_61 : decode cX10_change 61 = .ok (.getfield 90, 3) := by decide +kernel
theorem dX10_change_64 : decode cX10_change 64 = .ok (.iload_n 1, 1) := by decide +kernel
theorem dX10_change_65 : decode cX10_change 65 = .ok (.iaload, 1) := by decide +kernel
theorem dX10_change_66 : decode cX10_change 66 = .ok (.istore 4, 2) := by decide +kernel
theorem dX10_change_68 : decode cX10_change 68 = .ok (.aload_n 0, 1) := by decide +kernel
theorem dX10_change_69 : decode cX10_change 69 = .ok (.getfield 21, 3) := by decide +kernel
theorem dX10_change_72 : decode cX10_change 72 = .ok (.getfield 90, 3) := by decide +kernel
theorem dX10_change_75 : decode cX10_change 75 = .ok (.iload_n 1, 1) := by decide +kernel
theorem dX10_change_76 : decode cX10_change 76 = .ok (.iload_n 3, 1) := by decide +kernel
theorem dX10_change_77 : decode cX10_change 77 = .ok (.iastore, 1) := by decide +kernel
theorem dX10_change_78 : decode cX10_change 78 = .ok (.iload 4, 2) := by decide +kernel
theorem dX10_change_80 : decode cX10_change 80 = .ok (.ireturn, 1) := by decide +kernel
theorem dX10_change_81 : decode cX10_change 81 = .ok (.bipush (-2), 2) := by decide +kernel
theorem dX10_change_83 : decode cX10_change 83 = .ok (.ireturn, 1) := by decide +kernel
theorem dX10_drop_0 : decode cX10_drop 0 = .ok (.aload_n 0, 1) := by decide +kernel
theorem dX10_drop_1 : decode cX10_drop 1 = .ok (.getfield 21, 3) := by decide +kernel
theorem dX10_drop_4 : decode cX10_drop 4 = .ok (.getfield 76, 3) := by decide +kernel
theorem dX10_drop_7 : decode cX10_drop 7 = .ok (.ifCond .gt 6, 3) := by decide +kernel
theorem dX10_drop_10 : decode cX10_drop 10 = .ok (.bipush (-5), 2) := by decide +kernel
theorem dX10_drop_12 : decode cX10_drop 12 = .ok (.ireturn, 1) := by decide +kernel
theorem dX10_drop_13 : decode cX10_drop 13 = .ok (.aload_n 0, 1) := by decide +kernel
theorem dX10_drop_14 : decode cX10_drop 14 = .ok (.getfield 21, 3) := by decide +kernel
theorem dX10_drop_17 : decode cX10_drop 17 = .ok (.dup, 1) := by decide +kernel
theorem dX10_drop_18 : decode cX10_drop 18 = .ok (.getfield 76, 3) := by decide +kernel
theorem dX10_drop_21 : decode cX10_drop 21 = .ok (.iconst 1, 1) := by decide +kernel
theorem dX10_drop_22 : decode cX10_drop 22 = .ok (.isub, 1) := by decide +kernel
theorem dX10_drop_23 : decode cX10_drop 23 = .ok (.putfield 76, 3) := by decide +kernel
theorem dX10_drop_26 : decode cX10_drop 26 = .ok (.aload_n 0, 1) := by decide +kernel
theorem dX10_drop_27 : decode cX10_drop 27 = .ok (.getfield 21, 3) := by decide +kernel
theorem dX10_drop_30 : decode cX10_drop 30 = .ok (.getfield 76, 3) := by decide +kernel
theorem dX10_drop_33 : decode cX10_drop 33 = .ok (.ireturn, 1) := by decide +kernel
theorem dX10_seats_0 : decode cX10_seats 0 = .ok (.iload_n 1, 1) := by decide +kernel
theorem dX10_seats_1 : decode cX10_seats 1 = .ok (.iconst 1, 1) := by decide +kernel
theorem dX10_seats_2 : decode cX10_seats 2 = .ok (.if_icmp .lt 8, 3) := by decide +kernel
theorem dX10_seats_5 : decode cX10_seats 5 = .ok (.iload_n 1, 1) := by decide +kernel
theorem dX10_seats_6 : decode cX10_seats 6 = .ok (.iconst 4, 1) := by decide +kernel
theorem dX10_seats_7 : decode cX10_seats 7 = .ok (.if_icmp .le 6, 3) := by decide +kernel
theorem dX10_seats_10 : decode cX10_seats 10 = .ok (.bipush (-2), 2) := by decide +kernel
theorem dX10_seats_12 : decode cX10_seats 12 = .ok (.ireturn, 1) := by decide +kernel
theorem dX10_seats_13 : decode cX10_seats 13 = .ok (.aload_n 0, 1) := by decide +kernel
theorem dX10_seats_14 : decode cX10_seats 14 = .ok (.getfield 65, 3) := by decide +kernel
theorem dX10_seats_17 : decode cX10_seats 17 = .ok (.istore_n 2, 1) := by decide +kernel
theorem dX10_seats_18 : decode cX10_seats 18 = .ok (.aload_n 0, 1) := by decide +kernel
theorem dX10_seats_19 : decode cX10_seats 19 = .ok (.iload_n 1, 1) := by decide +kernel
theorem dX10_seats_20 : decode cX10_seats 20 = .ok (.putfield 65, 3) := by decide +kernel
theorem dX10_seats_23 : decode cX10_seats 23 = .ok (.iload_n 2, 1) := by decide +kernel
theorem dX10_seats_24 : decode cX10_seats 24 = .ok (.ireturn, 1) := by decide +kernel
set_option maxRecDepth 20000 in
theorem ggX10_worth_X9_fits : GoodIn wsX10_worth wsX9_fits := goodIn_r _ [7, 8, 27, 28] (by decide +kernel) (by decide +kernel)
set_option maxRecDepth 20000 in
theorem gX10_worth_X9_fits : GoodIn wsX10_worth (wsV RX10 93 RX9 yX9_fits wsX9_fits) := goodIn_app (goodIn_of _ (by decide +kernel)) ggX10_worth_X9_fits
set_option maxRecDepth 20000 in
theorem ggX10_worth_X9_put : GoodIn wsX10_worth wsX9_put := goodIn_r _ [12, 8, 13, 14, 15, 6, 16, 17, 27, 28] (by decide +kernel) (by decide +kernel)
set_option maxRecDepth 20000 in
theorem gX10_worth_X9_put : GoodIn wsX10_worth (wsV RX10 100 RX9 yX9_put wsX9_put) := goodIn_app (goodIn_of _ (by decide +kernel)) ggX10_worth_X9_put
theorem dX10_worth_0 : decode cX10_worth 0 = .ok (.iload_n 1, 1) := by decide +kernel
theorem dX10_worth_1 : decode cX10_worth 1 = .ok (.ifCond .lt 20, 3) := by decide +kernel
theorem dX10_worth_4 : decode cX10_worth 4 = .ok (.iload_n 1, 1) := by decide +kernel
theorem dX10_worth_5 : decode cX10_worth 5 = .ok (.iconst 4, 1) := by decide +kernel
theorem dX10_worth_6 : decode cX10_worth 6 = .ok (.if_icmp .ge 15, 3) := by decide +kernel
theorem dX10_worth_9 : decode cX10_worth 9 = .ok (.aload_n 0, 1) := by decide +kernel
theorem dX10_worth_10 : decode cX10_worth 10 = .ok (.getfield 10, 3) := by decide +kernel
theorem dX10_worth_13 : decode cX10_worth 13 = .ok (.iload_n 1, 1) := by decide +kernel
theorem dX10_worth_14 : decode cX10_worth 14 = .ok (.iload_n 2, 1) := by decide +kernel
theorem dX10_worth_15 : decode cX10_worth 15 = .ok (.invokevirtual 93, 3) := by decide +kernel
theorem dX10_worth_18 : decode cX10_worth 18 = .ok (.ifCond .ne 6, 3) := by decide +kernel
theorem dX10_worth_21 : decode cX10_worth 21 = .ok (.bipush (-2), 2) := by decide +kernel
theorem dX10_worth_23 : decode cX10_worth 23 = .ok (.ireturn, 1) := by decide +kernel
theorem dX10_worth_24 : decode cX10_worth 24 = .ok (.aload_n 0, 1) := by decide +kernel
theorem dX10_worth_25 : decode cX10_worth 25 = .ok (.getfield 10, 3) := by decide +kernel
theorem dX10_worth_28 : decode cX10_worth 28 = .ok (.getfield 97, 3) := by decide +kernel
theorem dX10_worth_31 : decode cX10_worth 31 = .ok (.iload_n 1, 1) := by decide +kernel
theorem dX10_worth_32 : decode cX10_worth 32 = .ok (.iaload, 1) := by decide +kernel
theorem dX10_worth_33 : decode cX10_worth 33 = .ok (.istore_n 3, 1) := by decide +kernel
theorem dX10_worth_34 : decode cX10_worth 34 = .ok (.aload_n 0, 1) := by decide +kernel
theorem dX10_worth_35 : decode cX10_worth 35 = .ok (.getfield 10, 3) := by decide +kernel
theorem dX10_worth_38 : decode cX10_worth 38 = .ok (.iload_n 1, 1) := by decide +kernel
theorem dX10_worth_39 : decode cX10_worth 39 = .ok (.iload_n 2, 1) := by decide +kernel
theorem dX10_worth_40 : decode cX10_worth 40 = .ok (.invokevirtual 100, 3) := by decide +kernel
theorem dX10_worth_43 : decode cX10_worth 43 = .ok (.iload_n 3, 1) := by decide +kernel
theorem dX10_worth_44 : decode cX10_worth 44 = .ok (.ireturn, 1) := by decide +kernel
set_option maxRecDepth 20000 in
theorem ggX10_say_X7_append : GoodIn wsX10_say wsX7_append := goodIn_r _ [7, 8, 9, 19, 20] (by decide +kernel) (by decide +kernel)
set_option maxRecDepth 20000 in
theorem gX10_say_X7_append : GoodIn wsX10_say (wsV RX10 106 RX7 yX7_append wsX7_append) := goodIn_app (goodIn_of _ (by decide +kernel)) ggX10_say_X7_append
theorem dX10_say_0 : decode cX10_say 0 = .ok (.iload_n 1, 1) := by decide +kernel
theorem dX10_say_1 : decode cX10_say 1 = .ok (.bipush 33, 2) := by decide +kernel
theorem dX10_say_3 : decode cX10_say 3 = .ok (.if_icmp .lt 9, 3) := by decide +kernel
theorem dX10_say_6 : decode cX10_say 6 = .ok (.iload_n 1, 1) := by decide +kernel
theorem dX10_say_7 : decode cX10_say 7 = .ok (.bipush 126, 2) := by decide +kernel
theorem dX10_say_9 : decode cX10_say 9 = .ok (.if_icmp .le 6, 3) := by decide +kernel
theorem dX10_say_12 : decode cX10_say 12 = .ok (.bipush (-2), 2) := by decide +kernel
theorem dX10_say_14 : decode cX10_say 14 = .ok (.ireturn, 1) := by decide +kernel
theorem dX10_say_15 : decode cX10_say 15 = .ok (.aload_n 0, 1) := by decide +kernel
theorem dX10_say_16 : decode cX10_say 16 = .ok (.getfield 31, 3) := by decide +kernel
theorem dX10_say_19 : decode cX10_say 19 = .ok (.getfield 103, 3) := by decide +kernel
theorem dX10_say_22 : decode cX10_say 22 = .ok (.bipush 40, 2) := by decide +kernel
theorem dX10_say_24 : decode cX10_say 24 = .ok (.if_icmp .lt 6, 3) := by decide +kernel
theorem dX10_say_27 : decode cX10_say 27 = .ok (.bipush (-4), 2) := by decide +kernel
theorem dX10_say_29 : decode cX10_say 29 = .ok (.ireturn, 1) := by decide +kernel
theorem dX10_say_30 : decode cX10_say 30 = .ok (.aload_n 0, 1) := by decide +kernel
theorem dX10_say_31 : decode cX10_say 31 = .ok (.getfield 31, 3) := by decide +kernel
theorem dX10_say_34 : decode cX10_say 34 = .ok (.iload_n 1, 1) := by decide +kernel
theorem dX10_say_35 : decode cX10_say 35 = .ok (.invokevirtual 106, 3) := by decide +kernel
theorem dX10_say_38 : decode cX10_say 38 = .ok (.aload_n 0, 1) := by decide +kernel
theorem dX10_say_39 : decode cX10_say 39 = .ok (.getfield 31, 3) := by decide +kernel
theorem dX10_say_42 : decode cX10_say 42 = .ok (.getfield 103, 3) := by decide +kernel
theorem dX10_say_45 : decode cX10_say 45 = .ok (.ireturn, 1) := by decide +kernel
theorem dX10_wipe_0 : decode cX10_wipe 0 = .ok (.aload_n 0, 1) := by decide +kernel
theorem dX10_wipe_1 : decode cX10_wipe 1 = .ok (.getfield 31, 3) := by decide +kernel
theorem dX10_wipe_4 : decode cX10_wipe 4 = .ok (.getfield 103, 3) := by decide +kernel
theorem dX10_wipe_7 : decode cX10_wipe 7 = .ok (.istore_n 1, 1) := by decide +kernel
theorem dX10_wipe_8 : decode cX10_wipe 8 = .ok (.aload_n 0, 1) := by decide +kernel
theorem dX10_wipe_9 : decode cX10_wipe 9 = .ok (.getfield 31, 3) := by decide +kernel
theorem dX10_wipe_12 : decode cX10_wipe 12 = .ok (.iconst 0, 1) := by decide +kernel
theorem dX10_wipe_13 : decode cX10_wipe 13 = .ok (.putfield 103, 3) := by decide +kernel
theorem dX10_wipe_16 : decode cX10_wipe 16 = .ok (.iload_n 1, 1) := by decide +kernel
theorem dX10_wipe_17 : decode cX10_wipe 17 = .ok (.ireturn, 1) := by decide +kernel
set_option maxRecDepth 20000 in
theorem ggX10_fault_X7_firstFault : GoodIn wsX10_fault wsX7_firstFault := goodIn_r _ [6, 7, 8, 9, 10, 5, 11, 21, 22] (by decide +kernel) (by decide +kernel)
set_option maxRecDepth 20000 in
theorem gX10_fault_X7_firstFault : GoodIn wsX10_fault (wsV RX10 109 RX7 yX7_firstFault wsX7_firstFault) := goodIn_app (goodIn_of _ (by decide +kernel)) ggX10_fault_X7_firstFault
theorem dX10_fault_0 : decode cX10_fault 0 = .ok (.aload_n 0, 1) := by decide +kernel
theorem dX10_fault_1 : decode cX10_fault 1 = .ok (.getfield 31, 3) := by decide +kernel
theorem dX10_fault_4 : decode cX10_fault 4 = .ok (.invokevirtual 109, 3) := by decide +kernel
theorem dX10_fault_7 : decode cX10_fault 7 = .ok (.ireturn, 1) := by decide +kernel
set_option maxRecDepth 20000 in
theorem ggX10_hall_X7_firstFault : GoodIn wsX10_hall wsX7_firstFault := goodIn_r _ [8, 9, 10, 11, 12, 7, 13, 38, 39] (by decide +kernel) (by decide +kernel)
set_option maxRecDepth 20000 in
theorem gX10_hall_X7_firstFault : GoodIn wsX10_hall (wsV RX10 109 RX7 yX7_firstFault wsX7_firstFault) := goodIn_app (goodIn_of _ (by decide +kernel)) ggX10_hall_X7_firstFault
set_option maxRecDepth 20000 in
theorem ggX10_hall_X4_read : GoodIn wsX10_hall wsX4_read := goodIn_r _ [18, 19, 20, 21, 22, 23, 24, 17, 25, 26, 27, 28, 40, 41, 42, 43, 38, 39] (by decide +kernel) (by decide +kernel)
set_option maxRecDepth 20000 in
theorem gX10_hall_X4_read : GoodIn wsX10_hall (wsV RX10 113 RX4 yX4_read wsX4_read) := goodIn_app (goodIn_of _ (by decide +kernel)) ggX10_hall_X4_read
theorem dX10_hall_0 : decode cX10_hall 0 = .ok (.aload_n 0, 1) := by decide +kernel
theorem dX10_hall_1 : decode cX10_hall 1 = .ok (.getfield 31, 3) := by decide +kernel
theorem dX10_hall_4 : decode cX10_hall 4 = .ok (.invokevirtual 109, 3) := by decide +kernel
theorem dX10_hall_7 : decode cX10_hall 7 = .ok (.bipush (-6), 2) := by decide +kernel
theorem dX10_hall_9 : decode cX10_hall 9 = .ok (.if_icmp .eq 6, 3) := by decide +kernel
theorem dX10_hall_12 : decode cX10_hall 12 = .ok (.bipush (-5), 2) := by decide +kernel
theorem dX10_hall_14 : decode cX10_hall 14 = .ok (.ireturn, 1) := by decide +kernel
theorem dX10_hall_15 : decode cX10_hall 15 = .ok (.aload_n 0, 1) := by decide +kernel
theorem dX10_hall_16 : decode cX10_hall 16 = .ok (.getfield 38, 3) := by decide +kernel
theorem dX10_hall_19 : decode cX10_hall 19 = .ok (.aload_n 0, 1) := by decide +kernel
theorem dX10_hall_20 : decode cX10_hall 20 = .ok (.getfield 31, 3) := by decide +kernel
theorem dX10_hall_23 : decode cX10_hall 23 = .ok (.invokevirtual 113, 3) := by decide +kernel
theorem dX10_hall_26 : decode cX10_hall 26 = .ok (.aload_n 0, 1) := by decide +kernel
theorem dX10_hall_27 : decode cX10_hall 27 = .ok (.getfield 31, 3) := by decide +kernel
theorem dX10_hall_30 : decode cX10_hall 30 = .ok (.iconst 0, 1) := by decide +kernel
theorem dX10_hall_31 : decode cX10_hall 31 = .ok (.putfield 103, 3) := by decide +kernel
theorem dX10_hall_34 : decode cX10_hall 34 = .ok (.iconst 1, 1) := by decide +kernel
theorem dX10_hall_35 : decode cX10_hall 35 = .ok (.ireturn, 1) := by decide +kernel
theorem dX10_open_0 : decode cX10_open 0 = .ok (.aload_n 0, 1) := by decide +kernel
theorem dX10_open_1 : decode cX10_open 1 = .ok (.getfield 38, 3) := by decide +kernel
theorem dX10_open_4 : decode cX10_open 4 = .ok (.getfield 117, 3) := by decide +kernel
theorem dX10_open_7 : decode cX10_open 7 = .ok (.ifCond .ne 5, 3) := by decide +kernel
theorem dX10_open_10 : decode cX10_open 10 = .ok (.iconst 0, 1) := by decide +kernel
theorem dX10_open_11 : decode cX10_open 11 = .ok (.ireturn, 1) := by decide +kernel
theorem dX10_open_12 : decode cX10_open 12 = .ok (.aload_n 0, 1) := by decide +kernel
theorem dX10_open_13 : decode cX10_open 13 = .ok (.getfield 38, 3) := by decide +kernel
theorem dX10_open_16 : decode cX10_open 16 = .ok (.iconst 0, 1) := by decide +kernel
theorem dX10_open_17 : decode cX10_open 17 = .ok (.putfield 117, 3) := by decide +kernel
theorem dX10_open_20 : decode cX10_open 20 = .ok (.iconst 1, 1) := by decide +kernel
theorem dX10_open_21 : decode cX10_open 21 = .ok (.ireturn, 1) := by decide +kernel
set_option maxRecDepth 20000 in
theorem ggX10_of_X10_isCommittee : GoodIn wsX10_of wsX10_isCommittee := goodIn_r _ [7, 8, 9, 10, 6, 11, 12, 13, 14, 15, 16, 17, 18, 49, 50, 51, 52, 53, 54, 55, 56, 57] (by decide +kernel) (by decide +kernel)
set_option maxRecDepth 20000 in
theorem gX10_of_X10_isCommittee : GoodIn wsX10_of (wsV RX10 118 RX10 yX10_isCommittee wsX10_isCommittee) := goodIn_app (goodIn_of _ (by decide +kernel)) ggX10_of_X10_isCommittee
set_option maxRecDepth 20000 in
theorem ggX10_of_X4_allow : GoodIn wsX10_of wsX4_allow := goodIn_r _ [23, 24, 25, 26, 22, 27, 28, 29, 30, 31, 32, 13, 14, 15, 16, 17, 18, 58, 59, 60, 61] (by decide +kernel) (by decide +kernel)
set_option maxRecDepth 20000 in
theorem gX10_of_X4_allow : GoodIn wsX10_of (wsV RX10 121 RX4 yX4_allow wsX4_allow) := goodIn_app (goodIn_of _ (by decide +kernel)) ggX10_of_X4_allow
set_option maxRecDepth 20000 in
theorem ggX10_of_X3_worthOf : GoodIn wsX10_of wsX3_worthOf := goodIn_r _ [37, 38, 39, 40, 41, 42, 43, 13, 14, 15, 16, 17, 18, 62, 63, 64, 65, 66, 67] (by decide +kernel) (by decide +kernel)
set_option maxRecDepth 20000 in
theorem gX10_of_X3_worthOf : GoodIn wsX10_of (wsV RX10 124 RX3 yX3_worthOf wsX3_worthOf) := goodIn_app (goodIn_of _ (by decide +kernel)) ggX10_of_X3_worthOf
set_option maxRecDepth 20000 in
theorem ggX10_of_X3_wronged : GoodIn wsX10_of wsX3_wronged := goodIn_r _ [47, 38, 42, 39, 62, 63, 64, 65] (by decide +kernel) (by decide +kernel)
set_option maxRecDepth 20000 in
theorem gX10_of_X3_wronged : GoodIn wsX10_of (wsV RX10 128 RX3 yX3_wronged wsX3_wronged) := goodIn_app (goodIn_of _ (by decide +kernel)) ggX10_of_X3_wronged
set_option maxRecDepth 20000 in
theorem ggX10_of_X4_firstBroken : GoodIn wsX10_of wsX4_firstBroken := goodIn_r _ [27, 28, 29, 30, 31, 32, 13, 14, 15, 16, 17, 18, 58, 59, 60, 61] (by decide +kernel) (by decide +kernel)
set_option maxRecDepth 20000 in
theorem gX10_of_X4_firstBroken : GoodIn wsX10_of (wsV RX10 131 RX4 yX4_firstBroken wsX4_firstBroken) := goodIn_app (goodIn_of _ (by decide +kernel)) ggX10_of_X4_firstBroken
theorem dX10_of_0 : decode cX10_of 0 = .ok (.aload_n 0, 1) := by decide +kernel
theorem dX10_of_1 : decode cX10_of 1 = .ok (.iload_n 1, 1) := by decide +kernel
theorem dX10_of_2 : decode cX10_of 2 = .ok (.invokevirtual 118, 3) := by decide +kernel
theorem dX10_of_5 : decode cX10_of 5 = .ok (.ifCond .ne 6, 3) := by decide +kernel
theorem dX10_of_8 : decode cX10_of 8 = .ok (.bipush (-2), 2) := by decide +kernel
theorem dX10_of_10 : decode cX10_of 10 = .ok (.ireturn, 1) := by decide +kernel
theorem dX10_of_11 : decode cX10_of 11 = .ok (.iload_n 2, 1) := by decide +kernel
theorem dX10_of_12 : decode cX10_of 12 = .ok (.tableswitch 76 0 3 #[32, 49, 58, 67], 32) := by decide +kernel
theorem dX10_of_44 : decode cX10_of 44 = .ok (.aload_n 0, 1) := by decide +kernel
theorem dX10_of_45 : decode cX10_of 45 = .ok (.getfield 38, 3) := by decide +kernel
theorem dX10_of_48 : decode cX10_of 48 = .ok (.iload_n 1, 1) := by decide +kernel
theorem dX10_of_49 : decode cX10_of 49 = .ok (.invokevirtual 121, 3) := by decide +kernel
theorem dX10_of_52 : decode cX10_of 52 = .ok (.ifCond .eq 7, 3) := by decide +kernel
theorem dX10_of_55 : decode cX10_of 55 = .ok (.iconst 1, 1) := by decide +kernel
theorem dX10_of_56 : decode cX10_of 56 = .ok (.goto 4, 3) := by decide +kernel
theorem dX10_of_59 : decode cX10_of 59 = .ok (.iconst 0, 1) := by decide +kernel
theorem dX10_of_60 : decode cX10_of 60 = .ok (.ireturn, 1) := by decide +kernel
theorem dX10_of_61 : decode cX10_of 61 = .ok (.aload_n 0, 1) := by decide +kernel
theorem dX10_of_62 : decode cX10_of 62 = .ok (.getfield 21, 3) := by decide +kernel
theorem dX10_of_65 : decode cX10_of 65 = .ok (.iload_n 1, 1) := by decide +kernel
theorem dX10_of_66 : decode cX10_of 66 = .ok (.invokevirtual 124, 3) := by decide +kernel
theorem dX10_of_69 : decode cX10_of 69 = .ok (.ireturn, 1) := by decide +kernel
theorem dX10_of_70 : decode cX10_of 70 = .ok (.aload_n 0, 1) := by decide +kernel
theorem dX10_of_71 : decode cX10_of 71 = .ok (.getfield 21, 3) := by decide +kernel
theorem dX10_of_74 : decode cX10_of 74 = .ok (.iload_n 1, 1) := by decide +kernel
theorem dX10_of_75 : decode cX10_of 75 = .ok (.invokevirtual 128, 3) := by decide +kernel
theorem dX10_of_78 : decode cX10_of 78 = .ok (.ireturn, 1) := by decide +kernel
theorem dX10_of_79 : decode cX10_of 79 = .ok (.aload_n 0, 1) := by decide +kernel
theorem dX10_of_80 : decode cX10_of 80 = .ok (.getfield 38, 3) := by decide +kernel
theorem dX10_of_83 : decode cX10_of 83 = .ok (.iload_n 1, 1) := by decide +kernel
theorem dX10_of_84 : decode cX10_of 84 = .ok (.invokevirtual 131, 3) := by decide +kernel
theorem dX10_of_87 : decode cX10_of 87 = .ok (.ireturn, 1) := by decide +kernel
theorem dX10_of_88 : decode cX10_of 88 = .ok (.bipush (-2), 2) := by decide +kernel
theorem dX10_of_90 : decode cX10_of 90 = .ok (.ireturn, 1) := by decide +kernel
set_option maxRecDepth 20000 in
theorem ggX10_choose_X10_isWay : GoodIn wsX10_choose wsX10_isWay := goodIn_r _ [7] (by decide +kernel) (by decide +kernel)
set_option maxRecDepth 20000 in
theorem gX10_choose_X10_isWay : GoodIn wsX10_choose (va_wsS RX10 134 yX10_isWay wsX10_isWay) := goodIn_app (goodIn_of _ (by decide +kernel)) ggX10_choose_X10_isWay
set_option maxRecDepth 20000 in
theorem ggX10_choose_X10_runWay : GoodIn wsX10_choose wsX10_runWay := goodIn_r _ [11, 12, 13, 2, 14, 15, 16, 17, 18, 19, 20, 21, 22, 23, 24, 25, 26, 27, 28, 29, 30, 31, 32, 33, 34, 35, 36, 37, 38, 39, 40, 41, 42, 43, 44, 45, 46, 47, 48, 49, 50, 51, 52, 53, 54, 55, 56, 57, 58, 59, 60, 61, 62, 63, 64, 65, 66, 67, 68, 69, 70, 71, 72, 73, 74, 75, 76, 77, 78, 79, 80, 81, 82, 83, 84, 85, 86, 87, 88, 89, 90, 91, 92, 93, 94, 95, 96, 97, 98, 99, 100, 101, 102, 103, 104, 105, 106, 107, 108, 109, 110, 111, 112, 113, 114, 115, 116, 117, 118, 119, 120, 121, 122, 123, 124, 125, 126, 127, 128, 129, 130, 131, 132, 133, 134, 135, 136, 137, 138, 139, 140, 141, 142, 143, 144, 145, 146, 147, 148, 149, 150, 151, 152, 153, 154, 155, 156, 157, 158, 159, 160, 161, 162, 163, 164, 165, 166, 167, 168, 169, 170, 171, 172, 173, 174, 175, 176, 177, 178, 179, 180, 181, 182, 183, 184, 185, 186, 187, 188, 189, 190, 191, 192, 193, 194, 199, 200, 201, 202, 203, 204, 205, 206, 207, 215, 216, 217, 218, 219, 220, 208, 209, 210, 211, 212, 213, 214, 221, 222, 223, 224, 225, 226, 227, 228, 229, 230, 231, 232] (by decide +kernel) (by decide +kernel)
set_option maxRecDepth 20000 in
theorem gX10_choose_X10_runWay : GoodIn wsX10_choose (wsV RX10 137 RX10 yX10_runWay wsX10_runWay) := goodIn_app (goodIn_of _ (by decide +kernel)) ggX10_choose_X10_runWay
set_option maxRecDepth 20000 in
theorem ggX10_choose_X8_chosenAt : GoodIn wsX10_choose wsX8_chosenAt := goodIn_r _ [198, 53, 79, 208, 209, 210, 211, 212, 213, 214] (by decide +kernel) (by decide +kernel)
set_option maxRecDepth 20000 in
theorem gX10_choose_X8_chosenAt : GoodIn wsX10_choose (wsV RX10 143 RX8 yX8_chosenAt wsX8_chosenAt) := goodIn_app (goodIn_of _ (by decide +kernel)) ggX10_choose_X8_chosenAt
theorem dX10_choose_0 : decode cX10_choose 0 = .ok (.iload_n 1, 1) := by decide +kernel
theorem dX10_choose_1 : decode cX10_choose 1 = .ok (.invokestatic 134, 3) := by decide +kernel
theorem dX10_choose_4 : decode cX10_choose 4 = .ok (.ifCond .ne 5, 3) := by decide +kernel
theorem dX10_choose_7 : decode cX10_choose 7 = .ok (.iconst (-1), 1) := by decide +kernel
theorem dX10_choose_8 : decode cX10_choose 8 = .ok (.ireturn, 1) := by decide +kernel
theorem dX10_choose_9 : decode cX10_choose 9 = .ok (.aload_n 0, 1) := by decide +kernel
theorem dX10_choose_10 : decode cX10_choose 10 = .ok (.iload_n 1, 1) := by decide +kernel
theorem dX10_choose_11 : decode cX10_choose 11 = .ok (.aload_n 0, 1) := by decide +kernel
theorem dX10_choose_12 : decode cX10_choose 12 = .ok (.getfield 65, 3) := by decide +kernel
theorem dX10_choose_15 : decode cX10_choose 15 = .ok (.invokevirtual 137, 3) := by decide +kernel
theorem dX10_choose_18 : decode cX10_choose 18 = .ok (.iload_n 2, 1) := by decide +kernel
theorem dX10_choose_19 : decode cX10_choose 19 = .ok (.iconst (-1), 1) := by decide +kernel
theorem dX10_choose_20 : decode cX10_choose 20 = .ok (.if_icmp .ne 13, 3) := by decide +kernel
theorem dX10_choose_23 : decode cX10_choose 23 = .ok (.aload_n 0, 1) := by decide +kernel
theorem dX10_choose_24 : decode cX10_choose 24 = .ok (.getfield 61, 3) := by decide +kernel
theorem dX10_choose_27 : decode cX10_choose 27 = .ok (.getfield 140, 3) := by decide +kernel
theorem dX10_choose_30 : decode cX10_choose 30 = .ok (.goto 11, 3) := by decide +kernel
theorem dX10_choose_33 : decode cX10_choose 33 = .ok (.aload_n 0, 1) := by decide +kernel
theorem dX10_choose_34 : decode cX10_choose 34 = .ok (.getfield 61, 3) := by decide +kernel
theorem dX10_choose_37 : decode cX10_choose 37 = .ok (.iload_n 2, 1) := by decide +kernel
theorem dX10_choose_38 : decode cX10_choose 38 = .ok (.invokevirtual 143, 3) := by decide +kernel
theorem dX10_choose_41 : decode cX10_choose 41 = .ok (.ireturn, 1) := by decide +kernel
set_option maxRecDepth 20000 in
theorem ggX10_load_X10_refusalOfShare : GoodIn wsX10_load wsX10_refusalOfShare := goodIn_r _ [9, 10, 11, 12, 13, 8, 14, 3, 15, 89, 90, 91, 92, 93, 94, 95, 96, 97, 105, 106, 107, 108] (by decide +kernel) (by decide +kernel)
set_option maxRecDepth 20000 in
theorem gX10_load_X10_refusalOfShare : GoodIn wsX10_load (wsV RX10 146 RX10 yX10_refusalOfShare wsX10_refusalOfShare) := goodIn_app (goodIn_of _ (by decide +kernel)) ggX10_load_X10_refusalOfShare
set_option maxRecDepth 20000 in
theorem ggX10_load_X8_byLoads : GoodIn wsX10_load wsX8_byLoads := goodIn_r _ [20, 21, 22, 23, 24, 25, 19, 26, 27, 28, 29, 30, 31, 32, 33, 34, 35, 36, 37, 38, 39, 40, 41, 42, 43, 44, 45, 46, 47, 48, 49, 50, 51, 52, 53, 54, 55, 56, 57, 58, 59, 60, 61, 62, 63, 64, 65, 66, 67, 68, 69, 70, 71, 72, 73, 74, 75, 76, 77, 78, 79, 80, 98, 99, 100, 101, 102, 103, 104, 109, 110, 111, 112, 113, 114, 105, 106, 107, 108] (by decide +kernel) (by decide +kernel)
set_option maxRecDepth 20000 in
theorem gX10_load_X8_byLoads : GoodIn wsX10_load (wsV RX10 152 RX8 yX8_byLoads wsX8_byLoads) := goodIn_app (goodIn_of _ (by decide +kernel)) ggX10_load_X8_byLoads
set_option maxRecDepth 20000 in
theorem ggX10_load_X1_lowest : GoodIn wsX10_load wsX1_lowest := goodIn_r _ [85, 34, 35, 86, 87, 32, 88, 109, 110, 111, 112, 113, 114] (by decide +kernel) (by decide +kernel)
set_option maxRecDepth 20000 in
theorem gX10_load_X1_lowest_u160X5 : GoodIn wsX10_load (va_wsU RX10 160 RX5 "FairSeats$Fractions" ⟨"FairSeats$Loads", "lowest", "(II)J"⟩ yX1_lowest wsX1_lowest) := goodIn_app (goodIn_of _ (by decide +kernel)) ggX10_load_X1_lowest
theorem dX10_load_0 : decode cX10_load 0 = .ok (.aload_n 0, 1) := by decide +kernel
theorem dX10_load_1 : decode cX10_load 1 = .ok (.iload_n 1, 1) := by decide +kernel
theorem dX10_load_2 : decode cX10_load 2 = .ok (.iload_n 2, 1) := by decide +kernel
theorem dX10_load_3 : decode cX10_load 3 = .ok (.iload_n 3, 1) := by decide +kernel
theorem dX10_load_4 : decode cX10_load 4 = .ok (.invokevirtual 146, 3) := by decide +kernel
theorem dX10_load_7 : decode cX10_load 7 = .ok (.istore 4, 2) := by decide +kernel
theorem dX10_load_9 : decode cX10_load 9 = .ok (.iload 4, 2) := by decide +kernel
theorem dX10_load_11 : decode cX10_load 11 = .ok (.ifCond .eq 11, 3) := by decide +kernel
theorem dX10_load_14 : decode cX10_load 14 = .ok (.ldc2_w 150, 3) := by decide +kernel
theorem dX10_load_17 : decode cX10_load 17 = .ok (.iload 4, 2) := by decide +kernel
theorem dX10_load_19 : decode cX10_load 19 = .ok (.i2l, 1) := by decide +kernel
theorem dX10_load_20 : decode cX10_load 20 = .ok (.ladd, 1) := by decide +kernel
theorem dX10_load_21 : decode cX10_load 21 = .ok (.lreturn, 1) := by decide +kernel
theorem dX10_load_22 : decode cX10_load 22 = .ok (.aload_n 0, 1) := by decide +kernel
theorem dX10_load_23 : decode cX10_load 23 = .ok (.getfield 61, 3) := by decide +kernel
theorem dX10_load_26 : decode cX10_load 26 = .ok (.aload_n 0, 1) := by decide +kernel
theorem dX10_load_27 : decode cX10_load 27 = .ok (.getfield 21, 3) := by decide +kernel
theorem dX10_load_30 : decode cX10_load 30 = .ok (.iload_n 2, 1) := by decide +kernel
theorem dX10_load_31 : decode cX10_load 31 = .ok (.invokevirtual 152, 3) := by decide +kernel
theorem dX10_load_34 : decode cX10_load 34 = .ok (.aload_n 0, 1) := by decide +kernel
theorem dX10_load_35 : decode cX10_load 35 = .ok (.getfield 61, 3) := by decide +kernel
theorem dX10_load_38 : decode cX10_load 38 = .ok (.getfield 156, 3) := by decide +kernel
theorem dX10_load_41 : decode cX10_load 41 = .ok (.iload_n 1, 1) := by decide +kernel
theorem dX10_load_42 : decode cX10_load 42 = .ok (.iload_n 3, 1) := by decide +kernel
theorem dX10_load_43 : decode cX10_load 43 = .ok (.invokevirtual 160, 3) := by decide +kernel
theorem dX10_load_46 : decode cX10_load 46 = .ok (.lreturn, 1) := by decide +kernel
set_option maxRecDepth 20000 in
theorem ggX10_purse_X10_refusalOfShare : GoodIn wsX10_purse wsX10_refusalOfShare := goodIn_r _ [10, 4, 11, 12, 13, 9, 14, 3, 15, 114, 115, 116, 117, 118, 119, 120, 121, 122, 130, 131, 132, 133] (by decide +kernel) (by decide +kernel)
set_option maxRecDepth 20000 in
theorem gX10_purse_X10_refusalOfShare : GoodIn wsX10_purse (wsV RX10 146 RX10 yX10_refusalOfShare wsX10_refusalOfShare) := goodIn_app (goodIn_of _ (by decide +kernel)) ggX10_purse_X10_refusalOfShare
set_option maxRecDepth 20000 in
theorem ggX10_purse_X8_byPurses : GoodIn wsX10_purse wsX8_byPurses := goodIn_r _ [20, 21, 22, 23, 24, 25, 26, 19, 27, 28, 29, 30, 31, 32, 33, 34, 35, 36, 37, 38, 39, 40, 41, 42, 43, 44, 45, 46, 47, 48, 49, 50, 51, 52, 53, 54, 55, 56, 57, 58, 59, 60, 61, 62, 63, 64, 65, 66, 67, 68, 69, 70, 71, 72, 73, 74, 75, 76, 77, 78, 79, 80, 81, 82, 83, 84, 85, 86, 87, 88, 89, 90, 91, 92, 93, 94, 95, 96, 97, 98, 99, 100, 101, 102, 103, 104, 105, 123, 124, 125, 126, 127, 128, 129, 134, 135, 136, 137, 138, 139, 130, 131, 132, 133] (by decide +kernel) (by decide +kernel)
set_option maxRecDepth 20000 in
theorem gX10_purse_X8_byPurses : GoodIn wsX10_purse (wsV RX10 166 RX8 yX8_byPurses wsX8_byPurses) := goodIn_app (goodIn_of _ (by decide +kernel)) ggX10_purse_X8_byPurses
set_option maxRecDepth 20000 in
theorem ggX10_purse_X1_lowest : GoodIn wsX10_purse wsX1_lowest := goodIn_r _ [110, 35, 36, 111, 112, 33, 113, 134, 135, 136, 137, 138, 139] (by decide +kernel) (by decide +kernel)
set_option maxRecDepth 20000 in
theorem gX10_purse_X1_lowest_u174X6 : GoodIn wsX10_purse (va_wsU RX10 174 RX6 "FairSeats$Fractions" ⟨"FairSeats$Purses", "lowest", "(II)J"⟩ yX1_lowest wsX1_lowest) := goodIn_app (goodIn_of _ (by decide +kernel)) ggX10_purse_X1_lowest
theorem dX10_purse_0 : decode cX10_purse 0 = .ok (.aload_n 0, 1) := by decide +kernel
theorem dX10_purse_1 : decode cX10_purse 1 = .ok (.iload_n 1, 1) := by decide +kernel
theorem dX10_purse_2 : decode cX10_purse 2 = .ok (.iload_n 2, 1) := by decide +kernel
theorem dX10_purse_3 : decode cX10_purse 3 = .ok (.iload_n 3, 1) := by decide +kernel
theorem dX10_purse_4 : decode cX10_purse 4 = .ok (.invokevirtual 146, 3) := by decide +kernel
theorem dX10_purse_7 : decode cX10_purse 7 = .ok (.istore 4, 2) := by decide +kernel
theorem dX10_purse_9 : decode cX10_purse 9 = .ok (.iload 4, 2) := by decide +kernel
theorem dX10_purse_11 : decode cX10_purse 11 = .ok (.ifCond .eq 11, 3) := by decide +kernel
theorem dX10_purse_14 : decode cX10_purse 14 = .ok (.ldc2_w 150, 3) := by decide +kernel
theorem dX10_purse_17 : decode cX10_purse 17 = .ok (.iload 4, 2) := by decide +kernel
theorem dX10_purse_19 : decode cX10_purse 19 = .ok (.i2l, 1) := by decide +kernel
theorem dX10_purse_20 : decode cX10_purse 20 = .ok (.ladd, 1) := by decide +kernel
theorem dX10_purse_21 : decode cX10_purse 21 = .ok (.lreturn, 1) := by decide +kernel
theorem dX10_purse_22 : decode cX10_purse 22 = .ok (.aload_n 0, 1) := by decide +kernel
theorem dX10_purse_23 : decode cX10_purse 23 = .ok (.getfield 61, 3) := by decide +kernel
theorem dX10_purse_26 : decode cX10_purse 26 = .ok (.aload_n 0, 1) := by decide +kernel
theorem dX10_purse_27 : decode cX10_purse 27 = .ok (.getfield 21, 3) := by decide +kernel
theorem dX10_purse_30 : decode cX10_purse 30 = .ok (.aload_n 0, 1) := by decide +kernel
theorem dX10_purse_31 : decode cX10_purse 31 = .ok (.getfield 65, 3) := by decide +kernel
theorem dX10_purse_34 : decode cX10_purse 34 = .ok (.iload_n 2, 1) := by decide +kernel
theorem dX10_purse_35 : decode cX10_purse 35 = .ok (.invokevirtual 166, 3) := by decide +kernel
theorem dX10_purse_38 : decode cX10_purse 38 = .ok (.aload_n 0, 1) := by decide +kernel
theorem dX10_purse_39 : decode cX10_purse 39 = .ok (.getfield 61, 3) := by decide +kernel
theorem dX10_purse_42 : decode cX10_purse 42 = .ok (.getfield 170, 3) := by decide +kernel
theorem dX10_purse_45 : decode cX10_purse 45 = .ok (.iload_n 1, 1) := by decide +kernel
theorem dX10_purse_46 : decode cX10_purse 46 = .ok (.iload_n 3, 1) := by decide +kernel
theorem dX10_purse_47 : decode cX10_purse 47 = .ok (.invokevirtual 174, 3) := by decide +kernel
theorem dX10_purse_50 : decode cX10_purse 50 = .ok (.lreturn, 1) := by decide +kernel
set_option maxRecDepth 20000 in
theorem ggX10_paid_X8_byPurses : GoodIn wsX10_paid wsX8_byPurses := goodIn_r _ [9, 10, 11, 12, 13, 14, 15, 8, 16, 17, 18, 19, 20, 21, 22, 23, 24, 25, 26, 27, 28, 29, 30, 31, 32, 33, 34, 35, 36, 37, 38, 39, 40, 41, 42, 43, 44, 45, 46, 47, 48, 49, 50, 51, 52, 53, 54, 55, 56, 57, 58, 59, 60, 61, 62, 63, 64, 65, 66, 67, 68, 69, 70, 71, 72, 73, 74, 75, 76, 77, 78, 79, 80, 81, 82, 83, 84, 85, 86, 87, 88, 89, 90, 91, 92, 93, 94, 104, 105, 106, 107, 108, 109, 110, 111, 112, 113, 114, 115, 116, 117, 118, 119, 120] (by decide +kernel) (by decide +kernel)
set_option maxRecDepth 20000 in
theorem gX10_paid_X8_byPurses : GoodIn wsX10_paid (wsV RX10 166 RX8 yX8_byPurses wsX8_byPurses) := goodIn_app (goodIn_of _ (by decide +kernel)) ggX10_paid_X8_byPurses
theorem dX10_paid_0 : decode cX10_paid 0 = .ok (.aload_n 0, 1) := by decide +kernel
theorem dX10_paid_1 : decode cX10_paid 1 = .ok (.getfield 61, 3) := by decide +kernel
theorem dX10_paid_4 : decode cX10_paid 4 = .ok (.aload_n 0, 1) := by decide +kernel
theorem dX10_paid_5 : decode cX10_paid 5 = .ok (.getfield 21, 3) := by decide +kernel
theorem dX10_paid_8 : decode cX10_paid 8 = .ok (.aload_n 0, 1) := by decide +kernel
theorem dX10_paid_9 : decode cX10_paid 9 = .ok (.getfield 65, 3) := by decide +kernel
theorem dX10_paid_12 : decode cX10_paid 12 = .ok (.aload_n 0, 1) := by decide +kernel
theorem dX10_paid_13 : decode cX10_paid 13 = .ok (.getfield 65, 3) := by decide +kernel
theorem dX10_paid_16 : decode cX10_paid 16 = .ok (.invokevirtual 166, 3) := by decide +kernel
theorem dX10_paid_19 : decode cX10_paid 19 = .ok (.aload_n 0, 1) := by decide +kernel
theorem dX10_paid_20 : decode cX10_paid 20 = .ok (.getfield 61, 3) := by decide +kernel
theorem dX10_paid_23 : decode cX10_paid 23 = .ok (.getfield 177, 3) := by decide +kernel
theorem dX10_paid_26 : decode cX10_paid 26 = .ok (.ireturn, 1) := by decide +kernel
set_option maxRecDepth 20000 in
theorem ggX10_owed_X2_gather : GoodIn wsX10_owed wsX2_gather := goodIn_r _ [10, 11, 12, 13, 14, 15, 16, 17, 18, 19, 20, 21, 22, 23, 24, 25, 26, 27, 28, 29, 30, 31, 32, 9, 33, 34, 35, 36, 37, 38, 39, 40, 50, 51, 52, 53, 54, 55, 56, 57, 58, 59, 60, 61, 62] (by decide +kernel) (by decide +kernel)
set_option maxRecDepth 20000 in
theorem gX10_owed_X2_gather : GoodIn wsX10_owed (wsV RX10 180 RX2 yX2_gather wsX2_gather) := goodIn_app (goodIn_of _ (by decide +kernel)) ggX10_owed_X2_gather
theorem dX10_owed_0 : decode cX10_owed 0 = .ok (.iload_n 2, 1) := by decide +kernel
theorem dX10_owed_1 : decode cX10_owed 1 = .ok (.iconst 1, 1) := by decide +kernel
theorem dX10_owed_2 : decode cX10_owed 2 = .ok (.if_icmp .lt 26, 3) := by decide +kernel
theorem dX10_owed_5 : decode cX10_owed 5 = .ok (.iload_n 2, 1) := by decide +kernel
theorem dX10_owed_6 : decode cX10_owed 6 = .ok (.iconst 4, 1) := by decide +kernel
theorem dX10_owed_7 : decode cX10_owed 7 = .ok (.if_icmp .gt 21, 3) := by decide +kernel
theorem dX10_owed_10 : decode cX10_owed 10 = .ok (.iload_n 1, 1) := by decide +kernel
theorem dX10_owed_11 : decode cX10_owed 11 = .ok (.iconst 1, 1) := by decide +kernel
theorem dX10_owed_12 : decode cX10_owed 12 = .ok (.if_icmp .lt 16, 3) := by decide +kernel
theorem dX10_owed_15 : decode cX10_owed 15 = .ok (.iload_n 1, 1) := by decide +kernel
theorem dX10_owed_16 : decode cX10_owed 16 = .ok (.iconst 1, 1) := by decide +kernel
theorem dX10_owed_17 : decode cX10_owed 17 = .ok (.aload_n 0, 1) := by decide +kernel
theorem dX10_owed_18 : decode cX10_owed 18 = .ok (.getfield 21, 3) := by decide +kernel
theorem dX10_owed_21 : decode cX10_owed 21 = .ok (.getfield 76, 3) := by decide +kernel
theorem dX10_owed_24 : decode cX10_owed 24 = .ok (.ishl, 1) := by decide +kernel
theorem dX10_owed_25 : decode cX10_owed 25 = .ok (.if_icmp .lt 6, 3) := by decide +kernel
theorem dX10_owed_28 : decode cX10_owed 28 = .ok (.bipush (-2), 2) := by decide +kernel
theorem dX10_owed_30 : decode cX10_owed 30 = .ok (.ireturn, 1) := by decide +kernel
theorem dX10_owed_31 : decode cX10_owed 31 = .ok (.aload_n 0, 1) := by decide +kernel
theorem dX10_owed_32 : decode cX10_owed 32 = .ok (.getfield 52, 3) := by decide +kernel
theorem dX10_owed_35 : decode cX10_owed 35 = .ok (.aload_n 0, 1) := by decide +kernel
theorem dX10_owed_36 : decode cX10_owed 36 = .ok (.getfield 21, 3) := by decide +kernel
theorem dX10_owed_39 : decode cX10_owed 39 = .ok (.aload_n 0, 1) := by decide +kernel
theorem dX10_owed_40 : decode cX10_owed 40 = .ok (.getfield 65, 3) := by decide +kernel
theorem dX10_owed_43 : decode cX10_owed 43 = .ok (.invokevirtual 180, 3) := by decide +kernel
theorem dX10_owed_46 : decode cX10_owed 46 = .ok (.iload_n 2, 1) := by decide +kernel
theorem dX10_owed_47 : decode cX10_owed 47 = .ok (.aload_n 0, 1) := by decide +kernel
theorem dX10_owed_48 : decode cX10_owed 48 = .ok (.getfield 52, 3) := by decide +kernel
theorem dX10_owed_51 : decode cX10_owed 51 = .ok (.getfield 183, 3) := by decide +kernel
theorem dX10_owed_54 : decode cX10_owed 54 = .ok (.iload_n 1, 1) := by decide +kernel
theorem dX10_owed_55 : decode cX10_owed 55 = .ok (.iaload, 1) := by decide +kernel
theorem dX10_owed_56 : decode cX10_owed 56 = .ok (.if_icmp .gt 7, 3) := by decide +kernel
theorem dX10_owed_59 : decode cX10_owed 59 = .ok (.iconst 1, 1) := by decide +kernel
theorem dX10_owed_60 : decode cX10_owed 60 = .ok (.goto 4, 3) := by decide +kernel
theorem dX10_owed_63 : decode cX10_owed 63 = .ok (.iconst 0, 1) := by decide +kernel
theorem dX10_owed_64 : decode cX10_owed 64 = .ok (.ireturn, 1) := by decide +kernel
set_option maxRecDepth 20000 in
theorem ggX10_breach_X10_isLaw : GoodIn wsX10_breach wsX10_isLaw := goodIn_r _ [9] (by decide +kernel) (by decide +kernel)
set_option maxRecDepth 20000 in
theorem gX10_breach_X10_isLaw : GoodIn wsX10_breach (va_wsS RX10 186 yX10_isLaw wsX10_isLaw) := goodIn_app (goodIn_of _ (by decide +kernel)) ggX10_breach_X10_isLaw
set_option maxRecDepth 20000 in
theorem ggX10_breach_X10_isCommittee : GoodIn wsX10_breach wsX10_isCommittee := goodIn_r _ [13, 3, 14, 15, 8, 16, 17, 18, 19, 20, 21, 22, 23, 67, 68, 69, 70, 71, 72, 73, 74, 75] (by decide +kernel) (by decide +kernel)
set_option maxRecDepth 20000 in
theorem gX10_breach_X10_isCommittee : GoodIn wsX10_breach (wsV RX10 118 RX10 yX10_isCommittee wsX10_isCommittee) := goodIn_app (goodIn_of _ (by decide +kernel)) ggX10_breach_X10_isCommittee
set_option maxRecDepth 20000 in
theorem ggX10_breach_X2_gather : GoodIn wsX10_breach wsX2_gather := goodIn_r _ [28, 29, 30, 31, 32, 33, 34, 35, 36, 37, 38, 39, 40, 41, 42, 43, 44, 45, 46, 47, 48, 49, 50, 27, 51, 52, 18, 19, 20, 21, 22, 23, 85, 86, 87, 88, 76, 77, 78, 79, 80, 81, 82, 83, 84] (by decide +kernel) (by decide +kernel)
set_option maxRecDepth 20000 in
theorem gX10_breach_X2_gather : GoodIn wsX10_breach (wsV RX10 180 RX2 yX2_gather wsX2_gather) := goodIn_app (goodIn_of _ (by decide +kernel)) ggX10_breach_X2_gather
set_option maxRecDepth 20000 in
theorem ggX10_breach_X2_seekBreach : GoodIn wsX10_breach wsX2_seekBreach := goodIn_r _ [56, 57, 58, 34, 38, 59, 41, 60, 61, 62, 27, 63, 36, 64, 65, 32, 66, 49, 50, 51, 52, 18, 19, 20, 21, 22, 23, 76, 77, 78, 79, 80, 81, 82, 83, 84] (by decide +kernel) (by decide +kernel)
set_option maxRecDepth 20000 in
theorem gX10_breach_X2_seekBreach : GoodIn wsX10_breach (wsV RX10 189 RX2 yX2_seekBreach wsX2_seekBreach) := goodIn_app (goodIn_of _ (by decide +kernel)) ggX10_breach_X2_seekBreach
theorem dX10_breach_0 : decode cX10_breach 0 = .ok (.iload_n 1, 1) := by decide +kernel
theorem dX10_breach_1 : decode cX10_breach 1 = .ok (.invokestatic 186, 3) := by decide +kernel
theorem dX10_breach_4 : decode cX10_breach 4 = .ok (.ifCond .ne 5, 3) := by decide +kernel
theorem dX10_breach_7 : decode cX10_breach 7 = .ok (.iconst (-1), 1) := by decide +kernel
theorem dX10_breach_8 : decode cX10_breach 8 = .ok (.ireturn, 1) := by decide +kernel
theorem dX10_breach_9 : decode cX10_breach 9 = .ok (.aload_n 0, 1) := by decide +kernel
theorem dX10_breach_10 : decode cX10_breach 10 = .ok (.iload_n 2, 1) := by decide +kernel
theorem dX10_breach_11 : decode cX10_breach 11 = .ok (.invokevirtual 118, 3) := by decide +kernel
theorem dX10_breach_14 : decode cX10_breach 14 = .ok (.ifCond .eq 12, 3) := by decide +kernel
theorem dX10_breach_17 : decode cX10_breach 17 = .ok (.iload_n 3, 1) := by decide +kernel
theorem dX10_breach_18 : decode cX10_breach 18 = .ok (.ifCond .lt 8, 3) := by decide +kernel
theorem dX10_breach_21 : decode cX10_breach 21 = .ok (.iload_n 3, 1) := by decide +kernel
theorem dX10_breach_22 : decode cX10_breach 22 = .ok (.iconst 2, 1) := by decide +kernel
theorem dX10_breach_23 : decode cX10_breach 23 = .ok (.if_icmp .le 6, 3) := by decide +kernel
theorem dX10_breach_26 : decode cX10_breach 26 = .ok (.bipush (-2), 2) := by decide +kernel
theorem dX10_breach_28 : decode cX10_breach 28 = .ok (.ireturn, 1) := by decide +kernel
theorem dX10_breach_29 : decode cX10_breach 29 = .ok (.aload_n 0, 1) := by decide +kernel
theorem dX10_breach_30 : decode cX10_breach 30 = .ok (.getfield 52, 3) := by decide +kernel
theorem dX10_breach_33 : decode cX10_breach 33 = .ok (.aload_n 0, 1) := by decide +kernel
theorem dX10_breach_34 : decode cX10_breach 34 = .ok (.getfield 21, 3) := by decide +kernel
theorem dX10_breach_37 : decode cX10_breach 37 = .ok (.aload_n 0, 1) := by decide +kernel
theorem dX10_breach_38 : decode cX10_breach 38 = .ok (.getfield 65, 3) := by decide +kernel
theorem dX10_breach_41 : decode cX10_breach 41 = .ok (.invokevirtual 180, 3) := by decide +kernel
theorem dX10_breach_44 : decode cX10_breach 44 = .ok (.aload_n 0, 1) := by decide +kernel
theorem dX10_breach_45 : decode cX10_breach 45 = .ok (.getfield 52, 3) := by decide +kernel
theorem dX10_breach_48 : decode cX10_breach 48 = .ok (.iload_n 1, 1) := by decide +kernel
theorem dX10_breach_49 : decode cX10_breach 49 = .ok (.iload_n 2, 1) := by decide +kernel
theorem dX10_breach_50 : decode cX10_breach 50 = .ok (.invokevirtual 189, 3) := by decide +kernel
theorem dX10_breach_53 : decode cX10_breach 53 = .ok (.iload_n 3, 1) := by decide +kernel
theorem dX10_breach_54 : decode cX10_breach 54 = .ok (.ifCond .ne 21, 3) := by decide +kernel
theorem dX10_breach_57 : decode cX10_breach 57 = .ok (.aload_n 0, 1) := by decide +kernel
theorem dX10_breach_58 : decode cX10_breach 58 = .ok (.getfield 52, 3) := by decide +kernel
theorem dX10_breach_61 : decode cX10_breach 61 = .ok (.getfield 192, 3) := by decide +kernel
theorem dX10_breach_64 : decode cX10_breach 64 = .ok (.bipush (-6), 2) := by decide +kernel
theorem dX10_breach_66 : decode cX10_breach 66 = .ok (.if_icmp .ne 7, 3) := by decide +kernel
theorem dX10_breach_69 : decode cX10_breach 69 = .ok (.iconst 0, 1) := by decide +kernel
theorem dX10_breach_70 : decode cX10_breach 70 = .ok (.goto 4, 3) := by decide +kernel
theorem dX10_breach_73 : decode cX10_breach 73 = .ok (.iconst 1, 1) := by decide +kernel
theorem dX10_breach_74 : decode cX10_breach 74 = .ok (.ireturn, 1) := by decide +kernel
theorem dX10_breach_75 : decode cX10_breach 75 = .ok (.iload_n 3, 1) := by decide +kernel
theorem dX10_breach_76 : decode cX10_breach 76 = .ok (.iconst 1, 1) := by decide +kernel
theorem dX10_breach_77 : decode cX10_breach 77 = .ok (.if_icmp .ne 13, 3) := by decide +kernel
theorem dX10_breach_80 : decode cX10_breach 80 = .ok (.aload_n 0, 1) := by decide +kernel
theorem dX10_breach_81 : decode cX10_breach 81 = .ok (.getfield 52, 3) := by decide +kernel
theorem dX10_breach_84 : decode cX10_breach 84 = .ok (.getfield 192, 3) := by decide +kernel
theorem dX10_breach_87 : decode cX10_breach 87 = .ok (.goto 10, 3) := by decide +kernel
theorem dX10_breach_90 : decode cX10_breach 90 = .ok (.aload_n 0, 1) := by decide +kernel
theorem dX10_breach_91 : decode cX10_breach 91 = .ok (.getfield 52, 3) := by decide +kernel
theorem dX10_breach_94 : decode cX10_breach 94 = .ok (.getfield 195, 3) := by decide +kernel
theorem dX10_breach_97 : decode cX10_breach 97 = .ok (.ireturn, 1) := by decide +kernel
set_option maxRecDepth 20000 in
theorem ggX10_kept_X10_isLaw : GoodIn wsX10_kept wsX10_isLaw := goodIn_r _ [6] (by decide +kernel) (by decide +kernel)
set_option maxRecDepth 20000 in
theorem gX10_kept_X10_isLaw : GoodIn wsX10_kept (va_wsS RX10 186 yX10_isLaw wsX10_isLaw) := goodIn_app (goodIn_of _ (by decide +kernel)) ggX10_kept_X10_isLaw
set_option maxRecDepth 20000 in
theorem ggX10_kept_X10_gatherKept : GoodIn wsX10_kept wsX10_gatherKept := goodIn_r _ [10, 1, 11, 12, 13, 14, 15, 16, 17, 18, 19, 20, 21, 22, 23, 24, 25, 26, 27, 28, 29, 30, 31, 32, 33, 34, 35, 36, 37, 38, 39, 40, 41, 42, 43, 44, 45, 46, 47, 48, 49, 50, 51, 52, 53, 54, 55, 56, 57, 58, 59, 60, 61, 62, 63, 64, 65, 66, 67, 68, 69, 70, 71, 72, 73, 74, 75, 76, 77, 78, 79, 80, 81, 82, 83, 84, 85, 86, 87, 88, 89, 90, 95, 96, 97, 98, 99, 100, 101, 102, 103, 104, 105, 106, 107, 108, 109, 110, 111, 112, 113, 114, 115, 116, 117, 118, 119, 120, 121, 122] (by decide +kernel) (by decide +kernel)
set_option maxRecDepth 20000 in
theorem gX10_kept_X10_gatherKept : GoodIn wsX10_kept (wsV RX10 198 RX10 yX10_gatherKept wsX10_gatherKept) := goodIn_app (goodIn_of _ (by decide +kernel)) ggX10_kept_X10_gatherKept
set_option maxRecDepth 20000 in
theorem ggX10_kept_X0_at : GoodIn wsX10_kept wsX0_at := goodIn_r _ [94, 20, 21, 104, 105] (by decide +kernel) (by decide +kernel)
set_option maxRecDepth 20000 in
theorem gX10_kept_X0_at : GoodIn wsX10_kept (wsV RX10 202 RX0 yX0_at wsX0_at) := goodIn_app (goodIn_of _ (by decide +kernel)) ggX10_kept_X0_at
theorem dX10_kept_0 : decode cX10_kept 0 = .ok (.iload_n 1, 1) := by decide +kernel
theorem dX10_kept_1 : decode cX10_kept 1 = .ok (.invokestatic 186, 3) := by decide +kernel
theorem dX10_kept_4 : decode cX10_kept 4 = .ok (.ifCond .ne 5, 3) := by decide +kernel
theorem dX10_kept_7 : decode cX10_kept 7 = .ok (.iconst (-1), 1) := by decide +kernel
theorem dX10_kept_8 : decode cX10_kept 8 = .ok (.ireturn, 1) := by decide +kernel
theorem dX10_kept_9 : decode cX10_kept 9 = .ok (.aload_n 0, 1) := by decide +kernel
theorem dX10_kept_10 : decode cX10_kept 10 = .ok (.iload_n 1, 1) := by decide +kernel
theorem dX10_kept_11 : decode cX10_kept 11 = .ok (.invokevirtual 198, 3) := by decide +kernel
theorem dX10_kept_14 : decode cX10_kept 14 = .ok (.iload_n 2, 1) := by decide +kernel
theorem dX10_kept_15 : decode cX10_kept 15 = .ok (.iconst (-1), 1) := by decide +kernel
theorem dX10_kept_16 : decode cX10_kept 16 = .ok (.if_icmp .ne 13, 3) := by decide +kernel
theorem dX10_kept_19 : decode cX10_kept 19 = .ok (.aload_n 0, 1) := by decide +kernel
theorem dX10_kept_20 : decode cX10_kept 20 = .ok (.getfield 45, 3) := by decide +kernel
theorem dX10_kept_23 : decode cX10_kept 23 = .ok (.getfield 201, 3) := by decide +kernel
theorem dX10_kept_26 : decode cX10_kept 26 = .ok (.goto 11, 3) := by decide +kernel
theorem dX10_kept_29 : decode cX10_kept 29 = .ok (.aload_n 0, 1) := by decide +kernel
theorem dX10_kept_30 : decode cX10_kept 30 = .ok (.getfield 45, 3) := by decide +kernel
theorem dX10_kept_33 : decode cX10_kept 33 = .ok (.iload_n 2, 1) := by decide +kernel
theorem dX10_kept_34 : decode cX10_kept 34 = .ok (.invokevirtual 202, 3) := by decide +kernel
theorem dX10_kept_37 : decode cX10_kept 37 = .ok (.ireturn, 1) := by decide +kernel
set_option maxRecDepth 20000 in
theorem ggX10_least_X0_gather : GoodIn wsX10_least wsX0_gather := goodIn_r _ [9, 10, 11, 12, 13, 14, 15, 16, 17, 18, 19, 20, 21, 22, 23, 24, 25, 26, 27, 28, 29, 30, 31, 32, 55, 56, 57, 58, 59, 60] (by decide +kernel) (by decide +kernel)
set_option maxRecDepth 20000 in
theorem gX10_least_X0_gather : GoodIn wsX10_least (wsV RX10 205 RX0 yX0_gather wsX0_gather) := goodIn_app (goodIn_of _ (by decide +kernel)) ggX10_least_X0_gather
set_option maxRecDepth 20000 in
theorem ggX10_least_X0_leastWronged : GoodIn wsX10_least wsX0_leastWronged := goodIn_r _ [36, 10, 11, 37, 38, 39, 40, 41, 42, 43, 44, 55, 56, 61, 62, 63, 64] (by decide +kernel) (by decide +kernel)
set_option maxRecDepth 20000 in
theorem gX10_least_X0_leastWronged : GoodIn wsX10_least (wsV RX10 208 RX0 yX0_leastWronged wsX0_leastWronged) := goodIn_app (goodIn_of _ (by decide +kernel)) ggX10_least_X0_leastWronged
set_option maxRecDepth 20000 in
theorem ggX10_least_X3_wronged : GoodIn wsX10_least wsX3_wronged := goodIn_r _ [41, 42, 43, 44, 61, 62, 63, 64] (by decide +kernel) (by decide +kernel)
set_option maxRecDepth 20000 in
theorem gX10_least_X3_wronged : GoodIn wsX10_least (wsV RX10 128 RX3 yX3_wronged wsX3_wronged) := goodIn_app (goodIn_of _ (by decide +kernel)) ggX10_least_X3_wronged
theorem dX10_least_0 : decode cX10_least 0 = .ok (.iload_n 1, 1) := by decide +kernel
theorem dX10_least_1 : decode cX10_least 1 = .ok (.ifCond .lt 8, 3) := by decide +kernel
theorem dX10_least_4 : decode cX10_least 4 = .ok (.iload_n 1, 1) := by decide +kernel
theorem dX10_least_5 : decode cX10_least 5 = .ok (.iconst 1, 1) := by decide +kernel
theorem dX10_least_6 : decode cX10_least 6 = .ok (.if_icmp .le 6, 3) := by decide +kernel
theorem dX10_least_9 : decode cX10_least 9 = .ok (.bipush (-2), 2) := by decide +kernel
theorem dX10_least_11 : decode cX10_least 11 = .ok (.ireturn, 1) := by decide +kernel
theorem dX10_least_12 : decode cX10_least 12 = .ok (.aload_n 0, 1) := by decide +kernel
theorem dX10_least_13 : decode cX10_least 13 = .ok (.getfield 45, 3) := by decide +kernel
theorem dX10_least_16 : decode cX10_least 16 = .ok (.aload_n 0, 1) := by decide +kernel
theorem dX10_least_17 : decode cX10_least 17 = .ok (.getfield 38, 3) := by decide +kernel
theorem dX10_least_20 : decode cX10_least 20 = .ok (.aload_n 0, 1) := by decide +kernel
theorem dX10_least_21 : decode cX10_least 21 = .ok (.getfield 65, 3) := by decide +kernel
theorem dX10_least_24 : decode cX10_least 24 = .ok (.invokevirtual 205, 3) := by decide +kernel
theorem dX10_least_27 : decode cX10_least 27 = .ok (.aload_n 0, 1) := by decide +kernel
theorem dX10_least_28 : decode cX10_least 28 = .ok (.getfield 45, 3) := by decide +kernel
theorem dX10_least_31 : decode cX10_least 31 = .ok (.aload_n 0, 1) := by decide +kernel
theorem dX10_least_32 : decode cX10_least 32 = .ok (.getfield 21, 3) := by decide +kernel
theorem dX10_least_35 : decode cX10_least 35 = .ok (.invokevirtual 208, 3) := by decide +kernel
theorem dX10_least_38 : decode cX10_least 38 = .ok (.istore_n 2, 1) := by decide +kernel
theorem dX10_least_39 : decode cX10_least 39 = .ok (.iload_n 2, 1) := by decide +kernel
theorem dX10_least_40 : decode cX10_least 40 = .ok (.bipush (-6), 2) := by decide +kernel
theorem dX10_least_42 : decode cX10_least 42 = .ok (.if_icmp .eq 7, 3) := by decide +kernel
theorem dX10_least_45 : decode cX10_least 45 = .ok (.iload_n 1, 1) := by decide +kernel
theorem dX10_least_46 : decode cX10_least 46 = .ok (.ifCond .ne 7, 3) := by decide +kernel
theorem dX10_least_49 : decode cX10_least 49 = .ok (.iload_n 2, 1) := by decide +kernel
theorem dX10_least_50 : decode cX10_least 50 = .ok (.goto 11, 3) := by decide +kernel
theorem dX10_least_53 : decode cX10_least 53 = .ok (.aload_n 0, 1) := by decide +kernel
theorem dX10_least_54 : decode cX10_least 54 = .ok (.getfield 21, 3) := by decide +kernel
theorem dX10_least_57 : decode cX10_least 57 = .ok (.iload_n 2, 1) := by decide +kernel
theorem dX10_least_58 : decode cX10_least 58 = .ok (.invokevirtual 128, 3) := by decide +kernel
theorem dX10_least_61 : decode cX10_least 61 = .ok (.ireturn, 1) := by decide +kernel
set_option maxRecDepth 20000 in
theorem ggX10_nearest_X10_isLaw : GoodIn wsX10_nearest wsX10_isLaw := goodIn_r _ [5] (by decide +kernel) (by decide +kernel)
set_option maxRecDepth 20000 in
theorem gX10_nearest_X10_isLaw : GoodIn wsX10_nearest (va_wsS RX10 186 yX10_isLaw wsX10_isLaw) := goodIn_app (goodIn_of _ (by decide +kernel)) ggX10_nearest_X10_isLaw
set_option maxRecDepth 20000 in
theorem ggX10_nearest_X10_isCommittee : GoodIn wsX10_nearest wsX10_isCommittee := goodIn_r _ [9, 10, 11, 12, 4, 13, 14, 15, 16, 17, 18, 19, 20, 102, 103, 104, 105, 106, 107, 108, 109, 110] (by decide +kernel) (by decide +kernel)
set_option maxRecDepth 20000 in
theorem gX10_nearest_X10_isCommittee : GoodIn wsX10_nearest (wsV RX10 118 RX10 yX10_isCommittee wsX10_isCommittee) := goodIn_app (goodIn_of _ (by decide +kernel)) ggX10_nearest_X10_isCommittee
set_option maxRecDepth 20000 in
theorem ggX10_nearest_X10_gatherKept : GoodIn wsX10_nearest wsX10_gatherKept := goodIn_r _ [24, 1, 25, 10, 26, 27, 28, 29, 30, 31, 32, 33, 34, 35, 15, 16, 17, 18, 19, 20, 36, 37, 38, 39, 40, 41, 42, 43, 44, 45, 46, 47, 48, 49, 50, 51, 52, 53, 54, 55, 56, 57, 58, 59, 60, 61, 62, 63, 64, 65, 66, 67, 68, 69, 70, 71, 72, 73, 74, 75, 76, 77, 78, 79, 80, 81, 82, 83, 84, 85, 86, 87, 88, 89, 90, 91, 92, 93, 94, 95, 96, 97, 102, 103, 104, 105, 106, 107, 108, 109, 110, 111, 112, 113, 114, 115, 116, 117, 118, 119, 120, 121, 122, 123, 124, 125, 126, 127, 128, 129] (by decide +kernel) (by decide +kernel)
set_option maxRecDepth 20000 in
theorem gX10_nearest_X10_gatherKept : GoodIn wsX10_nearest (wsV RX10 198 RX10 yX10_gatherKept wsX10_gatherKept) := goodIn_app (goodIn_of _ (by decide +kernel)) ggX10_nearest_X10_gatherKept
set_option maxRecDepth 20000 in
theorem ggX10_nearest_X0_closestTo : GoodIn wsX10_nearest wsX0_closestTo := goodIn_r _ [101, 33, 34, 35, 15, 16, 17, 18, 19, 20, 111, 112] (by decide +kernel) (by decide +kernel)
set_option maxRecDepth 20000 in
theorem gX10_nearest_X0_closestTo : GoodIn wsX10_nearest (wsV RX10 212 RX0 yX0_closestTo wsX0_closestTo) := goodIn_app (goodIn_of _ (by decide +kernel)) ggX10_nearest_X0_closestTo
theorem dX10_nearest_0 : decode cX10_nearest 0 = .ok (.iload_n 1, 1) := by decide +kernel
theorem dX10_nearest_1 : decode cX10_nearest 1 = .ok (.invokestatic 186, 3) := by decide +kernel
theorem dX10_nearest_4 : decode cX10_nearest 4 = .ok (.ifCond .ne 5, 3) := by decide +kernel
theorem dX10_nearest_7 : decode cX10_nearest 7 = .ok (.iconst (-1), 1) := by decide +kernel
theorem dX10_nearest_8 : decode cX10_nearest 8 = .ok (.ireturn, 1) := by decide +kernel
theorem dX10_nearest_9 : decode cX10_nearest 9 = .ok (.aload_n 0, 1) := by decide +kernel
theorem dX10_nearest_10 : decode cX10_nearest 10 = .ok (.iload_n 2, 1) := by decide +kernel
theorem dX10_nearest_11 : decode cX10_nearest 11 = .ok (.invokevirtual 118, 3) := by decide +kernel
theorem dX10_nearest_14 : decode cX10_nearest 14 = .ok (.ifCond .ne 6, 3) := by decide +kernel
theorem dX10_nearest_17 : decode cX10_nearest 17 = .ok (.bipush (-2), 2) := by decide +kernel
theorem dX10_nearest_19 : decode cX10_nearest 19 = .ok (.ireturn, 1) := by decide +kernel
theorem dX10_nearest_20 : decode cX10_nearest 20 = .ok (.aload_n 0, 1) := by decide +kernel
theorem dX10_nearest_21 : decode cX10_nearest 21 = .ok (.iload_n 1, 1) := by decide +kernel
theorem dX10_nearest_22 : decode cX10_nearest 22 = .ok (.invokevirtual 198, 3) := by decide +kernel
theorem dX10_nearest_25 : decode cX10_nearest 25 = .ok (.aload_n 0, 1) := by decide +kernel
theorem dX10_nearest_26 : decode cX10_nearest 26 = .ok (.getfield 45, 3) := by decide +kernel
theorem dX10_nearest_29 : decode cX10_nearest 29 = .ok (.iload_n 2, 1) := by decide +kernel
theorem dX10_nearest_30 : decode cX10_nearest 30 = .ok (.invokevirtual 212, 3) := by decide +kernel
theorem dX10_nearest_33 : decode cX10_nearest 33 = .ok (.ireturn, 1) := by decide +kernel
set_option maxRecDepth 20000 in
theorem ggX10_more_X10_isWay : GoodIn wsX10_more wsX10_isWay := goodIn_r _ [7] (by decide +kernel) (by decide +kernel)
set_option maxRecDepth 20000 in
theorem gX10_more_X10_isWay : GoodIn wsX10_more (va_wsS RX10 134 yX10_isWay wsX10_isWay) := goodIn_app (goodIn_of _ (by decide +kernel)) ggX10_more_X10_isWay
set_option maxRecDepth 20000 in
theorem ggX10_more_X10_runWay : GoodIn wsX10_more wsX10_runWay := goodIn_r _ [11, 12, 13, 2, 14, 15, 16, 17, 18, 19, 20, 21, 22, 23, 24, 25, 26, 27, 28, 29, 30, 31, 32, 33, 34, 35, 36, 37, 38, 39, 40, 41, 42, 43, 44, 45, 46, 47, 48, 49, 50, 51, 52, 53, 54, 55, 56, 57, 58, 59, 60, 61, 62, 63, 64, 65, 66, 67, 68, 69, 70, 71, 72, 73, 74, 75, 76, 77, 78, 79, 80, 81, 82, 83, 84, 85, 86, 87, 88, 89, 90, 91, 92, 93, 94, 95, 96, 97, 98, 99, 100, 101, 102, 103, 104, 105, 106, 107, 108, 109, 110, 111, 112, 113, 114, 115, 116, 117, 118, 119, 120, 121, 122, 123, 124, 125, 126, 127, 128, 129, 130, 131, 132, 133, 134, 135, 136, 137, 138, 139, 140, 141, 142, 143, 144, 145, 146, 147, 148, 149, 150, 151, 152, 153, 154, 155, 156, 157, 158, 159, 160, 161, 162, 163, 164, 165, 166, 167, 168, 169, 170, 171, 172, 173, 174, 175, 176, 177, 178, 179, 180, 181, 182, 183, 184, 185, 186, 187, 188, 189, 190, 191, 192, 193, 194, 195, 196, 197, 198, 199, 200, 201, 202, 203, 211, 212, 213, 214, 215, 216, 204, 205, 206, 207, 208, 209, 210, 217, 218, 219, 220, 221, 222, 223, 224, 225, 226, 227, 228] (by decide +kernel) (by decide +kernel)
set_option maxRecDepth 20000 in
theorem gX10_more_X10_runWay : GoodIn wsX10_more (wsV RX10 137 RX10 yX10_runWay wsX10_runWay) := goodIn_app (goodIn_of _ (by decide +kernel)) ggX10_more_X10_runWay
theorem dX10_more_0 : decode cX10_more 0 = .ok (.iload_n 1, 1) := by decide +kernel
theorem dX10_more_1 : decode cX10_more 1 = .ok (.invokestatic 134, 3) := by decide +kernel
theorem dX10_more_4 : decode cX10_more 4 = .ok (.ifCond .ne 5, 3) := by decide +kernel
theorem dX10_more_7 : decode cX10_more 7 = .ok (.iconst (-1), 1) := by decide +kernel
theorem dX10_more_8 : decode cX10_more 8 = .ok (.ireturn, 1) := by decide +kernel
theorem dX10_more_9 : decode cX10_more 9 = .ok (.iload_n 2, 1) := by decide +kernel
theorem dX10_more_10 : decode cX10_more 10 = .ok (.ifCond .lt 8, 3) := by decide +kernel
theorem dX10_more_13 : decode cX10_more 13 = .ok (.iload_n 2, 1) := by decide +kernel
theorem dX10_more_14 : decode cX10_more 14 = .ok (.iconst 1, 1) := by decide +kernel
theorem dX10_more_15 : decode cX10_more 15 = .ok (.if_icmp .le 6, 3) := by decide +kernel
theorem dX10_more_18 : decode cX10_more 18 = .ok (.bipush (-2), 2) := by decide +kernel
theorem dX10_more_20 : decode cX10_more 20 = .ok (.ireturn, 1) := by decide +kernel
theorem dX10_more_21 : decode cX10_more 21 = .ok (.aload_n 0, 1) := by decide +kernel
theorem dX10_more_22 : decode cX10_more 22 = .ok (.getfield 65, 3) := by decide +kernel
theorem dX10_more_25 : decode cX10_more 25 = .ok (.iconst 4, 1) := by decide +kernel
theorem dX10_more_26 : decode cX10_more 26 = .ok (.if_icmp .lt 6, 3) := by decide +kernel
theorem dX10_more_29 : decode cX10_more 29 = .ok (.bipush (-3), 2) := by decide +kernel
theorem dX10_more_31 : decode cX10_more 31 = .ok (.ireturn, 1) := by decide +kernel
theorem dX10_more_32 : decode cX10_more 32 = .ok (.aload_n 0, 1) := by decide +kernel
theorem dX10_more_33 : decode cX10_more 33 = .ok (.iload_n 1, 1) := by decide +kernel
theorem dX10_more_34 : decode cX10_more 34 = .ok (.aload_n 0, 1) := by decide +kernel
theorem dX10_more_35 : decode cX10_more 35 = .ok (.getfield 65, 3) := by decide +kernel
theorem dX10_more_38 : decode cX10_more 38 = .ok (.invokevirtual 137, 3) := by decide +kernel
theorem dX10_more_41 : decode cX10_more 41 = .ok (.aload_n 0, 1) := by decide +kernel
theorem dX10_more_42 : decode cX10_more 42 = .ok (.getfield 61, 3) := by decide +kernel
theorem dX10_more_45 : decode cX10_more 45 = .ok (.getfield 140, 3) := by decide +kernel
theorem dX10_more_48 : decode cX10_more 48 = .ok (.istore_n 3, 1) := by decide +kernel
theorem dX10_more_49 : decode cX10_more 49 = .ok (.aload_n 0, 1) := by decide +kernel
theorem dX10_more_50 : decode cX10_more 50 = .ok (.iload_n 1, 1) := by decide +kernel
theorem dX10_more_51 : decode cX10_more 51 = .ok (.aload_n 0, 1) := by decide +kernel
theorem dX10_more_52 : decode cX10_more 52 = .ok (.getfield 65, 3) := by decide +kernel
theorem dX10_more_55 : decode cX10_more 55 = .ok (.iconst 1, 1) := by decide +kernel
theorem dX10_more_56 : decode cX10_more 56 = .ok (.iadd, 1) := by decide +kernel
theorem dX10_more_57 : decode cX10_more 57 = .ok (.invokevirtual 137, 3) := by decide +kernel
theorem dX10_more_60 : decode cX10_more 60 = .ok (.aload_n 0, 1) := by decide +kernel
theorem dX10_more_61 : decode cX10_more 61 = .ok (.getfield 61, 3) := by decide +kernel
theorem dX10_more_64 : decode cX10_more 64 = .ok (.getfield 140, 3) := by decide +kernel
theorem dX10_more_67 : decode cX10_more 67 = .ok (.istore 4, 2) := by decide +kernel
theorem dX10_more_69 : decode cX10_more 69 = .ok (.iload_n 2, 1) := by decide +kernel
theorem dX10_more_70 : decode cX10_more 70 = .ok (.ifCond .ne 12, 3) := by decide +kernel
theorem dX10_more_73 : decode cX10_more 73 = .ok (.iload 4, 2) := by decide +kernel
theorem dX10_more_75 : decode cX10_more 75 = .ok (.iload_n 3, 1) := by decide +kernel
theorem dX10_more_76 : decode cX10_more 76 = .ok (.iconst (-1), 1) := by decide +kernel
theorem dX10_more_77 : decode cX10_more 77 = .ok (.ixor, 1) := by decide +kernel
theorem dX10_more_78 : decode cX10_more 78 = .ok (.iand, 1) := by decide +kernel
theorem dX10_more_79 : decode cX10_more 79 = .ok (.goto 9, 3) := by decide +kernel
theorem dX10_more_82 : decode cX10_more 82 = .ok (.iload_n 3, 1) := by decide +kernel
theorem dX10_more_83 : decode cX10_more 83 = .ok (.iload 4, 2) := by decide +kernel
theorem dX10_more_85 : decode cX10_more 85 = .ok (.iconst (-1), 1) := by decide +kernel
theorem dX10_more_86 : decode cX10_more 86 = .ok (.ixor, 1) := by decide +kernel
theorem dX10_more_87 : decode cX10_more 87 = .ok (.iand, 1) := by decide +kernel
theorem dX10_more_88 : decode cX10_more 88 = .ok (.ireturn, 1) := by decide +kernel
set_option maxRecDepth 20000 in
theorem ggX10_turn_X10_isWay : GoodIn wsX10_turn wsX10_isWay := goodIn_r _ [11] (by decide +kernel) (by decide +kernel)
set_option maxRecDepth 20000 in
theorem gX10_turn_X10_isWay : GoodIn wsX10_turn (va_wsS RX10 134 yX10_isWay wsX10_isWay) := goodIn_app (goodIn_of _ (by decide +kernel)) ggX10_turn_X10_isWay
set_option maxRecDepth 20000 in
theorem ggX10_turn_X10_isHeap : GoodIn wsX10_turn wsX10_isHeap := goodIn_r _ [15, 5, 16, 210, 211, 212, 213, 214, 215, 216, 217, 218, 219, 220, 221, 222] (by decide +kernel) (by decide +kernel)
set_option maxRecDepth 20000 in
theorem gX10_turn_X10_isHeap : GoodIn wsX10_turn (wsV RX10 83 RX10 yX10_isHeap wsX10_isHeap) := goodIn_app (goodIn_of _ (by decide +kernel)) ggX10_turn_X10_isHeap
set_option maxRecDepth 20000 in
theorem ggX10_turn_X0_gather : GoodIn wsX10_turn wsX0_gather := goodIn_r _ [21, 22, 23, 24, 25, 26, 27, 28, 29, 30, 31, 32, 33, 34, 35, 36, 37, 38, 39, 40, 41, 42, 43, 44, 223, 224, 225, 226, 227, 228] (by decide +kernel) (by decide +kernel)
set_option maxRecDepth 20000 in
theorem gX10_turn_X0_gather : GoodIn wsX10_turn (wsV RX10 205 RX0 yX0_gather wsX0_gather) := goodIn_app (goodIn_of _ (by decide +kernel)) ggX10_turn_X0_gather
set_option maxRecDepth 20000 in
theorem ggX10_turn_X3_copyOf : GoodIn wsX10_turn wsX3_copyOf := goodIn_r _ [49, 50, 51, 52, 219, 220, 221, 222] (by decide +kernel) (by decide +kernel)
set_option maxRecDepth 20000 in
theorem gX10_turn_X3_copyOf : GoodIn wsX10_turn (wsV RX10 215 RX3 yX3_copyOf wsX3_copyOf) := goodIn_app (goodIn_of _ (by decide +kernel)) ggX10_turn_X3_copyOf
set_option maxRecDepth 20000 in
theorem ggX10_turn_X3_append : GoodIn wsX10_turn wsX3_append := goodIn_r _ [56, 52, 50, 51, 219, 220, 221, 222] (by decide +kernel) (by decide +kernel)
set_option maxRecDepth 20000 in
theorem gX10_turn_X3_append : GoodIn wsX10_turn (wsV RX10 79 RX3 yX3_append wsX3_append) := goodIn_app (goodIn_of _ (by decide +kernel)) ggX10_turn_X3_append
set_option maxRecDepth 20000 in
theorem ggX10_turn_X8_run : GoodIn wsX10_turn wsX8_run := goodIn_r _ [61, 62, 63, 64, 65, 60, 66, 67, 68, 69, 70, 71, 72, 73, 74, 75, 76, 77, 78, 79, 48, 80, 52, 51, 81, 82, 83, 84, 50, 85, 86, 87, 88, 89, 90, 91, 92, 93, 94, 95, 96, 97, 98, 99, 100, 25, 26, 27, 28, 29, 30, 101, 102, 103, 104, 105, 106, 107, 108, 109, 110, 111, 112, 113, 114, 115, 116, 117, 118, 119, 120, 121, 122, 123, 124, 125, 126, 127, 128, 129, 130, 131, 132, 133, 134, 135, 136, 137, 138, 139, 140, 141, 142, 143, 144, 145, 146, 147, 148, 149, 150, 151, 152, 153, 154, 155, 156, 157, 158, 159, 160, 161, 162, 163, 164, 165, 166, 167, 168, 169, 170, 171, 172, 173, 174, 175, 176, 177, 178, 179, 180, 181, 182, 183, 184, 185, 186, 187, 188, 189, 190, 191, 20, 192, 22, 23, 193, 194, 195, 196, 197, 198, 199, 200, 201, 202, 203, 204, 229, 230, 231, 232, 233, 234, 235, 219, 220, 221, 222, 236, 237, 238, 239, 240, 241, 242, 243, 223, 224] (by decide +kernel) (by decide +kernel)
set_option maxRecDepth 20000 in
theorem gX10_turn_X8_run : GoodIn wsX10_turn (wsV RX10 219 RX8 yX8_run wsX8_run) := goodIn_app (goodIn_of _ (by decide +kernel)) ggX10_turn_X8_run
set_option maxRecDepth 20000 in
theorem ggX10_turn_X8_holds : GoodIn wsX10_turn wsX8_holds := goodIn_r _ [76, 68, 229, 230, 231, 232, 233, 234, 235] (by decide +kernel) (by decide +kernel)
set_option maxRecDepth 20000 in
theorem gX10_turn_X8_holds : GoodIn wsX10_turn (wsV RX10 223 RX8 yX8_holds wsX8_holds) := goodIn_app (goodIn_of _ (by decide +kernel)) ggX10_turn_X8_holds
set_option maxRecDepth 20000 in
theorem ggX10_turn_X3_moveToLast : GoodIn wsX10_turn wsX3_moveToLast := goodIn_r _ [209, 52, 51, 219, 220, 221, 222] (by decide +kernel) (by decide +kernel)
set_option maxRecDepth 20000 in
theorem gX10_turn_X3_moveToLast : GoodIn wsX10_turn (wsV RX10 226 RX3 yX3_moveToLast wsX3_moveToLast) := goodIn_app (goodIn_of _ (by decide +kernel)) ggX10_turn_X3_moveToLast
theorem dX10_turn_0 : decode cX10_turn 0 = .ok (.iload_n 1, 1) := by decide +kernel
theorem dX10_turn_1 : decode cX10_turn 1 = .ok (.invokestatic 134, 3) := by decide +kernel
theorem dX10_turn_4 : decode cX10_turn 4 = .ok (.ifCond .eq 21, 3) := by decide +kernel
theorem dX10_turn_7 : decode cX10_turn 7 = .ok (.aload_n 0, 1) := by decide +kernel
theorem dX10_turn_8 : decode cX10_turn 8 = .ok (.iload_n 2, 1) := by decide +kernel
theorem dX10_turn_9 : decode cX10_turn 9 = .ok (.invokevirtual 83, 3) := by decide +kernel
theorem dX10_turn_12 : decode cX10_turn 12 = .ok (.ifCond .eq 13, 3) := by decide +kernel
theorem dX10_turn_15 : decode cX10_turn 15 = .ok (.iload_n 3, 1) := by decide +kernel
theorem dX10_turn_16 : decode cX10_turn 16 = .ok (.ifCond .lt 9, 3) := by decide +kernel
theorem dX10_turn_19 : decode cX10_turn 19 = .ok (.iload_n 3, 1) := by decide +kernel
theorem dX10_turn_20 : decode cX10_turn 20 = .ok (.bipush 8, 2) := by decide +kernel
theorem dX10_turn_22 : decode cX10_turn 22 = .ok (.if_icmp .lt 5, 3) := by decide +kernel
theorem dX10_turn_25 : decode cX10_turn 25 = .ok (.iconst (-1), 1) := by decide +kernel
theorem dX10_turn_26 : decode cX10_turn 26 = .ok (.ireturn, 1) := by decide +kernel
theorem dX10_turn_27 : decode cX10_turn 27 = .ok (.aload_n 0, 1) := by decide +kernel
theorem dX10_turn_28 : decode cX10_turn 28 = .ok (.getfield 45, 3) := by decide +kernel
theorem dX10_turn_31 : decode cX10_turn 31 = .ok (.aload_n 0, 1) := by decide +kernel
theorem dX10_turn_32 : decode cX10_turn 32 = .ok (.getfield 38, 3) := by decide +kernel
theorem dX10_turn_35 : decode cX10_turn 35 = .ok (.aload_n 0, 1) := by decide +kernel
theorem dX10_turn_36 : decode cX10_turn 36 = .ok (.getfield 65, 3) := by decide +kernel
theorem dX10_turn_39 : decode cX10_turn 39 = .ok (.invokevirtual 205, 3) := by decide +kernel
theorem dX10_turn_42 : decode cX10_turn 42 = .ok (.aload_n 0, 1) := by decide +kernel
theorem dX10_turn_43 : decode cX10_turn 43 = .ok (.getfield 25, 3) := by decide +kernel
theorem dX10_turn_46 : decode cX10_turn 46 = .ok (.aload_n 0, 1) := by decide +kernel
theorem dX10_turn_47 : decode cX10_turn 47 = .ok (.getfield 21, 3) := by decide +kernel
theorem dX10_turn_50 : decode cX10_turn 50 = .ok (.invokevirtual 215, 3) := by decide +kernel
theorem dX10_turn_53 : decode cX10_turn 53 = .ok (.aload_n 0, 1) := by decide +kernel
theorem dX10_turn_54 : decode cX10_turn 54 = .ok (.getfield 25, 3) := by decide +kernel
theorem dX10_turn_57 : decode cX10_turn 57 = .ok (.iconst 1, 1) := by decide +kernel
theorem dX10_turn_58 : decode cX10_turn 58 = .ok (.iload_n 3, 1) := by decide +kernel
theorem dX10_turn_59 : decode cX10_turn 59 = .ok (.ishl, 1) := by decide +kernel
theorem dX10_turn_60 : decode cX10_turn 60 = .ok (.iconst 0, 1) := by decide +kernel
theorem dX10_turn_61 : decode cX10_turn 61 = .ok (.invokevirtual 79, 3) := by decide +kernel
theorem dX10_turn_64 : decode cX10_turn 64 = .ok (.aload_n 0, 1) := by decide +kernel
theorem dX10_turn_65 : decode cX10_turn 65 = .ok (.getfield 21, 3) := by decide +kernel
theorem dX10_turn_68 : decode cX10_turn 68 = .ok (.getfield 90, 3) := by decide +kernel
theorem dX10_turn_71 : decode cX10_turn 71 = .ok (.iload_n 2, 1) := by decide +kernel
theorem dX10_turn_72 : decode cX10_turn 72 = .ok (.iaload, 1) := by decide +kernel
theorem dX10_turn_73 : decode cX10_turn 73 = .ok (.istore 4, 2) := by decide +kernel
theorem dX10_turn_75 : decode cX10_turn 75 = .ok (.iconst 0, 1) := by decide +kernel
theorem dX10_turn_76 : decode cX10_turn 76 = .ok (.istore 5, 2) := by decide +kernel
theorem dX10_turn_78 : decode cX10_turn 78 = .ok (.iload 5, 2) := by decide +kernel
theorem dX10_turn_80 : decode cX10_turn 80 = .ok (.iload 4, 2) := by decide +kernel
theorem dX10_turn_82 : decode cX10_turn 82 = .ok (.if_icmp .gt 47, 3) := by decide +kernel
theorem dX10_turn_85 : decode cX10_turn 85 = .ok (.aload_n 0, 1) := by decide +kernel
theorem dX10_turn_86 : decode cX10_turn 86 = .ok (.getfield 61, 3) := by decide +kernel
theorem dX10_turn_89 : decode cX10_turn 89 = .ok (.iload_n 1, 1) := by decide +kernel
theorem dX10_turn_90 : decode cX10_turn 90 = .ok (.aload_n 0, 1) := by decide +kernel
theorem dX10_turn_91 : decode cX10_turn 91 = .ok (.getfield 25, 3) := by decide +kernel
theorem dX10_turn_94 : decode cX10_turn 94 = .ok (.aload_n 0, 1) := by decide +kernel
theorem dX10_turn_95 : decode cX10_turn 95 = .ok (.getfield 65, 3) := by decide +kernel
theorem dX10_turn_98 : decode cX10_turn 98 = .ok (.invokevirtual 219, 3) := by decide +kernel
theorem dX10_turn_101 : decode cX10_turn 101 = .ok (.aload_n 0, 1) := by decide +kernel
theorem dX10_turn_102 : decode cX10_turn 102 = .ok (.getfield 61, 3) := by decide +kernel
theorem dX10_turn_105 : decode cX10_turn 105 = .ok (.iload_n 3, 1) := by decide +kernel
theorem dX10_turn_106 : decode cX10_turn 106 = .ok (.invokevirtual 223, 3) := by decide +kernel
theorem dX10_turn_109 : decode cX10_turn 109 = .ok (.ifCond .eq 6, 3) := by decide +kernel
theorem dX10_turn_112 : decode cX10_turn 112 = .ok (.iload 5, 2) := by decide +kernel
theorem dX10_turn_114 : decode cX10_turn 114 = .ok (.ireturn, 1) := by decide +kernel
theorem dX10_turn_115 : decode cX10_turn 115 = .ok (.aload_n 0, 1) := by decide +kernel
theorem dX10_turn_116 : decode cX10_turn 116 = .ok (.getfield 25, 3) := by decide +kernel
theorem dX10_turn_119 : decode cX10_turn 119 = .ok (.iload_n 2, 1) := by decide +kernel
theorem dX10_turn_120 : decode cX10_turn 120 = .ok (.invokevirtual 226, 3) := by decide +kernel
theorem dX10_turn_123 : decode cX10_turn 123 = .ok (.iinc 5 1, 3) := by decide +kernel
theorem dX10_turn_126 : decode cX10_turn 126 = .ok (.goto (-48), 3) := by decide +kernel
theorem dX10_turn_129 : decode cX10_turn 129 = .ok (.bipush (-6), 2) := by decide +kernel
theorem dX10_turn_131 : decode cX10_turn 131 = .ok (.ireturn, 1) := by decide +kernel
set_option maxRecDepth 20000 in
theorem ggX10_told_X10_isHeap : GoodIn wsX10_told wsX10_isHeap := goodIn_r _ [16, 3, 6, 24, 25, 26, 27, 28, 29, 30, 31, 32, 35, 36, 37, 38] (by decide +kernel) (by decide +kernel)
set_option maxRecDepth 20000 in
theorem gX10_told_X10_isHeap : GoodIn wsX10_told (wsV RX10 83 RX10 yX10_isHeap wsX10_isHeap) := goodIn_app (goodIn_of _ (by decide +kernel)) ggX10_told_X10_isHeap
set_option maxRecDepth 20000 in
theorem ggX10_told_X3_total : GoodIn wsX10_told wsX3_total := goodIn_r _ [21, 22, 23, 35, 36, 37, 38] (by decide +kernel) (by decide +kernel)
set_option maxRecDepth 20000 in
theorem gX10_told_X3_total : GoodIn wsX10_told (wsV RX10 229 RX3 yX3_total wsX3_total) := goodIn_app (goodIn_of _ (by decide +kernel)) ggX10_told_X3_total
theorem dX10_told_0 : decode cX10_told 0 = .ok (.iload_n 1, 1) := by decide +kernel
theorem dX10_told_1 : decode cX10_told 1 = .ok (.bipush 10, 2) := by decide +kernel
theorem dX10_told_3 : decode cX10_told 3 = .ok (.if_icmp .lt 22, 3) := by decide +kernel
theorem dX10_told_6 : decode cX10_told 6 = .ok (.iload_n 1, 1) := by decide +kernel
theorem dX10_told_7 : decode cX10_told 7 = .ok (.bipush 14, 2) := by decide +kernel
theorem dX10_told_9 : decode cX10_told 9 = .ok (.if_icmp .ge 16, 3) := by decide +kernel
theorem dX10_told_12 : decode cX10_told 12 = .ok (.aload_n 0, 1) := by decide +kernel
theorem dX10_told_13 : decode cX10_told 13 = .ok (.getfield 10, 3) := by decide +kernel
theorem dX10_told_16 : decode cX10_told 16 = .ok (.getfield 97, 3) := by decide +kernel
theorem dX10_told_19 : decode cX10_told 19 = .ok (.iload_n 1, 1) := by decide +kernel
theorem dX10_told_20 : decode cX10_told 20 = .ok (.bipush 10, 2) := by decide +kernel
theorem dX10_told_22 : decode cX10_told 22 = .ok (.isub, 1) := by decide +kernel
theorem dX10_told_23 : decode cX10_told 23 = .ok (.iaload, 1) := by decide +kernel
theorem dX10_told_24 : decode cX10_told 24 = .ok (.ireturn, 1) := by decide +kernel
theorem dX10_told_25 : decode cX10_told 25 = .ok (.iload_n 1, 1) := by decide +kernel
theorem dX10_told_26 : decode cX10_told 26 = .ok (.bipush 20, 2) := by decide +kernel
theorem dX10_told_28 : decode cX10_told 28 = .ok (.if_icmp .lt 38, 3) := by decide +kernel
theorem dX10_told_31 : decode cX10_told 31 = .ok (.iload_n 1, 1) := by decide +kernel
theorem dX10_told_32 : decode cX10_told 32 = .ok (.bipush 26, 2) := by decide +kernel
theorem dX10_told_34 : decode cX10_told 34 = .ok (.if_icmp .ge 32, 3) := by decide +kernel
theorem dX10_told_37 : decode cX10_told 37 = .ok (.aload_n 0, 1) := by decide +kernel
theorem dX10_told_38 : decode cX10_told 38 = .ok (.iload_n 1, 1) := by decide +kernel
theorem dX10_told_39 : decode cX10_told 39 = .ok (.bipush 20, 2) := by decide +kernel
theorem dX10_told_41 : decode cX10_told 41 = .ok (.isub, 1) := by decide +kernel
theorem dX10_told_42 : decode cX10_told 42 = .ok (.invokevirtual 83, 3) := by decide +kernel
theorem dX10_told_45 : decode cX10_told 45 = .ok (.ifCond .eq 18, 3) := by decide +kernel
theorem dX10_told_48 : decode cX10_told 48 = .ok (.aload_n 0, 1) := by decide +kernel
theorem dX10_told_49 : decode cX10_told 49 = .ok (.getfield 21, 3) := by decide +kernel
theorem dX10_told_52 : decode cX10_told 52 = .ok (.getfield 90, 3) := by decide +kernel
theorem dX10_told_55 : decode cX10_told 55 = .ok (.iload_n 1, 1) := by decide +kernel
theorem dX10_told_56 : decode cX10_told 56 = .ok (.bipush 20, 2) := by decide +kernel
theorem dX10_told_58 : decode cX10_told 58 = .ok (.isub, 1) := by decide +kernel
theorem dX10_told_59 : decode cX10_told 59 = .ok (.iaload, 1) := by decide +kernel
theorem dX10_told_60 : decode cX10_told 60 = .ok (.goto 5, 3) := by decide +kernel
theorem dX10_told_63 : decode cX10_told 63 = .ok (.bipush (-6), 2) := by decide +kernel
theorem dX10_told_65 : decode cX10_told 65 = .ok (.ireturn, 1) := by decide +kernel
theorem dX10_told_66 : decode cX10_told 66 = .ok (.iload_n 1, 1) := by decide +kernel
theorem dX10_told_67 : decode cX10_told 67 = .ok (.bipush 30, 2) := by decide +kernel
theorem dX10_told_69 : decode cX10_told 69 = .ok (.if_icmp .lt 38, 3) := by decide +kernel
theorem dX10_told_72 : decode cX10_told 72 = .ok (.iload_n 1, 1) := by decide +kernel
theorem dX10_told_73 : decode cX10_told 73 = .ok (.bipush 36, 2) := by decide +kernel
theorem dX10_told_75 : decode cX10_told 75 = .ok (.if_icmp .ge 32, 3) := by decide +kernel
theorem dX10_told_78 : decode cX10_told 78 = .ok (.aload_n 0, 1) := by decide +kernel
theorem dX10_told_79 : decode cX10_told 79 = .ok (.iload_n 1, 1) := by decide +kernel
theorem dX10_told_80 : decode cX10_told 80 = .ok (.bipush 30, 2) := by decide +kernel
theorem dX10_told_82 : decode cX10_told 82 = .ok (.isub, 1) := by decide +kernel
theorem dX10_told_83 : decode cX10_told 83 = .ok (.invokevirtual 83, 3) := by decide +kernel
theorem dX10_told_86 : decode cX10_told 86 = .ok (.ifCond .eq 18, 3) := by decide +kernel
theorem dX10_told_89 : decode cX10_told 89 = .ok (.aload_n 0, 1) := by decide +kernel
theorem dX10_told_90 : decode cX10_told 90 = .ok (.getfield 21, 3) := by decide +kernel
theorem dX10_told_93 : decode cX10_told 93 = .ok (.getfield 86, 3) := by decide +kernel
theorem dX10_told_96 : decode cX10_told 96 = .ok (.iload_n 1, 1) := by decide +kernel
theorem dX10_told_97 : decode cX10_told 97 = .ok (.bipush 30, 2) := by decide +kernel
theorem dX10_told_99 : decode cX10_told 99 = .ok (.isub, 1) := by decide +kernel
theorem dX10_told_100 : decode cX10_told 100 = .ok (.iaload, 1) := by decide +kernel
theorem dX10_told_101 : decode cX10_told 101 = .ok (.goto 5, 3) := by decide +kernel
theorem dX10_told_104 : decode cX10_told 104 = .ok (.bipush (-6), 2) := by decide +kernel
theorem dX10_told_106 : decode cX10_told 106 = .ok (.ireturn, 1) := by decide +kernel
theorem dX10_told_107 : decode cX10_told 107 = .ok (.iload_n 1, 1) := by decide +kernel
theorem dX10_told_108 : decode cX10_told 108 = .ok (.tableswitch 73 0 4 #[36, 44, 52, 57, 65], 36) := by decide +kernel
theorem dX10_told_144 : decode cX10_told 144 = .ok (.aload_n 0, 1) := by decide +kernel
theorem dX10_told_145 : decode cX10_told 145 = .ok (.getfield 21, 3) := by decide +kernel
theorem dX10_told_148 : decode cX10_told 148 = .ok (.getfield 76, 3) := by decide +kernel
theorem dX10_told_151 : decode cX10_told 151 = .ok (.ireturn, 1) := by decide +kernel
theorem dX10_told_152 : decode cX10_told 152 = .ok (.aload_n 0, 1) := by decide +kernel
theorem dX10_told_153 : decode cX10_told 153 = .ok (.getfield 21, 3) := by decide +kernel
theorem dX10_told_156 : decode cX10_told 156 = .ok (.invokevirtual 229, 3) := by decide +kernel
theorem dX10_told_159 : decode cX10_told 159 = .ok (.ireturn, 1) := by decide +kernel
theorem dX10_told_160 : decode cX10_told 160 = .ok (.aload_n 0, 1) := by decide +kernel
theorem dX10_told_161 : decode cX10_told 161 = .ok (.getfield 65, 3) := by decide +kernel
theorem dX10_told_164 : decode cX10_told 164 = .ok (.ireturn, 1) := by decide +kernel
theorem dX10_told_165 : decode cX10_told 165 = .ok (.aload_n 0, 1) := by decide +kernel
theorem dX10_told_166 : decode cX10_told 166 = .ok (.getfield 31, 3) := by decide +kernel
theorem dX10_told_169 : decode cX10_told 169 = .ok (.getfield 103, 3) := by decide +kernel
theorem dX10_told_172 : decode cX10_told 172 = .ok (.ireturn, 1) := by decide +kernel
theorem dX10_told_173 : decode cX10_told 173 = .ok (.aload_n 0, 1) := by decide +kernel
theorem dX10_told_174 : decode cX10_told 174 = .ok (.getfield 38, 3) := by decide +kernel
theorem dX10_told_177 : decode cX10_told 177 = .ok (.getfield 117, 3) := by decide +kernel
theorem dX10_told_180 : decode cX10_told 180 = .ok (.ireturn, 1) := by decide +kernel
theorem dX10_told_181 : decode cX10_told 181 = .ok (.bipush (-2), 2) := by decide +kernel
theorem dX10_told_183 : decode cX10_told 183 = .ok (.ireturn, 1) := by decide +kernel
theorem dX10_isSet_0 : decode cX10_isSet 0 = .ok (.iload_n 0, 1) := by decide +kernel
theorem dX10_isSet_1 : decode cX10_isSet 1 = .ok (.iconst 1, 1) := by decide +kernel
theorem dX10_isSet_2 : decode cX10_isSet 2 = .ok (.if_icmp .lt 14, 3) := by decide +kernel
theorem dX10_isSet_5 : decode cX10_isSet 5 = .ok (.iload_n 0, 1) := by decide +kernel
theorem dX10_isSet_6 : decode cX10_isSet 6 = .ok (.sipush 255, 3) := by decide +kernel
theorem dX10_isSet_9 : decode cX10_isSet 9 = .ok (.if_icmp .gt 7, 3) := by decide +kernel
theorem dX10_isSet_12 : decode cX10_isSet 12 = .ok (.iconst 1, 1) := by decide +kernel
theorem dX10_isSet_13 : decode cX10_isSet 13 = .ok (.goto 4, 3) := by decide +kernel
theorem dX10_isSet_16 : decode cX10_isSet 16 = .ok (.iconst 0, 1) := by decide +kernel
theorem dX10_isSet_17 : decode cX10_isSet 17 = .ok (.ireturn, 1) := by decide +kernel
theorem dX10_isPapers_0 : decode cX10_isPapers 0 = .ok (.iload_n 0, 1) := by decide +kernel
theorem dX10_isPapers_1 : decode cX10_isPapers 1 = .ok (.iconst 1, 1) := by decide +kernel
theorem dX10_isPapers_2 : decode cX10_isPapers 2 = .ok (.if_icmp .lt 13, 3) := by decide +kernel
theorem dX10_isPapers_5 : decode cX10_isPapers 5 = .ok (.iload_n 0, 1) := by decide +kernel
theorem dX10_isPapers_6 : decode cX10_isPapers 6 = .ok (.bipush 100, 2) := by decide +kernel
theorem dX10_isPapers_8 : decode cX10_isPapers 8 = .ok (.if_icmp .gt 7, 3) := by decide +kernel
theorem dX10_isPapers_11 : decode cX10_isPapers 11 = .ok (.iconst 1, 1) := by decide +kernel
theorem dX10_isPapers_12 : decode cX10_isPapers 12 = .ok (.goto 4, 3) := by decide +kernel
theorem dX10_isPapers_15 : decode cX10_isPapers 15 = .ok (.iconst 0, 1) := by decide +kernel
theorem dX10_isPapers_16 : decode cX10_isPapers 16 = .ok (.ireturn, 1) := by decide +kernel
theorem dX10_isWay_0 : decode cX10_isWay 0 = .ok (.iload_n 0, 1) := by decide +kernel
theorem dX10_isWay_1 : decode cX10_isWay 1 = .ok (.ifCond .lt 12, 3) := by decide +kernel
theorem dX10_isWay_4 : decode cX10_isWay 4 = .ok (.iload_n 0, 1) := by decide +kernel
theorem dX10_isWay_5 : decode cX10_isWay 5 = .ok (.iconst 5, 1) := by decide +kernel
theorem dX10_isWay_6 : decode cX10_isWay 6 = .ok (.if_icmp .gt 7, 3) := by decide +kernel
theorem dX10_isWay_9 : decode cX10_isWay 9 = .ok (.iconst 1, 1) := by decide +kernel
theorem dX10_isWay_10 : decode cX10_isWay 10 = .ok (.goto 4, 3) := by decide +kernel
theorem dX10_isWay_13 : decode cX10_isWay 13 = .ok (.iconst 0, 1) := by decide +kernel
theorem dX10_isWay_14 : decode cX10_isWay 14 = .ok (.ireturn, 1) := by decide +kernel
theorem dX10_isLaw_0 : decode cX10_isLaw 0 = .ok (.iload_n 0, 1) := by decide +kernel
theorem dX10_isLaw_1 : decode cX10_isLaw 1 = .ok (.ifCond .lt 12, 3) := by decide +kernel
theorem dX10_isLaw_4 : decode cX10_isLaw 4 = .ok (.iload_n 0, 1) := by decide +kernel
theorem dX10_isLaw_5 : decode cX10_isLaw 5 = .ok (.iconst 2, 1) := by decide +kernel
theorem dX10_isLaw_6 : decode cX10_isLaw 6 = .ok (.if_icmp .gt 7, 3) := by decide +kernel
theorem dX10_isLaw_9 : decode cX10_isLaw 9 = .ok (.iconst 1, 1) := by decide +kernel
theorem dX10_isLaw_10 : decode cX10_isLaw 10 = .ok (.goto 4, 3) := by decide +kernel
theorem dX10_isLaw_13 : decode cX10_isLaw 13 = .ok (.iconst 0, 1) := by decide +kernel
theorem dX10_isLaw_14 : decode cX10_isLaw 14 = .ok (.ireturn, 1) := by decide +kernel
theorem dX10_isHeap_0 : decode cX10_isHeap 0 = .ok (.iload_n 1, 1) := by decide +kernel
theorem dX10_isHeap_1 : decode cX10_isHeap 1 = .ok (.ifCond .lt 24, 3) := by decide +kernel
theorem dX10_isHeap_4 : decode cX10_isHeap 4 = .ok (.iload_n 1, 1) := by decide +kernel
theorem dX10_isHeap_5 : decode cX10_isHeap 5 = .ok (.aload_n 0, 1) := by decide +kernel
theorem dX10_isHeap_6 : decode cX10_isHeap 6 = .ok (.getfield 21, 3) := by decide +kernel
theorem dX10_isHeap_9 : decode cX10_isHeap 9 = .ok (.getfield 76, 3) := by decide +kernel
theorem dX10_isHeap_12 : decode cX10_isHeap 12 = .ok (.if_icmp .ge 13, 3) := by decide +kernel
theorem dX10_isHeap_15 : decode cX10_isHeap 15 = .ok (.iload_n 1, 1) := by decide +kernel
theorem dX10_isHeap_16 : decode cX10_isHeap 16 = .ok (.bipush 6, 2) := by decide +kernel
theorem dX10_isHeap_18 : decode cX10_isHeap 18 = .ok (.if_icmp .ge 7, 3) := by decide +kernel
theorem dX10_isHeap_21 : decode cX10_isHeap 21 = .ok (.iconst 1, 1) := by decide +kernel
theorem dX10_isHeap_22 : decode cX10_isHeap 22 = .ok (.goto 4, 3) := by decide +kernel
theorem dX10_isHeap_25 : decode cX10_isHeap 25 = .ok (.iconst 0, 1) := by decide +kernel
theorem dX10_isHeap_26 : decode cX10_isHeap 26 = .ok (.ireturn, 1) := by decide +kernel
set_option maxRecDepth 20000 in
theorem ggX10_isCommittee_X10_isSet : GoodIn wsX10_isCommittee wsX10_isSet := goodIn_r _ [5] (by decide +kernel) (by decide +kernel)
set_option maxRecDepth 20000 in
theorem gX10_isCommittee_X10_isSet : GoodIn wsX10_isCommittee (va_wsS RX10 69 yX10_isSet wsX10_isSet) := goodIn_app (goodIn_of _ (by decide +kernel)) ggX10_isCommittee_X10_isSet
set_option maxRecDepth 20000 in
theorem ggX10_isCommittee_J6_bitCount_0f7a4 : GoodIn wsX10_isCommittee wsJ6_bitCount_0f7a4 := goodIn_r _ [9, 10, 11, 12] (by decide +kernel) (by decide +kernel)
set_option maxRecDepth 20000 in
theorem gX10_isCommittee_J6_bitCount_0f7a4 : GoodIn wsX10_isCommittee (va_wsS RX10 232 yJ6_bitCount_0f7a4 wsJ6_bitCount_0f7a4) := goodIn_app (goodIn_of _ (by decide +kernel)) ggX10_isCommittee_J6_bitCount_0f7a4
theorem dX10_isCommittee_0 : decode cX10_isCommittee 0 = .ok (.iload_n 1, 1) := by decide +kernel
theorem dX10_isCommittee_1 : decode cX10_isCommittee 1 = .ok (.invokestatic 69, 3) := by decide +kernel
theorem dX10_isCommittee_4 : decode cX10_isCommittee 4 = .ok (.ifCond .eq 18, 3) := by decide +kernel
theorem dX10_isCommittee_7 : decode cX10_isCommittee 7 = .ok (.iload_n 1, 1) := by decide +kernel
theorem dX10_isCommittee_8 : decode cX10_isCommittee 8 = .ok (.invokestatic 232, 3) := by decide +kernel
theorem dX10_isCommittee_11 : decode cX10_isCommittee 11 = .ok (.aload_n 0, 1) := by decide +kernel
theorem dX10_isCommittee_12 : decode cX10_isCommittee 12 = .ok (.getfield 65, 3) := by decide +kernel
theorem dX10_isCommittee_15 : decode cX10_isCommittee 15 = .ok (.if_icmp .ne 7, 3) := by decide +kernel
theorem dX10_isCommittee_18 : decode cX10_isCommittee 18 = .ok (.iconst 1, 1) := by decide +kernel
theorem dX10_isCommittee_19 : decode cX10_isCommittee 19 = .ok (.goto 4, 3) := by decide +kernel
theorem dX10_isCommittee_22 : decode cX10_isCommittee 22 = .ok (.iconst 0, 1) := by decide +kernel
theorem dX10_isCommittee_23 : decode cX10_isCommittee 23 = .ok (.ireturn, 1) := by decide +kernel
set_option maxRecDepth 20000 in
theorem ggX10_refusalOfShare_X10_isHeap : GoodIn wsX10_refusalOfShare wsX10_isHeap := goodIn_r _ [6, 7, 8, 9, 10, 11, 12, 13, 14, 15, 16, 17, 18, 19, 20, 21] (by decide +kernel) (by decide +kernel)
set_option maxRecDepth 20000 in
theorem gX10_refusalOfShare_X10_isHeap : GoodIn wsX10_refusalOfShare (wsV RX10 83 RX10 yX10_isHeap wsX10_isHeap) := goodIn_app (goodIn_of _ (by decide +kernel)) ggX10_refusalOfShare_X10_isHeap
theorem dX10_refusalOfShare_0 : decode cX10_refusalOfShare 0 = .ok (.aload_n 0, 1) := by decide +kernel
theorem dX10_refusalOfShare_1 : decode cX10_refusalOfShare 1 = .ok (.iload_n 1, 1) := by decide +kernel
theorem dX10_refusalOfShare_2 : decode cX10_refusalOfShare 2 = .ok (.invokevirtual 83, 3) := by decide +kernel
theorem dX10_refusalOfShare_5 : decode cX10_refusalOfShare 5 = .ok (.ifCond .ne 5, 3) := by decide +kernel
theorem dX10_refusalOfShare_8 : decode cX10_refusalOfShare 8 = .ok (.iconst (-1), 1) := by decide +kernel
theorem dX10_refusalOfShare_9 : decode cX10_refusalOfShare 9 = .ok (.ireturn, 1) := by decide +kernel
theorem dX10_refusalOfShare_10 : decode cX10_refusalOfShare 10 = .ok (.iload_n 2, 1) := by decide +kernel
theorem dX10_refusalOfShare_11 : decode cX10_refusalOfShare 11 = .ok (.ifCond .lt 20, 3) := by decide +kernel
theorem dX10_refusalOfShare_14 : decode cX10_refusalOfShare 14 = .ok (.iload_n 2, 1) := by decide +kernel
theorem dX10_refusalOfShare_15 : decode cX10_refusalOfShare 15 = .ok (.aload_n 0, 1) := by decide +kernel
theorem dX10_refusalOfShare_16 : decode cX10_refusalOfShare 16 = .ok (.getfield 65, 3) := by decide +kernel
theorem dX10_refusalOfShare_19 : decode cX10_refusalOfShare 19 = .ok (.if_icmp .gt 12, 3) := by decide +kernel
theorem dX10_refusalOfShare_22 : decode cX10_refusalOfShare 22 = .ok (.iload_n 3, 1) := by decide +kernel
theorem dX10_refusalOfShare_23 : decode cX10_refusalOfShare 23 = .ok (.ifCond .lt 8, 3) := by decide +kernel
theorem dX10_refusalOfShare_26 : decode cX10_refusalOfShare 26 = .ok (.iload_n 3, 1) := by decide +kernel
theorem dX10_refusalOfShare_27 : decode cX10_refusalOfShare 27 = .ok (.iconst 1, 1) := by decide +kernel
theorem dX10_refusalOfShare_28 : decode cX10_refusalOfShare 28 = .ok (.if_icmp .le 8, 3) := by decide +kernel
theorem dX10_refusalOfShare_31 : decode cX10_refusalOfShare 31 = .ok (.bipush (-2), 2) := by decide +kernel
theorem dX10_refusalOfShare_33 : decode cX10_refusalOfShare 33 = .ok (.goto 4, 3) := by decide +kernel
theorem dX10_refusalOfShare_36 : decode cX10_refusalOfShare 36 = .ok (.iconst 0, 1) := by decide +kernel
theorem dX10_refusalOfShare_37 : decode cX10_refusalOfShare 37 = .ok (.ireturn, 1) := by decide +kernel
set_option maxRecDepth 20000 in
theorem ggX10_runWay_X0_gather : GoodIn wsX10_runWay wsX0_gather := goodIn_r _ [9, 10, 11, 12, 13, 14, 15, 16, 17, 18, 19, 20, 21, 22, 23, 24, 25, 26, 27, 28, 29, 30, 31, 32, 194, 195, 196, 197, 198, 199] (by decide +kernel) (by decide +kernel)
set_option maxRecDepth 20000 in
theorem gX10_runWay_X0_gather : GoodIn wsX10_runWay (wsV RX10 205 RX0 yX0_gather wsX0_gather) := goodIn_app (goodIn_of _ (by decide +kernel)) ggX10_runWay_X0_gather
set_option maxRecDepth 20000 in
theorem ggX10_runWay_X8_run : GoodIn wsX10_runWay wsX8_run := goodIn_r _ [37, 38, 39, 40, 41, 36, 42, 43, 44, 45, 46, 47, 48, 49, 50, 51, 52, 53, 54, 55, 56, 57, 58, 59, 60, 61, 62, 63, 64, 65, 66, 67, 68, 69, 70, 71, 72, 73, 74, 75, 76, 77, 78, 79, 80, 13, 14, 15, 16, 17, 18, 81, 82, 83, 84, 85, 86, 87, 88, 89, 90, 91, 92, 93, 94, 95, 96, 97, 98, 99, 100, 101, 102, 103, 104, 105, 106, 107, 108, 109, 110, 111, 112, 113, 114, 115, 116, 117, 118, 119, 120, 121, 122, 123, 124, 125, 126, 127, 128, 129, 130, 131, 132, 133, 134, 135, 136, 137, 138, 139, 140, 141, 142, 143, 144, 145, 146, 147, 148, 149, 150, 151, 152, 153, 154, 155, 156, 157, 158, 159, 160, 161, 162, 163, 164, 165, 166, 167, 168, 169, 170, 171, 8, 172, 10, 11, 173, 174, 175, 176, 177, 178, 179, 180, 181, 182, 183, 184, 200, 201, 202, 203, 204, 205, 206, 207, 208, 209, 210, 211, 212, 213, 214, 215, 216, 217, 218, 194, 195] (by decide +kernel) (by decide +kernel)
set_option maxRecDepth 20000 in
theorem gX10_runWay_X8_run : GoodIn wsX10_runWay (wsV RX10 219 RX8 yX8_run wsX8_run) := goodIn_app (goodIn_of _ (by decide +kernel)) ggX10_runWay_X8_run
theorem dX10_runWay_0 : decode cX10_runWay 0 = .ok (.iload_n 1, 1) := by decide +kernel
theorem dX10_runWay_1 : decode cX10_runWay 1 = .ok (.iconst 4, 1) := by decide +kernel
theorem dX10_runWay_2 : decode cX10_runWay 2 = .ok (.if_icmp .ne 15, 3) := by decide +kernel
theorem dX10_runWay_5 : decode cX10_runWay 5 = .ok (.aload_n 0, 1) := by decide +kernel
theorem dX10_runWay_6 : decode cX10_runWay 6 = .ok (.getfield 45, 3) := by decide +kernel
theorem dX10_runWay_9 : decode cX10_runWay 9 = .ok (.aload_n 0, 1) := by decide +kernel
theorem dX10_runWay_10 : decode cX10_runWay 10 = .ok (.getfield 38, 3) := by decide +kernel
theorem dX10_runWay_13 : decode cX10_runWay 13 = .ok (.iload_n 2, 1) := by decide +kernel
theorem dX10_runWay_14 : decode cX10_runWay 14 = .ok (.invokevirtual 205, 3) := by decide +kernel
theorem dX10_runWay_17 : decode cX10_runWay 17 = .ok (.aload_n 0, 1) := by decide +kernel
theorem dX10_runWay_18 : decode cX10_runWay 18 = .ok (.getfield 61, 3) := by decide +kernel
theorem dX10_runWay_21 : decode cX10_runWay 21 = .ok (.iload_n 1, 1) := by decide +kernel
theorem dX10_runWay_22 : decode cX10_runWay 22 = .ok (.aload_n 0, 1) := by decide +kernel
theorem dX10_runWay_23 : decode cX10_runWay 23 = .ok (.getfield 21, 3) := by decide +kernel
theorem dX10_runWay_26 : decode cX10_runWay 26 = .ok (.iload_n 2, 1) := by decide +kernel
theorem dX10_runWay_27 : decode cX10_runWay 27 = .ok (.invokevirtual 219, 3) := by decide +kernel
theorem dX10_runWay_30 : decode cX10_runWay 30 = .ok (.return_, 1) := by decide +kernel
set_option maxRecDepth 20000 in
theorem ggX10_gatherKept_X0_gather : GoodIn wsX10_gatherKept wsX0_gather := goodIn_r _ [10, 11, 12, 13, 14, 15, 16, 17, 18, 19, 20, 21, 22, 23, 24, 25, 26, 27, 28, 29, 30, 31, 32, 33, 91, 92, 93, 94, 95, 96] (by decide +kernel) (by decide +kernel)
set_option maxRecDepth 20000 in
theorem gX10_gatherKept_X0_gather : GoodIn wsX10_gatherKept (wsV RX10 205 RX0 yX0_gather wsX0_gather) := goodIn_app (goodIn_of _ (by decide +kernel)) ggX10_gatherKept_X0_gather
set_option maxRecDepth 20000 in
theorem ggX10_gatherKept_X2_gather : GoodIn wsX10_gatherKept wsX2_gather := goodIn_r _ [38, 39, 40, 41, 42, 43, 44, 45, 46, 47, 48, 49, 50, 51, 52, 53, 54, 55, 56, 57, 58, 59, 60, 37, 61, 62, 14, 15, 16, 17, 18, 19, 97, 98, 99, 100, 101, 102, 103, 104, 105, 106, 107, 108, 109] (by decide +kernel) (by decide +kernel)
set_option maxRecDepth 20000 in
theorem gX10_gatherKept_X2_gather : GoodIn wsX10_gatherKept (wsV RX10 180 RX2 yX2_gather wsX2_gather) := goodIn_app (goodIn_of _ (by decide +kernel)) ggX10_gatherKept_X2_gather
set_option maxRecDepth 20000 in
theorem ggX10_gatherKept_X0_keepThoseThatHold : GoodIn wsX10_gatherKept wsX0_keepThoseThatHold := goodIn_r _ [66, 11, 12, 67, 68, 69, 70, 37, 71, 72, 73, 44, 48, 74, 51, 75, 76, 77, 78, 46, 79, 80, 42, 81, 59, 60, 61, 62, 14, 15, 16, 17, 18, 19, 91, 92, 101, 102, 103, 104, 105, 106, 107, 108, 109] (by decide +kernel) (by decide +kernel)
set_option maxRecDepth 20000 in
theorem gX10_gatherKept_X0_keepThoseThatHold : GoodIn wsX10_gatherKept (wsV RX10 237 RX0 yX0_keepThoseThatHold wsX0_keepThoseThatHold) := goodIn_app (goodIn_of _ (by decide +kernel)) ggX10_gatherKept_X0_keepThoseThatHold
theorem dX10_gatherKept_0 : decode cX10_gatherKept 0 = .ok (.aload_n 0, 1) := by decide +kernel
theorem dX10_gatherKept_1 : decode cX10_gatherKept 1 = .ok (.getfield 45, 3) := by decide +kernel
theorem dX10_gatherKept_4 : decode cX10_gatherKept 4 = .ok (.aload_n 0, 1) := by decide +kernel
theorem dX10_gatherKept_5 : decode cX10_gatherKept 5 = .ok (.getfield 38, 3) := by decide +kernel
theorem dX10_gatherKept_8 : decode cX10_gatherKept 8 = .ok (.aload_n 0, 1) := by decide +kernel
theorem dX10_gatherKept_9 : decode cX10_gatherKept 9 = .ok (.getfield 65, 3) := by decide +kernel
theorem dX10_gatherKept_12 : decode cX10_gatherKept 12 = .ok (.invokevirtual 205, 3) := by decide +kernel
theorem dX10_gatherKept_15 : decode cX10_gatherKept 15 = .ok (.aload_n 0, 1) := by decide +kernel
theorem dX10_gatherKept_16 : decode cX10_gatherKept 16 = .ok (.getfield 52, 3) := by decide +kernel
theorem dX10_gatherKept_19 : decode cX10_gatherKept 19 = .ok (.aload_n 0, 1) := by decide +kernel
theorem dX10_gatherKept_20 : decode cX10_gatherKept 20 = .ok (.getfield 21, 3) := by decide +kernel
theorem dX10_gatherKept_23 : decode cX10_gatherKept 23 = .ok (.aload_n 0, 1) := by decide +kernel
theorem dX10_gatherKept_24 : decode cX10_gatherKept 24 = .ok (.getfield 65, 3) := by decide +kernel
theorem dX10_gatherKept_27 : decode cX10_gatherKept 27 = .ok (.invokevirtual 180, 3) := by decide +kernel
theorem dX10_gatherKept_30 : decode cX10_gatherKept 30 = .ok (.aload_n 0, 1) := by decide +kernel
theorem dX10_gatherKept_31 : decode cX10_gatherKept 31 = .ok (.getfield 45, 3) := by decide +kernel
theorem dX10_gatherKept_34 : decode cX10_gatherKept 34 = .ok (.aload_n 0, 1) := by decide +kernel
theorem dX10_gatherKept_35 : decode cX10_gatherKept 35 = .ok (.getfield 52, 3) := by decide +kernel
theorem dX10_gatherKept_38 : decode cX10_gatherKept 38 = .ok (.iload_n 1, 1) := by decide +kernel
theorem dX10_gatherKept_39 : decode cX10_gatherKept 39 = .ok (.invokevirtual 237, 3) := by decide +kernel
theorem dX10_gatherKept_42 : decode cX10_gatherKept 42 = .ok (.return_, 1) := by decide +kernel
theorem dX11_init_0 : decode cX11_init 0 = .ok (.aload_n 0, 1) := by decide +kernel
theorem dX11_init_1 : decode cX11_init 1 = .ok (.invokespecial 1, 3) := by decide +kernel
theorem dX11_init_4 : decode cX11_init 4 = .ok (.aload_n 0, 1) := by decide +kernel
theorem dX11_init_5 : decode cX11_init 5 = .ok (.bipush 7, 2) := by decide +kernel
theorem dX11_init_7 : decode cX11_init 7 = .ok (.newarray .int, 2) := by decide +kernel
theorem dX11_init_9 : decode cX11_init 9 = .ok (.putfield 7, 3) := by decide +kernel
theorem dX11_init_12 : decode cX11_init 12 = .ok (.aload_n 0, 1) := by decide +kernel
theorem dX11_init_13 : decode cX11_init 13 = .ok (.bipush 7, 2) := by decide +kernel
theorem dX11_init_15 : decode cX11_init 15 = .ok (.newarray .int, 2) := by decide +kernel
theorem dX11_init_17 : decode cX11_init 17 = .ok (.putfield 13, 3) := by decide +kernel
theorem dX11_init_20 : decode cX11_init 20 = .ok (.aload_n 0, 1) := by decide +kernel
theorem dX11_init_21 : decode cX11_init 21 = .ok (.iconst 2, 1) := by decide +kernel
theorem dX11_init_22 : decode cX11_init 22 = .ok (.putfield 16, 3) := by decide +kernel
theorem dX11_init_25 : decode cX11_init 25 = .ok (.aload_n 0, 1) := by decide +kernel
theorem dX11_init_26 : decode cX11_init 26 = .ok (.iconst 4, 1) := by decide +kernel
theorem dX11_init_27 : decode cX11_init 27 = .ok (.newarray .int, 2) := by decide +kernel
theorem dX11_init_29 : decode cX11_init 29 = .ok (.putfield 20, 3) := by decide +kernel
theorem dX11_init_32 : decode cX11_init 32 = .ok (.aload_n 0, 1) := by decide +kernel
theorem dX11_init_33 : decode cX11_init 33 = .ok (.bipush 40, 2) := by decide +kernel
theorem dX11_init_35 : decode cX11_init 35 = .ok (.newarray .int, 2) := by decide +kernel
theorem dX11_init_37 : decode cX11_init 37 = .ok (.putfield 23, 3) := by decide +kernel
theorem dX11_init_40 : decode cX11_init 40 = .ok (.aload_n 0, 1) := by decide +kernel
theorem dX11_init_41 : decode cX11_init 41 = .ok (.bipush 40, 2) := by decide +kernel
theorem dX11_init_43 : decode cX11_init 43 = .ok (.newarray .int, 2) := by decide +kernel
theorem dX11_init_45 : decode cX11_init 45 = .ok (.putfield 26, 3) := by decide +kernel
theorem dX11_init_48 : decode cX11_init 48 = .ok (.aload_n 0, 1) := by decide +kernel
theorem dX11_init_49 : decode cX11_init 49 = .ok (.bipush 8, 2) := by decide +kernel
theorem dX11_init_51 : decode cX11_init 51 = .ok (.newarray .int, 2) := by decide +kernel
theorem dX11_init_53 : decode cX11_init 53 = .ok (.putfield 29, 3) := by decide +kernel
theorem dX11_init_56 : decode cX11_init 56 = .ok (.aload_n 0, 1) := by decide +kernel
theorem dX11_init_57 : decode cX11_init 57 = .ok (.bipush 35, 2) := by decide +kernel
theorem dX11_init_59 : decode cX11_init 59 = .ok (.newarray .long, 2) := by decide +kernel
theorem dX11_init_61 : decode cX11_init 61 = .ok (.putfield 32, 3) := by decide +kernel
theorem dX11_init_64 : decode cX11_init 64 = .ok (.aload_n 0, 1) := by decide +kernel
theorem dX11_init_65 : decode cX11_init 65 = .ok (.iconst 5, 1) := by decide +kernel
theorem dX11_init_66 : decode cX11_init 66 = .ok (.newarray .long, 2) := by decide +kernel
theorem dX11_init_68 : decode cX11_init 68 = .ok (.putfield 36, 3) := by decide +kernel
theorem dX11_init_71 : decode cX11_init 71 = .ok (.aload_n 0, 1) := by decide +kernel
theorem dX11_init_72 : decode cX11_init 72 = .ok (.getfield 20, 3) := by decide +kernel
theorem dX11_init_75 : decode cX11_init 75 = .ok (.iconst 0, 1) := by decide +kernel
theorem dX11_init_76 : decode cX11_init 76 = .ok (.bipush 60, 2) := by decide +kernel
theorem dX11_init_78 : decode cX11_init 78 = .ok (.iastore, 1) := by decide +kernel
theorem dX11_init_79 : decode cX11_init 79 = .ok (.aload_n 0, 1) := by decide +kernel
theorem dX11_init_80 : decode cX11_init 80 = .ok (.getfield 20, 3) := by decide +kernel
theorem dX11_init_83 : decode cX11_init 83 = .ok (.iconst 1, 1) := by decide +kernel
theorem dX11_init_84 : decode cX11_init 84 = .ok (.bipush 30, 2) := by decide +kernel
theorem dX11_init_86 : decode cX11_init 86 = .ok (.iastore, 1) := by decide +kernel
theorem dX11_init_87 : decode cX11_init 87 = .ok (.aload_n 0, 1) := by decide +kernel
theorem dX11_init_88 : decode cX11_init 88 = .ok (.getfield 20, 3) := by decide +kernel
theorem dX11_init_91 : decode cX11_init 91 = .ok (.iconst 2, 1) := by decide +kernel
theorem dX11_init_92 : decode cX11_init 92 = .ok (.bipush 20, 2) := by decide +kernel
theorem dX11_init_94 : decode cX11_init 94 = .ok (.iastore, 1) := by decide +kernel
theorem dX11_init_95 : decode cX11_init 95 = .ok (.aload_n 0, 1) := by decide +kernel
theorem dX11_init_96 : decode cX11_init 96 = .ok (.getfield 20, 3) := by decide +kernel
theorem dX11_init_99 : decode cX11_init 99 = .ok (.iconst 3, 1) := by decide +kernel
theorem dX11_init_100 : decode cX11_init 100 = .ok (.bipush 15, 2) := by decide +kernel
theorem dX11_init_102 : decode cX11_init 102 = .ok (.iastore, 1) := by decide +kernel
theorem dX11_init_103 : decode cX11_init 103 = .ok (.return_, 1) := by decide +kernel
theorem dX11_in_0 : decode cX11_in 0 = .ok (.iload_n 0, 1) := by decide +kernel
theorem dX11_in_1 : decode cX11_in 1 = .ok (.iload_n 1, 1) := by decide +kernel
theorem dX11_in_2 : decode cX11_in 2 = .ok (.if_icmp .lt 12, 3) := by decide +kernel
theorem dX11_in_5 : decode cX11_in 5 = .ok (.iload_n 0, 1) := by decide +kernel
theorem dX11_in_6 : decode cX11_in 6 = .ok (.iload_n 2, 1) := by decide +kernel
theorem dX11_in_7 : decode cX11_in 7 = .ok (.if_icmp .gt 7, 3) := by decide +kernel
theorem dX11_in_10 : decode cX11_in 10 = .ok (.iconst 1, 1) := by decide +kernel
theorem dX11_in_11 : decode cX11_in 11 = .ok (.goto 4, 3) := by decide +kernel
theorem dX11_in_14 : decode cX11_in 14 = .ok (.iconst 0, 1) := by decide +kernel
theorem dX11_in_15 : decode cX11_in 15 = .ok (.ireturn, 1) := by decide +kernel
theorem dX11_bits_0 : decode cX11_bits 0 = .ok (.iconst 0, 1) := by decide +kernel
theorem dX11_bits_1 : decode cX11_bits 1 = .ok (.istore_n 1, 1) := by decide +kernel
theorem dX11_bits_2 : decode cX11_bits 2 = .ok (.iconst 0, 1) := by decide +kernel
theorem dX11_bits_3 : decode cX11_bits 3 = .ok (.istore_n 2, 1) := by decide +kernel
theorem dX11_bits_4 : decode cX11_bits 4 = .ok (.iload_n 2, 1) := by decide +kernel
theorem dX11_bits_5 : decode cX11_bits 5 = .ok (.bipush 8, 2) := by decide +kernel
theorem dX11_bits_7 : decode cX11_bits 7 = .ok (.if_icmp .ge 17, 3) := by decide +kernel
theorem dX11_bits_10 : decode cX11_bits 10 = .ok (.iload_n 1, 1) := by decide +kernel
theorem dX11_bits_11 : decode cX11_bits 11 = .ok (.iload_n 0, 1) := by decide +kernel
theorem dX11_bits_12 : decode cX11_bits 12 = .ok (.iload_n 2, 1) := by decide +kernel
theorem dX11_bits_13 : decode cX11_bits 13 = .ok (.ishr, 1) := by decide +kernel
theorem dX11_bits_14 : decode cX11_bits 14 = .ok (.iconst 1, 1) := by decide +kernel
theorem dX11_bits_15 : decode cX11_bits 15 = .ok (.iand, 1) := by decide +kernel
theorem dX11_bits_16 : decode cX11_bits 16 = .ok (.iadd, 1) := by decide +kernel
theorem dX11_bits_17 : decode cX11_bits 17 = .ok (.istore_n 1, 1) := by decide +kernel
theorem dX11_bits_18 : decode cX11_bits 18 = .ok (.iinc 2 1, 3) := by decide +kernel
theorem dX11_bits_21 : decode cX11_bits 21 = .ok (.goto (-17), 3) := by decide +kernel
theorem dX11_bits_24 : decode cX11_bits 24 = .ok (.iload_n 1, 1) := by decide +kernel
theorem dX11_bits_25 : decode cX11_bits 25 = .ok (.ireturn, 1) := by decide +kernel
set_option maxRecDepth 20000 in
theorem ggX11_isHeap_X11_in : GoodIn wsX11_isHeap wsX11_in := goodIn_r _ [5] (by decide +kernel) (by decide +kernel)
set_option maxRecDepth 20000 in
theorem gX11_isHeap_X11_in : GoodIn wsX11_isHeap (va_wsS RX11 42 yX11_in wsX11_in) := goodIn_app (goodIn_of _ (by decide +kernel)) ggX11_isHeap_X11_in
theorem dX11_isHeap_0 : decode cX11_isHeap 0 = .ok (.iload_n 1, 1) := by decide +kernel
theorem dX11_isHeap_1 : decode cX11_isHeap 1 = .ok (.iconst 0, 1) := by decide +kernel
theorem dX11_isHeap_2 : decode cX11_isHeap 2 = .ok (.aload_n 0, 1) := by decide +kernel
theorem dX11_isHeap_3 : decode cX11_isHeap 3 = .ok (.getfield 39, 3) := by decide +kernel
theorem dX11_isHeap_6 : decode cX11_isHeap 6 = .ok (.iconst 1, 1) := by decide +kernel
theorem dX11_isHeap_7 : decode cX11_isHeap 7 = .ok (.isub, 1) := by decide +kernel
theorem dX11_isHeap_8 : decode cX11_isHeap 8 = .ok (.invokestatic 42, 3) := by decide +kernel
theorem dX11_isHeap_11 : decode cX11_isHeap 11 = .ok (.ireturn, 1) := by decide +kernel
set_option maxRecDepth 20000 in
theorem ggX11_heap_X11_in : GoodIn wsX11_heap wsX11_in := goodIn_r _ [7] (by decide +kernel) (by decide +kernel)
set_option maxRecDepth 20000 in
theorem gX11_heap_X11_in : GoodIn wsX11_heap (va_wsS RX11 42 yX11_in wsX11_in) := goodIn_app (goodIn_of _ (by decide +kernel)) ggX11_heap_X11_in
theorem dX11_heap_0 : decode cX11_heap 0 = .ok (.iload_n 1, 1) := by decide +kernel
theorem dX11_heap_1 : decode cX11_heap 1 = .ok (.iconst 1, 1) := by decide +kernel
theorem dX11_heap_2 : decode cX11_heap 2 = .ok (.sipush 255, 3) := by decide +kernel
theorem dX11_heap_5 : decode cX11_heap 5 = .ok (.invokestatic 42, 3) := by decide +kernel
theorem dX11_heap_8 : decode cX11_heap 8 = .ok (.ifCond .eq 13, 3) := by decide +kernel
theorem dX11_heap_11 : decode cX11_heap 11 = .ok (.iload_n 2, 1) := by decide +kernel
theorem dX11_heap_12 : decode cX11_heap 12 = .ok (.iconst 1, 1) := by decide +kernel
theorem dX11_heap_13 : decode cX11_heap 13 = .ok (.bipush 100, 2) := by decide +kernel
theorem dX11_heap_15 : decode cX11_heap 15 = .ok (.invokestatic 42, 3) := by decide +kernel
theorem dX11_heap_18 : decode cX11_heap 18 = .ok (.ifCond .ne 6, 3) := by decide +kernel
theorem dX11_heap_21 : decode cX11_heap 21 = .ok (.bipush (-2), 2) := by decide +kernel
theorem dX11_heap_23 : decode cX11_heap 23 = .ok (.ireturn, 1) := by decide +kernel
theorem dX11_heap_24 : decode cX11_heap 24 = .ok (.aload_n 0, 1) := by decide +kernel
theorem dX11_heap_25 : decode cX11_heap 25 = .ok (.getfield 39, 3) := by decide +kernel
theorem dX11_heap_28 : decode cX11_heap 28 = .ok (.bipush 6, 2) := by decide +kernel
theorem dX11_heap_30 : decode cX11_heap 30 = .ok (.if_icmp .ne 6, 3) := by decide +kernel
theorem dX11_heap_33 : decode cX11_heap 33 = .ok (.bipush (-4), 2) := by decide +kernel
theorem dX11_heap_35 : decode cX11_heap 35 = .ok (.ireturn, 1) := by decide +kernel
theorem dX11_heap_36 : decode cX11_heap 36 = .ok (.aload_n 0, 1) := by decide +kernel
theorem dX11_heap_37 : decode cX11_heap 37 = .ok (.getfield 7, 3) := by decide +kernel
theorem dX11_heap_40 : decode cX11_heap 40 = .ok (.aload_n 0, 1) := by decide +kernel
theorem dX11_heap_41 : decode cX11_heap 41 = .ok (.getfield 39, 3) := by decide +kernel
theorem dX11_heap_44 : decode cX11_heap 44 = .ok (.iload_n 1, 1) := by decide +kernel
theorem dX11_heap_45 : decode cX11_heap 45 = .ok (.iastore, 1) := by decide +kernel
theorem dX11_heap_46 : decode cX11_heap 46 = .ok (.aload_n 0, 1) := by decide +kernel
theorem dX11_heap_47 : decode cX11_heap 47 = .ok (.getfield 13, 3) := by decide +kernel
theorem dX11_heap_50 : decode cX11_heap 50 = .ok (.aload_n 0, 1) := by decide +kernel
theorem dX11_heap_51 : decode cX11_heap 51 = .ok (.getfield 39, 3) := by decide +kernel
theorem dX11_heap_54 : decode cX11_heap 54 = .ok (.iload_n 2, 1) := by decide +kernel
theorem dX11_heap_55 : decode cX11_heap 55 = .ok (.iastore, 1) := by decide +kernel
theorem dX11_heap_56 : decode cX11_heap 56 = .ok (.aload_n 0, 1) := by decide +kernel
theorem dX11_heap_57 : decode cX11_heap 57 = .ok (.dup, 1) := by decide +kernel
theorem dX11_heap_58 : decode cX11_heap 58 = .ok (.getfield 39, 3) := by decide +kernel
theorem dX11_heap_61 : decode cX11_heap 61 = .ok (.iconst 1, 1) := by decide +kernel
theorem dX11_heap_62 : decode cX11_heap 62 = .ok (.iadd, 1) := by decide +kernel
theorem dX11_heap_63 : decode cX11_heap 63 = .ok (.putfield 39, 3) := by decide +kernel
theorem dX11_heap_66 : decode cX11_heap 66 = .ok (.aload_n 0, 1) := by decide +kernel
theorem dX11_heap_67 : decode cX11_heap 67 = .ok (.getfield 39, 3) := by decide +kernel
theorem dX11_heap_70 : decode cX11_heap 70 = .ok (.iconst 1, 1) := by decide +kernel
theorem dX11_heap_71 : decode cX11_heap 71 = .ok (.isub, 1) := by decide +kernel
theorem dX11_heap_72 : decode cX11_heap 72 = .ok (.ireturn, 1) := by decide +kernel
set_option maxRecDepth 20000 in
theorem ggX11_change_X11_isHeap : GoodIn wsX11_change wsX11_isHeap := goodIn_r _ [7, 8, 9, 10, 6, 11, 12, 13, 14, 15, 16, 17, 18, 19, 20, 21, 22, 23, 24, 25, 26, 27, 28] (by decide +kernel) (by decide +kernel)
set_option maxRecDepth 20000 in
theorem gX11_change_X11_isHeap : GoodIn wsX11_change (wsV RX11 46 RX11 yX11_isHeap wsX11_isHeap) := goodIn_app (goodIn_of _ (by decide +kernel)) ggX11_change_X11_isHeap
set_option maxRecDepth 20000 in
theorem ggX11_change_X11_in : GoodIn wsX11_change wsX11_in := goodIn_r _ [11] (by decide +kernel) (by decide +kernel)
set_option maxRecDepth 20000 in
theorem gX11_change_X11_in : GoodIn wsX11_change (va_wsS RX11 42 yX11_in wsX11_in) := goodIn_app (goodIn_of _ (by decide +kernel)) ggX11_change_X11_in
theorem dX11_change_0 : decode cX11_change 0 = .ok (.aload_n 0, 1) := by decide +kernel
theorem dX11_change_1 : decode cX11_change 1 = .ok (.iload_n 1, 1) := by decide +kernel
theorem dX11_change_2 : decode cX11_change 2 = .ok (.invokevirtual 46, 3) := by decide +kernel
theorem dX11_change_5 : decode cX11_change 5 = .ok (.ifCond .ne 5, 3) := by decide +kernel
theorem dX11_change_8 : decode cX11_change 8 = .ok (.iconst (-1), 1) := by decide +kernel
theorem dX11_change_9 : decode cX11_change 9 = .ok (.ireturn, 1) := by decide +kernel
theorem dX11_change_10 : decode cX11_change 10 = .ok (.iload_n 2, 1) := by decide +kernel
theorem dX11_change_11 : decode cX11_change 11 = .ok (.iconst 0, 1) := by decide +kernel
theorem dX11_change_12 : decode cX11_change 12 = .ok (.iconst 1, 1) := by decide +kernel
theorem dX11_change_13 : decode cX11_change 13 = .ok (.invokestatic 42, 3) := by decide +kernel
theorem dX11_change_16 : decode cX11_change 16 = .ok (.ifCond .eq 23, 3) := by decide +kernel
theorem dX11_change_19 : decode cX11_change 19 = .ok (.iload_n 3, 1) := by decide +kernel
theorem dX11_change_20 : decode cX11_change 20 = .ok (.iconst 1, 1) := by decide +kernel
theorem dX11_change_21 : decode cX11_change 21 = .ok (.iload_n 2, 1) := by decide +kernel
theorem dX11_change_22 : decode cX11_change 22 = .ok (.ifCond .ne 9, 3) := by decide +kernel
theorem dX11_change_25 : decode cX11_change 25 = .ok (.sipush 255, 3) := by decide +kernel
theorem dX11_change_28 : decode cX11_change 28 = .ok (.goto 5, 3) := by decide +kernel
theorem dX11_change_31 : decode cX11_change 31 = .ok (.bipush 100, 2) := by decide +kernel
theorem dX11_change_33 : decode cX11_change 33 = .ok (.invokestatic 42, 3) := by decide +kernel
theorem dX11_change_36 : decode cX11_change 36 = .ok (.ifCond .ne 6, 3) := by decide +kernel
theorem dX11_change_39 : decode cX11_change 39 = .ok (.bipush (-2), 2) := by decide +kernel
theorem dX11_change_41 : decode cX11_change 41 = .ok (.ireturn, 1) := by decide +kernel
theorem dX11_change_42 : decode cX11_change 42 = .ok (.iload_n 2, 1) := by decide +kernel
theorem dX11_change_43 : decode cX11_change 43 = .ok (.ifCond .ne 12, 3) := by decide +kernel
theorem dX11_change_46 : decode cX11_change 46 = .ok (.aload_n 0, 1) := by decide +kernel
theorem dX11_change_47 : decode cX11_change 47 = .ok (.getfield 7, 3) := by decide +kernel
theorem dX11_change_50 : decode cX11_change 50 = .ok (.iload_n 1, 1) := by decide +kernel
theorem dX11_change_51 : decode cX11_change 51 = .ok (.iaload, 1) := by decide +kernel
theorem dX11_change_52 : decode cX11_change 52 = .ok (.goto 9, 3) := by decide +kernel
theorem dX11_change_55 : decode cX11_change 55 = .ok (.aload_n 0, 1) := by decide +kernel
theorem dX11_change_56 : decode cX11_change 56 = .ok (.getfield 13, 3) := by decide +kernel
theorem dX11_change_59 : decode cX11_change 59 = .ok (.iload_n 1, 1) := by decide +kernel
theorem dX11_change_60 : decode cX11_change 60 = .ok (.iaload, 1) := by decide +kernel
theorem dX11_change_61 : decode cX11_change 61 = .ok (.istore 4, 2) := by decide +kernel
theorem dX11_change_63 : decode cX11_change 63 = .ok (.iload_n 2, 1) := by decide +kernel
theorem dX11_change_64 : decode cX11_change 64 = .ok (.ifCond .ne 13, 3) := by decide +kernel
theorem dX11_change_67 : decode cX11_change 67 = .ok (.aload_n 0, 1) := by decide +kernel
theorem dX11_change_68 : decode cX11_change 68 = .ok (.getfield 7, 3) := by decide +kernel
theorem dX11_change_71 : decode cX11_change 71 = .ok (.iload_n 1, 1) := by decide +kernel
theorem dX11_change_72 : decode cX11_change 72 = .ok (.iload_n 3, 1) := by decide +kernel
theorem dX11_change_73 : decode cX11_change 73 = .ok (.iastore, 1) := by decide +kernel
theorem dX11_change_74 : decode cX11_change 74 = .ok (.goto 10, 3) := by decide +kernel
theorem dX11_change_77 : decode cX11_change 77 = .ok (.aload_n 0, 1) := by decide +kernel
theorem dX11_change_78 : decode cX11_change 78 = .ok (.getfield 13, 3) := by decide +kernel
theorem dX11_change_81 : decode cX11_change 81 = .ok (.iload_n 1, 1) := by decide +kernel
theorem dX11_change_82 : decode cX11_change 82 = .ok (.iload_n 3, 1) := by decide +kernel
theorem dX11_change_83 : decode cX11_change 83 = .ok (.iastore, 1) := by decide +kernel
theorem dX11_change_84 : decode cX11_change 84 = .ok (.iload 4, 2) := by decide +kernel
theorem dX11_change_86 : decode cX11_change 86 = .ok (.ireturn, 1) := by decide +kernel
theorem dX11_drop_0 : decode cX11_drop 0 = .ok (.aload_n 0, 1) := by decide +kernel
theorem dX11_drop_1 : decode cX11_drop 1 = .ok (.getfield 39, 3) := by decide +kernel
theorem dX11_drop_4 : decode cX11_drop 4 = .ok (.ifCond .ne 6, 3) := by decide +kernel
theorem dX11_drop_7 : decode cX11_drop 7 = .ok (.bipush (-5), 2) := by decide +kernel
theorem dX11_drop_9 : decode cX11_drop 9 = .ok (.ireturn, 1) := by decide +kernel
theorem dX11_drop_10 : decode cX11_drop 10 = .ok (.aload_n 0, 1) := by decide +kernel
theorem dX11_drop_11 : decode cX11_drop 11 = .ok (.dup, 1) := by decide +kernel
theorem dX11_drop_12 : decode cX11_drop 12 = .ok (.getfield 39, 3) := by decide +kernel
theorem dX11_drop_15 : decode cX11_drop 15 = .ok (.iconst 1, 1) := by decide +kernel
theorem dX11_drop_16 : decode cX11_drop 16 = .ok (.isub, 1) := by decide +kernel
theorem dX11_drop_17 : decode cX11_drop 17 = .ok (.putfield 39, 3) := by decide +kernel
theorem dX11_drop_20 : decode cX11_drop 20 = .ok (.aload_n 0, 1) := by decide +kernel
theorem dX11_drop_21 : decode cX11_drop 21 = .ok (.getfield 39, 3) := by decide +kernel
theorem dX11_drop_24 : decode cX11_drop 24 = .ok (.ireturn, 1) := by decide +kernel
set_option maxRecDepth 20000 in
theorem ggX11_seats_X11_in : GoodIn wsX11_seats wsX11_in := goodIn_r _ [5] (by decide +kernel) (by decide +kernel)
set_option maxRecDepth 20000 in
theorem gX11_seats_X11_in : GoodIn wsX11_seats (va_wsS RX11 42 yX11_in wsX11_in) := goodIn_app (goodIn_of _ (by decide +kernel)) ggX11_seats_X11_in
theorem dX11_seats_0 : decode cX11_seats 0 = .ok (.iload_n 1, 1) := by decide +kernel
theorem dX11_seats_1 : decode cX11_seats 1 = .ok (.iconst 1, 1) := by decide +kernel
theorem dX11_seats_2 : decode cX11_seats 2 = .ok (.iconst 4, 1) := by decide +kernel
theorem dX11_seats_3 : decode cX11_seats 3 = .ok (.invokestatic 42, 3) := by decide +kernel
theorem dX11_seats_6 : decode cX11_seats 6 = .ok (.ifCond .ne 6, 3) := by decide +kernel
theorem dX11_seats_9 : decode cX11_seats 9 = .ok (.bipush (-2), 2) := by decide +kernel
theorem dX11_seats_11 : decode cX11_seats 11 = .ok (.ireturn, 1) := by decide +kernel
theorem dX11_seats_12 : decode cX11_seats 12 = .ok (.aload_n 0, 1) := by decide +kernel
theorem dX11_seats_13 : decode cX11_seats 13 = .ok (.getfield 16, 3) := by decide +kernel
theorem dX11_seats_16 : decode cX11_seats 16 = .ok (.istore_n 2, 1) := by decide +kernel
theorem dX11_seats_17 : decode cX11_seats 17 = .ok (.aload_n 0, 1) := by decide +kernel
theorem dX11_seats_18 : decode cX11_seats 18 = .ok (.iload_n 1, 1) := by decide +kernel
theorem dX11_seats_19 : decode cX11_seats 19 = .ok (.putfield 16, 3) := by decide +kernel
theorem dX11_seats_22 : decode cX11_seats 22 = .ok (.iload_n 2, 1) := by decide +kernel
theorem dX11_seats_23 : decode cX11_seats 23 = .ok (.ireturn, 1) := by decide +kernel
set_option maxRecDepth 20000 in
theorem ggX11_worth_X11_in : GoodIn wsX11_worth wsX11_in := goodIn_r _ [5] (by decide +kernel) (by decide +kernel)
set_option maxRecDepth 20000 in
theorem gX11_worth_X11_in : GoodIn wsX11_worth (va_wsS RX11 42 yX11_in wsX11_in) := goodIn_app (goodIn_of _ (by decide +kernel)) ggX11_worth_X11_in
theorem dX11_worth_0 : decode cX11_worth 0 = .ok (.iload_n 1, 1) := by decide +kernel
theorem dX11_worth_1 : decode cX11_worth 1 = .ok (.iconst 0, 1) := by decide +kernel
theorem dX11_worth_2 : decode cX11_worth 2 = .ok (.iconst 3, 1) := by decide +kernel
theorem dX11_worth_3 : decode cX11_worth 3 = .ok (.invokestatic 42, 3) := by decide +kernel
theorem dX11_worth_6 : decode cX11_worth 6 = .ok (.ifCond .eq 44, 3) := by decide +kernel
theorem dX11_worth_9 : decode cX11_worth 9 = .ok (.iload_n 2, 1) := by decide +kernel
theorem dX11_worth_10 : decode cX11_worth 10 = .ok (.iload_n 1, 1) := by decide +kernel
theorem dX11_worth_11 : decode cX11_worth 11 = .ok (.iconst 3, 1) := by decide +kernel
theorem dX11_worth_12 : decode cX11_worth 12 = .ok (.if_icmp .ge 14, 3) := by decide +kernel
theorem dX11_worth_15 : decode cX11_worth 15 = .ok (.aload_n 0, 1) := by decide +kernel
theorem dX11_worth_16 : decode cX11_worth 16 = .ok (.getfield 20, 3) := by decide +kernel
theorem dX11_worth_19 : decode cX11_worth 19 = .ok (.iload_n 1, 1) := by decide +kernel
theorem dX11_worth_20 : decode cX11_worth 20 = .ok (.iconst 1, 1) := by decide +kernel
theorem dX11_worth_21 : decode cX11_worth 21 = .ok (.iadd, 1) := by decide +kernel
theorem dX11_worth_22 : decode cX11_worth 22 = .ok (.iaload, 1) := by decide +kernel
theorem dX11_worth_23 : decode cX11_worth 23 = .ok (.goto 4, 3) := by decide +kernel
theorem dX11_worth_26 : decode cX11_worth 26 = .ok (.iconst 0, 1) := by decide +kernel
theorem dX11_worth_27 : decode cX11_worth 27 = .ok (.iload_n 1, 1) := by decide +kernel
theorem dX11_worth_28 : decode cX11_worth 28 = .ok (.ifCond .le 14, 3) := by decide +kernel
theorem dX11_worth_31 : decode cX11_worth 31 = .ok (.aload_n 0, 1) := by decide +kernel
theorem dX11_worth_32 : decode cX11_worth 32 = .ok (.getfield 20, 3) := by decide +kernel
theorem dX11_worth_35 : decode cX11_worth 35 = .ok (.iload_n 1, 1) := by decide +kernel
theorem dX11_worth_36 : decode cX11_worth 36 = .ok (.iconst 1, 1) := by decide +kernel
theorem dX11_worth_37 : decode cX11_worth 37 = .ok (.isub, 1) := by decide +kernel
theorem dX11_worth_38 : decode cX11_worth 38 = .ok (.iaload, 1) := by decide +kernel
theorem dX11_worth_39 : decode cX11_worth 39 = .ok (.goto 5, 3) := by decide +kernel
theorem dX11_worth_42 : decode cX11_worth 42 = .ok (.bipush 60, 2) := by decide +kernel
theorem dX11_worth_44 : decode cX11_worth 44 = .ok (.invokestatic 42, 3) := by decide +kernel
theorem dX11_worth_47 : decode cX11_worth 47 = .ok (.ifCond .ne 6, 3) := by decide +kernel
theorem dX11_worth_50 : decode cX11_worth 50 = .ok (.bipush (-2), 2) := by decide +kernel
theorem dX11_worth_52 : decode cX11_worth 52 = .ok (.ireturn, 1) := by decide +kernel
theorem dX11_worth_53 : decode cX11_worth 53 = .ok (.aload_n 0, 1) := by decide +kernel
theorem dX11_worth_54 : decode cX11_worth 54 = .ok (.getfield 20, 3) := by decide +kernel
theorem dX11_worth_57 : decode cX11_worth 57 = .ok (.iload_n 1, 1) := by decide +kernel
theorem dX11_worth_58 : decode cX11_worth 58 = .ok (.iaload, 1) := by decide +kernel
theorem dX11_worth_59 : decode cX11_worth 59 = .ok (.istore_n 3, 1) := by decide +kernel
theorem dX11_worth_60 : decode cX11_worth 60 = .ok (.aload_n 0, 1) := by decide +kernel
theorem dX11_worth_61 : decode cX11_worth 61 = .ok (.getfield 20, 3) := by decide +kernel
theorem dX11_worth_64 : decode cX11_worth 64 = .ok (.iload_n 1, 1) := by decide +kernel
theorem dX11_worth_65 : decode cX11_worth 65 = .ok (.iload_n 2, 1) := by decide +kernel
theorem dX11_worth_66 : decode cX11_worth 66 = .ok (.iastore, 1) := by decide +kernel
theorem dX11_worth_67 : decode cX11_worth 67 = .ok (.iload_n 3, 1) := by decide +kernel
theorem dX11_worth_68 : decode cX11_worth 68 = .ok (.ireturn, 1) := by decide +kernel
set_option maxRecDepth 20000 in
theorem ggX11_say_X11_in : GoodIn wsX11_say wsX11_in := goodIn_r _ [6] (by decide +kernel) (by decide +kernel)
set_option maxRecDepth 20000 in
theorem gX11_say_X11_in : GoodIn wsX11_say (va_wsS RX11 42 yX11_in wsX11_in) := goodIn_app (goodIn_of _ (by decide +kernel)) ggX11_say_X11_in
theorem dX11_say_0 : decode cX11_say 0 = .ok (.iload_n 1, 1) := by decide +kernel
theorem dX11_say_1 : decode cX11_say 1 = .ok (.bipush 33, 2) := by decide +kernel
theorem dX11_say_3 : decode cX11_say 3 = .ok (.bipush 126, 2) := by decide +kernel
theorem dX11_say_5 : decode cX11_say 5 = .ok (.invokestatic 42, 3) := by decide +kernel
theorem dX11_say_8 : decode cX11_say 8 = .ok (.ifCond .ne 6, 3) := by decide +kernel
theorem dX11_say_11 : decode cX11_say 11 = .ok (.bipush (-2), 2) := by decide +kernel
theorem dX11_say_13 : decode cX11_say 13 = .ok (.ireturn, 1) := by decide +kernel
theorem dX11_say_14 : decode cX11_say 14 = .ok (.aload_n 0, 1) := by decide +kernel
theorem dX11_say_15 : decode cX11_say 15 = .ok (.getfield 50, 3) := by decide +kernel
theorem dX11_say_18 : decode cX11_say 18 = .ok (.bipush 40, 2) := by decide +kernel
theorem dX11_say_20 : decode cX11_say 20 = .ok (.if_icmp .ne 6, 3) := by decide +kernel
theorem dX11_say_23 : decode cX11_say 23 = .ok (.bipush (-4), 2) := by decide +kernel
theorem dX11_say_25 : decode cX11_say 25 = .ok (.ireturn, 1) := by decide +kernel
theorem dX11_say_26 : decode cX11_say 26 = .ok (.aload_n 0, 1) := by decide +kernel
theorem dX11_say_27 : decode cX11_say 27 = .ok (.getfield 23, 3) := by decide +kernel
theorem dX11_say_30 : decode cX11_say 30 = .ok (.aload_n 0, 1) := by decide +kernel
theorem dX11_say_31 : decode cX11_say 31 = .ok (.getfield 50, 3) := by decide +kernel
theorem dX11_say_34 : decode cX11_say 34 = .ok (.iload_n 1, 1) := by decide +kernel
theorem dX11_say_35 : decode cX11_say 35 = .ok (.iastore, 1) := by decide +kernel
theorem dX11_say_36 : decode cX11_say 36 = .ok (.aload_n 0, 1) := by decide +kernel
theorem dX11_say_37 : decode cX11_say 37 = .ok (.dup, 1) := by decide +kernel
theorem dX11_say_38 : decode cX11_say 38 = .ok (.getfield 50, 3) := by decide +kernel
theorem dX11_say_41 : decode cX11_say 41 = .ok (.iconst 1, 1) := by decide +kernel
theorem dX11_say_42 : decode cX11_say 42 = .ok (.iadd, 1) := by decide +kernel
theorem dX11_say_43 : decode cX11_say 43 = .ok (.putfield 50, 3) := by decide +kernel
theorem dX11_say_46 : decode cX11_say 46 = .ok (.aload_n 0, 1) := by decide +kernel
theorem dX11_say_47 : decode cX11_say 47 = .ok (.getfield 50, 3) := by decide +kernel
theorem dX11_say_50 : decode cX11_say 50 = .ok (.ireturn, 1) := by decide +kernel
theorem dX11_wipe_0 : decode cX11_wipe 0 = .ok (.aload_n 0, 1) := by decide +kernel
theorem dX11_wipe_1 : decode cX11_wipe 1 = .ok (.getfield 50, 3) := by decide +kernel
theorem dX11_wipe_4 : decode cX11_wipe 4 = .ok (.istore_n 1, 1) := by decide +kernel
theorem dX11_wipe_5 : decode cX11_wipe 5 = .ok (.aload_n 0, 1) := by decide +kernel
theorem dX11_wipe_6 : decode cX11_wipe 6 = .ok (.iconst 0, 1) := by decide +kernel
theorem dX11_wipe_7 : decode cX11_wipe 7 = .ok (.putfield 50, 3) := by decide +kernel
theorem dX11_wipe_10 : decode cX11_wipe 10 = .ok (.iload_n 1, 1) := by decide +kernel
theorem dX11_wipe_11 : decode cX11_wipe 11 = .ok (.ireturn, 1) := by decide +kernel
set_option maxRecDepth 20000 in
theorem ggX11_faultOf_X11_in : GoodIn wsX11_faultOf wsX11_in := goodIn_r _ [6] (by decide +kernel) (by decide +kernel)
set_option maxRecDepth 20000 in
theorem gX11_faultOf_X11_in : GoodIn wsX11_faultOf (va_wsS RX11 42 yX11_in wsX11_in) := goodIn_app (goodIn_of _ (by decide +kernel)) ggX11_faultOf_X11_in
theorem dX11_faultOf_0 : decode cX11_faultOf 0 = .ok (.iconst 0, 1) := by decide +kernel
theorem dX11_faultOf_1 : decode cX11_faultOf 1 = .ok (.istore_n 1, 1) := by decide +kernel
theorem dX11_faultOf_2 : decode cX11_faultOf 2 = .ok (.iconst 0, 1) := by decide +kernel
theorem dX11_faultOf_3 : decode cX11_faultOf 3 = .ok (.istore_n 2, 1) := by decide +kernel
theorem dX11_faultOf_4 : decode cX11_faultOf 4 = .ok (.iconst 0, 1) := by decide +kernel
theorem dX11_faultOf_5 : decode cX11_faultOf 5 = .ok (.istore_n 3, 1) := by decide +kernel
theorem dX11_faultOf_6 : decode cX11_faultOf 6 = .ok (.iload_n 3, 1) := by decide +kernel
theorem dX11_faultOf_7 : decode cX11_faultOf 7 = .ok (.aload_n 0, 1) := by decide +kernel
theorem dX11_faultOf_8 : decode cX11_faultOf 8 = .ok (.getfield 50, 3) := by decide +kernel
theorem dX11_faultOf_11 : decode cX11_faultOf 11 = .ok (.if_icmp .ge 178, 3) := by decide +kernel
theorem dX11_faultOf_14 : decode cX11_faultOf 14 = .ok (.aload_n 0, 1) := by decide +kernel
theorem dX11_faultOf_15 : decode cX11_faultOf 15 = .ok (.getfield 23, 3) := by decide +kernel
theorem dX11_faultOf_18 : decode cX11_faultOf 18 = .ok (.iload_n 3, 1) := by decide +kernel
theorem dX11_faultOf_19 : decode cX11_faultOf 19 = .ok (.iaload, 1) := by decide +kernel
theorem dX11_faultOf_20 : decode cX11_faultOf 20 = .ok (.istore 4, 2) := by decide +kernel
theorem dX11_faultOf_22 : decode cX11_faultOf 22 = .ok (.iload 4, 2) := by decide +kernel
theorem dX11_faultOf_24 : decode cX11_faultOf 24 = .ok (.bipush 97, 2) := by decide +kernel
theorem dX11_faultOf_26 : decode cX11_faultOf 26 = .ok (.bipush 104, 2) := by decide +kernel
theorem dX11_faultOf_28 : decode cX11_faultOf 28 = .ok (.invokestatic 42, 3) := by decide +kernel
theorem dX11_faultOf_31 : decode cX11_faultOf 31 = .ok (.ifCond .eq 13, 3) := by decide +kernel
theorem dX11_faultOf_34 : decode cX11_faultOf 34 = .ok (.iload 4, 2) := by decide +kernel
theorem dX11_faultOf_36 : decode cX11_faultOf 36 = .ok (.iload_n 2, 1) := by decide +kernel
theorem dX11_faultOf_37 : decode cX11_faultOf 37 = .ok (.if_icmp .le 7, 3) := by decide +kernel
theorem dX11_faultOf_40 : decode cX11_faultOf 40 = .ok (.iconst 1, 1) := by decide +kernel
theorem dX11_faultOf_41 : decode cX11_faultOf 41 = .ok (.goto 4, 3) := by decide +kernel
theorem dX11_faultOf_44 : decode cX11_faultOf 44 = .ok (.iconst 0, 1) := by decide +kernel
theorem dX11_faultOf_45 : decode cX11_faultOf 45 = .ok (.istore 5, 2) := by decide +kernel
theorem dX11_faultOf_47 : decode cX11_faultOf 47 = .ok (.bipush (-6), 2) := by decide +kernel
theorem dX11_faultOf_49 : decode cX11_faultOf 49 = .ok (.istore 6, 2) := by decide +kernel
theorem dX11_faultOf_51 : decode cX11_faultOf 51 = .ok (.iload_n 1, 1) := by decide +kernel
theorem dX11_faultOf_52 : decode cX11_faultOf 52 = .ok (.ifCond .ne 26, 3) := by decide +kernel
theorem dX11_faultOf_55 : decode cX11_faultOf 55 = .ok (.iload 4, 2) := by decide +kernel
theorem dX11_faultOf_57 : decode cX11_faultOf 57 = .ok (.bipush 97, 2) := by decide +kernel
theorem dX11_faultOf_59 : decode cX11_faultOf 59 = .ok (.bipush 104, 2) := by decide +kernel
theorem dX11_faultOf_61 : decode cX11_faultOf 61 = .ok (.invokestatic 42, 3) := by decide +kernel
theorem dX11_faultOf_64 : decode cX11_faultOf 64 = .ok (.ifCond .eq 7, 3) := by decide +kernel
theorem dX11_faultOf_67 : decode cX11_faultOf 67 = .ok (.iconst 1, 1) := by decide +kernel
theorem dX11_faultOf_68 : decode cX11_faultOf 68 = .ok (.goto 5, 3) := by decide +kernel
theorem dX11_faultOf_71 : decode cX11_faultOf 71 = .ok (.bipush (-6), 2) := by decide +kernel
theorem dX11_faultOf_73 : decode cX11_faultOf 73 = .ok (.istore 6, 2) := by decide +kernel
theorem dX11_faultOf_75 : decode cX11_faultOf 75 = .ok (.goto 85, 3) := by decide +kernel
theorem dX11_faultOf_78 : decode cX11_faultOf 78 = .ok (.iload_n 1, 1) := by decide +kernel
theorem dX11_faultOf_79 : decode cX11_faultOf 79 = .ok (.iconst 1, 1) := by decide +kernel
theorem dX11_faultOf_80 : decode cX11_faultOf 80 = .ok (.if_icmp .ne 37, 3) := by decide +kernel
theorem dX11_faultOf_83 : decode cX11_faultOf 83 = .ok (.iload 5, 2) := by decide +kernel
theorem dX11_faultOf_85 : decode cX11_faultOf 85 = .ok (.ifCond .eq 7, 3) := by decide +kernel
theorem dX11_faultOf_88 : decode cX11_faultOf 88 = .ok (.iconst 1, 1) := by decide +kernel
theorem dX11_faultOf_89 : decode cX11_faultOf 89 = .ok (.goto 23, 3) := by decide +kernel
theorem dX11_faultOf_92 : decode cX11_faultOf 92 = .ok (.iload 4, 2) := by decide +kernel
theorem dX11_faultOf_94 : decode cX11_faultOf 94 = .ok (.bipush 60, 2) := by decide +kernel
theorem dX11_faultOf_96 : decode cX11_faultOf 96 = .ok (.if_icmp .eq 10, 3) := by decide +kernel
theorem dX11_faultOf_99 : decode cX11_faultOf 99 = .ok (.iload 4, 2) := by decide +kernel
theorem dX11_faultOf_101 : decode cX11_faultOf 101 = .ok (.bipush 62, 2) := by decide +kernel
theorem dX11_faultOf_103 : decode cX11_faultOf 103 = .ok (.if_icmp .ne 7, 3) := by decide +kernel
theorem dX11_faultOf_106 : decode cX11_faultOf 106 = .ok (.iconst 2, 1) := by decide +kernel
theorem dX11_faultOf_107 : decode cX11_faultOf 107 = .ok (.goto 5, 3) := by decide +kernel
theorem dX11_faultOf_110 : decode cX11_faultOf 110 = .ok (.bipush (-6), 2) := by decide +kernel
theorem dX11_faultOf_112 : decode cX11_faultOf 112 = .ok (.istore 6, 2) := by decide +kernel
theorem dX11_faultOf_114 : decode cX11_faultOf 114 = .ok (.goto 46, 3) := by decide +kernel
theorem dX11_faultOf_117 : decode cX11_faultOf 117 = .ok (.iload_n 1, 1) := by decide +kernel
theorem dX11_faultOf_118 : decode cX11_faultOf 118 = .ok (.iconst 2, 1) := by decide +kernel
theorem dX11_faultOf_119 : decode cX11_faultOf 119 = .ok (.if_icmp .ne 26, 3) := by decide +kernel
theorem dX11_faultOf_122 : decode cX11_faultOf 122 = .ok (.iload 4, 2) := by decide +kernel
theorem dX11_faultOf_124 : decode cX11_faultOf 124 = .ok (.bipush 48, 2) := by decide +kernel
theorem dX11_faultOf_126 : decode cX11_faultOf 126 = .ok (.bipush 52, 2) := by decide +kernel
theorem dX11_faultOf_128 : decode cX11_faultOf 128 = .ok (.invokestatic 42, 3) := by decide +kernel
theorem dX11_faultOf_131 : decode cX11_faultOf 131 = .ok (.ifCond .eq 7, 3) := by decide +kernel
theorem dX11_faultOf_134 : decode cX11_faultOf 134 = .ok (.iconst 3, 1) := by decide +kernel
theorem dX11_faultOf_135 : decode cX11_faultOf 135 = .ok (.goto 5, 3) := by decide +kernel
theorem dX11_faultOf_138 : decode cX11_faultOf 138 = .ok (.bipush (-6), 2) := by decide +kernel
theorem dX11_faultOf_140 : decode cX11_faultOf 140 = .ok (.istore 6, 2) := by decide +kernel
theorem dX11_faultOf_142 : decode cX11_faultOf 142 = .ok (.goto 18, 3) := by decide +kernel
theorem dX11_faultOf_145 : decode cX11_faultOf 145 = .ok (.iload 4, 2) := by decide +kernel
theorem dX11_faultOf_147 : decode cX11_faultOf 147 = .ok (.bipush 59, 2) := by decide +kernel
theorem dX11_faultOf_149 : decode cX11_faultOf 149 = .ok (.if_icmp .ne 7, 3) := by decide +kernel
theorem dX11_faultOf_152 : decode cX11_faultOf 152 = .ok (.iconst 0, 1) := by decide +kernel
theorem dX11_faultOf_153 : decode cX11_faultOf 153 = .ok (.goto 5, 3) := by decide +kernel
theorem dX11_faultOf_156 : decode cX11_faultOf 156 = .ok (.bipush (-6), 2) := by decide +kernel
theorem dX11_faultOf_158 : decode cX11_faultOf 158 = .ok (.istore 6, 2) := by decide +kernel
theorem dX11_faultOf_160 : decode cX11_faultOf 160 = .ok (.iload 6, 2) := by decide +kernel
theorem dX11_faultOf_162 : decode cX11_faultOf 162 = .ok (.ifCond .ge 5, 3) := by decide +kernel
theorem dX11_faultOf_165 : decode cX11_faultOf 165 = .ok (.iload_n 3, 1) := by decide +kernel
theorem dX11_faultOf_166 : decode cX11_faultOf 166 = .ok (.ireturn, 1) := by decide +kernel
theorem dX11_faultOf_167 : decode cX11_faultOf 167 = .ok (.iload 6, 2) := by decide +kernel
theorem dX11_faultOf_169 : decode cX11_faultOf 169 = .ok (.iconst 1, 1) := by decide +kernel
theorem dX11_faultOf_170 : decode cX11_faultOf 170 = .ok (.if_icmp .ne 8, 3) := by decide +kernel
theorem dX11_faultOf_173 : decode cX11_faultOf 173 = .ok (.iload 4, 2) := by decide +kernel
theorem dX11_faultOf_175 : decode cX11_faultOf 175 = .ok (.goto 4, 3) := by decide +kernel
theorem dX11_faultOf_178 : decode cX11_faultOf 178 = .ok (.iconst 0, 1) := by decide +kernel
theorem dX11_faultOf_179 : decode cX11_faultOf 179 = .ok (.istore_n 2, 1) := by decide +kernel
theorem dX11_faultOf_180 : decode cX11_faultOf 180 = .ok (.iload 6, 2) := by decide +kernel
theorem dX11_faultOf_182 : decode cX11_faultOf 182 = .ok (.istore_n 1, 1) := by decide +kernel
theorem dX11_faultOf_183 : decode cX11_faultOf 183 = .ok (.iinc 3 1, 3) := by decide +kernel
theorem dX11_faultOf_186 : decode cX11_faultOf 186 = .ok (.goto (-180), 3) := by decide +kernel
theorem dX11_faultOf_189 : decode cX11_faultOf 189 = .ok (.iload_n 1, 1) := by decide +kernel
theorem dX11_faultOf_190 : decode cX11_faultOf 190 = .ok (.iconst 3, 1) := by decide +kernel
theorem dX11_faultOf_191 : decode cX11_faultOf 191 = .ok (.if_icmp .ne 8, 3) := by decide +kernel
theorem dX11_faultOf_194 : decode cX11_faultOf 194 = .ok (.bipush (-6), 2) := by decide +kernel
theorem dX11_faultOf_196 : decode cX11_faultOf 196 = .ok (.goto 7, 3) := by decide +kernel
theorem dX11_faultOf_199 : decode cX11_faultOf 199 = .ok (.aload_n 0, 1) := by decide +kernel
theorem dX11_faultOf_200 : decode cX11_faultOf 200 = .ok (.getfield 50, 3) := by decide +kernel
theorem dX11_faultOf_203 : decode cX11_faultOf 203 = .ok (.ireturn, 1) := by decide +kernel
set_option maxRecDepth 20000 in
theorem ggX11_fault_X11_faultOf : GoodIn wsX11_fault wsX11_faultOf := goodIn_r _ [5, 6, 7, 8, 9, 4, 10, 11, 12, 13, 14, 15, 16, 17, 18, 19, 20, 21, 22, 23, 24, 25, 26, 27] (by decide +kernel) (by decide +kernel)
set_option maxRecDepth 20000 in
theorem gX11_fault_X11_faultOf : GoodIn wsX11_fault (wsV RX11 53 RX11 yX11_faultOf wsX11_faultOf) := goodIn_app (goodIn_of _ (by decide +kernel)) ggX11_fault_X11_faultOf
theorem dX11_fault_0 : decode cX11_fault 0 = .ok (.aload_n 0, 1) := by decide +kernel
theorem dX11_fault_1 : decode cX11_fault 1 = .ok (.invokevirtual 53, 3) := by decide +kernel
theorem dX11_fault_4 : decode cX11_fault 4 = .ok (.ireturn, 1) := by decide +kernel
set_option maxRecDepth 20000 in
theorem ggX11_hall_X11_faultOf : GoodIn wsX11_hall wsX11_faultOf := goodIn_r _ [9, 1, 4, 10, 11, 8, 12, 13, 14, 15, 16, 17, 18, 19, 20, 21, 22, 23, 24, 25, 26, 27, 28, 29] (by decide +kernel) (by decide +kernel)
set_option maxRecDepth 20000 in
theorem gX11_hall_X11_faultOf : GoodIn wsX11_hall (wsV RX11 53 RX11 yX11_faultOf wsX11_faultOf) := goodIn_app (goodIn_of _ (by decide +kernel)) ggX11_hall_X11_faultOf
theorem dX11_hall_0 : decode cX11_hall 0 = .ok (.aload_n 0, 1) := by decide +kernel
theorem dX11_hall_1 : decode cX11_hall 1 = .ok (.invokevirtual 53, 3) := by decide +kernel
theorem dX11_hall_4 : decode cX11_hall 4 = .ok (.ifCond .lt 6, 3) := by decide +kernel
theorem dX11_hall_7 : decode cX11_hall 7 = .ok (.bipush (-5), 2) := by decide +kernel
theorem dX11_hall_9 : decode cX11_hall 9 = .ok (.ireturn, 1) := by decide +kernel
theorem dX11_hall_10 : decode cX11_hall 10 = .ok (.aload_n 0, 1) := by decide +kernel
theorem dX11_hall_11 : decode cX11_hall 11 = .ok (.aload_n 0, 1) := by decide +kernel
theorem dX11_hall_12 : decode cX11_hall 12 = .ok (.getfield 50, 3) := by decide +kernel
theorem dX11_hall_15 : decode cX11_hall 15 = .ok (.putfield 57, 3) := by decide +kernel
theorem dX11_hall_18 : decode cX11_hall 18 = .ok (.iconst 0, 1) := by decide +kernel
theorem dX11_hall_19 : decode cX11_hall 19 = .ok (.istore_n 1, 1) := by decide +kernel
theorem dX11_hall_20 : decode cX11_hall 20 = .ok (.iload_n 1, 1) := by decide +kernel
theorem dX11_hall_21 : decode cX11_hall 21 = .ok (.aload_n 0, 1) := by decide +kernel
theorem dX11_hall_22 : decode cX11_hall 22 = .ok (.getfield 50, 3) := by decide +kernel
theorem dX11_hall_25 : decode cX11_hall 25 = .ok (.if_icmp .ge 21, 3) := by decide +kernel
theorem dX11_hall_28 : decode cX11_hall 28 = .ok (.aload_n 0, 1) := by decide +kernel
theorem dX11_hall_29 : decode cX11_hall 29 = .ok (.getfield 26, 3) := by decide +kernel
theorem dX11_hall_32 : decode cX11_hall 32 = .ok (.iload_n 1, 1) := by decide +kernel
theorem dX11_hall_33 : decode cX11_hall 33 = .ok (.aload_n 0, 1) := by decide +kernel
theorem dX11_hall_34 : decode cX11_hall 34 = .ok (.getfield 23, 3) := by decide +kernel
theorem dX11_hall_37 : decode cX11_hall 37 = .ok (.iload_n 1, 1) := by decide +kernel
theorem dX11_hall_38 : decode cX11_hall 38 = .ok (.iaload, 1) := by decide +kernel
theorem dX11_hall_39 : decode cX11_hall 39 = .ok (.iastore, 1) := by decide +kernel
theorem dX11_hall_40 : decode cX11_hall 40 = .ok (.iinc 1 1, 3) := by decide +kernel
theorem dX11_hall_43 : decode cX11_hall 43 = .ok (.goto (-23), 3) := by decide +kernel
theorem dX11_hall_46 : decode cX11_hall 46 = .ok (.aload_n 0, 1) := by decide +kernel
theorem dX11_hall_47 : decode cX11_hall 47 = .ok (.iconst 0, 1) := by decide +kernel
theorem dX11_hall_48 : decode cX11_hall 48 = .ok (.putfield 50, 3) := by decide +kernel
theorem dX11_hall_51 : decode cX11_hall 51 = .ok (.iconst 1, 1) := by decide +kernel
theorem dX11_hall_52 : decode cX11_hall 52 = .ok (.ireturn, 1) := by decide +kernel
theorem dX11_open_0 : decode cX11_open 0 = .ok (.aload_n 0, 1) := by decide +kernel
theorem dX11_open_1 : decode cX11_open 1 = .ok (.getfield 57, 3) := by decide +kernel
theorem dX11_open_4 : decode cX11_open 4 = .ok (.ifCond .le 7, 3) := by decide +kernel
theorem dX11_open_7 : decode cX11_open 7 = .ok (.iconst 1, 1) := by decide +kernel
theorem dX11_open_8 : decode cX11_open 8 = .ok (.goto 4, 3) := by decide +kernel
theorem dX11_open_11 : decode cX11_open 11 = .ok (.iconst 0, 1) := by decide +kernel
theorem dX11_open_12 : decode cX11_open 12 = .ok (.istore_n 1, 1) := by decide +kernel
theorem dX11_open_13 : decode cX11_open 13 = .ok (.aload_n 0, 1) := by decide +kernel
theorem dX11_open_14 : decode cX11_open 14 = .ok (.iconst 0, 1) := by decide +kernel
theorem dX11_open_15 : decode cX11_open 15 = .ok (.putfield 57, 3) := by decide +kernel
theorem dX11_open_18 : decode cX11_open 18 = .ok (.iload_n 1, 1) := by decide +kernel
theorem dX11_open_19 : decode cX11_open 19 = .ok (.ireturn, 1) := by decide +kernel
set_option maxRecDepth 20000 in
theorem ggX11_barOf_X11_in : GoodIn wsX11_barOf wsX11_in := goodIn_r _ [6] (by decide +kernel) (by decide +kernel)
set_option maxRecDepth 20000 in
theorem gX11_barOf_X11_in : GoodIn wsX11_barOf (va_wsS RX11 42 yX11_in wsX11_in) := goodIn_app (goodIn_of _ (by decide +kernel)) ggX11_barOf_X11_in
set_option maxRecDepth 20000 in
theorem ggX11_barOf_X11_bits : GoodIn wsX11_barOf wsX11_bits := goodIn_r _ [9] (by decide +kernel) (by decide +kernel)
set_option maxRecDepth 20000 in
theorem gX11_barOf_X11_bits : GoodIn wsX11_barOf (va_wsS RX11 60 yX11_bits wsX11_bits) := goodIn_app (goodIn_of _ (by decide +kernel)) ggX11_barOf_X11_bits
theorem dX11_barOf_0 : decode cX11_barOf 0 = .ok (.iconst 0, 1) := by decide +kernel
theorem dX11_barOf_1 : decode cX11_barOf 1 = .ok (.istore_n 2, 1) := by decide +kernel
theorem dX11_barOf_2 : decode cX11_barOf 2 = .ok (.iconst 0, 1) := by decide +kernel
theorem dX11_barOf_3 : decode cX11_barOf 3 = .ok (.istore_n 3, 1) := by decide +kernel
theorem dX11_barOf_4 : decode cX11_barOf 4 = .ok (.iconst 0, 1) := by decide +kernel
theorem dX11_barOf_5 : decode cX11_barOf 5 = .ok (.istore 4, 2) := by decide +kernel
theorem dX11_barOf_7 : decode cX11_barOf 7 = .ok (.iconst 0, 1) := by decide +kernel
theorem dX11_barOf_8 : decode cX11_barOf 8 = .ok (.istore 5, 2) := by decide +kernel
theorem dX11_barOf_10 : decode cX11_barOf 10 = .ok (.iload 5, 2) := by decide +kernel
theorem dX11_barOf_12 : decode cX11_barOf 12 = .ok (.aload_n 0, 1) := by decide +kernel
theorem dX11_barOf_13 : decode cX11_barOf 13 = .ok (.getfield 57, 3) := by decide +kernel
theorem dX11_barOf_16 : decode cX11_barOf 16 = .ok (.if_icmp .ge 117, 3) := by decide +kernel
theorem dX11_barOf_19 : decode cX11_barOf 19 = .ok (.aload_n 0, 1) := by decide +kernel
theorem dX11_barOf_20 : decode cX11_barOf 20 = .ok (.getfield 26, 3) := by decide +kernel
theorem dX11_barOf_23 : decode cX11_barOf 23 = .ok (.iload 5, 2) := by decide +kernel
theorem dX11_barOf_25 : decode cX11_barOf 25 = .ok (.iaload, 1) := by decide +kernel
theorem dX11_barOf_26 : decode cX11_barOf 26 = .ok (.istore 6, 2) := by decide +kernel
theorem dX11_barOf_28 : decode cX11_barOf 28 = .ok (.iload 6, 2) := by decide +kernel
theorem dX11_barOf_30 : decode cX11_barOf 30 = .ok (.bipush 97, 2) := by decide +kernel
theorem dX11_barOf_32 : decode cX11_barOf 32 = .ok (.bipush 104, 2) := by decide +kernel
theorem dX11_barOf_34 : decode cX11_barOf 34 = .ok (.invokestatic 42, 3) := by decide +kernel
theorem dX11_barOf_37 : decode cX11_barOf 37 = .ok (.ifCond .eq 16, 3) := by decide +kernel
theorem dX11_barOf_40 : decode cX11_barOf 40 = .ok (.iload_n 3, 1) := by decide +kernel
theorem dX11_barOf_41 : decode cX11_barOf 41 = .ok (.iconst 1, 1) := by decide +kernel
theorem dX11_barOf_42 : decode cX11_barOf 42 = .ok (.iload 6, 2) := by decide +kernel
theorem dX11_barOf_44 : decode cX11_barOf 44 = .ok (.bipush 97, 2) := by decide +kernel
theorem dX11_barOf_46 : decode cX11_barOf 46 = .ok (.isub, 1) := by decide +kernel
theorem dX11_barOf_47 : decode cX11_barOf 47 = .ok (.ishl, 1) := by decide +kernel
theorem dX11_barOf_48 : decode cX11_barOf 48 = .ok (.ior, 1) := by decide +kernel
theorem dX11_barOf_49 : decode cX11_barOf 49 = .ok (.istore_n 3, 1) := by decide +kernel
theorem dX11_barOf_50 : decode cX11_barOf 50 = .ok (.goto 77, 3) := by decide +kernel
theorem dX11_barOf_53 : decode cX11_barOf 53 = .ok (.iload 6, 2) := by decide +kernel
theorem dX11_barOf_55 : decode cX11_barOf 55 = .ok (.bipush 48, 2) := by decide +kernel
theorem dX11_barOf_57 : decode cX11_barOf 57 = .ok (.bipush 52, 2) := by decide +kernel
theorem dX11_barOf_59 : decode cX11_barOf 59 = .ok (.invokestatic 42, 3) := by decide +kernel
theorem dX11_barOf_62 : decode cX11_barOf 62 = .ok (.ifCond .eq 46, 3) := by decide +kernel
theorem dX11_barOf_65 : decode cX11_barOf 65 = .ok (.iload_n 3, 1) := by decide +kernel
theorem dX11_barOf_66 : decode cX11_barOf 66 = .ok (.iload_n 1, 1) := by decide +kernel
theorem dX11_barOf_67 : decode cX11_barOf 67 = .ok (.iand, 1) := by decide +kernel
theorem dX11_barOf_68 : decode cX11_barOf 68 = .ok (.invokestatic 60, 3) := by decide +kernel
theorem dX11_barOf_71 : decode cX11_barOf 71 = .ok (.istore 7, 2) := by decide +kernel
theorem dX11_barOf_73 : decode cX11_barOf 73 = .ok (.iload 4, 2) := by decide +kernel
theorem dX11_barOf_75 : decode cX11_barOf 75 = .ok (.bipush 60, 2) := by decide +kernel
theorem dX11_barOf_77 : decode cX11_barOf 77 = .ok (.if_icmp .ne 16, 3) := by decide +kernel
theorem dX11_barOf_80 : decode cX11_barOf 80 = .ok (.iload 7, 2) := by decide +kernel
theorem dX11_barOf_82 : decode cX11_barOf 82 = .ok (.iload 6, 2) := by decide +kernel
theorem dX11_barOf_84 : decode cX11_barOf 84 = .ok (.bipush 48, 2) := by decide +kernel
theorem dX11_barOf_86 : decode cX11_barOf 86 = .ok (.isub, 1) := by decide +kernel
theorem dX11_barOf_87 : decode cX11_barOf 87 = .ok (.if_icmp .lt 18, 3) := by decide +kernel
theorem dX11_barOf_90 : decode cX11_barOf 90 = .ok (.goto 13, 3) := by decide +kernel
theorem dX11_barOf_93 : decode cX11_barOf 93 = .ok (.iload 7, 2) := by decide +kernel
theorem dX11_barOf_95 : decode cX11_barOf 95 = .ok (.iload 6, 2) := by decide +kernel
theorem dX11_barOf_97 : decode cX11_barOf 97 = .ok (.bipush 48, 2) := by decide +kernel
theorem dX11_barOf_99 : decode cX11_barOf 99 = .ok (.isub, 1) := by decide +kernel
theorem dX11_barOf_100 : decode cX11_barOf 100 = .ok (.if_icmp .gt 5, 3) := by decide +kernel
theorem dX11_barOf_103 : decode cX11_barOf 103 = .ok (.iload_n 2, 1) := by decide +kernel
theorem dX11_barOf_104 : decode cX11_barOf 104 = .ok (.ireturn, 1) := by decide +kernel
theorem dX11_barOf_105 : decode cX11_barOf 105 = .ok (.goto 22, 3) := by decide +kernel
theorem dX11_barOf_108 : decode cX11_barOf 108 = .ok (.iload 6, 2) := by decide +kernel
theorem dX11_barOf_110 : decode cX11_barOf 110 = .ok (.bipush 59, 2) := by decide +kernel
theorem dX11_barOf_112 : decode cX11_barOf 112 = .ok (.if_icmp .ne 11, 3) := by decide +kernel
theorem dX11_barOf_115 : decode cX11_barOf 115 = .ok (.iinc 2 1, 3) := by decide +kernel
theorem dX11_barOf_118 : decode cX11_barOf 118 = .ok (.iconst 0, 1) := by decide +kernel
theorem dX11_barOf_119 : decode cX11_barOf 119 = .ok (.istore_n 3, 1) := by decide +kernel
theorem dX11_barOf_120 : decode cX11_barOf 120 = .ok (.goto 7, 3) := by decide +kernel
theorem dX11_barOf_123 : decode cX11_barOf 123 = .ok (.iload 6, 2) := by decide +kernel
theorem dX11_barOf_125 : decode cX11_barOf 125 = .ok (.istore 4, 2) := by decide +kernel
theorem dX11_barOf_127 : decode cX11_barOf 127 = .ok (.iinc 5 1, 3) := by decide +kernel
theorem dX11_barOf_130 : decode cX11_barOf 130 = .ok (.goto (-120), 3) := by decide +kernel
theorem dX11_barOf_133 : decode cX11_barOf 133 = .ok (.bipush (-6), 2) := by decide +kernel
theorem dX11_barOf_135 : decode cX11_barOf 135 = .ok (.ireturn, 1) := by decide +kernel
set_option maxRecDepth 20000 in
theorem ggX11_worthOf_X11_bits : GoodIn wsX11_worthOf wsX11_bits := goodIn_r _ [8] (by decide +kernel) (by decide +kernel)
set_option maxRecDepth 20000 in
theorem gX11_worthOf_X11_bits : GoodIn wsX11_worthOf (va_wsS RX11 60 yX11_bits wsX11_bits) := goodIn_app (goodIn_of _ (by decide +kernel)) ggX11_worthOf_X11_bits
theorem dX11_worthOf_0 : decode cX11_worthOf 0 = .ok (.iconst 0, 1) := by decide +kernel
theorem dX11_worthOf_1 : decode cX11_worthOf 1 = .ok (.istore_n 2, 1) := by decide +kernel
theorem dX11_worthOf_2 : decode cX11_worthOf 2 = .ok (.iconst 0, 1) := by decide +kernel
theorem dX11_worthOf_3 : decode cX11_worthOf 3 = .ok (.istore_n 3, 1) := by decide +kernel
theorem dX11_worthOf_4 : decode cX11_worthOf 4 = .ok (.iload_n 3, 1) := by decide +kernel
theorem dX11_worthOf_5 : decode cX11_worthOf 5 = .ok (.aload_n 0, 1) := by decide +kernel
theorem dX11_worthOf_6 : decode cX11_worthOf 6 = .ok (.getfield 39, 3) := by decide +kernel
theorem dX11_worthOf_9 : decode cX11_worthOf 9 = .ok (.if_icmp .ge 61, 3) := by decide +kernel
theorem dX11_worthOf_12 : decode cX11_worthOf 12 = .ok (.iload_n 1, 1) := by decide +kernel
theorem dX11_worthOf_13 : decode cX11_worthOf 13 = .ok (.aload_n 0, 1) := by decide +kernel
theorem dX11_worthOf_14 : decode cX11_worthOf 14 = .ok (.getfield 7, 3) := by decide +kernel
theorem dX11_worthOf_17 : decode cX11_worthOf 17 = .ok (.iload_n 3, 1) := by decide +kernel
theorem dX11_worthOf_18 : decode cX11_worthOf 18 = .ok (.iaload, 1) := by decide +kernel
theorem dX11_worthOf_19 : decode cX11_worthOf 19 = .ok (.iand, 1) := by decide +kernel
theorem dX11_worthOf_20 : decode cX11_worthOf 20 = .ok (.invokestatic 60, 3) := by decide +kernel
theorem dX11_worthOf_23 : decode cX11_worthOf 23 = .ok (.istore 4, 2) := by decide +kernel
theorem dX11_worthOf_25 : decode cX11_worthOf 25 = .ok (.iconst 0, 1) := by decide +kernel
theorem dX11_worthOf_26 : decode cX11_worthOf 26 = .ok (.istore 5, 2) := by decide +kernel
theorem dX11_worthOf_28 : decode cX11_worthOf 28 = .ok (.iload 5, 2) := by decide +kernel
theorem dX11_worthOf_30 : decode cX11_worthOf 30 = .ok (.iload 4, 2) := by decide +kernel
theorem dX11_worthOf_32 : decode cX11_worthOf 32 = .ok (.if_icmp .ge 32, 3) := by decide +kernel
theorem dX11_worthOf_35 : decode cX11_worthOf 35 = .ok (.iload 5, 2) := by decide +kernel
theorem dX11_worthOf_37 : decode cX11_worthOf 37 = .ok (.iconst 4, 1) := by decide +kernel
theorem dX11_worthOf_38 : decode cX11_worthOf 38 = .ok (.if_icmp .ge 26, 3) := by decide +kernel
theorem dX11_worthOf_41 : decode cX11_worthOf 41 = .ok (.iload_n 2, 1) := by decide +kernel
theorem dX11_worthOf_42 : decode cX11_worthOf 42 = .ok (.aload_n 0, 1) := by decide +kernel
theorem dX11_worthOf_43 : decode cX11_worthOf 43 = .ok (.getfield 13, 3) := by decide +kernel
theorem dX11_worthOf_46 : decode cX11_worthOf 46 = .ok (.iload_n 3, 1) := by decide +kernel
theorem dX11_worthOf_47 : decode cX11_worthOf 47 = .ok (.iaload, 1) := by decide +kernel
theorem dX11_worthOf_48 : decode cX11_worthOf 48 = .ok (.aload_n 0, 1) := by decide +kernel
theorem dX11_worthOf_49 : decode cX11_worthOf 49 = .ok (.getfield 20, 3) := by decide +kernel
theorem dX11_worthOf_52 : decode cX11_worthOf 52 = .ok (.iload 5, 2) := by decide +kernel
theorem dX11_worthOf_54 : decode cX11_worthOf 54 = .ok (.iaload, 1) := by decide +kernel
theorem dX11_worthOf_55 : decode cX11_worthOf 55 = .ok (.imul, 1) := by decide +kernel
theorem dX11_worthOf_56 : decode cX11_worthOf 56 = .ok (.iadd, 1) := by decide +kernel
theorem dX11_worthOf_57 : decode cX11_worthOf 57 = .ok (.istore_n 2, 1) := by decide +kernel
theorem dX11_worthOf_58 : decode cX11_worthOf 58 = .ok (.iinc 5 1, 3) := by decide +kernel
theorem dX11_worthOf_61 : decode cX11_worthOf 61 = .ok (.goto (-33), 3) := by decide +kernel
theorem dX11_worthOf_64 : decode cX11_worthOf 64 = .ok (.iinc 3 1, 3) := by decide +kernel
theorem dX11_worthOf_67 : decode cX11_worthOf 67 = .ok (.goto (-63), 3) := by decide +kernel
theorem dX11_worthOf_70 : decode cX11_worthOf 70 = .ok (.iload_n 2, 1) := by decide +kernel
theorem dX11_worthOf_71 : decode cX11_worthOf 71 = .ok (.ireturn, 1) := by decide +kernel
theorem dX11_wronged_0 : decode cX11_wronged 0 = .ok (.iconst 0, 1) := by decide +kernel
theorem dX11_wronged_1 : decode cX11_wronged 1 = .ok (.istore_n 2, 1) := by decide +kernel
theorem dX11_wronged_2 : decode cX11_wronged 2 = .ok (.iconst 0, 1) := by decide +kernel
theorem dX11_wronged_3 : decode cX11_wronged 3 = .ok (.istore_n 3, 1) := by decide +kernel
theorem dX11_wronged_4 : decode cX11_wronged 4 = .ok (.iload_n 3, 1) := by decide +kernel
theorem dX11_wronged_5 : decode cX11_wronged 5 = .ok (.aload_n 0, 1) := by decide +kernel
theorem dX11_wronged_6 : decode cX11_wronged 6 = .ok (.getfield 39, 3) := by decide +kernel
theorem dX11_wronged_9 : decode cX11_wronged 9 = .ok (.if_icmp .ge 33, 3) := by decide +kernel
theorem dX11_wronged_12 : decode cX11_wronged 12 = .ok (.iload_n 2, 1) := by decide +kernel
theorem dX11_wronged_13 : decode cX11_wronged 13 = .ok (.iload_n 1, 1) := by decide +kernel
theorem dX11_wronged_14 : decode cX11_wronged 14 = .ok (.aload_n 0, 1) := by decide +kernel
theorem dX11_wronged_15 : decode cX11_wronged 15 = .ok (.getfield 7, 3) := by decide +kernel
theorem dX11_wronged_18 : decode cX11_wronged 18 = .ok (.iload_n 3, 1) := by decide +kernel
theorem dX11_wronged_19 : decode cX11_wronged 19 = .ok (.iaload, 1) := by decide +kernel
theorem dX11_wronged_20 : decode cX11_wronged 20 = .ok (.iand, 1) := by decide +kernel
theorem dX11_wronged_21 : decode cX11_wronged 21 = .ok (.ifCond .ne 12, 3) := by decide +kernel
theorem dX11_wronged_24 : decode cX11_wronged 24 = .ok (.aload_n 0, 1) := by decide +kernel
theorem dX11_wronged_25 : decode cX11_wronged 25 = .ok (.getfield 13, 3) := by decide +kernel
theorem dX11_wronged_28 : decode cX11_wronged 28 = .ok (.iload_n 3, 1) := by decide +kernel
theorem dX11_wronged_29 : decode cX11_wronged 29 = .ok (.iaload, 1) := by decide +kernel
theorem dX11_wronged_30 : decode cX11_wronged 30 = .ok (.goto 4, 3) := by decide +kernel
theorem dX11_wronged_33 : decode cX11_wronged 33 = .ok (.iconst 0, 1) := by decide +kernel
theorem dX11_wronged_34 : decode cX11_wronged 34 = .ok (.iadd, 1) := by decide +kernel
theorem dX11_wronged_35 : decode cX11_wronged 35 = .ok (.istore_n 2, 1) := by decide +kernel
theorem dX11_wronged_36 : decode cX11_wronged 36 = .ok (.iinc 3 1, 3) := by decide +kernel
theorem dX11_wronged_39 : decode cX11_wronged 39 = .ok (.goto (-35), 3) := by decide +kernel
theorem dX11_wronged_42 : decode cX11_wronged 42 = .ok (.iload_n 2, 1) := by decide +kernel
theorem dX11_wronged_43 : decode cX11_wronged 43 = .ok (.ireturn, 1) := by decide +kernel
set_option maxRecDepth 20000 in
theorem ggX11_isCommittee_X11_in : GoodIn wsX11_isCommittee wsX11_in := goodIn_r _ [5] (by decide +kernel) (by decide +kernel)
set_option maxRecDepth 20000 in
theorem gX11_isCommittee_X11_in : GoodIn wsX11_isCommittee (va_wsS RX11 42 yX11_in wsX11_in) := goodIn_app (goodIn_of _ (by decide +kernel)) ggX11_isCommittee_X11_in
set_option maxRecDepth 20000 in
theorem ggX11_isCommittee_X11_bits : GoodIn wsX11_isCommittee wsX11_bits := goodIn_r _ [8] (by decide +kernel) (by decide +kernel)
set_option maxRecDepth 20000 in
theorem gX11_isCommittee_X11_bits : GoodIn wsX11_isCommittee (va_wsS RX11 60 yX11_bits wsX11_bits) := goodIn_app (goodIn_of _ (by decide +kernel)) ggX11_isCommittee_X11_bits
theorem dX11_isCommittee_0 : decode cX11_isCommittee 0 = .ok (.iload_n 1, 1) := by decide +kernel
theorem dX11_isCommittee_1 : decode cX11_isCommittee 1 = .ok (.iconst 0, 1) := by decide +kernel
theorem dX11_isCommittee_2 : decode cX11_isCommittee 2 = .ok (.sipush 255, 3) := by decide +kernel
theorem dX11_isCommittee_5 : decode cX11_isCommittee 5 = .ok (.invokestatic 42, 3) := by decide +kernel
theorem dX11_isCommittee_8 : decode cX11_isCommittee 8 = .ok (.ifCond .eq 18, 3) := by decide +kernel
theorem dX11_isCommittee_11 : decode cX11_isCommittee 11 = .ok (.iload_n 1, 1) := by decide +kernel
theorem dX11_isCommittee_12 : decode cX11_isCommittee 12 = .ok (.invokestatic 60, 3) := by decide +kernel
theorem dX11_isCommittee_15 : decode cX11_isCommittee 15 = .ok (.aload_n 0, 1) := by decide +kernel
theorem dX11_isCommittee_16 : decode cX11_isCommittee 16 = .ok (.getfield 16, 3) := by decide +kernel
theorem dX11_isCommittee_19 : decode cX11_isCommittee 19 = .ok (.if_icmp .ne 7, 3) := by decide +kernel
theorem dX11_isCommittee_22 : decode cX11_isCommittee 22 = .ok (.iconst 1, 1) := by decide +kernel
theorem dX11_isCommittee_23 : decode cX11_isCommittee 23 = .ok (.goto 4, 3) := by decide +kernel
theorem dX11_isCommittee_26 : decode cX11_isCommittee 26 = .ok (.iconst 0, 1) := by decide +kernel
theorem dX11_isCommittee_27 : decode cX11_isCommittee 27 = .ok (.ireturn, 1) := by decide +kernel
set_option maxRecDepth 20000 in
theorem ggX11_of_X11_isCommittee : GoodIn wsX11_of wsX11_isCommittee := goodIn_r _ [5, 6, 7, 8, 4, 9, 10, 11, 12, 31, 32, 33, 34, 35, 36, 37, 38, 39, 40, 41, 42, 43, 44, 45, 46, 47] (by decide +kernel) (by decide +kernel)
set_option maxRecDepth 20000 in
theorem gX11_of_X11_isCommittee : GoodIn wsX11_of (wsV RX11 64 RX11 yX11_isCommittee wsX11_isCommittee) := goodIn_app (goodIn_of _ (by decide +kernel)) ggX11_of_X11_isCommittee
set_option maxRecDepth 20000 in
theorem ggX11_of_X11_in : GoodIn wsX11_of wsX11_in := goodIn_r _ [9] (by decide +kernel) (by decide +kernel)
set_option maxRecDepth 20000 in
theorem gX11_of_X11_in : GoodIn wsX11_of (va_wsS RX11 42 yX11_in wsX11_in) := goodIn_app (goodIn_of _ (by decide +kernel)) ggX11_of_X11_in
set_option maxRecDepth 20000 in
theorem ggX11_of_X11_barOf : GoodIn wsX11_of wsX11_barOf := goodIn_r _ [16, 17, 18, 7, 8, 4, 9, 10, 11, 12, 31, 32, 33, 34, 35, 36, 37, 38, 39, 40, 41, 42, 43, 44, 45, 46, 47] (by decide +kernel) (by decide +kernel)
set_option maxRecDepth 20000 in
theorem gX11_of_X11_barOf : GoodIn wsX11_of (wsV RX11 67 RX11 yX11_barOf wsX11_barOf) := goodIn_app (goodIn_of _ (by decide +kernel)) ggX11_of_X11_barOf
set_option maxRecDepth 20000 in
theorem ggX11_of_X11_worthOf : GoodIn wsX11_of wsX11_worthOf := goodIn_r _ [22, 23, 24, 25, 26, 10, 11, 4, 12, 31, 32, 33, 34, 35, 36, 37, 38, 39, 40, 41, 42, 43, 44, 45, 46, 47] (by decide +kernel) (by decide +kernel)
set_option maxRecDepth 20000 in
theorem gX11_of_X11_worthOf : GoodIn wsX11_of (wsV RX11 70 RX11 yX11_worthOf wsX11_worthOf) := goodIn_app (goodIn_of _ (by decide +kernel)) ggX11_of_X11_worthOf
set_option maxRecDepth 20000 in
theorem ggX11_of_X11_wronged : GoodIn wsX11_of wsX11_wronged := goodIn_r _ [30, 23, 24, 25, 31, 32, 33, 34, 35, 36, 37, 38, 39, 40, 41, 42, 43, 44, 45, 46, 47] (by decide +kernel) (by decide +kernel)
set_option maxRecDepth 20000 in
theorem gX11_of_X11_wronged : GoodIn wsX11_of (wsV RX11 73 RX11 yX11_wronged wsX11_wronged) := goodIn_app (goodIn_of _ (by decide +kernel)) ggX11_of_X11_wronged
theorem dX11_of_0 : decode cX11_of 0 = .ok (.aload_n 0, 1) := by decide +kernel
theorem dX11_of_1 : decode cX11_of 1 = .ok (.iload_n 1, 1) := by decide +kernel
theorem dX11_of_2 : decode cX11_of 2 = .ok (.invokevirtual 64, 3) := by decide +kernel
theorem dX11_of_5 : decode cX11_of 5 = .ok (.ifCond .eq 12, 3) := by decide +kernel
theorem dX11_of_8 : decode cX11_of 8 = .ok (.iload_n 2, 1) := by decide +kernel
theorem dX11_of_9 : decode cX11_of 9 = .ok (.iconst 0, 1) := by decide +kernel
theorem dX11_of_10 : decode cX11_of 10 = .ok (.iconst 3, 1) := by decide +kernel
theorem dX11_of_11 : decode cX11_of 11 = .ok (.invokestatic 42, 3) := by decide +kernel
theorem dX11_of_14 : decode cX11_of 14 = .ok (.ifCond .ne 6, 3) := by decide +kernel
theorem dX11_of_17 : decode cX11_of 17 = .ok (.bipush (-2), 2) := by decide +kernel
theorem dX11_of_19 : decode cX11_of 19 = .ok (.ireturn, 1) := by decide +kernel
theorem dX11_of_20 : decode cX11_of 20 = .ok (.iload_n 2, 1) := by decide +kernel
theorem dX11_of_21 : decode cX11_of 21 = .ok (.ifCond .ne 19, 3) := by decide +kernel
theorem dX11_of_24 : decode cX11_of 24 = .ok (.aload_n 0, 1) := by decide +kernel
theorem dX11_of_25 : decode cX11_of 25 = .ok (.iload_n 1, 1) := by decide +kernel
theorem dX11_of_26 : decode cX11_of 26 = .ok (.invokevirtual 67, 3) := by decide +kernel
theorem dX11_of_29 : decode cX11_of 29 = .ok (.ifCond .ge 7, 3) := by decide +kernel
theorem dX11_of_32 : decode cX11_of 32 = .ok (.iconst 1, 1) := by decide +kernel
theorem dX11_of_33 : decode cX11_of 33 = .ok (.goto 38, 3) := by decide +kernel
theorem dX11_of_36 : decode cX11_of 36 = .ok (.iconst 0, 1) := by decide +kernel
theorem dX11_of_37 : decode cX11_of 37 = .ok (.goto 34, 3) := by decide +kernel
theorem dX11_of_40 : decode cX11_of 40 = .ok (.iload_n 2, 1) := by decide +kernel
theorem dX11_of_41 : decode cX11_of 41 = .ok (.iconst 1, 1) := by decide +kernel
theorem dX11_of_42 : decode cX11_of 42 = .ok (.if_icmp .ne 11, 3) := by decide +kernel
theorem dX11_of_45 : decode cX11_of 45 = .ok (.aload_n 0, 1) := by decide +kernel
theorem dX11_of_46 : decode cX11_of 46 = .ok (.iload_n 1, 1) := by decide +kernel
theorem dX11_of_47 : decode cX11_of 47 = .ok (.invokevirtual 70, 3) := by decide +kernel
theorem dX11_of_50 : decode cX11_of 50 = .ok (.goto 21, 3) := by decide +kernel
theorem dX11_of_53 : decode cX11_of 53 = .ok (.iload_n 2, 1) := by decide +kernel
theorem dX11_of_54 : decode cX11_of 54 = .ok (.iconst 2, 1) := by decide +kernel
theorem dX11_of_55 : decode cX11_of 55 = .ok (.if_icmp .ne 11, 3) := by decide +kernel
theorem dX11_of_58 : decode cX11_of 58 = .ok (.aload_n 0, 1) := by decide +kernel
theorem dX11_of_59 : decode cX11_of 59 = .ok (.iload_n 1, 1) := by decide +kernel
theorem dX11_of_60 : decode cX11_of 60 = .ok (.invokevirtual 73, 3) := by decide +kernel
theorem dX11_of_63 : decode cX11_of 63 = .ok (.goto 8, 3) := by decide +kernel
theorem dX11_of_66 : decode cX11_of 66 = .ok (.aload_n 0, 1) := by decide +kernel
theorem dX11_of_67 : decode cX11_of 67 = .ok (.iload_n 1, 1) := by decide +kernel
theorem dX11_of_68 : decode cX11_of 68 = .ok (.invokevirtual 67, 3) := by decide +kernel
theorem dX11_of_71 : decode cX11_of 71 = .ok (.ireturn, 1) := by decide +kernel
theorem dX11_allPapers_0 : decode cX11_allPapers 0 = .ok (.iconst 0, 1) := by decide +kernel
theorem dX11_allPapers_1 : decode cX11_allPapers 1 = .ok (.istore_n 1, 1) := by decide +kernel
theorem dX11_allPapers_2 : decode cX11_allPapers 2 = .ok (.iconst 0, 1) := by decide +kernel
theorem dX11_allPapers_3 : decode cX11_allPapers 3 = .ok (.istore_n 2, 1) := by decide +kernel
theorem dX11_allPapers_4 : decode cX11_allPapers 4 = .ok (.iload_n 2, 1) := by decide +kernel
theorem dX11_allPapers_5 : decode cX11_allPapers 5 = .ok (.aload_n 0, 1) := by decide +kernel
theorem dX11_allPapers_6 : decode cX11_allPapers 6 = .ok (.getfield 39, 3) := by decide +kernel
theorem dX11_allPapers_9 : decode cX11_allPapers 9 = .ok (.if_icmp .ge 18, 3) := by decide +kernel
theorem dX11_allPapers_12 : decode cX11_allPapers 12 = .ok (.iload_n 1, 1) := by decide +kernel
theorem dX11_allPapers_13 : decode cX11_allPapers 13 = .ok (.aload_n 0, 1) := by decide +kernel
theorem dX11_allPapers_14 : decode cX11_allPapers 14 = .ok (.getfield 13, 3) := by decide +kernel
theorem dX11_allPapers_17 : decode cX11_allPapers 17 = .ok (.iload_n 2, 1) := by decide +kernel
theorem dX11_allPapers_18 : decode cX11_allPapers 18 = .ok (.iaload, 1) := by decide +kernel
theorem dX11_allPapers_19 : decode cX11_allPapers 19 = .ok (.iadd, 1) := by decide +kernel
theorem dX11_allPapers_20 : decode cX11_allPapers 20 = .ok (.istore_n 1, 1) := by decide +kernel
theorem dX11_allPapers_21 : decode cX11_allPapers 21 = .ok (.iinc 2 1, 3) := by decide +kernel
theorem dX11_allPapers_24 : decode cX11_allPapers 24 = .ok (.goto (-20), 3) := by decide +kernel
theorem dX11_allPapers_27 : decode cX11_allPapers 27 = .ok (.iload_n 1, 1) := by decide +kernel
theorem dX11_allPapers_28 : decode cX11_allPapers 28 = .ok (.ireturn, 1) := by decide +kernel
theorem dX11_papersOf_0 : decode cX11_papersOf 0 = .ok (.iconst 0, 1) := by decide +kernel
theorem dX11_papersOf_1 : decode cX11_papersOf 1 = .ok (.istore_n 2, 1) := by decide +kernel
theorem dX11_papersOf_2 : decode cX11_papersOf 2 = .ok (.iconst 0, 1) := by decide +kernel
theorem dX11_papersOf_3 : decode cX11_papersOf 3 = .ok (.istore_n 3, 1) := by decide +kernel
theorem dX11_papersOf_4 : decode cX11_papersOf 4 = .ok (.iload_n 3, 1) := by decide +kernel
theorem dX11_papersOf_5 : decode cX11_papersOf 5 = .ok (.aload_n 0, 1) := by decide +kernel
theorem dX11_papersOf_6 : decode cX11_papersOf 6 = .ok (.getfield 39, 3) := by decide +kernel
theorem dX11_papersOf_9 : decode cX11_papersOf 9 = .ok (.if_icmp .ge 29, 3) := by decide +kernel
theorem dX11_papersOf_12 : decode cX11_papersOf 12 = .ok (.iload_n 2, 1) := by decide +kernel
theorem dX11_papersOf_13 : decode cX11_papersOf 13 = .ok (.aload_n 0, 1) := by decide +kernel
theorem dX11_papersOf_14 : decode cX11_papersOf 14 = .ok (.getfield 7, 3) := by decide +kernel
theorem dX11_papersOf_17 : decode cX11_papersOf 17 = .ok (.iload_n 3, 1) := by decide +kernel
theorem dX11_papersOf_18 : decode cX11_papersOf 18 = .ok (.iaload, 1) := by decide +kernel
theorem dX11_papersOf_19 : decode cX11_papersOf 19 = .ok (.iload_n 1, 1) := by decide +kernel
theorem dX11_papersOf_20 : decode cX11_papersOf 20 = .ok (.ishr, 1) := by decide +kernel
theorem dX11_papersOf_21 : decode cX11_papersOf 21 = .ok (.iconst 1, 1) := by decide +kernel
theorem dX11_papersOf_22 : decode cX11_papersOf 22 = .ok (.iand, 1) := by decide +kernel
theorem dX11_papersOf_23 : decode cX11_papersOf 23 = .ok (.aload_n 0, 1) := by decide +kernel
theorem dX11_papersOf_24 : decode cX11_papersOf 24 = .ok (.getfield 13, 3) := by decide +kernel
theorem dX11_papersOf_27 : decode cX11_papersOf 27 = .ok (.iload_n 3, 1) := by decide +kernel
theorem dX11_papersOf_28 : decode cX11_papersOf 28 = .ok (.iaload, 1) := by decide +kernel
theorem dX11_papersOf_29 : decode cX11_papersOf 29 = .ok (.imul, 1) := by decide +kernel
theorem dX11_papersOf_30 : decode cX11_papersOf 30 = .ok (.iadd, 1) := by decide +kernel
theorem dX11_papersOf_31 : decode cX11_papersOf 31 = .ok (.istore_n 2, 1) := by decide +kernel
theorem dX11_papersOf_32 : decode cX11_papersOf 32 = .ok (.iinc 3 1, 3) := by decide +kernel
theorem dX11_papersOf_35 : decode cX11_papersOf 35 = .ok (.goto (-31), 3) := by decide +kernel
theorem dX11_papersOf_38 : decode cX11_papersOf 38 = .ok (.iload_n 2, 1) := by decide +kernel
theorem dX11_papersOf_39 : decode cX11_papersOf 39 = .ok (.ireturn, 1) := by decide +kernel
theorem dX11_pick_0 : decode cX11_pick 0 = .ok (.aload_n 0, 1) := by decide +kernel
theorem dX11_pick_1 : decode cX11_pick 1 = .ok (.getfield 29, 3) := by decide +kernel
theorem dX11_pick_4 : decode cX11_pick 4 = .ok (.iload_n 1, 1) := by decide +kernel
theorem dX11_pick_5 : decode cX11_pick 5 = .ok (.iload_n 2, 1) := by decide +kernel
theorem dX11_pick_6 : decode cX11_pick 6 = .ok (.iastore, 1) := by decide +kernel
theorem dX11_pick_7 : decode cX11_pick 7 = .ok (.aload_n 0, 1) := by decide +kernel
theorem dX11_pick_8 : decode cX11_pick 8 = .ok (.dup, 1) := by decide +kernel
theorem dX11_pick_9 : decode cX11_pick 9 = .ok (.getfield 76, 3) := by decide +kernel
theorem dX11_pick_12 : decode cX11_pick 12 = .ok (.iconst 1, 1) := by decide +kernel
theorem dX11_pick_13 : decode cX11_pick 13 = .ok (.iload_n 2, 1) := by decide +kernel
theorem dX11_pick_14 : decode cX11_pick 14 = .ok (.ishl, 1) := by decide +kernel
theorem dX11_pick_15 : decode cX11_pick 15 = .ok (.ior, 1) := by decide +kernel
theorem dX11_pick_16 : decode cX11_pick 16 = .ok (.putfield 76, 3) := by decide +kernel
theorem dX11_pick_19 : decode cX11_pick 19 = .ok (.return_, 1) := by decide +kernel
theorem dX11_isLeft_0 : decode cX11_isLeft 0 = .ok (.aload_n 0, 1) := by decide +kernel
theorem dX11_isLeft_1 : decode cX11_isLeft 1 = .ok (.getfield 76, 3) := by decide +kernel
theorem dX11_isLeft_4 : decode cX11_isLeft 4 = .ok (.iload_n 1, 1) := by decide +kernel
theorem dX11_isLeft_5 : decode cX11_isLeft 5 = .ok (.ishr, 1) := by decide +kernel
theorem dX11_isLeft_6 : decode cX11_isLeft 6 = .ok (.iconst 1, 1) := by decide +kernel
theorem dX11_isLeft_7 : decode cX11_isLeft 7 = .ok (.iand, 1) := by decide +kernel
theorem dX11_isLeft_8 : decode cX11_isLeft 8 = .ok (.ifCond .ne 7, 3) := by decide +kernel
theorem dX11_isLeft_11 : decode cX11_isLeft 11 = .ok (.iconst 1, 1) := by decide +kernel
theorem dX11_isLeft_12 : decode cX11_isLeft 12 = .ok (.goto 4, 3) := by decide +kernel
theorem dX11_isLeft_15 : decode cX11_isLeft 15 = .ok (.iconst 0, 1) := by decide +kernel
theorem dX11_isLeft_16 : decode cX11_isLeft 16 = .ok (.ireturn, 1) := by decide +kernel
set_option maxRecDepth 20000 in
theorem ggX11_mostOf_X11_isLeft : GoodIn wsX11_mostOf wsX11_isLeft := goodIn_r _ [5, 6, 14, 15, 16, 17, 18, 19, 20, 21, 22, 23, 24, 25, 26, 27, 28, 29, 30] (by decide +kernel) (by decide +kernel)
set_option maxRecDepth 20000 in
theorem gX11_mostOf_X11_isLeft : GoodIn wsX11_mostOf (wsV RX11 79 RX11 yX11_isLeft wsX11_isLeft) := goodIn_app (goodIn_of _ (by decide +kernel)) ggX11_mostOf_X11_isLeft
set_option maxRecDepth 20000 in
theorem ggX11_mostOf_X11_papersOf : GoodIn wsX11_mostOf wsX11_papersOf := goodIn_r _ [10, 11, 12, 13, 14, 15, 16, 17, 18, 19, 20, 21, 22, 23, 24, 25, 26, 27, 28, 29, 30] (by decide +kernel) (by decide +kernel)
set_option maxRecDepth 20000 in
theorem gX11_mostOf_X11_papersOf : GoodIn wsX11_mostOf (wsV RX11 82 RX11 yX11_papersOf wsX11_papersOf) := goodIn_app (goodIn_of _ (by decide +kernel)) ggX11_mostOf_X11_papersOf
theorem dX11_mostOf_0 : decode cX11_mostOf 0 = .ok (.bipush (-6), 2) := by decide +kernel
theorem dX11_mostOf_2 : decode cX11_mostOf 2 = .ok (.istore_n 1, 1) := by decide +kernel
theorem dX11_mostOf_3 : decode cX11_mostOf 3 = .ok (.iconst 0, 1) := by decide +kernel
theorem dX11_mostOf_4 : decode cX11_mostOf 4 = .ok (.istore_n 2, 1) := by decide +kernel
theorem dX11_mostOf_5 : decode cX11_mostOf 5 = .ok (.iload_n 2, 1) := by decide +kernel
theorem dX11_mostOf_6 : decode cX11_mostOf 6 = .ok (.bipush 8, 2) := by decide +kernel
theorem dX11_mostOf_8 : decode cX11_mostOf 8 = .ok (.if_icmp .ge 40, 3) := by decide +kernel
theorem dX11_mostOf_11 : decode cX11_mostOf 11 = .ok (.aload_n 0, 1) := by decide +kernel
theorem dX11_mostOf_12 : decode cX11_mostOf 12 = .ok (.iload_n 2, 1) := by decide +kernel
theorem dX11_mostOf_13 : decode cX11_mostOf 13 = .ok (.invokevirtual 79, 3) := by decide +kernel
theorem dX11_mostOf_16 : decode cX11_mostOf 16 = .ok (.ifCond .eq 24, 3) := by decide +kernel
theorem dX11_mostOf_19 : decode cX11_mostOf 19 = .ok (.iload_n 1, 1) := by decide +kernel
theorem dX11_mostOf_20 : decode cX11_mostOf 20 = .ok (.ifCond .lt 16, 3) := by decide +kernel
theorem dX11_mostOf_23 : decode cX11_mostOf 23 = .ok (.aload_n 0, 1) := by decide +kernel
theorem dX11_mostOf_24 : decode cX11_mostOf 24 = .ok (.iload_n 2, 1) := by decide +kernel
theorem dX11_mostOf_25 : decode cX11_mostOf 25 = .ok (.invokevirtual 82, 3) := by decide +kernel
theorem dX11_mostOf_28 : decode cX11_mostOf 28 = .ok (.aload_n 0, 1) := by decide +kernel
theorem dX11_mostOf_29 : decode cX11_mostOf 29 = .ok (.iload_n 1, 1) := by decide +kernel
theorem dX11_mostOf_30 : decode cX11_mostOf 30 = .ok (.invokevirtual 82, 3) := by decide +kernel
theorem dX11_mostOf_33 : decode cX11_mostOf 33 = .ok (.if_icmp .le 7, 3) := by decide +kernel
theorem dX11_mostOf_36 : decode cX11_mostOf 36 = .ok (.iload_n 2, 1) := by decide +kernel
theorem dX11_mostOf_37 : decode cX11_mostOf 37 = .ok (.goto 4, 3) := by decide +kernel
theorem dX11_mostOf_40 : decode cX11_mostOf 40 = .ok (.iload_n 1, 1) := by decide +kernel
theorem dX11_mostOf_41 : decode cX11_mostOf 41 = .ok (.istore_n 1, 1) := by decide +kernel
theorem dX11_mostOf_42 : decode cX11_mostOf 42 = .ok (.iinc 2 1, 3) := by decide +kernel
theorem dX11_mostOf_45 : decode cX11_mostOf 45 = .ok (.goto (-40), 3) := by decide +kernel
theorem dX11_mostOf_48 : decode cX11_mostOf 48 = .ok (.iload_n 1, 1) := by decide +kernel
theorem dX11_mostOf_49 : decode cX11_mostOf 49 = .ok (.ireturn, 1) := by decide +kernel
set_option maxRecDepth 20000 in
theorem ggX11_greedyOf_X11_isLeft : GoodIn wsX11_greedyOf wsX11_isLeft := goodIn_r _ [6, 1, 18, 19, 20, 21, 22, 23, 24, 25, 26, 27, 28, 29, 30, 31, 32, 33, 34] (by decide +kernel) (by decide +kernel)
set_option maxRecDepth 20000 in
theorem gX11_greedyOf_X11_isLeft : GoodIn wsX11_greedyOf (wsV RX11 79 RX11 yX11_isLeft wsX11_isLeft) := goodIn_app (goodIn_of _ (by decide +kernel)) ggX11_greedyOf_X11_isLeft
set_option maxRecDepth 20000 in
theorem ggX11_greedyOf_X11_worthOf : GoodIn wsX11_greedyOf wsX11_worthOf := goodIn_r _ [10, 11, 12, 13, 14, 15, 16, 5, 17, 18, 19, 20, 21, 22, 23, 24, 25, 26, 27, 28, 29, 30, 31, 32, 33, 34] (by decide +kernel) (by decide +kernel)
set_option maxRecDepth 20000 in
theorem gX11_greedyOf_X11_worthOf : GoodIn wsX11_greedyOf (wsV RX11 70 RX11 yX11_worthOf wsX11_worthOf) := goodIn_app (goodIn_of _ (by decide +kernel)) ggX11_greedyOf_X11_worthOf
theorem dX11_greedyOf_0 : decode cX11_greedyOf 0 = .ok (.bipush (-6), 2) := by decide +kernel
theorem dX11_greedyOf_2 : decode cX11_greedyOf 2 = .ok (.istore_n 1, 1) := by decide +kernel
theorem dX11_greedyOf_3 : decode cX11_greedyOf 3 = .ok (.iconst 0, 1) := by decide +kernel
theorem dX11_greedyOf_4 : decode cX11_greedyOf 4 = .ok (.istore_n 2, 1) := by decide +kernel
theorem dX11_greedyOf_5 : decode cX11_greedyOf 5 = .ok (.iload_n 2, 1) := by decide +kernel
theorem dX11_greedyOf_6 : decode cX11_greedyOf 6 = .ok (.bipush 8, 2) := by decide +kernel
theorem dX11_greedyOf_8 : decode cX11_greedyOf 8 = .ok (.if_icmp .ge 54, 3) := by decide +kernel
theorem dX11_greedyOf_11 : decode cX11_greedyOf 11 = .ok (.aload_n 0, 1) := by decide +kernel
theorem dX11_greedyOf_12 : decode cX11_greedyOf 12 = .ok (.iload_n 2, 1) := by decide +kernel
theorem dX11_greedyOf_13 : decode cX11_greedyOf 13 = .ok (.invokevirtual 79, 3) := by decide +kernel
theorem dX11_greedyOf_16 : decode cX11_greedyOf 16 = .ok (.ifCond .eq 38, 3) := by decide +kernel
theorem dX11_greedyOf_19 : decode cX11_greedyOf 19 = .ok (.iload_n 1, 1) := by decide +kernel
theorem dX11_greedyOf_20 : decode cX11_greedyOf 20 = .ok (.ifCond .lt 30, 3) := by decide +kernel
theorem dX11_greedyOf_23 : decode cX11_greedyOf 23 = .ok (.aload_n 0, 1) := by decide +kernel
theorem dX11_greedyOf_24 : decode cX11_greedyOf 24 = .ok (.aload_n 0, 1) := by decide +kernel
theorem dX11_greedyOf_25 : decode cX11_greedyOf 25 = .ok (.getfield 76, 3) := by decide +kernel
theorem dX11_greedyOf_28 : decode cX11_greedyOf 28 = .ok (.iconst 1, 1) := by decide +kernel
theorem dX11_greedyOf_29 : decode cX11_greedyOf 29 = .ok (.iload_n 2, 1) := by decide +kernel
theorem dX11_greedyOf_30 : decode cX11_greedyOf 30 = .ok (.ishl, 1) := by decide +kernel
theorem dX11_greedyOf_31 : decode cX11_greedyOf 31 = .ok (.ior, 1) := by decide +kernel
theorem dX11_greedyOf_32 : decode cX11_greedyOf 32 = .ok (.invokevirtual 70, 3) := by decide +kernel
theorem dX11_greedyOf_35 : decode cX11_greedyOf 35 = .ok (.aload_n 0, 1) := by decide +kernel
theorem dX11_greedyOf_36 : decode cX11_greedyOf 36 = .ok (.aload_n 0, 1) := by decide +kernel
theorem dX11_greedyOf_37 : decode cX11_greedyOf 37 = .ok (.getfield 76, 3) := by decide +kernel
theorem dX11_greedyOf_40 : decode cX11_greedyOf 40 = .ok (.iconst 1, 1) := by decide +kernel
theorem dX11_greedyOf_41 : decode cX11_greedyOf 41 = .ok (.iload_n 1, 1) := by decide +kernel
theorem dX11_greedyOf_42 : decode cX11_greedyOf 42 = .ok (.ishl, 1) := by decide +kernel
theorem dX11_greedyOf_43 : decode cX11_greedyOf 43 = .ok (.ior, 1) := by decide +kernel
theorem dX11_greedyOf_44 : decode cX11_greedyOf 44 = .ok (.invokevirtual 70, 3) := by decide +kernel
theorem dX11_greedyOf_47 : decode cX11_greedyOf 47 = .ok (.if_icmp .le 7, 3) := by decide +kernel
theorem dX11_greedyOf_50 : decode cX11_greedyOf 50 = .ok (.iload_n 2, 1) := by decide +kernel
theorem dX11_greedyOf_51 : decode cX11_greedyOf 51 = .ok (.goto 4, 3) := by decide +kernel
theorem dX11_greedyOf_54 : decode cX11_greedyOf 54 = .ok (.iload_n 1, 1) := by decide +kernel
theorem dX11_greedyOf_55 : decode cX11_greedyOf 55 = .ok (.istore_n 1, 1) := by decide +kernel
theorem dX11_greedyOf_56 : decode cX11_greedyOf 56 = .ok (.iinc 2 1, 3) := by decide +kernel
theorem dX11_greedyOf_59 : decode cX11_greedyOf 59 = .ok (.goto (-54), 3) := by decide +kernel
theorem dX11_greedyOf_62 : decode cX11_greedyOf 62 = .ok (.iload_n 1, 1) := by decide +kernel
theorem dX11_greedyOf_63 : decode cX11_greedyOf 63 = .ok (.ireturn, 1) := by decide +kernel
theorem dX11_carry_0 : decode cX11_carry 0 = .ok (.aload_n 0, 1) := by decide +kernel
theorem dX11_carry_1 : decode cX11_carry 1 = .ok (.getfield 36, 3) := by decide +kernel
theorem dX11_carry_4 : decode cX11_carry 4 = .ok (.iload_n 1, 1) := by decide +kernel
theorem dX11_carry_5 : decode cX11_carry 5 = .ok (.iconst 1, 1) := by decide +kernel
theorem dX11_carry_6 : decode cX11_carry 6 = .ok (.iadd, 1) := by decide +kernel
theorem dX11_carry_7 : decode cX11_carry 7 = .ok (.aload_n 0, 1) := by decide +kernel
theorem dX11_carry_8 : decode cX11_carry 8 = .ok (.getfield 36, 3) := by decide +kernel
theorem dX11_carry_11 : decode cX11_carry 11 = .ok (.iload_n 1, 1) := by decide +kernel
theorem dX11_carry_12 : decode cX11_carry 12 = .ok (.laload, 1) := by decide +kernel
theorem dX11_carry_13 : decode cX11_carry 13 = .ok (.lload_n 2, 1) := by decide +kernel
theorem dX11_carry_14 : decode cX11_carry 14 = .ok (.lmul, 1) := by decide +kernel
theorem dX11_carry_15 : decode cX11_carry 15 = .ok (.lastore, 1) := by decide +kernel
theorem dX11_carry_16 : decode cX11_carry 16 = .ok (.iconst 0, 1) := by decide +kernel
theorem dX11_carry_17 : decode cX11_carry 17 = .ok (.istore 4, 2) := by decide +kernel
theorem dX11_carry_19 : decode cX11_carry 19 = .ok (.iload 4, 2) := by decide +kernel
theorem dX11_carry_21 : decode cX11_carry 21 = .ok (.bipush 7, 2) := by decide +kernel
theorem dX11_carry_23 : decode cX11_carry 23 = .ok (.if_icmp .ge 37, 3) := by decide +kernel
theorem dX11_carry_26 : decode cX11_carry 26 = .ok (.aload_n 0, 1) := by decide +kernel
theorem dX11_carry_27 : decode cX11_carry 27 = .ok (.getfield 32, 3) := by decide +kernel
theorem dX11_carry_30 : decode cX11_carry 30 = .ok (.bipush 7, 2) := by decide +kernel
theorem dX11_carry_32 : decode cX11_carry 32 = .ok (.iload_n 1, 1) := by decide +kernel
theorem dX11_carry_33 : decode cX11_carry 33 = .ok (.iconst 1, 1) := by decide +kernel
theorem dX11_carry_34 : decode cX11_carry 34 = .ok (.iadd, 1) := by decide +kernel
theorem dX11_carry_35 : decode cX11_carry 35 = .ok (.imul, 1) := by decide +kernel
theorem dX11_carry_36 : decode cX11_carry 36 = .ok (.iload 4, 2) := by decide +kernel
theorem dX11_carry_38 : decode cX11_carry 38 = .ok (.iadd, 1) := by decide +kernel
theorem dX11_carry_39 : decode cX11_carry 39 = .ok (.aload_n 0, 1) := by decide +kernel
theorem dX11_carry_40 : decode cX11_carry 40 = .ok (.getfield 32, 3) := by decide +kernel
theorem dX11_carry_43 : decode cX11_carry 43 = .ok (.bipush 7, 2) := by decide +kernel
theorem dX11_carry_45 : decode cX11_carry 45 = .ok (.iload_n 1, 1) := by decide +kernel
theorem dX11_carry_46 : decode cX11_carry 46 = .ok (.imul, 1) := by decide +kernel
theorem dX11_carry_47 : decode cX11_carry 47 = .ok (.iload 4, 2) := by decide +kernel
theorem dX11_carry_49 : decode cX11_carry 49 = .ok (.iadd, 1) := by decide +kernel
theorem dX11_carry_50 : decode cX11_carry 50 = .ok (.laload, 1) := by decide +kernel
theorem dX11_carry_51 : decode cX11_carry 51 = .ok (.lload_n 2, 1) := by decide +kernel
theorem dX11_carry_52 : decode cX11_carry 52 = .ok (.lmul, 1) := by decide +kernel
theorem dX11_carry_53 : decode cX11_carry 53 = .ok (.lastore, 1) := by decide +kernel
theorem dX11_carry_54 : decode cX11_carry 54 = .ok (.iinc 4 1, 3) := by decide +kernel
theorem dX11_carry_57 : decode cX11_carry 57 = .ok (.goto (-38), 3) := by decide +kernel
theorem dX11_carry_60 : decode cX11_carry 60 = .ok (.return_, 1) := by decide +kernel
set_option maxRecDepth 20000 in
theorem ggX11_loadOne_X11_papersOf : GoodIn wsX11_loadOne wsX11_papersOf := goodIn_r _ [10, 2, 3, 4, 29, 30, 31, 32, 33, 34, 35, 36, 37, 38, 39, 40, 41, 42, 43, 44, 45] (by decide +kernel) (by decide +kernel)
set_option maxRecDepth 20000 in
theorem gX11_loadOne_X11_papersOf : GoodIn wsX11_loadOne (wsV RX11 82 RX11 yX11_papersOf wsX11_papersOf) := goodIn_app (goodIn_of _ (by decide +kernel)) ggX11_loadOne_X11_papersOf
set_option maxRecDepth 20000 in
theorem ggX11_loadOne_X11_isLeft : GoodIn wsX11_loadOne wsX11_isLeft := goodIn_r _ [14, 15, 29, 30, 31, 32, 33, 34, 35, 36, 37, 38, 39, 40, 41, 42, 43, 44, 45] (by decide +kernel) (by decide +kernel)
set_option maxRecDepth 20000 in
theorem gX11_loadOne_X11_isLeft : GoodIn wsX11_loadOne (wsV RX11 79 RX11 yX11_isLeft wsX11_isLeft) := goodIn_app (goodIn_of _ (by decide +kernel)) ggX11_loadOne_X11_isLeft
set_option maxRecDepth 20000 in
theorem ggX11_loadOne_X11_carry : GoodIn wsX11_loadOne wsX11_carry := goodIn_r _ [19, 1, 5, 29, 30, 31, 32, 33, 34, 35, 36, 37, 38, 39, 40, 41, 42, 43, 44, 45] (by decide +kernel) (by decide +kernel)
set_option maxRecDepth 20000 in
theorem gX11_loadOne_X11_carry : GoodIn wsX11_loadOne (wsV RX11 85 RX11 yX11_carry wsX11_carry) := goodIn_app (goodIn_of _ (by decide +kernel)) ggX11_loadOne_X11_carry
set_option maxRecDepth 20000 in
theorem ggX11_loadOne_X11_mostOf : GoodIn wsX11_loadOne wsX11_mostOf := goodIn_r _ [23, 11, 12, 13, 9, 14, 15, 6, 7, 8, 10, 2, 3, 4, 29, 30, 31, 32, 33, 34, 35, 36, 37, 38, 39, 40, 41, 42, 43, 44, 45] (by decide +kernel) (by decide +kernel)
set_option maxRecDepth 20000 in
theorem gX11_loadOne_X11_mostOf : GoodIn wsX11_loadOne (wsV RX11 89 RX11 yX11_mostOf wsX11_mostOf) := goodIn_app (goodIn_of _ (by decide +kernel)) ggX11_loadOne_X11_mostOf
set_option maxRecDepth 20000 in
theorem ggX11_loadOne_X11_pick : GoodIn wsX11_loadOne wsX11_pick := goodIn_r _ [27, 28, 15, 29, 30, 31, 32, 33, 34, 35, 36, 37, 38, 39, 40, 41, 42, 43, 44, 45] (by decide +kernel) (by decide +kernel)
set_option maxRecDepth 20000 in
theorem gX11_loadOne_X11_pick : GoodIn wsX11_loadOne (wsV RX11 92 RX11 yX11_pick wsX11_pick) := goodIn_app (goodIn_of _ (by decide +kernel)) ggX11_loadOne_X11_pick
theorem dX11_loadOne_0 : decode cX11_loadOne 0 = .ok (.bipush (-6), 2) := by decide +kernel
theorem dX11_loadOne_2 : decode cX11_loadOne 2 = .ok (.istore_n 2, 1) := by decide +kernel
theorem dX11_loadOne_3 : decode cX11_loadOne 3 = .ok (.lconst 0, 1) := by decide +kernel
theorem dX11_loadOne_4 : decode cX11_loadOne 4 = .ok (.lstore_n 3, 1) := by decide +kernel
theorem dX11_loadOne_5 : decode cX11_loadOne 5 = .ok (.lconst 1, 1) := by decide +kernel
theorem dX11_loadOne_6 : decode cX11_loadOne 6 = .ok (.lstore 5, 2) := by decide +kernel
theorem dX11_loadOne_8 : decode cX11_loadOne 8 = .ok (.iconst 0, 1) := by decide +kernel
theorem dX11_loadOne_9 : decode cX11_loadOne 9 = .ok (.istore 7, 2) := by decide +kernel
theorem dX11_loadOne_11 : decode cX11_loadOne 11 = .ok (.iload 7, 2) := by decide +kernel
theorem dX11_loadOne_13 : decode cX11_loadOne 13 = .ok (.bipush 8, 2) := by decide +kernel
theorem dX11_loadOne_15 : decode cX11_loadOne 15 = .ok (.if_icmp .ge 126, 3) := by decide +kernel
theorem dX11_loadOne_18 : decode cX11_loadOne 18 = .ok (.aload_n 0, 1) := by decide +kernel
theorem dX11_loadOne_19 : decode cX11_loadOne 19 = .ok (.iload 7, 2) := by decide +kernel
theorem dX11_loadOne_21 : decode cX11_loadOne 21 = .ok (.invokevirtual 82, 3) := by decide +kernel
theorem dX11_loadOne_24 : decode cX11_loadOne 24 = .ok (.i2l, 1) := by decide +kernel
theorem dX11_loadOne_25 : decode cX11_loadOne 25 = .ok (.lstore 8, 2) := by decide +kernel
theorem dX11_loadOne_27 : decode cX11_loadOne 27 = .ok (.aload_n 0, 1) := by decide +kernel
theorem dX11_loadOne_28 : decode cX11_loadOne 28 = .ok (.iload 7, 2) := by decide +kernel
theorem dX11_loadOne_30 : decode cX11_loadOne 30 = .ok (.invokevirtual 79, 3) := by decide +kernel
theorem dX11_loadOne_33 : decode cX11_loadOne 33 = .ok (.ifCond .eq 102, 3) := by decide +kernel
theorem dX11_loadOne_36 : decode cX11_loadOne 36 = .ok (.lload 8, 2) := by decide +kernel
theorem dX11_loadOne_38 : decode cX11_loadOne 38 = .ok (.lconst 0, 1) := by decide +kernel
theorem dX11_loadOne_39 : decode cX11_loadOne 39 = .ok (.lcmp, 1) := by decide +kernel
theorem dX11_loadOne_40 : decode cX11_loadOne 40 = .ok (.ifCond .le 95, 3) := by decide +kernel
theorem dX11_loadOne_43 : decode cX11_loadOne 43 = .ok (.aload_n 0, 1) := by decide +kernel
theorem dX11_loadOne_44 : decode cX11_loadOne 44 = .ok (.getfield 36, 3) := by decide +kernel
theorem dX11_loadOne_47 : decode cX11_loadOne 47 = .ok (.iload_n 1, 1) := by decide +kernel
theorem dX11_loadOne_48 : decode cX11_loadOne 48 = .ok (.laload, 1) := by decide +kernel
theorem dX11_loadOne_49 : decode cX11_loadOne 49 = .ok (.lstore 10, 2) := by decide +kernel
theorem dX11_loadOne_51 : decode cX11_loadOne 51 = .ok (.iconst 0, 1) := by decide +kernel
theorem dX11_loadOne_52 : decode cX11_loadOne 52 = .ok (.istore 12, 2) := by decide +kernel
theorem dX11_loadOne_54 : decode cX11_loadOne 54 = .ok (.iload 12, 2) := by decide +kernel
theorem dX11_loadOne_56 : decode cX11_loadOne 56 = .ok (.aload_n 0, 1) := by decide +kernel
theorem dX11_loadOne_57 : decode cX11_loadOne 57 = .ok (.getfield 39, 3) := by decide +kernel
theorem dX11_loadOne_60 : decode cX11_loadOne 60 = .ok (.if_icmp .ge 48, 3) := by decide +kernel
theorem dX11_loadOne_63 : decode cX11_loadOne 63 = .ok (.lload 10, 2) := by decide +kernel
theorem dX11_loadOne_65 : decode cX11_loadOne 65 = .ok (.aload_n 0, 1) := by decide +kernel
theorem dX11_loadOne_66 : decode cX11_loadOne 66 = .ok (.getfield 7, 3) := by decide +kernel
theorem dX11_loadOne_69 : decode cX11_loadOne 69 = .ok (.iload 12, 2) := by decide +kernel
theorem dX11_loadOne_71 : decode cX11_loadOne 71 = .ok (.iaload, 1) := by decide +kernel
theorem dX11_loadOne_72 : decode cX11_loadOne 72 = .ok (.iload 7, 2) := by decide +kernel
theorem dX11_loadOne_74 : decode cX11_loadOne 74 = .ok (.ishr, 1) := by decide +kernel
theorem dX11_loadOne_75 : decode cX11_loadOne 75 = .ok (.iconst 1, 1) := by decide +kernel
theorem dX11_loadOne_76 : decode cX11_loadOne 76 = .ok (.iand, 1) := by decide +kernel
theorem dX11_loadOne_77 : decode cX11_loadOne 77 = .ok (.aload_n 0, 1) := by decide +kernel
theorem dX11_loadOne_78 : decode cX11_loadOne 78 = .ok (.getfield 13, 3) := by decide +kernel
theorem dX11_loadOne_81 : decode cX11_loadOne 81 = .ok (.iload 12, 2) := by decide +kernel
theorem dX11_loadOne_83 : decode cX11_loadOne 83 = .ok (.iaload, 1) := by decide +kernel
theorem dX11_loadOne_84 : decode cX11_loadOne 84 = .ok (.imul, 1) := by decide +kernel
theorem dX11_loadOne_85 : decode cX11_loadOne 85 = .ok (.i2l, 1) := by decide +kernel
theorem dX11_loadOne_86 : decode cX11_loadOne 86 = .ok (.aload_n 0, 1) := by decide +kernel
theorem dX11_loadOne_87 : decode cX11_loadOne 87 = .ok (.getfield 32, 3) := by decide +kernel
theorem dX11_loadOne_90 : decode cX11_loadOne 90 = .ok (.bipush 7, 2) := by decide +kernel
theorem dX11_loadOne_92 : decode cX11_loadOne 92 = .ok (.iload_n 1, 1) := by decide +kernel
theorem dX11_loadOne_93 : decode cX11_loadOne 93 = .ok (.imul, 1) := by decide +kernel
theorem dX11_loadOne_94 : decode cX11_loadOne 94 = .ok (.iload 12, 2) := by decide +kernel
theorem dX11_loadOne_96 : decode cX11_loadOne 96 = .ok (.iadd, 1) := by decide +kernel
theorem dX11_loadOne_97 : decode cX11_loadOne 97 = .ok (.laload, 1) := by decide +kernel
theorem dX11_loadOne_98 : decode cX11_loadOne 98 = .ok (.lmul, 1) := by decide +kernel
theorem dX11_loadOne_99 : decode cX11_loadOne 99 = .ok (.ladd, 1) := by decide +kernel
theorem dX11_loadOne_100 : decode cX11_loadOne 100 = .ok (.lstore 10, 2) := by decide +kernel
theorem dX11_loadOne_102 : decode cX11_loadOne 102 = .ok (.iinc 12 1, 3) := by decide +kernel
theorem dX11_loadOne_105 : decode cX11_loadOne 105 = .ok (.goto (-51), 3) := by decide +kernel
theorem dX11_loadOne_108 : decode cX11_loadOne 108 = .ok (.iload_n 2, 1) := by decide +kernel
theorem dX11_loadOne_109 : decode cX11_loadOne 109 = .ok (.ifCond .lt 16, 3) := by decide +kernel
theorem dX11_loadOne_112 : decode cX11_loadOne 112 = .ok (.lload 10, 2) := by decide +kernel
theorem dX11_loadOne_114 : decode cX11_loadOne 114 = .ok (.lload 5, 2) := by decide +kernel
theorem dX11_loadOne_116 : decode cX11_loadOne 116 = .ok (.lmul, 1) := by decide +kernel
theorem dX11_loadOne_117 : decode cX11_loadOne 117 = .ok (.lload_n 3, 1) := by decide +kernel
theorem dX11_loadOne_118 : decode cX11_loadOne 118 = .ok (.lload 8, 2) := by decide +kernel
theorem dX11_loadOne_120 : decode cX11_loadOne 120 = .ok (.lmul, 1) := by decide +kernel
theorem dX11_loadOne_121 : decode cX11_loadOne 121 = .ok (.lcmp, 1) := by decide +kernel
theorem dX11_loadOne_122 : decode cX11_loadOne 122 = .ok (.ifCond .ge 13, 3) := by decide +kernel
theorem dX11_loadOne_125 : decode cX11_loadOne 125 = .ok (.iload 7, 2) := by decide +kernel
theorem dX11_loadOne_127 : decode cX11_loadOne 127 = .ok (.istore_n 2, 1) := by decide +kernel
theorem dX11_loadOne_128 : decode cX11_loadOne 128 = .ok (.lload 10, 2) := by decide +kernel
theorem dX11_loadOne_130 : decode cX11_loadOne 130 = .ok (.lstore_n 3, 1) := by decide +kernel
theorem dX11_loadOne_131 : decode cX11_loadOne 131 = .ok (.lload 8, 2) := by decide +kernel
theorem dX11_loadOne_133 : decode cX11_loadOne 133 = .ok (.lstore 5, 2) := by decide +kernel
theorem dX11_loadOne_135 : decode cX11_loadOne 135 = .ok (.iinc 7 1, 3) := by decide +kernel
theorem dX11_loadOne_138 : decode cX11_loadOne 138 = .ok (.goto (-127), 3) := by decide +kernel
theorem dX11_loadOne_141 : decode cX11_loadOne 141 = .ok (.aload_n 0, 1) := by decide +kernel
theorem dX11_loadOne_142 : decode cX11_loadOne 142 = .ok (.iload_n 1, 1) := by decide +kernel
theorem dX11_loadOne_143 : decode cX11_loadOne 143 = .ok (.lload 5, 2) := by decide +kernel
theorem dX11_loadOne_145 : decode cX11_loadOne 145 = .ok (.invokevirtual 85, 3) := by decide +kernel
theorem dX11_loadOne_148 : decode cX11_loadOne 148 = .ok (.iconst 0, 1) := by decide +kernel
theorem dX11_loadOne_149 : decode cX11_loadOne 149 = .ok (.istore 7, 2) := by decide +kernel
theorem dX11_loadOne_151 : decode cX11_loadOne 151 = .ok (.iload 7, 2) := by decide +kernel
theorem dX11_loadOne_153 : decode cX11_loadOne 153 = .ok (.aload_n 0, 1) := by decide +kernel
theorem dX11_loadOne_154 : decode cX11_loadOne 154 = .ok (.getfield 39, 3) := by decide +kernel
theorem dX11_loadOne_157 : decode cX11_loadOne 157 = .ok (.if_icmp .ge 60, 3) := by decide +kernel
theorem dX11_loadOne_160 : decode cX11_loadOne 160 = .ok (.iload_n 2, 1) := by decide +kernel
theorem dX11_loadOne_161 : decode cX11_loadOne 161 = .ok (.ifCond .lt 56, 3) := by decide +kernel
theorem dX11_loadOne_164 : decode cX11_loadOne 164 = .ok (.aload_n 0, 1) := by decide +kernel
theorem dX11_loadOne_165 : decode cX11_loadOne 165 = .ok (.getfield 32, 3) := by decide +kernel
theorem dX11_loadOne_168 : decode cX11_loadOne 168 = .ok (.bipush 7, 2) := by decide +kernel
theorem dX11_loadOne_170 : decode cX11_loadOne 170 = .ok (.iload_n 1, 1) := by decide +kernel
theorem dX11_loadOne_171 : decode cX11_loadOne 171 = .ok (.iconst 1, 1) := by decide +kernel
theorem dX11_loadOne_172 : decode cX11_loadOne 172 = .ok (.iadd, 1) := by decide +kernel
theorem dX11_loadOne_173 : decode cX11_loadOne 173 = .ok (.imul, 1) := by decide +kernel
theorem dX11_loadOne_174 : decode cX11_loadOne 174 = .ok (.iload 7, 2) := by decide +kernel
theorem dX11_loadOne_176 : decode cX11_loadOne 176 = .ok (.iadd, 1) := by decide +kernel
theorem dX11_loadOne_177 : decode cX11_loadOne 177 = .ok (.aload_n 0, 1) := by decide +kernel
theorem dX11_loadOne_178 : decode cX11_loadOne 178 = .ok (.getfield 7, 3) := by decide +kernel
theorem dX11_loadOne_181 : decode cX11_loadOne 181 = .ok (.iload 7, 2) := by decide +kernel
theorem dX11_loadOne_183 : decode cX11_loadOne 183 = .ok (.iaload, 1) := by decide +kernel
theorem dX11_loadOne_184 : decode cX11_loadOne 184 = .ok (.iload_n 2, 1) := by decide +kernel
theorem dX11_loadOne_185 : decode cX11_loadOne 185 = .ok (.ishr, 1) := by decide +kernel
theorem dX11_loadOne_186 : decode cX11_loadOne 186 = .ok (.iconst 1, 1) := by decide +kernel
theorem dX11_loadOne_187 : decode cX11_loadOne 187 = .ok (.iand, 1) := by decide +kernel
theorem dX11_loadOne_188 : decode cX11_loadOne 188 = .ok (.iconst 1, 1) := by decide +kernel
theorem dX11_loadOne_189 : decode cX11_loadOne 189 = .ok (.if_icmp .ne 7, 3) := by decide +kernel
theorem dX11_loadOne_192 : decode cX11_loadOne 192 = .ok (.lload_n 3, 1) := by decide +kernel
theorem dX11_loadOne_193 : decode cX11_loadOne 193 = .ok (.goto 17, 3) := by decide +kernel
theorem dX11_loadOne_196 : decode cX11_loadOne 196 = .ok (.aload_n 0, 1) := by decide +kernel
theorem dX11_loadOne_197 : decode cX11_loadOne 197 = .ok (.getfield 32, 3) := by decide +kernel
theorem dX11_loadOne_200 : decode cX11_loadOne 200 = .ok (.bipush 7, 2) := by decide +kernel
theorem dX11_loadOne_202 : decode cX11_loadOne 202 = .ok (.iload_n 1, 1) := by decide +kernel
theorem dX11_loadOne_203 : decode cX11_loadOne 203 = .ok (.iconst 1, 1) := by decide +kernel
theorem dX11_loadOne_204 : decode cX11_loadOne 204 = .ok (.iadd, 1) := by decide +kernel
theorem dX11_loadOne_205 : decode cX11_loadOne 205 = .ok (.imul, 1) := by decide +kernel
theorem dX11_loadOne_206 : decode cX11_loadOne 206 = .ok (.iload 7, 2) := by decide +kernel
theorem dX11_loadOne_208 : decode cX11_loadOne 208 = .ok (.iadd, 1) := by decide +kernel
theorem dX11_loadOne_209 : decode cX11_loadOne 209 = .ok (.laload, 1) := by decide +kernel
theorem dX11_loadOne_210 : decode cX11_loadOne 210 = .ok (.lastore, 1) := by decide +kernel
theorem dX11_loadOne_211 : decode cX11_loadOne 211 = .ok (.iinc 7 1, 3) := by decide +kernel
theorem dX11_loadOne_214 : decode cX11_loadOne 214 = .ok (.goto (-63), 3) := by decide +kernel
theorem dX11_loadOne_217 : decode cX11_loadOne 217 = .ok (.aload_n 0, 1) := by decide +kernel
theorem dX11_loadOne_218 : decode cX11_loadOne 218 = .ok (.iload_n 1, 1) := by decide +kernel
theorem dX11_loadOne_219 : decode cX11_loadOne 219 = .ok (.iload_n 2, 1) := by decide +kernel
theorem dX11_loadOne_220 : decode cX11_loadOne 220 = .ok (.ifCond .ge 10, 3) := by decide +kernel
theorem dX11_loadOne_223 : decode cX11_loadOne 223 = .ok (.aload_n 0, 1) := by decide +kernel
theorem dX11_loadOne_224 : decode cX11_loadOne 224 = .ok (.invokevirtual 89, 3) := by decide +kernel
theorem dX11_loadOne_227 : decode cX11_loadOne 227 = .ok (.goto 4, 3) := by decide +kernel
theorem dX11_loadOne_230 : decode cX11_loadOne 230 = .ok (.iload_n 2, 1) := by decide +kernel
theorem dX11_loadOne_231 : decode cX11_loadOne 231 = .ok (.invokevirtual 92, 3) := by decide +kernel
theorem dX11_loadOne_234 : decode cX11_loadOne 234 = .ok (.return_, 1) := by decide +kernel
set_option maxRecDepth 20000 in
theorem ggX11_layRho_X11_allPapers : GoodIn wsX11_layRho wsX11_allPapers := goodIn_r _ [12, 2, 4, 17, 18, 19, 20, 21, 22, 23, 24, 25, 26, 27, 28, 29, 30, 31, 32, 33] (by decide +kernel) (by decide +kernel)
set_option maxRecDepth 20000 in
theorem gX11_layRho_X11_allPapers : GoodIn wsX11_layRho (wsV RX11 96 RX11 yX11_allPapers wsX11_allPapers) := goodIn_app (goodIn_of _ (by decide +kernel)) ggX11_layRho_X11_allPapers
set_option maxRecDepth 20000 in
theorem ggX11_layRho_X11_papersOf : GoodIn wsX11_layRho wsX11_papersOf := goodIn_r _ [16, 2, 3, 4, 17, 18, 19, 20, 21, 22, 23, 24, 25, 26, 27, 28, 29, 30, 31, 32, 33] (by decide +kernel) (by decide +kernel)
set_option maxRecDepth 20000 in
theorem gX11_layRho_X11_papersOf : GoodIn wsX11_layRho (wsV RX11 82 RX11 yX11_papersOf wsX11_papersOf) := goodIn_app (goodIn_of _ (by decide +kernel)) ggX11_layRho_X11_papersOf
theorem dX11_layRho_0 : decode cX11_layRho 0 = .ok (.aload_n 0, 1) := by decide +kernel
theorem dX11_layRho_1 : decode cX11_layRho 1 = .ok (.invokevirtual 96, 3) := by decide +kernel
theorem dX11_layRho_4 : decode cX11_layRho 4 = .ok (.i2l, 1) := by decide +kernel
theorem dX11_layRho_5 : decode cX11_layRho 5 = .ok (.aload_n 0, 1) := by decide +kernel
theorem dX11_layRho_6 : decode cX11_layRho 6 = .ok (.getfield 36, 3) := by decide +kernel
theorem dX11_layRho_9 : decode cX11_layRho 9 = .ok (.iload_n 1, 1) := by decide +kernel
theorem dX11_layRho_10 : decode cX11_layRho 10 = .ok (.laload, 1) := by decide +kernel
theorem dX11_layRho_11 : decode cX11_layRho 11 = .ok (.lmul, 1) := by decide +kernel
theorem dX11_layRho_12 : decode cX11_layRho 12 = .ok (.lstore_n 3, 1) := by decide +kernel
theorem dX11_layRho_13 : decode cX11_layRho 13 = .ok (.lconst 0, 1) := by decide +kernel
theorem dX11_layRho_14 : decode cX11_layRho 14 = .ok (.lstore 5, 2) := by decide +kernel
theorem dX11_layRho_16 : decode cX11_layRho 16 = .ok (.iconst 0, 1) := by decide +kernel
theorem dX11_layRho_17 : decode cX11_layRho 17 = .ok (.istore 7, 2) := by decide +kernel
theorem dX11_layRho_19 : decode cX11_layRho 19 = .ok (.iload 7, 2) := by decide +kernel
theorem dX11_layRho_21 : decode cX11_layRho 21 = .ok (.aload_n 0, 1) := by decide +kernel
theorem dX11_layRho_22 : decode cX11_layRho 22 = .ok (.getfield 39, 3) := by decide +kernel
theorem dX11_layRho_25 : decode cX11_layRho 25 = .ok (.if_icmp .ge 47, 3) := by decide +kernel
theorem dX11_layRho_28 : decode cX11_layRho 28 = .ok (.lload 5, 2) := by decide +kernel
theorem dX11_layRho_30 : decode cX11_layRho 30 = .ok (.aload_n 0, 1) := by decide +kernel
theorem dX11_layRho_31 : decode cX11_layRho 31 = .ok (.getfield 7, 3) := by decide +kernel
theorem dX11_layRho_34 : decode cX11_layRho 34 = .ok (.iload 7, 2) := by decide +kernel
theorem dX11_layRho_36 : decode cX11_layRho 36 = .ok (.iaload, 1) := by decide +kernel
theorem dX11_layRho_37 : decode cX11_layRho 37 = .ok (.iload_n 2, 1) := by decide +kernel
theorem dX11_layRho_38 : decode cX11_layRho 38 = .ok (.ishr, 1) := by decide +kernel
theorem dX11_layRho_39 : decode cX11_layRho 39 = .ok (.iconst 1, 1) := by decide +kernel
theorem dX11_layRho_40 : decode cX11_layRho 40 = .ok (.iand, 1) := by decide +kernel
theorem dX11_layRho_41 : decode cX11_layRho 41 = .ok (.aload_n 0, 1) := by decide +kernel
theorem dX11_layRho_42 : decode cX11_layRho 42 = .ok (.getfield 13, 3) := by decide +kernel
theorem dX11_layRho_45 : decode cX11_layRho 45 = .ok (.iload 7, 2) := by decide +kernel
theorem dX11_layRho_47 : decode cX11_layRho 47 = .ok (.iaload, 1) := by decide +kernel
theorem dX11_layRho_48 : decode cX11_layRho 48 = .ok (.imul, 1) := by decide +kernel
theorem dX11_layRho_49 : decode cX11_layRho 49 = .ok (.i2l, 1) := by decide +kernel
theorem dX11_layRho_50 : decode cX11_layRho 50 = .ok (.aload_n 0, 1) := by decide +kernel
theorem dX11_layRho_51 : decode cX11_layRho 51 = .ok (.getfield 32, 3) := by decide +kernel
theorem dX11_layRho_54 : decode cX11_layRho 54 = .ok (.bipush 7, 2) := by decide +kernel
theorem dX11_layRho_56 : decode cX11_layRho 56 = .ok (.iload_n 1, 1) := by decide +kernel
theorem dX11_layRho_57 : decode cX11_layRho 57 = .ok (.imul, 1) := by decide +kernel
theorem dX11_layRho_58 : decode cX11_layRho 58 = .ok (.iload 7, 2) := by decide +kernel
theorem dX11_layRho_60 : decode cX11_layRho 60 = .ok (.iadd, 1) := by decide +kernel
theorem dX11_layRho_61 : decode cX11_layRho 61 = .ok (.laload, 1) := by decide +kernel
theorem dX11_layRho_62 : decode cX11_layRho 62 = .ok (.lmul, 1) := by decide +kernel
theorem dX11_layRho_63 : decode cX11_layRho 63 = .ok (.ladd, 1) := by decide +kernel
theorem dX11_layRho_64 : decode cX11_layRho 64 = .ok (.lstore 5, 2) := by decide +kernel
theorem dX11_layRho_66 : decode cX11_layRho 66 = .ok (.iinc 7 1, 3) := by decide +kernel
theorem dX11_layRho_69 : decode cX11_layRho 69 = .ok (.goto (-50), 3) := by decide +kernel
theorem dX11_layRho_72 : decode cX11_layRho 72 = .ok (.aload_n 0, 1) := by decide +kernel
theorem dX11_layRho_73 : decode cX11_layRho 73 = .ok (.iload_n 2, 1) := by decide +kernel
theorem dX11_layRho_74 : decode cX11_layRho 74 = .ok (.invokevirtual 82, 3) := by decide +kernel
theorem dX11_layRho_77 : decode cX11_layRho 77 = .ok (.ifCond .eq 10, 3) := by decide +kernel
theorem dX11_layRho_80 : decode cX11_layRho 80 = .ok (.lload 5, 2) := by decide +kernel
theorem dX11_layRho_82 : decode cX11_layRho 82 = .ok (.lload_n 3, 1) := by decide +kernel
theorem dX11_layRho_83 : decode cX11_layRho 83 = .ok (.lcmp, 1) := by decide +kernel
theorem dX11_layRho_84 : decode cX11_layRho 84 = .ok (.ifCond .ge 5, 3) := by decide +kernel
theorem dX11_layRho_87 : decode cX11_layRho 87 = .ok (.iconst 0, 1) := by decide +kernel
theorem dX11_layRho_88 : decode cX11_layRho 88 = .ok (.ireturn, 1) := by decide +kernel
theorem dX11_layRho_89 : decode cX11_layRho 89 = .ok (.iconst 0, 1) := by decide +kernel
theorem dX11_layRho_90 : decode cX11_layRho 90 = .ok (.istore 7, 2) := by decide +kernel
theorem dX11_layRho_92 : decode cX11_layRho 92 = .ok (.iconst 1, 1) := by decide +kernel
theorem dX11_layRho_93 : decode cX11_layRho 93 = .ok (.istore 8, 2) := by decide +kernel
theorem dX11_layRho_95 : decode cX11_layRho 95 = .ok (.iload 8, 2) := by decide +kernel
theorem dX11_layRho_97 : decode cX11_layRho 97 = .ok (.ifCond .eq 244, 3) := by decide +kernel
theorem dX11_layRho_100 : decode cX11_layRho 100 = .ok (.aload_n 0, 1) := by decide +kernel
theorem dX11_layRho_101 : decode cX11_layRho 101 = .ok (.lload_n 3, 1) := by decide +kernel
theorem dX11_layRho_102 : decode cX11_layRho 102 = .ok (.putfield 99, 3) := by decide +kernel
theorem dX11_layRho_105 : decode cX11_layRho 105 = .ok (.aload_n 0, 1) := by decide +kernel
theorem dX11_layRho_106 : decode cX11_layRho 106 = .ok (.lconst 0, 1) := by decide +kernel
theorem dX11_layRho_107 : decode cX11_layRho 107 = .ok (.putfield 103, 3) := by decide +kernel
theorem dX11_layRho_110 : decode cX11_layRho 110 = .ok (.iconst 0, 1) := by decide +kernel
theorem dX11_layRho_111 : decode cX11_layRho 111 = .ok (.istore 9, 2) := by decide +kernel
theorem dX11_layRho_113 : decode cX11_layRho 113 = .ok (.iload 9, 2) := by decide +kernel
theorem dX11_layRho_115 : decode cX11_layRho 115 = .ok (.aload_n 0, 1) := by decide +kernel
theorem dX11_layRho_116 : decode cX11_layRho 116 = .ok (.getfield 39, 3) := by decide +kernel
theorem dX11_layRho_119 : decode cX11_layRho 119 = .ok (.if_icmp .ge 124, 3) := by decide +kernel
theorem dX11_layRho_122 : decode cX11_layRho 122 = .ok (.aload_n 0, 1) := by decide +kernel
theorem dX11_layRho_123 : decode cX11_layRho 123 = .ok (.getfield 7, 3) := by decide +kernel
theorem dX11_layRho_126 : decode cX11_layRho 126 = .ok (.iload 9, 2) := by decide +kernel
theorem dX11_layRho_128 : decode cX11_layRho 128 = .ok (.iaload, 1) := by decide +kernel
theorem dX11_layRho_129 : decode cX11_layRho 129 = .ok (.iload_n 2, 1) := by decide +kernel
theorem dX11_layRho_130 : decode cX11_layRho 130 = .ok (.ishr, 1) := by decide +kernel
theorem dX11_layRho_131 : decode cX11_layRho 131 = .ok (.iconst 1, 1) := by decide +kernel
theorem dX11_layRho_132 : decode cX11_layRho 132 = .ok (.iand, 1) := by decide +kernel
theorem dX11_layRho_133 : decode cX11_layRho 133 = .ok (.iconst 1, 1) := by decide +kernel
theorem dX11_layRho_134 : decode cX11_layRho 134 = .ok (.if_icmp .ne 7, 3) := by decide +kernel
theorem dX11_layRho_137 : decode cX11_layRho 137 = .ok (.iconst 1, 1) := by decide +kernel
theorem dX11_layRho_138 : decode cX11_layRho 138 = .ok (.goto 4, 3) := by decide +kernel
theorem dX11_layRho_141 : decode cX11_layRho 141 = .ok (.iconst 0, 1) := by decide +kernel
theorem dX11_layRho_142 : decode cX11_layRho 142 = .ok (.istore 10, 2) := by decide +kernel
theorem dX11_layRho_144 : decode cX11_layRho 144 = .ok (.iload 7, 2) := by decide +kernel
theorem dX11_layRho_146 : decode cX11_layRho 146 = .ok (.iload 9, 2) := by decide +kernel
theorem dX11_layRho_148 : decode cX11_layRho 148 = .ok (.ishr, 1) := by decide +kernel
theorem dX11_layRho_149 : decode cX11_layRho 149 = .ok (.iconst 1, 1) := by decide +kernel
theorem dX11_layRho_150 : decode cX11_layRho 150 = .ok (.iand, 1) := by decide +kernel
theorem dX11_layRho_151 : decode cX11_layRho 151 = .ok (.iconst 1, 1) := by decide +kernel
theorem dX11_layRho_152 : decode cX11_layRho 152 = .ok (.if_icmp .ne 7, 3) := by decide +kernel
theorem dX11_layRho_155 : decode cX11_layRho 155 = .ok (.iconst 1, 1) := by decide +kernel
theorem dX11_layRho_156 : decode cX11_layRho 156 = .ok (.goto 4, 3) := by decide +kernel
theorem dX11_layRho_159 : decode cX11_layRho 159 = .ok (.iconst 0, 1) := by decide +kernel
theorem dX11_layRho_160 : decode cX11_layRho 160 = .ok (.istore 11, 2) := by decide +kernel
theorem dX11_layRho_162 : decode cX11_layRho 162 = .ok (.aload_n 0, 1) := by decide +kernel
theorem dX11_layRho_163 : decode cX11_layRho 163 = .ok (.dup, 1) := by decide +kernel
theorem dX11_layRho_164 : decode cX11_layRho 164 = .ok (.getfield 99, 3) := by decide +kernel
theorem dX11_layRho_167 : decode cX11_layRho 167 = .ok (.iload 10, 2) := by decide +kernel
theorem dX11_layRho_169 : decode cX11_layRho 169 = .ok (.ifCond .eq 32, 3) := by decide +kernel
theorem dX11_layRho_172 : decode cX11_layRho 172 = .ok (.iload 11, 2) := by decide +kernel
theorem dX11_layRho_174 : decode cX11_layRho 174 = .ok (.ifCond .eq 27, 3) := by decide +kernel
theorem dX11_layRho_177 : decode cX11_layRho 177 = .ok (.aload_n 0, 1) := by decide +kernel
theorem dX11_layRho_178 : decode cX11_layRho 178 = .ok (.getfield 13, 3) := by decide +kernel
theorem dX11_layRho_181 : decode cX11_layRho 181 = .ok (.iload 9, 2) := by decide +kernel
theorem dX11_layRho_183 : decode cX11_layRho 183 = .ok (.iaload, 1) := by decide +kernel
theorem dX11_layRho_184 : decode cX11_layRho 184 = .ok (.i2l, 1) := by decide +kernel
theorem dX11_layRho_185 : decode cX11_layRho 185 = .ok (.aload_n 0, 1) := by decide +kernel
theorem dX11_layRho_186 : decode cX11_layRho 186 = .ok (.getfield 32, 3) := by decide +kernel
theorem dX11_layRho_189 : decode cX11_layRho 189 = .ok (.bipush 7, 2) := by decide +kernel
theorem dX11_layRho_191 : decode cX11_layRho 191 = .ok (.iload_n 1, 1) := by decide +kernel
theorem dX11_layRho_192 : decode cX11_layRho 192 = .ok (.imul, 1) := by decide +kernel
theorem dX11_layRho_193 : decode cX11_layRho 193 = .ok (.iload 9, 2) := by decide +kernel
theorem dX11_layRho_195 : decode cX11_layRho 195 = .ok (.iadd, 1) := by decide +kernel
theorem dX11_layRho_196 : decode cX11_layRho 196 = .ok (.laload, 1) := by decide +kernel
theorem dX11_layRho_197 : decode cX11_layRho 197 = .ok (.lmul, 1) := by decide +kernel
theorem dX11_layRho_198 : decode cX11_layRho 198 = .ok (.goto 4, 3) := by decide +kernel
theorem dX11_layRho_201 : decode cX11_layRho 201 = .ok (.lconst 0, 1) := by decide +kernel
theorem dX11_layRho_202 : decode cX11_layRho 202 = .ok (.lsub, 1) := by decide +kernel
theorem dX11_layRho_203 : decode cX11_layRho 203 = .ok (.putfield 99, 3) := by decide +kernel
theorem dX11_layRho_206 : decode cX11_layRho 206 = .ok (.aload_n 0, 1) := by decide +kernel
theorem dX11_layRho_207 : decode cX11_layRho 207 = .ok (.dup, 1) := by decide +kernel
theorem dX11_layRho_208 : decode cX11_layRho 208 = .ok (.getfield 103, 3) := by decide +kernel
theorem dX11_layRho_211 : decode cX11_layRho 211 = .ok (.iload 10, 2) := by decide +kernel
theorem dX11_layRho_213 : decode cX11_layRho 213 = .ok (.ifCond .eq 19, 3) := by decide +kernel
theorem dX11_layRho_216 : decode cX11_layRho 216 = .ok (.iload 11, 2) := by decide +kernel
theorem dX11_layRho_218 : decode cX11_layRho 218 = .ok (.ifCond .ne 14, 3) := by decide +kernel
theorem dX11_layRho_221 : decode cX11_layRho 221 = .ok (.aload_n 0, 1) := by decide +kernel
theorem dX11_layRho_222 : decode cX11_layRho 222 = .ok (.getfield 13, 3) := by decide +kernel
theorem dX11_layRho_225 : decode cX11_layRho 225 = .ok (.iload 9, 2) := by decide +kernel
theorem dX11_layRho_227 : decode cX11_layRho 227 = .ok (.iaload, 1) := by decide +kernel
theorem dX11_layRho_228 : decode cX11_layRho 228 = .ok (.i2l, 1) := by decide +kernel
theorem dX11_layRho_229 : decode cX11_layRho 229 = .ok (.goto 4, 3) := by decide +kernel
theorem dX11_layRho_232 : decode cX11_layRho 232 = .ok (.lconst 0, 1) := by decide +kernel
theorem dX11_layRho_233 : decode cX11_layRho 233 = .ok (.ladd, 1) := by decide +kernel
theorem dX11_layRho_234 : decode cX11_layRho 234 = .ok (.putfield 103, 3) := by decide +kernel
theorem dX11_layRho_237 : decode cX11_layRho 237 = .ok (.iinc 9 1, 3) := by decide +kernel
theorem dX11_layRho_240 : decode cX11_layRho 240 = .ok (.goto (-127), 3) := by decide +kernel
theorem dX11_layRho_243 : decode cX11_layRho 243 = .ok (.iconst 0, 1) := by decide +kernel
theorem dX11_layRho_244 : decode cX11_layRho 244 = .ok (.istore 8, 2) := by decide +kernel
theorem dX11_layRho_246 : decode cX11_layRho 246 = .ok (.iconst 0, 1) := by decide +kernel
theorem dX11_layRho_247 : decode cX11_layRho 247 = .ok (.istore 9, 2) := by decide +kernel
theorem dX11_layRho_249 : decode cX11_layRho 249 = .ok (.iload 9, 2) := by decide +kernel
theorem dX11_layRho_251 : decode cX11_layRho 251 = .ok (.aload_n 0, 1) := by decide +kernel
theorem dX11_layRho_252 : decode cX11_layRho 252 = .ok (.getfield 39, 3) := by decide +kernel
theorem dX11_layRho_255 : decode cX11_layRho 255 = .ok (.if_icmp .ge 83, 3) := by decide +kernel
theorem dX11_layRho_258 : decode cX11_layRho 258 = .ok (.aload_n 0, 1) := by decide +kernel
theorem dX11_layRho_259 : decode cX11_layRho 259 = .ok (.getfield 7, 3) := by decide +kernel
theorem dX11_layRho_262 : decode cX11_layRho 262 = .ok (.iload 9, 2) := by decide +kernel
theorem dX11_layRho_264 : decode cX11_layRho 264 = .ok (.iaload, 1) := by decide +kernel
theorem dX11_layRho_265 : decode cX11_layRho 265 = .ok (.iload_n 2, 1) := by decide +kernel
theorem dX11_layRho_266 : decode cX11_layRho 266 = .ok (.ishr, 1) := by decide +kernel
theorem dX11_layRho_267 : decode cX11_layRho 267 = .ok (.iconst 1, 1) := by decide +kernel
theorem dX11_layRho_268 : decode cX11_layRho 268 = .ok (.iand, 1) := by decide +kernel
theorem dX11_layRho_269 : decode cX11_layRho 269 = .ok (.iconst 1, 1) := by decide +kernel
theorem dX11_layRho_270 : decode cX11_layRho 270 = .ok (.if_icmp .ne 17, 3) := by decide +kernel
theorem dX11_layRho_273 : decode cX11_layRho 273 = .ok (.iload 7, 2) := by decide +kernel
theorem dX11_layRho_275 : decode cX11_layRho 275 = .ok (.iload 9, 2) := by decide +kernel
theorem dX11_layRho_277 : decode cX11_layRho 277 = .ok (.ishr, 1) := by decide +kernel
theorem dX11_layRho_278 : decode cX11_layRho 278 = .ok (.iconst 1, 1) := by decide +kernel
theorem dX11_layRho_279 : decode cX11_layRho 279 = .ok (.iand, 1) := by decide +kernel
theorem dX11_layRho_280 : decode cX11_layRho 280 = .ok (.ifCond .ne 7, 3) := by decide +kernel
theorem dX11_layRho_283 : decode cX11_layRho 283 = .ok (.iconst 1, 1) := by decide +kernel
theorem dX11_layRho_284 : decode cX11_layRho 284 = .ok (.goto 4, 3) := by decide +kernel
theorem dX11_layRho_287 : decode cX11_layRho 287 = .ok (.iconst 0, 1) := by decide +kernel
theorem dX11_layRho_288 : decode cX11_layRho 288 = .ok (.istore 10, 2) := by decide +kernel
theorem dX11_layRho_290 : decode cX11_layRho 290 = .ok (.iload 10, 2) := by decide +kernel
theorem dX11_layRho_292 : decode cX11_layRho 292 = .ok (.ifCond .eq 40, 3) := by decide +kernel
theorem dX11_layRho_295 : decode cX11_layRho 295 = .ok (.aload_n 0, 1) := by decide +kernel
theorem dX11_layRho_296 : decode cX11_layRho 296 = .ok (.getfield 32, 3) := by decide +kernel
theorem dX11_layRho_299 : decode cX11_layRho 299 = .ok (.bipush 7, 2) := by decide +kernel
theorem dX11_layRho_301 : decode cX11_layRho 301 = .ok (.iload_n 1, 1) := by decide +kernel
theorem dX11_layRho_302 : decode cX11_layRho 302 = .ok (.imul, 1) := by decide +kernel
theorem dX11_layRho_303 : decode cX11_layRho 303 = .ok (.iload 9, 2) := by decide +kernel
theorem dX11_layRho_305 : decode cX11_layRho 305 = .ok (.iadd, 1) := by decide +kernel
theorem dX11_layRho_306 : decode cX11_layRho 306 = .ok (.laload, 1) := by decide +kernel
theorem dX11_layRho_307 : decode cX11_layRho 307 = .ok (.aload_n 0, 1) := by decide +kernel
theorem dX11_layRho_308 : decode cX11_layRho 308 = .ok (.getfield 103, 3) := by decide +kernel
theorem dX11_layRho_311 : decode cX11_layRho 311 = .ok (.lmul, 1) := by decide +kernel
theorem dX11_layRho_312 : decode cX11_layRho 312 = .ok (.aload_n 0, 1) := by decide +kernel
theorem dX11_layRho_313 : decode cX11_layRho 313 = .ok (.getfield 99, 3) := by decide +kernel
theorem dX11_layRho_316 : decode cX11_layRho 316 = .ok (.lcmp, 1) := by decide +kernel
theorem dX11_layRho_317 : decode cX11_layRho 317 = .ok (.ifCond .ge 15, 3) := by decide +kernel
theorem dX11_layRho_320 : decode cX11_layRho 320 = .ok (.iload 7, 2) := by decide +kernel
theorem dX11_layRho_322 : decode cX11_layRho 322 = .ok (.iconst 1, 1) := by decide +kernel
theorem dX11_layRho_323 : decode cX11_layRho 323 = .ok (.iload 9, 2) := by decide +kernel
theorem dX11_layRho_325 : decode cX11_layRho 325 = .ok (.ishl, 1) := by decide +kernel
theorem dX11_layRho_326 : decode cX11_layRho 326 = .ok (.ior, 1) := by decide +kernel
theorem dX11_layRho_327 : decode cX11_layRho 327 = .ok (.istore 7, 2) := by decide +kernel
theorem dX11_layRho_329 : decode cX11_layRho 329 = .ok (.iconst 1, 1) := by decide +kernel
theorem dX11_layRho_330 : decode cX11_layRho 330 = .ok (.istore 8, 2) := by decide +kernel
theorem dX11_layRho_332 : decode cX11_layRho 332 = .ok (.iinc 9 1, 3) := by decide +kernel
theorem dX11_layRho_335 : decode cX11_layRho 335 = .ok (.goto (-86), 3) := by decide +kernel
theorem dX11_layRho_338 : decode cX11_layRho 338 = .ok (.goto (-243), 3) := by decide +kernel
theorem dX11_layRho_341 : decode cX11_layRho 341 = .ok (.iconst 1, 1) := by decide +kernel
theorem dX11_layRho_342 : decode cX11_layRho 342 = .ok (.ireturn, 1) := by decide +kernel
set_option maxRecDepth 20000 in
theorem ggX11_share_X11_isLeft : GoodIn wsX11_share wsX11_isLeft := goodIn_r _ [11, 12, 40, 41, 42, 43, 44, 45, 46, 47, 48, 49, 50, 51, 52, 53, 54, 55, 56] (by decide +kernel) (by decide +kernel)
set_option maxRecDepth 20000 in
theorem gX11_share_X11_isLeft : GoodIn wsX11_share (wsV RX11 79 RX11 yX11_isLeft wsX11_isLeft) := goodIn_app (goodIn_of _ (by decide +kernel)) ggX11_share_X11_isLeft
set_option maxRecDepth 20000 in
theorem ggX11_share_X11_layRho : GoodIn wsX11_share wsX11_layRho := goodIn_r _ [16, 17, 3, 4, 18, 5, 1, 2, 19, 20, 21, 10, 22, 23, 24, 25, 26, 40, 41, 42, 43, 44, 45, 46, 47, 48, 49, 50, 51, 52, 53, 54, 55, 56] (by decide +kernel) (by decide +kernel)
set_option maxRecDepth 20000 in
theorem gX11_share_X11_layRho : GoodIn wsX11_share (wsV RX11 106 RX11 yX11_layRho wsX11_layRho) := goodIn_app (goodIn_of _ (by decide +kernel)) ggX11_share_X11_layRho
set_option maxRecDepth 20000 in
theorem ggX11_share_X11_carry : GoodIn wsX11_share wsX11_carry := goodIn_r _ [30, 17, 5, 40, 41, 42, 43, 44, 45, 46, 47, 48, 49, 50, 51, 52, 53, 54, 55, 56] (by decide +kernel) (by decide +kernel)
set_option maxRecDepth 20000 in
theorem gX11_share_X11_carry : GoodIn wsX11_share (wsV RX11 85 RX11 yX11_carry wsX11_carry) := goodIn_app (goodIn_of _ (by decide +kernel)) ggX11_share_X11_carry
set_option maxRecDepth 20000 in
theorem ggX11_share_X11_mostOf : GoodIn wsX11_share wsX11_mostOf := goodIn_r _ [34, 7, 8, 9, 10, 11, 12, 23, 24, 25, 26, 3, 4, 18, 40, 41, 42, 43, 44, 45, 46, 47, 48, 49, 50, 51, 52, 53, 54, 55, 56] (by decide +kernel) (by decide +kernel)
set_option maxRecDepth 20000 in
theorem gX11_share_X11_mostOf : GoodIn wsX11_share (wsV RX11 89 RX11 yX11_mostOf wsX11_mostOf) := goodIn_app (goodIn_of _ (by decide +kernel)) ggX11_share_X11_mostOf
set_option maxRecDepth 20000 in
theorem ggX11_share_X11_pick : GoodIn wsX11_share wsX11_pick := goodIn_r _ [38, 39, 12, 40, 41, 42, 43, 44, 45, 46, 47, 48, 49, 50, 51, 52, 53, 54, 55, 56] (by decide +kernel) (by decide +kernel)
set_option maxRecDepth 20000 in
theorem gX11_share_X11_pick : GoodIn wsX11_share (wsV RX11 92 RX11 yX11_pick wsX11_pick) := goodIn_app (goodIn_of _ (by decide +kernel)) ggX11_share_X11_pick
theorem dX11_share_0 : decode cX11_share 0 = .ok (.bipush (-6), 2) := by decide +kernel
theorem dX11_share_2 : decode cX11_share 2 = .ok (.istore_n 2, 1) := by decide +kernel
end
section
theorem dX11_share_3 : decode cX11_share 3 = .ok (.lconst 0, 1) := by decide +kernel
theorem dX11_share_4 : decode cX11_share 4 = .ok (.lstore_n 3, 1) := by decide +kernel
theorem dX11_share_5 : decode cX11_share 5 = .ok (.lconst 1, 1) := by decide +kernel
theorem dX11_share_6 : decode cX11_share 6 = .ok (.lstore 5, 2) := by decide +kernel
theorem dX11_share_8 : decode cX11_share 8 = .ok (.iconst 0, 1) := by decide +kernel
theorem dX11_share_9 : decode cX11_share 9 = .ok (.istore 7, 2) := by decide +kernel
theorem dX11_share_11 : decode cX11_share 11 = .ok (.iload 7, 2) := by decide +kernel
theorem dX11_share_13 : decode cX11_share 13 = .ok (.bipush 8, 2) := by decide +kernel
theorem dX11_share_15 : decode cX11_share 15 = .ok (.if_icmp .ge 63, 3) := by decide +kernel
theorem dX11_share_18 : decode cX11_share 18 = .ok (.aload_n 0, 1) := by decide +kernel
theorem dX11_share_19 : decode cX11_share 19 = .ok (.iload 7, 2) := by decide +kernel
theorem dX11_share_21 : decode cX11_share 21 = .ok (.invokevirtual 79, 3) := by decide +kernel
theorem dX11_share_24 : decode cX11_share 24 = .ok (.ifCond .eq 48, 3) := by decide +kernel
theorem dX11_share_27 : decode cX11_share 27 = .ok (.aload_n 0, 1) := by decide +kernel
theorem dX11_share_28 : decode cX11_share 28 = .ok (.iload_n 1, 1) := by decide +kernel
theorem dX11_share_29 : decode cX11_share 29 = .ok (.iload 7, 2) := by decide +kernel
theorem dX11_share_31 : decode cX11_share 31 = .ok (.invokevirtual 106, 3) := by decide +kernel
theorem dX11_share_34 : decode cX11_share 34 = .ok (.ifCond .eq 38, 3) := by decide +kernel
theorem dX11_share_37 : decode cX11_share 37 = .ok (.iload_n 2, 1) := by decide +kernel
theorem dX11_share_38 : decode cX11_share 38 = .ok (.ifCond .lt 20, 3) := by decide +kernel
theorem dX11_share_41 : decode cX11_share 41 = .ok (.aload_n 0, 1) := by decide +kernel
theorem dX11_share_42 : decode cX11_share 42 = .ok (.getfield 99, 3) := by decide +kernel
theorem dX11_share_45 : decode cX11_share 45 = .ok (.lload 5, 2) := by decide +kernel
theorem dX11_share_47 : decode cX11_share 47 = .ok (.lmul, 1) := by decide +kernel
theorem dX11_share_48 : decode cX11_share 48 = .ok (.lload_n 3, 1) := by decide +kernel
theorem dX11_share_49 : decode cX11_share 49 = .ok (.aload_n 0, 1) := by decide +kernel
theorem dX11_share_50 : decode cX11_share 50 = .ok (.getfield 103, 3) := by decide +kernel
theorem dX11_share_53 : decode cX11_share 53 = .ok (.lmul, 1) := by decide +kernel
theorem dX11_share_54 : decode cX11_share 54 = .ok (.lcmp, 1) := by decide +kernel
theorem dX11_share_55 : decode cX11_share 55 = .ok (.ifCond .ge 17, 3) := by decide +kernel
theorem dX11_share_58 : decode cX11_share 58 = .ok (.iload 7, 2) := by decide +kernel
theorem dX11_share_60 : decode cX11_share 60 = .ok (.istore_n 2, 1) := by decide +kernel
theorem dX11_share_61 : decode cX11_share 61 = .ok (.aload_n 0, 1) := by decide +kernel
theorem dX11_share_62 : decode cX11_share 62 = .ok (.getfield 99, 3) := by decide +kernel
theorem dX11_share_65 : decode cX11_share 65 = .ok (.lstore_n 3, 1) := by decide +kernel
theorem dX11_share_66 : decode cX11_share 66 = .ok (.aload_n 0, 1) := by decide +kernel
theorem dX11_share_67 : decode cX11_share 67 = .ok (.getfield 103, 3) := by decide +kernel
theorem dX11_share_70 : decode cX11_share 70 = .ok (.lstore 5, 2) := by decide +kernel
theorem dX11_share_72 : decode cX11_share 72 = .ok (.iinc 7 1, 3) := by decide +kernel
theorem dX11_share_75 : decode cX11_share 75 = .ok (.goto (-64), 3) := by decide +kernel
theorem dX11_share_78 : decode cX11_share 78 = .ok (.aload_n 0, 1) := by decide +kernel
theorem dX11_share_79 : decode cX11_share 79 = .ok (.iload_n 1, 1) := by decide +kernel
theorem dX11_share_80 : decode cX11_share 80 = .ok (.lload 5, 2) := by decide +kernel
theorem dX11_share_82 : decode cX11_share 82 = .ok (.invokevirtual 85, 3) := by decide +kernel
theorem dX11_share_85 : decode cX11_share 85 = .ok (.iconst 0, 1) := by decide +kernel
theorem dX11_share_86 : decode cX11_share 86 = .ok (.istore 7, 2) := by decide +kernel
theorem dX11_share_88 : decode cX11_share 88 = .ok (.iload 7, 2) := by decide +kernel
theorem dX11_share_90 : decode cX11_share 90 = .ok (.aload_n 0, 1) := by decide +kernel
theorem dX11_share_91 : decode cX11_share 91 = .ok (.getfield 39, 3) := by decide +kernel
theorem dX11_share_94 : decode cX11_share 94 = .ok (.if_icmp .ge 73, 3) := by decide +kernel
theorem dX11_share_97 : decode cX11_share 97 = .ok (.iload_n 2, 1) := by decide +kernel
theorem dX11_share_98 : decode cX11_share 98 = .ok (.ifCond .lt 69, 3) := by decide +kernel
theorem dX11_share_101 : decode cX11_share 101 = .ok (.aload_n 0, 1) := by decide +kernel
theorem dX11_share_102 : decode cX11_share 102 = .ok (.getfield 7, 3) := by decide +kernel
theorem dX11_share_105 : decode cX11_share 105 = .ok (.iload 7, 2) := by decide +kernel
theorem dX11_share_107 : decode cX11_share 107 = .ok (.iaload, 1) := by decide +kernel
theorem dX11_share_108 : decode cX11_share 108 = .ok (.iload_n 2, 1) := by decide +kernel
theorem dX11_share_109 : decode cX11_share 109 = .ok (.ishr, 1) := by decide +kernel
theorem dX11_share_110 : decode cX11_share 110 = .ok (.iconst 1, 1) := by decide +kernel
theorem dX11_share_111 : decode cX11_share 111 = .ok (.iand, 1) := by decide +kernel
theorem dX11_share_112 : decode cX11_share 112 = .ok (.iconst 1, 1) := by decide +kernel
theorem dX11_share_113 : decode cX11_share 113 = .ok (.if_icmp .ne 48, 3) := by decide +kernel
theorem dX11_share_116 : decode cX11_share 116 = .ok (.aload_n 0, 1) := by decide +kernel
theorem dX11_share_117 : decode cX11_share 117 = .ok (.getfield 32, 3) := by decide +kernel
theorem dX11_share_120 : decode cX11_share 120 = .ok (.bipush 7, 2) := by decide +kernel
theorem dX11_share_122 : decode cX11_share 122 = .ok (.iload_n 1, 1) := by decide +kernel
theorem dX11_share_123 : decode cX11_share 123 = .ok (.iconst 1, 1) := by decide +kernel
theorem dX11_share_124 : decode cX11_share 124 = .ok (.iadd, 1) := by decide +kernel
theorem dX11_share_125 : decode cX11_share 125 = .ok (.imul, 1) := by decide +kernel
theorem dX11_share_126 : decode cX11_share 126 = .ok (.iload 7, 2) := by decide +kernel
theorem dX11_share_128 : decode cX11_share 128 = .ok (.iadd, 1) := by decide +kernel
theorem dX11_share_129 : decode cX11_share 129 = .ok (.laload, 1) := by decide +kernel
theorem dX11_share_130 : decode cX11_share 130 = .ok (.lload_n 3, 1) := by decide +kernel
theorem dX11_share_131 : decode cX11_share 131 = .ok (.lsub, 1) := by decide +kernel
theorem dX11_share_132 : decode cX11_share 132 = .ok (.lstore 8, 2) := by decide +kernel
theorem dX11_share_134 : decode cX11_share 134 = .ok (.aload_n 0, 1) := by decide +kernel
theorem dX11_share_135 : decode cX11_share 135 = .ok (.getfield 32, 3) := by decide +kernel
theorem dX11_share_138 : decode cX11_share 138 = .ok (.bipush 7, 2) := by decide +kernel
theorem dX11_share_140 : decode cX11_share 140 = .ok (.iload_n 1, 1) := by decide +kernel
theorem dX11_share_141 : decode cX11_share 141 = .ok (.iconst 1, 1) := by decide +kernel
theorem dX11_share_142 : decode cX11_share 142 = .ok (.iadd, 1) := by decide +kernel
theorem dX11_share_143 : decode cX11_share 143 = .ok (.imul, 1) := by decide +kernel
theorem dX11_share_144 : decode cX11_share 144 = .ok (.iload 7, 2) := by decide +kernel
theorem dX11_share_146 : decode cX11_share 146 = .ok (.iadd, 1) := by decide +kernel
theorem dX11_share_147 : decode cX11_share 147 = .ok (.lload 8, 2) := by decide +kernel
theorem dX11_share_149 : decode cX11_share 149 = .ok (.lconst 0, 1) := by decide +kernel
theorem dX11_share_150 : decode cX11_share 150 = .ok (.lcmp, 1) := by decide +kernel
theorem dX11_share_151 : decode cX11_share 151 = .ok (.ifCond .ge 7, 3) := by decide +kernel
theorem dX11_share_154 : decode cX11_share 154 = .ok (.lconst 0, 1) := by decide +kernel
theorem dX11_share_155 : decode cX11_share 155 = .ok (.goto 5, 3) := by decide +kernel
theorem dX11_share_158 : decode cX11_share 158 = .ok (.lload 8, 2) := by decide +kernel
theorem dX11_share_160 : decode cX11_share 160 = .ok (.lastore, 1) := by decide +kernel
theorem dX11_share_161 : decode cX11_share 161 = .ok (.iinc 7 1, 3) := by decide +kernel
theorem dX11_share_164 : decode cX11_share 164 = .ok (.goto (-76), 3) := by decide +kernel
theorem dX11_share_167 : decode cX11_share 167 = .ok (.aload_n 0, 1) := by decide +kernel
theorem dX11_share_168 : decode cX11_share 168 = .ok (.dup, 1) := by decide +kernel
theorem dX11_share_169 : decode cX11_share 169 = .ok (.getfield 110, 3) := by decide +kernel
theorem dX11_share_172 : decode cX11_share 172 = .ok (.iload_n 2, 1) := by decide +kernel
theorem dX11_share_173 : decode cX11_share 173 = .ok (.ifCond .ge 7, 3) := by decide +kernel
theorem dX11_share_176 : decode cX11_share 176 = .ok (.iconst 0, 1) := by decide +kernel
theorem dX11_share_177 : decode cX11_share 177 = .ok (.goto 4, 3) := by decide +kernel
theorem dX11_share_180 : decode cX11_share 180 = .ok (.iconst 1, 1) := by decide +kernel
theorem dX11_share_181 : decode cX11_share 181 = .ok (.iadd, 1) := by decide +kernel
theorem dX11_share_182 : decode cX11_share 182 = .ok (.putfield 110, 3) := by decide +kernel
theorem dX11_share_185 : decode cX11_share 185 = .ok (.aload_n 0, 1) := by decide +kernel
theorem dX11_share_186 : decode cX11_share 186 = .ok (.iload_n 1, 1) := by decide +kernel
theorem dX11_share_187 : decode cX11_share 187 = .ok (.iload_n 2, 1) := by decide +kernel
theorem dX11_share_188 : decode cX11_share 188 = .ok (.ifCond .ge 10, 3) := by decide +kernel
theorem dX11_share_191 : decode cX11_share 191 = .ok (.aload_n 0, 1) := by decide +kernel
theorem dX11_share_192 : decode cX11_share 192 = .ok (.invokevirtual 89, 3) := by decide +kernel
theorem dX11_share_195 : decode cX11_share 195 = .ok (.goto 4, 3) := by decide +kernel
theorem dX11_share_198 : decode cX11_share 198 = .ok (.iload_n 2, 1) := by decide +kernel
theorem dX11_share_199 : decode cX11_share 199 = .ok (.invokevirtual 92, 3) := by decide +kernel
theorem dX11_share_202 : decode cX11_share 202 = .ok (.return_, 1) := by decide +kernel
set_option maxRecDepth 20000 in
theorem ggX11_layWay_X11_mostOf : GoodIn wsX11_layWay wsX11_mostOf := goodIn_r _ [10, 11, 12, 13, 9, 14, 1, 15, 16, 17, 18, 19, 20, 21, 78, 79, 80, 81, 82, 83, 84, 85, 86, 87, 88, 89, 90, 91, 92, 93, 94] (by decide +kernel) (by decide +kernel)
set_option maxRecDepth 20000 in
theorem gX11_layWay_X11_mostOf : GoodIn wsX11_layWay (wsV RX11 89 RX11 yX11_mostOf wsX11_mostOf) := goodIn_app (goodIn_of _ (by decide +kernel)) ggX11_layWay_X11_mostOf
set_option maxRecDepth 20000 in
theorem ggX11_layWay_X11_pick : GoodIn wsX11_layWay wsX11_pick := goodIn_r _ [25, 26, 1, 78, 79, 80, 81, 82, 83, 84, 85, 86, 87, 88, 89, 90, 91, 92, 93, 94] (by decide +kernel) (by decide +kernel)
set_option maxRecDepth 20000 in
theorem gX11_layWay_X11_pick : GoodIn wsX11_layWay (wsV RX11 92 RX11 yX11_pick wsX11_pick) := goodIn_app (goodIn_of _ (by decide +kernel)) ggX11_layWay_X11_pick
set_option maxRecDepth 20000 in
theorem ggX11_layWay_X11_greedyOf : GoodIn wsX11_layWay wsX11_greedyOf := goodIn_r _ [30, 1, 11, 12, 13, 9, 14, 31, 32, 33, 34, 19, 20, 21, 35, 36, 37, 38, 78, 79, 80, 81, 82, 83, 84, 85, 86, 87, 88, 89, 90, 91, 92, 93, 94] (by decide +kernel) (by decide +kernel)
set_option maxRecDepth 20000 in
theorem gX11_layWay_X11_greedyOf : GoodIn wsX11_layWay (wsV RX11 113 RX11 yX11_greedyOf wsX11_greedyOf) := goodIn_app (goodIn_of _ (by decide +kernel)) ggX11_layWay_X11_greedyOf
set_option maxRecDepth 20000 in
theorem ggX11_layWay_X11_loadOne : GoodIn wsX11_layWay wsX11_loadOne := goodIn_r _ [42, 3, 19, 20, 21, 4, 15, 16, 17, 9, 18, 11, 12, 13, 14, 1, 43, 44, 45, 46, 6, 7, 8, 10, 22, 23, 24, 25, 26, 78, 79, 80, 81, 82, 83, 84, 85, 86, 87, 88, 89, 90, 91, 92, 93, 94] (by decide +kernel) (by decide +kernel)
set_option maxRecDepth 20000 in
theorem gX11_layWay_X11_loadOne : GoodIn wsX11_layWay (wsV RX11 116 RX11 yX11_loadOne wsX11_loadOne) := goodIn_app (goodIn_of _ (by decide +kernel)) ggX11_layWay_X11_loadOne
set_option maxRecDepth 20000 in
theorem ggX11_layWay_X11_share : GoodIn wsX11_layWay wsX11_share := goodIn_r _ [50, 51, 52, 19, 20, 4, 2, 11, 12, 13, 9, 14, 1, 53, 54, 55, 56, 3, 21, 57, 58, 59, 60, 15, 16, 17, 18, 43, 44, 45, 46, 6, 7, 8, 10, 22, 23, 24, 25, 26, 78, 79, 80, 81, 82, 83, 84, 85, 86, 87, 88, 89, 90, 91, 92, 93, 94] (by decide +kernel) (by decide +kernel)
set_option maxRecDepth 20000 in
theorem gX11_layWay_X11_share : GoodIn wsX11_layWay (wsV RX11 120 RX11 yX11_share wsX11_share) := goodIn_app (goodIn_of _ (by decide +kernel)) ggX11_layWay_X11_share
set_option maxRecDepth 20000 in
theorem ggX11_layWay_X11_bestOf : GoodIn wsX11_layWay wsX11_bestOf := goodIn_r _ [64, 5, 36, 37, 9, 38, 31, 32, 33, 34, 19, 20, 21, 35, 65, 66, 67, 68, 69, 70, 71, 72, 73, 78, 79, 80, 81, 82, 83, 84, 85, 86, 87, 88, 89, 90, 91, 92, 93, 94] (by decide +kernel) (by decide +kernel)
set_option maxRecDepth 20000 in
theorem gX11_layWay_X11_bestOf : GoodIn wsX11_layWay (wsV RX11 123 RX11 yX11_bestOf wsX11_bestOf) := goodIn_app (goodIn_of _ (by decide +kernel)) ggX11_layWay_X11_bestOf
set_option maxRecDepth 20000 in
theorem ggX11_layWay_X11_mend : GoodIn wsX11_layWay wsX11_mend := goodIn_r _ [77, 1, 11, 12, 13, 9, 14, 31, 32, 33, 34, 19, 20, 21, 35, 36, 37, 38, 78, 79, 80, 81, 82, 83, 84, 85, 86, 87, 88, 89, 90, 91, 92, 93, 94] (by decide +kernel) (by decide +kernel)
set_option maxRecDepth 20000 in
theorem gX11_layWay_X11_mend : GoodIn wsX11_layWay (wsV RX11 126 RX11 yX11_mend wsX11_mend) := goodIn_app (goodIn_of _ (by decide +kernel)) ggX11_layWay_X11_mend
theorem dX11_layWay_0 : decode cX11_layWay 0 = .ok (.aload_n 0, 1) := by decide +kernel
theorem dX11_layWay_1 : decode cX11_layWay 1 = .ok (.iconst 0, 1) := by decide +kernel
theorem dX11_layWay_2 : decode cX11_layWay 2 = .ok (.putfield 76, 3) := by decide +kernel
theorem dX11_layWay_5 : decode cX11_layWay 5 = .ok (.aload_n 0, 1) := by decide +kernel
theorem dX11_layWay_6 : decode cX11_layWay 6 = .ok (.iconst 0, 1) := by decide +kernel
theorem dX11_layWay_7 : decode cX11_layWay 7 = .ok (.putfield 110, 3) := by decide +kernel
theorem dX11_layWay_10 : decode cX11_layWay 10 = .ok (.aload_n 0, 1) := by decide +kernel
theorem dX11_layWay_11 : decode cX11_layWay 11 = .ok (.getfield 36, 3) := by decide +kernel
theorem dX11_layWay_14 : decode cX11_layWay 14 = .ok (.iconst 0, 1) := by decide +kernel
theorem dX11_layWay_15 : decode cX11_layWay 15 = .ok (.lconst 1, 1) := by decide +kernel
theorem dX11_layWay_16 : decode cX11_layWay 16 = .ok (.lastore, 1) := by decide +kernel
theorem dX11_layWay_17 : decode cX11_layWay 17 = .ok (.iconst 0, 1) := by decide +kernel
theorem dX11_layWay_18 : decode cX11_layWay 18 = .ok (.istore_n 2, 1) := by decide +kernel
theorem dX11_layWay_19 : decode cX11_layWay 19 = .ok (.iload_n 2, 1) := by decide +kernel
theorem dX11_layWay_20 : decode cX11_layWay 20 = .ok (.bipush 7, 2) := by decide +kernel
theorem dX11_layWay_22 : decode cX11_layWay 22 = .ok (.if_icmp .ge 29, 3) := by decide +kernel
theorem dX11_layWay_25 : decode cX11_layWay 25 = .ok (.aload_n 0, 1) := by decide +kernel
theorem dX11_layWay_26 : decode cX11_layWay 26 = .ok (.getfield 32, 3) := by decide +kernel
theorem dX11_layWay_29 : decode cX11_layWay 29 = .ok (.iload_n 2, 1) := by decide +kernel
theorem dX11_layWay_30 : decode cX11_layWay 30 = .ok (.iload_n 1, 1) := by decide +kernel
theorem dX11_layWay_31 : decode cX11_layWay 31 = .ok (.iconst 3, 1) := by decide +kernel
theorem dX11_layWay_32 : decode cX11_layWay 32 = .ok (.if_icmp .ne 11, 3) := by decide +kernel
theorem dX11_layWay_35 : decode cX11_layWay 35 = .ok (.aload_n 0, 1) := by decide +kernel
theorem dX11_layWay_36 : decode cX11_layWay 36 = .ok (.getfield 16, 3) := by decide +kernel
theorem dX11_layWay_39 : decode cX11_layWay 39 = .ok (.i2l, 1) := by decide +kernel
theorem dX11_layWay_40 : decode cX11_layWay 40 = .ok (.goto 4, 3) := by decide +kernel
theorem dX11_layWay_43 : decode cX11_layWay 43 = .ok (.lconst 0, 1) := by decide +kernel
theorem dX11_layWay_44 : decode cX11_layWay 44 = .ok (.lastore, 1) := by decide +kernel
theorem dX11_layWay_45 : decode cX11_layWay 45 = .ok (.iinc 2 1, 3) := by decide +kernel
theorem dX11_layWay_48 : decode cX11_layWay 48 = .ok (.goto (-29), 3) := by decide +kernel
theorem dX11_layWay_51 : decode cX11_layWay 51 = .ok (.iconst 0, 1) := by decide +kernel
theorem dX11_layWay_52 : decode cX11_layWay 52 = .ok (.istore_n 2, 1) := by decide +kernel
theorem dX11_layWay_53 : decode cX11_layWay 53 = .ok (.iload_n 2, 1) := by decide +kernel
theorem dX11_layWay_54 : decode cX11_layWay 54 = .ok (.aload_n 0, 1) := by decide +kernel
theorem dX11_layWay_55 : decode cX11_layWay 55 = .ok (.getfield 16, 3) := by decide +kernel
theorem dX11_layWay_58 : decode cX11_layWay 58 = .ok (.if_icmp .ge 70, 3) := by decide +kernel
theorem dX11_layWay_61 : decode cX11_layWay 61 = .ok (.iload_n 1, 1) := by decide +kernel
theorem dX11_layWay_62 : decode cX11_layWay 62 = .ok (.iconst 4, 1) := by decide +kernel
theorem dX11_layWay_63 : decode cX11_layWay 63 = .ok (.if_icmp .eq 65, 3) := by decide +kernel
theorem dX11_layWay_66 : decode cX11_layWay 66 = .ok (.iload_n 1, 1) := by decide +kernel
theorem dX11_layWay_67 : decode cX11_layWay 67 = .ok (.ifCond .ne 15, 3) := by decide +kernel
theorem dX11_layWay_70 : decode cX11_layWay 70 = .ok (.aload_n 0, 1) := by decide +kernel
theorem dX11_layWay_71 : decode cX11_layWay 71 = .ok (.iload_n 2, 1) := by decide +kernel
theorem dX11_layWay_72 : decode cX11_layWay 72 = .ok (.aload_n 0, 1) := by decide +kernel
theorem dX11_layWay_73 : decode cX11_layWay 73 = .ok (.invokevirtual 89, 3) := by decide +kernel
theorem dX11_layWay_76 : decode cX11_layWay 76 = .ok (.invokevirtual 92, 3) := by decide +kernel
theorem dX11_layWay_79 : decode cX11_layWay 79 = .ok (.goto 43, 3) := by decide +kernel
theorem dX11_layWay_82 : decode cX11_layWay 82 = .ok (.iload_n 1, 1) := by decide +kernel
theorem dX11_layWay_83 : decode cX11_layWay 83 = .ok (.iconst 1, 1) := by decide +kernel
theorem dX11_layWay_84 : decode cX11_layWay 84 = .ok (.if_icmp .eq 8, 3) := by decide +kernel
theorem dX11_layWay_87 : decode cX11_layWay 87 = .ok (.iload_n 1, 1) := by decide +kernel
theorem dX11_layWay_88 : decode cX11_layWay 88 = .ok (.iconst 5, 1) := by decide +kernel
theorem dX11_layWay_89 : decode cX11_layWay 89 = .ok (.if_icmp .ne 15, 3) := by decide +kernel
theorem dX11_layWay_92 : decode cX11_layWay 92 = .ok (.aload_n 0, 1) := by decide +kernel
theorem dX11_layWay_93 : decode cX11_layWay 93 = .ok (.iload_n 2, 1) := by decide +kernel
theorem dX11_layWay_94 : decode cX11_layWay 94 = .ok (.aload_n 0, 1) := by decide +kernel
theorem dX11_layWay_95 : decode cX11_layWay 95 = .ok (.invokevirtual 113, 3) := by decide +kernel
theorem dX11_layWay_98 : decode cX11_layWay 98 = .ok (.invokevirtual 92, 3) := by decide +kernel
theorem dX11_layWay_101 : decode cX11_layWay 101 = .ok (.goto 21, 3) := by decide +kernel
theorem dX11_layWay_104 : decode cX11_layWay 104 = .ok (.iload_n 1, 1) := by decide +kernel
theorem dX11_layWay_105 : decode cX11_layWay 105 = .ok (.iconst 2, 1) := by decide +kernel
theorem dX11_layWay_106 : decode cX11_layWay 106 = .ok (.if_icmp .ne 11, 3) := by decide +kernel
theorem dX11_layWay_109 : decode cX11_layWay 109 = .ok (.aload_n 0, 1) := by decide +kernel
theorem dX11_layWay_110 : decode cX11_layWay 110 = .ok (.iload_n 2, 1) := by decide +kernel
theorem dX11_layWay_111 : decode cX11_layWay 111 = .ok (.invokevirtual 116, 3) := by decide +kernel
theorem dX11_layWay_114 : decode cX11_layWay 114 = .ok (.goto 8, 3) := by decide +kernel
theorem dX11_layWay_117 : decode cX11_layWay 117 = .ok (.aload_n 0, 1) := by decide +kernel
theorem dX11_layWay_118 : decode cX11_layWay 118 = .ok (.iload_n 2, 1) := by decide +kernel
theorem dX11_layWay_119 : decode cX11_layWay 119 = .ok (.invokevirtual 120, 3) := by decide +kernel
theorem dX11_layWay_122 : decode cX11_layWay 122 = .ok (.iinc 2 1, 3) := by decide +kernel
theorem dX11_layWay_125 : decode cX11_layWay 125 = .ok (.goto (-72), 3) := by decide +kernel
theorem dX11_layWay_128 : decode cX11_layWay 128 = .ok (.iload_n 1, 1) := by decide +kernel
theorem dX11_layWay_129 : decode cX11_layWay 129 = .ok (.iconst 4, 1) := by decide +kernel
theorem dX11_layWay_130 : decode cX11_layWay 130 = .ok (.if_icmp .ne 11, 3) := by decide +kernel
theorem dX11_layWay_133 : decode cX11_layWay 133 = .ok (.aload_n 0, 1) := by decide +kernel
theorem dX11_layWay_134 : decode cX11_layWay 134 = .ok (.aload_n 0, 1) := by decide +kernel
theorem dX11_layWay_135 : decode cX11_layWay 135 = .ok (.invokevirtual 123, 3) := by decide +kernel
theorem dX11_layWay_138 : decode cX11_layWay 138 = .ok (.putfield 76, 3) := by decide +kernel
theorem dX11_layWay_141 : decode cX11_layWay 141 = .ok (.iload_n 1, 1) := by decide +kernel
theorem dX11_layWay_142 : decode cX11_layWay 142 = .ok (.iconst 5, 1) := by decide +kernel
theorem dX11_layWay_143 : decode cX11_layWay 143 = .ok (.if_icmp .ne 7, 3) := by decide +kernel
theorem dX11_layWay_146 : decode cX11_layWay 146 = .ok (.aload_n 0, 1) := by decide +kernel
theorem dX11_layWay_147 : decode cX11_layWay 147 = .ok (.invokevirtual 126, 3) := by decide +kernel
theorem dX11_layWay_150 : decode cX11_layWay 150 = .ok (.return_, 1) := by decide +kernel
set_option maxRecDepth 20000 in
theorem ggX11_bestOf_X11_bits : GoodIn wsX11_bestOf wsX11_bits := goodIn_r _ [5] (by decide +kernel) (by decide +kernel)
set_option maxRecDepth 20000 in
theorem gX11_bestOf_X11_bits : GoodIn wsX11_bestOf (va_wsS RX11 60 yX11_bits wsX11_bits) := goodIn_app (goodIn_of _ (by decide +kernel)) ggX11_bestOf_X11_bits
set_option maxRecDepth 20000 in
theorem ggX11_bestOf_X11_worthOf : GoodIn wsX11_bestOf wsX11_worthOf := goodIn_r _ [9, 10, 11, 12, 13, 2, 3, 4, 5, 23, 24, 25, 26, 27, 28, 29, 30, 31, 32, 33, 34, 35, 36, 37, 38, 39] (by decide +kernel) (by decide +kernel)
set_option maxRecDepth 20000 in
theorem gX11_bestOf_X11_worthOf : GoodIn wsX11_bestOf (wsV RX11 70 RX11 yX11_worthOf wsX11_worthOf) := goodIn_app (goodIn_of _ (by decide +kernel)) ggX11_bestOf_X11_worthOf
set_option maxRecDepth 20000 in
theorem ggX11_bestOf_X11_barOf : GoodIn wsX11_bestOf wsX11_barOf := goodIn_r _ [17, 18, 19, 20, 21, 4, 22, 2, 3, 5, 23, 24, 25, 26, 27, 28, 29, 30, 31, 32, 33, 34, 35, 36, 37, 38, 39] (by decide +kernel) (by decide +kernel)
set_option maxRecDepth 20000 in
theorem gX11_bestOf_X11_barOf : GoodIn wsX11_bestOf (wsV RX11 67 RX11 yX11_barOf wsX11_barOf) := goodIn_app (goodIn_of _ (by decide +kernel)) ggX11_bestOf_X11_barOf
theorem dX11_bestOf_0 : decode cX11_bestOf 0 = .ok (.iconst 0, 1) := by decide +kernel
theorem dX11_bestOf_1 : decode cX11_bestOf 1 = .ok (.istore_n 1, 1) := by decide +kernel
theorem dX11_bestOf_2 : decode cX11_bestOf 2 = .ok (.iconst (-1), 1) := by decide +kernel
theorem dX11_bestOf_3 : decode cX11_bestOf 3 = .ok (.istore_n 2, 1) := by decide +kernel
theorem dX11_bestOf_4 : decode cX11_bestOf 4 = .ok (.iconst 0, 1) := by decide +kernel
theorem dX11_bestOf_5 : decode cX11_bestOf 5 = .ok (.istore_n 3, 1) := by decide +kernel
theorem dX11_bestOf_6 : decode cX11_bestOf 6 = .ok (.iload_n 3, 1) := by decide +kernel
theorem dX11_bestOf_7 : decode cX11_bestOf 7 = .ok (.sipush 256, 3) := by decide +kernel
theorem dX11_bestOf_10 : decode cX11_bestOf 10 = .ok (.if_icmp .ge 45, 3) := by decide +kernel
theorem dX11_bestOf_13 : decode cX11_bestOf 13 = .ok (.iload_n 3, 1) := by decide +kernel
theorem dX11_bestOf_14 : decode cX11_bestOf 14 = .ok (.invokestatic 60, 3) := by decide +kernel
theorem dX11_bestOf_17 : decode cX11_bestOf 17 = .ok (.aload_n 0, 1) := by decide +kernel
theorem dX11_bestOf_18 : decode cX11_bestOf 18 = .ok (.getfield 16, 3) := by decide +kernel
theorem dX11_bestOf_21 : decode cX11_bestOf 21 = .ok (.if_icmp .ne 28, 3) := by decide +kernel
theorem dX11_bestOf_24 : decode cX11_bestOf 24 = .ok (.aload_n 0, 1) := by decide +kernel
theorem dX11_bestOf_25 : decode cX11_bestOf 25 = .ok (.iload_n 3, 1) := by decide +kernel
theorem dX11_bestOf_26 : decode cX11_bestOf 26 = .ok (.invokevirtual 70, 3) := by decide +kernel
theorem dX11_bestOf_29 : decode cX11_bestOf 29 = .ok (.iload_n 2, 1) := by decide +kernel
theorem dX11_bestOf_30 : decode cX11_bestOf 30 = .ok (.if_icmp .le 19, 3) := by decide +kernel
theorem dX11_bestOf_33 : decode cX11_bestOf 33 = .ok (.aload_n 0, 1) := by decide +kernel
theorem dX11_bestOf_34 : decode cX11_bestOf 34 = .ok (.iload_n 3, 1) := by decide +kernel
theorem dX11_bestOf_35 : decode cX11_bestOf 35 = .ok (.invokevirtual 67, 3) := by decide +kernel
theorem dX11_bestOf_38 : decode cX11_bestOf 38 = .ok (.ifCond .ge 11, 3) := by decide +kernel
theorem dX11_bestOf_41 : decode cX11_bestOf 41 = .ok (.iload_n 3, 1) := by decide +kernel
theorem dX11_bestOf_42 : decode cX11_bestOf 42 = .ok (.istore_n 1, 1) := by decide +kernel
theorem dX11_bestOf_43 : decode cX11_bestOf 43 = .ok (.aload_n 0, 1) := by decide +kernel
theorem dX11_bestOf_44 : decode cX11_bestOf 44 = .ok (.iload_n 3, 1) := by decide +kernel
theorem dX11_bestOf_45 : decode cX11_bestOf 45 = .ok (.invokevirtual 70, 3) := by decide +kernel
theorem dX11_bestOf_48 : decode cX11_bestOf 48 = .ok (.istore_n 2, 1) := by decide +kernel
theorem dX11_bestOf_49 : decode cX11_bestOf 49 = .ok (.iinc 3 1, 3) := by decide +kernel
theorem dX11_bestOf_52 : decode cX11_bestOf 52 = .ok (.goto (-46), 3) := by decide +kernel
theorem dX11_bestOf_55 : decode cX11_bestOf 55 = .ok (.iload_n 1, 1) := by decide +kernel
theorem dX11_bestOf_56 : decode cX11_bestOf 56 = .ok (.ireturn, 1) := by decide +kernel
set_option maxRecDepth 20000 in
theorem ggX11_mend_X11_isLeft : GoodIn wsX11_mend wsX11_isLeft := goodIn_r _ [6, 1, 18, 19, 20, 21, 22, 23, 24, 25, 26, 27, 28, 29, 30, 31, 32, 33, 34] (by decide +kernel) (by decide +kernel)
set_option maxRecDepth 20000 in
theorem gX11_mend_X11_isLeft : GoodIn wsX11_mend (wsV RX11 79 RX11 yX11_isLeft wsX11_isLeft) := goodIn_app (goodIn_of _ (by decide +kernel)) ggX11_mend_X11_isLeft
set_option maxRecDepth 20000 in
theorem ggX11_mend_X11_worthOf : GoodIn wsX11_mend wsX11_worthOf := goodIn_r _ [10, 11, 12, 13, 14, 15, 16, 5, 17, 18, 19, 20, 21, 22, 23, 24, 25, 26, 27, 28, 29, 30, 31, 32, 33, 34] (by decide +kernel) (by decide +kernel)
set_option maxRecDepth 20000 in
theorem gX11_mend_X11_worthOf : GoodIn wsX11_mend (wsV RX11 70 RX11 yX11_worthOf wsX11_worthOf) := goodIn_app (goodIn_of _ (by decide +kernel)) ggX11_mend_X11_worthOf
theorem dX11_mend_0 : decode cX11_mend 0 = .ok (.iconst 1, 1) := by decide +kernel
theorem dX11_mend_1 : decode cX11_mend 1 = .ok (.istore_n 1, 1) := by decide +kernel
theorem dX11_mend_2 : decode cX11_mend 2 = .ok (.iload_n 1, 1) := by decide +kernel
theorem dX11_mend_3 : decode cX11_mend 3 = .ok (.ifCond .eq 115, 3) := by decide +kernel
theorem dX11_mend_6 : decode cX11_mend 6 = .ok (.aload_n 0, 1) := by decide +kernel
theorem dX11_mend_7 : decode cX11_mend 7 = .ok (.getfield 76, 3) := by decide +kernel
theorem dX11_mend_10 : decode cX11_mend 10 = .ok (.istore_n 2, 1) := by decide +kernel
theorem dX11_mend_11 : decode cX11_mend 11 = .ok (.iconst 0, 1) := by decide +kernel
theorem dX11_mend_12 : decode cX11_mend 12 = .ok (.istore_n 3, 1) := by decide +kernel
theorem dX11_mend_13 : decode cX11_mend 13 = .ok (.iload_n 3, 1) := by decide +kernel
theorem dX11_mend_14 : decode cX11_mend 14 = .ok (.bipush 8, 2) := by decide +kernel
theorem dX11_mend_16 : decode cX11_mend 16 = .ok (.if_icmp .ge 80, 3) := by decide +kernel
theorem dX11_mend_19 : decode cX11_mend 19 = .ok (.iconst 0, 1) := by decide +kernel
theorem dX11_mend_20 : decode cX11_mend 20 = .ok (.istore 4, 2) := by decide +kernel
theorem dX11_mend_22 : decode cX11_mend 22 = .ok (.iload 4, 2) := by decide +kernel
theorem dX11_mend_24 : decode cX11_mend 24 = .ok (.bipush 8, 2) := by decide +kernel
theorem dX11_mend_26 : decode cX11_mend 26 = .ok (.if_icmp .ge 64, 3) := by decide +kernel
theorem dX11_mend_29 : decode cX11_mend 29 = .ok (.aload_n 0, 1) := by decide +kernel
theorem dX11_mend_30 : decode cX11_mend 30 = .ok (.iload_n 3, 1) := by decide +kernel
theorem dX11_mend_31 : decode cX11_mend 31 = .ok (.invokevirtual 79, 3) := by decide +kernel
theorem dX11_mend_34 : decode cX11_mend 34 = .ok (.ifCond .ne 56, 3) := by decide +kernel
theorem dX11_mend_37 : decode cX11_mend 37 = .ok (.aload_n 0, 1) := by decide +kernel
theorem dX11_mend_38 : decode cX11_mend 38 = .ok (.getfield 76, 3) := by decide +kernel
theorem dX11_mend_41 : decode cX11_mend 41 = .ok (.iconst 1, 1) := by decide +kernel
theorem dX11_mend_42 : decode cX11_mend 42 = .ok (.iload_n 3, 1) := by decide +kernel
theorem dX11_mend_43 : decode cX11_mend 43 = .ok (.ishl, 1) := by decide +kernel
theorem dX11_mend_44 : decode cX11_mend 44 = .ok (.iconst (-1), 1) := by decide +kernel
theorem dX11_mend_45 : decode cX11_mend 45 = .ok (.ixor, 1) := by decide +kernel
theorem dX11_mend_46 : decode cX11_mend 46 = .ok (.iand, 1) := by decide +kernel
theorem dX11_mend_47 : decode cX11_mend 47 = .ok (.iconst 1, 1) := by decide +kernel
theorem dX11_mend_48 : decode cX11_mend 48 = .ok (.iload 4, 2) := by decide +kernel
theorem dX11_mend_50 : decode cX11_mend 50 = .ok (.ishl, 1) := by decide +kernel
theorem dX11_mend_51 : decode cX11_mend 51 = .ok (.ior, 1) := by decide +kernel
theorem dX11_mend_52 : decode cX11_mend 52 = .ok (.istore 5, 2) := by decide +kernel
theorem dX11_mend_54 : decode cX11_mend 54 = .ok (.aload_n 0, 1) := by decide +kernel
theorem dX11_mend_55 : decode cX11_mend 55 = .ok (.iload 4, 2) := by decide +kernel
theorem dX11_mend_57 : decode cX11_mend 57 = .ok (.invokevirtual 79, 3) := by decide +kernel
theorem dX11_mend_60 : decode cX11_mend 60 = .ok (.ifCond .eq 22, 3) := by decide +kernel
theorem dX11_mend_63 : decode cX11_mend 63 = .ok (.aload_n 0, 1) := by decide +kernel
theorem dX11_mend_64 : decode cX11_mend 64 = .ok (.iload 5, 2) := by decide +kernel
theorem dX11_mend_66 : decode cX11_mend 66 = .ok (.invokevirtual 70, 3) := by decide +kernel
theorem dX11_mend_69 : decode cX11_mend 69 = .ok (.aload_n 0, 1) := by decide +kernel
theorem dX11_mend_70 : decode cX11_mend 70 = .ok (.iload_n 2, 1) := by decide +kernel
theorem dX11_mend_71 : decode cX11_mend 71 = .ok (.invokevirtual 70, 3) := by decide +kernel
theorem dX11_mend_74 : decode cX11_mend 74 = .ok (.if_icmp .le 8, 3) := by decide +kernel
theorem dX11_mend_77 : decode cX11_mend 77 = .ok (.iload 5, 2) := by decide +kernel
theorem dX11_mend_79 : decode cX11_mend 79 = .ok (.goto 4, 3) := by decide +kernel
theorem dX11_mend_82 : decode cX11_mend 82 = .ok (.iload_n 2, 1) := by decide +kernel
theorem dX11_mend_83 : decode cX11_mend 83 = .ok (.istore_n 2, 1) := by decide +kernel
theorem dX11_mend_84 : decode cX11_mend 84 = .ok (.iinc 4 1, 3) := by decide +kernel
theorem dX11_mend_87 : decode cX11_mend 87 = .ok (.goto (-65), 3) := by decide +kernel
theorem dX11_mend_90 : decode cX11_mend 90 = .ok (.iinc 3 1, 3) := by decide +kernel
theorem dX11_mend_93 : decode cX11_mend 93 = .ok (.goto (-80), 3) := by decide +kernel
theorem dX11_mend_96 : decode cX11_mend 96 = .ok (.iload_n 2, 1) := by decide +kernel
theorem dX11_mend_97 : decode cX11_mend 97 = .ok (.aload_n 0, 1) := by decide +kernel
theorem dX11_mend_98 : decode cX11_mend 98 = .ok (.getfield 76, 3) := by decide +kernel
theorem dX11_mend_101 : decode cX11_mend 101 = .ok (.if_icmp .eq 7, 3) := by decide +kernel
theorem dX11_mend_104 : decode cX11_mend 104 = .ok (.iconst 1, 1) := by decide +kernel
theorem dX11_mend_105 : decode cX11_mend 105 = .ok (.goto 4, 3) := by decide +kernel
theorem dX11_mend_108 : decode cX11_mend 108 = .ok (.iconst 0, 1) := by decide +kernel
theorem dX11_mend_109 : decode cX11_mend 109 = .ok (.istore_n 1, 1) := by decide +kernel
theorem dX11_mend_110 : decode cX11_mend 110 = .ok (.aload_n 0, 1) := by decide +kernel
theorem dX11_mend_111 : decode cX11_mend 111 = .ok (.iload_n 2, 1) := by decide +kernel
theorem dX11_mend_112 : decode cX11_mend 112 = .ok (.putfield 76, 3) := by decide +kernel
theorem dX11_mend_115 : decode cX11_mend 115 = .ok (.goto (-113), 3) := by decide +kernel
theorem dX11_mend_118 : decode cX11_mend 118 = .ok (.return_, 1) := by decide +kernel
set_option maxRecDepth 20000 in
theorem ggX11_isWay_X11_in : GoodIn wsX11_isWay wsX11_in := goodIn_r _ [4] (by decide +kernel) (by decide +kernel)
set_option maxRecDepth 20000 in
theorem gX11_isWay_X11_in : GoodIn wsX11_isWay (va_wsS RX11 42 yX11_in wsX11_in) := goodIn_app (goodIn_of _ (by decide +kernel)) ggX11_isWay_X11_in
theorem dX11_isWay_0 : decode cX11_isWay 0 = .ok (.iload_n 0, 1) := by decide +kernel
theorem dX11_isWay_1 : decode cX11_isWay 1 = .ok (.iconst 0, 1) := by decide +kernel
theorem dX11_isWay_2 : decode cX11_isWay 2 = .ok (.iconst 5, 1) := by decide +kernel
theorem dX11_isWay_3 : decode cX11_isWay 3 = .ok (.invokestatic 42, 3) := by decide +kernel
theorem dX11_isWay_6 : decode cX11_isWay 6 = .ok (.ireturn, 1) := by decide +kernel
theorem dX11_nth_0 : decode cX11_nth 0 = .ok (.iconst 0, 1) := by decide +kernel
theorem dX11_nth_1 : decode cX11_nth 1 = .ok (.istore_n 2, 1) := by decide +kernel
theorem dX11_nth_2 : decode cX11_nth 2 = .ok (.iconst 0, 1) := by decide +kernel
theorem dX11_nth_3 : decode cX11_nth 3 = .ok (.istore_n 3, 1) := by decide +kernel
theorem dX11_nth_4 : decode cX11_nth 4 = .ok (.iload_n 3, 1) := by decide +kernel
theorem dX11_nth_5 : decode cX11_nth 5 = .ok (.bipush 8, 2) := by decide +kernel
theorem dX11_nth_7 : decode cX11_nth 7 = .ok (.if_icmp .ge 28, 3) := by decide +kernel
theorem dX11_nth_10 : decode cX11_nth 10 = .ok (.iload_n 0, 1) := by decide +kernel
theorem dX11_nth_11 : decode cX11_nth 11 = .ok (.iload_n 3, 1) := by decide +kernel
theorem dX11_nth_12 : decode cX11_nth 12 = .ok (.ishr, 1) := by decide +kernel
theorem dX11_nth_13 : decode cX11_nth 13 = .ok (.iconst 1, 1) := by decide +kernel
theorem dX11_nth_14 : decode cX11_nth 14 = .ok (.iand, 1) := by decide +kernel
theorem dX11_nth_15 : decode cX11_nth 15 = .ok (.iconst 1, 1) := by decide +kernel
theorem dX11_nth_16 : decode cX11_nth 16 = .ok (.if_icmp .ne 13, 3) := by decide +kernel
theorem dX11_nth_19 : decode cX11_nth 19 = .ok (.iload_n 2, 1) := by decide +kernel
theorem dX11_nth_20 : decode cX11_nth 20 = .ok (.iload_n 1, 1) := by decide +kernel
theorem dX11_nth_21 : decode cX11_nth 21 = .ok (.if_icmp .ne 5, 3) := by decide +kernel
theorem dX11_nth_24 : decode cX11_nth 24 = .ok (.iload_n 3, 1) := by decide +kernel
theorem dX11_nth_25 : decode cX11_nth 25 = .ok (.ireturn, 1) := by decide +kernel
theorem dX11_nth_26 : decode cX11_nth 26 = .ok (.iinc 2 1, 3) := by decide +kernel
theorem dX11_nth_29 : decode cX11_nth 29 = .ok (.iinc 3 1, 3) := by decide +kernel
theorem dX11_nth_32 : decode cX11_nth 32 = .ok (.goto (-28), 3) := by decide +kernel
theorem dX11_nth_35 : decode cX11_nth 35 = .ok (.bipush (-6), 2) := by decide +kernel
theorem dX11_nth_37 : decode cX11_nth 37 = .ok (.ireturn, 1) := by decide +kernel
set_option maxRecDepth 20000 in
theorem ggX11_choose_X11_isWay : GoodIn wsX11_choose wsX11_isWay := goodIn_r _ [7, 8, 9, 6, 10] (by decide +kernel) (by decide +kernel)
set_option maxRecDepth 20000 in
theorem gX11_choose_X11_isWay : GoodIn wsX11_choose (va_wsS RX11 129 yX11_isWay wsX11_isWay) := goodIn_app (goodIn_of _ (by decide +kernel)) ggX11_choose_X11_isWay
set_option maxRecDepth 20000 in
theorem ggX11_choose_X11_layWay : GoodIn wsX11_choose wsX11_layWay := goodIn_r _ [14, 1, 15, 16, 17, 2, 18, 19, 20, 6, 21, 22, 23, 24, 25, 26, 27, 28, 29, 30, 31, 32, 33, 34, 35, 36, 3, 37, 38, 39, 40, 41, 42, 43, 44, 45, 46, 47, 48, 49, 50, 51, 52, 53, 54, 55, 56, 57, 58, 59, 60, 61, 62, 63, 64, 65, 66, 67, 68, 69, 70, 71, 72, 73, 74, 75, 76, 77, 78, 79, 80, 8, 9, 10, 81, 82, 83, 84, 88, 89, 90, 91, 92, 93, 94, 95, 96, 97, 98, 99, 100, 101, 102, 103, 104] (by decide +kernel) (by decide +kernel)
set_option maxRecDepth 20000 in
theorem gX11_choose_X11_layWay : GoodIn wsX11_choose (wsV RX11 132 RX11 yX11_layWay wsX11_layWay) := goodIn_app (goodIn_of _ (by decide +kernel)) ggX11_choose_X11_layWay
set_option maxRecDepth 20000 in
theorem ggX11_choose_X11_nth : GoodIn wsX11_choose wsX11_nth := goodIn_r _ [87] (by decide +kernel) (by decide +kernel)
set_option maxRecDepth 20000 in
theorem gX11_choose_X11_nth : GoodIn wsX11_choose (va_wsS RX11 135 yX11_nth wsX11_nth) := goodIn_app (goodIn_of _ (by decide +kernel)) ggX11_choose_X11_nth
set_option maxRecDepth 20000 in
theorem ggX11_choose_X11_in : GoodIn wsX11_choose wsX11_in := goodIn_r _ [10] (by decide +kernel) (by decide +kernel)
set_option maxRecDepth 20000 in
theorem gX11_choose_X11_in : GoodIn wsX11_choose (va_wsS RX11 42 yX11_in wsX11_in) := goodIn_app (goodIn_of _ (by decide +kernel)) ggX11_choose_X11_in
theorem dX11_choose_0 : decode cX11_choose 0 = .ok (.iload_n 1, 1) := by decide +kernel
theorem dX11_choose_1 : decode cX11_choose 1 = .ok (.invokestatic 129, 3) := by decide +kernel
theorem dX11_choose_4 : decode cX11_choose 4 = .ok (.ifCond .ne 5, 3) := by decide +kernel
theorem dX11_choose_7 : decode cX11_choose 7 = .ok (.iconst (-1), 1) := by decide +kernel
theorem dX11_choose_8 : decode cX11_choose 8 = .ok (.ireturn, 1) := by decide +kernel
theorem dX11_choose_9 : decode cX11_choose 9 = .ok (.aload_n 0, 1) := by decide +kernel
theorem dX11_choose_10 : decode cX11_choose 10 = .ok (.iload_n 1, 1) := by decide +kernel
theorem dX11_choose_11 : decode cX11_choose 11 = .ok (.invokevirtual 132, 3) := by decide +kernel
theorem dX11_choose_14 : decode cX11_choose 14 = .ok (.iload_n 2, 1) := by decide +kernel
theorem dX11_choose_15 : decode cX11_choose 15 = .ok (.iconst (-1), 1) := by decide +kernel
theorem dX11_choose_16 : decode cX11_choose 16 = .ok (.if_icmp .ne 10, 3) := by decide +kernel
theorem dX11_choose_19 : decode cX11_choose 19 = .ok (.aload_n 0, 1) := by decide +kernel
theorem dX11_choose_20 : decode cX11_choose 20 = .ok (.getfield 76, 3) := by decide +kernel
theorem dX11_choose_23 : decode cX11_choose 23 = .ok (.goto 44, 3) := by decide +kernel
theorem dX11_choose_26 : decode cX11_choose 26 = .ok (.iload_n 1, 1) := by decide +kernel
theorem dX11_choose_27 : decode cX11_choose 27 = .ok (.iconst 3, 1) := by decide +kernel
theorem dX11_choose_28 : decode cX11_choose 28 = .ok (.if_icmp .le 14, 3) := by decide +kernel
theorem dX11_choose_31 : decode cX11_choose 31 = .ok (.aload_n 0, 1) := by decide +kernel
theorem dX11_choose_32 : decode cX11_choose 32 = .ok (.getfield 76, 3) := by decide +kernel
theorem dX11_choose_35 : decode cX11_choose 35 = .ok (.iload_n 2, 1) := by decide +kernel
theorem dX11_choose_36 : decode cX11_choose 36 = .ok (.invokestatic 135, 3) := by decide +kernel
theorem dX11_choose_39 : decode cX11_choose 39 = .ok (.goto 28, 3) := by decide +kernel
theorem dX11_choose_42 : decode cX11_choose 42 = .ok (.iload_n 2, 1) := by decide +kernel
theorem dX11_choose_43 : decode cX11_choose 43 = .ok (.iconst 0, 1) := by decide +kernel
theorem dX11_choose_44 : decode cX11_choose 44 = .ok (.aload_n 0, 1) := by decide +kernel
theorem dX11_choose_45 : decode cX11_choose 45 = .ok (.getfield 16, 3) := by decide +kernel
theorem dX11_choose_48 : decode cX11_choose 48 = .ok (.iconst 1, 1) := by decide +kernel
theorem dX11_choose_49 : decode cX11_choose 49 = .ok (.isub, 1) := by decide +kernel
theorem dX11_choose_50 : decode cX11_choose 50 = .ok (.invokestatic 42, 3) := by decide +kernel
theorem dX11_choose_53 : decode cX11_choose 53 = .ok (.ifCond .eq 12, 3) := by decide +kernel
theorem dX11_choose_56 : decode cX11_choose 56 = .ok (.aload_n 0, 1) := by decide +kernel
theorem dX11_choose_57 : decode cX11_choose 57 = .ok (.getfield 29, 3) := by decide +kernel
theorem dX11_choose_60 : decode cX11_choose 60 = .ok (.iload_n 2, 1) := by decide +kernel
theorem dX11_choose_61 : decode cX11_choose 61 = .ok (.iaload, 1) := by decide +kernel
theorem dX11_choose_62 : decode cX11_choose 62 = .ok (.goto 5, 3) := by decide +kernel
theorem dX11_choose_65 : decode cX11_choose 65 = .ok (.bipush (-6), 2) := by decide +kernel
theorem dX11_choose_67 : decode cX11_choose 67 = .ok (.ireturn, 1) := by decide +kernel
theorem dX11_term_0 : decode cX11_term 0 = .ok (.lload_n 0, 1) := by decide +kernel
theorem dX11_term_1 : decode cX11_term 1 = .ok (.lstore 5, 2) := by decide +kernel
theorem dX11_term_3 : decode cX11_term 3 = .ok (.lload_n 2, 1) := by decide +kernel
theorem dX11_term_4 : decode cX11_term 4 = .ok (.lstore 7, 2) := by decide +kernel
theorem dX11_term_6 : decode cX11_term 6 = .ok (.lload 7, 2) := by decide +kernel
theorem dX11_term_8 : decode cX11_term 8 = .ok (.lconst 0, 1) := by decide +kernel
theorem dX11_term_9 : decode cX11_term 9 = .ok (.lcmp, 1) := by decide +kernel
theorem dX11_term_10 : decode cX11_term 10 = .ok (.ifCond .eq 21, 3) := by decide +kernel
theorem dX11_term_13 : decode cX11_term 13 = .ok (.lload 5, 2) := by decide +kernel
theorem dX11_term_15 : decode cX11_term 15 = .ok (.lload 7, 2) := by decide +kernel
theorem dX11_term_17 : decode cX11_term 17 = .ok (.lrem, 1) := by decide +kernel
theorem dX11_term_18 : decode cX11_term 18 = .ok (.lstore 9, 2) := by decide +kernel
theorem dX11_term_20 : decode cX11_term 20 = .ok (.lload 7, 2) := by decide +kernel
theorem dX11_term_22 : decode cX11_term 22 = .ok (.lstore 5, 2) := by decide +kernel
theorem dX11_term_24 : decode cX11_term 24 = .ok (.lload 9, 2) := by decide +kernel
theorem dX11_term_26 : decode cX11_term 26 = .ok (.lstore 7, 2) := by decide +kernel
theorem dX11_term_28 : decode cX11_term 28 = .ok (.goto (-22), 3) := by decide +kernel
theorem dX11_term_31 : decode cX11_term 31 = .ok (.iload 4, 2) := by decide +kernel
theorem dX11_term_33 : decode cX11_term 33 = .ok (.ifCond .ne 10, 3) := by decide +kernel
theorem dX11_term_36 : decode cX11_term 36 = .ok (.lload_n 0, 1) := by decide +kernel
theorem dX11_term_37 : decode cX11_term 37 = .ok (.lload 5, 2) := by decide +kernel
theorem dX11_term_39 : decode cX11_term 39 = .ok (.ldiv, 1) := by decide +kernel
theorem dX11_term_40 : decode cX11_term 40 = .ok (.goto 7, 3) := by decide +kernel
theorem dX11_term_43 : decode cX11_term 43 = .ok (.lload_n 2, 1) := by decide +kernel
theorem dX11_term_44 : decode cX11_term 44 = .ok (.lload 5, 2) := by decide +kernel
theorem dX11_term_46 : decode cX11_term 46 = .ok (.ldiv, 1) := by decide +kernel
theorem dX11_term_47 : decode cX11_term 47 = .ok (.lreturn, 1) := by decide +kernel
set_option maxRecDepth 20000 in
theorem ggX11_behind_X11_isHeap : GoodIn wsX11_behind wsX11_isHeap := goodIn_r _ [10, 11, 12, 13, 9, 14, 91, 92, 93, 94, 95, 96, 97, 98, 99, 100, 101, 102, 103, 104, 105, 106, 107] (by decide +kernel) (by decide +kernel)
set_option maxRecDepth 20000 in
theorem gX11_behind_X11_isHeap : GoodIn wsX11_behind (wsV RX11 46 RX11 yX11_isHeap wsX11_isHeap) := goodIn_app (goodIn_of _ (by decide +kernel)) ggX11_behind_X11_isHeap
set_option maxRecDepth 20000 in
theorem ggX11_behind_X11_in : GoodIn wsX11_behind wsX11_in := goodIn_r _ [14] (by decide +kernel) (by decide +kernel)
set_option maxRecDepth 20000 in
theorem gX11_behind_X11_in : GoodIn wsX11_behind (va_wsS RX11 42 yX11_in wsX11_in) := goodIn_app (goodIn_of _ (by decide +kernel)) ggX11_behind_X11_in
set_option maxRecDepth 20000 in
theorem ggX11_behind_X11_layWay : GoodIn wsX11_behind wsX11_layWay := goodIn_r _ [18, 19, 20, 5, 4, 2, 21, 22, 23, 9, 24, 25, 26, 27, 28, 29, 30, 31, 32, 11, 33, 34, 35, 36, 37, 38, 39, 40, 41, 42, 43, 44, 45, 46, 47, 48, 49, 50, 51, 52, 53, 54, 55, 56, 57, 58, 59, 60, 61, 62, 63, 64, 65, 66, 67, 68, 69, 70, 71, 72, 73, 74, 75, 76, 77, 78, 79, 80, 81, 82, 83, 12, 13, 14, 84, 85, 86, 87, 91, 92, 93, 94, 95, 96, 97, 98, 99, 100, 101, 102, 103, 104, 105, 106, 107] (by decide +kernel) (by decide +kernel)
set_option maxRecDepth 20000 in
theorem gX11_behind_X11_layWay : GoodIn wsX11_behind (wsV RX11 132 RX11 yX11_layWay wsX11_layWay) := goodIn_app (goodIn_of _ (by decide +kernel)) ggX11_behind_X11_layWay
set_option maxRecDepth 20000 in
theorem ggX11_behind_X11_term : GoodIn wsX11_behind wsX11_term := goodIn_r _ [90] (by decide +kernel) (by decide +kernel)
set_option maxRecDepth 20000 in
theorem gX11_behind_X11_term : GoodIn wsX11_behind (va_wsS RX11 143 yX11_term wsX11_term) := goodIn_app (goodIn_of _ (by decide +kernel)) ggX11_behind_X11_term
theorem dX11_behind_0 : decode cX11_behind 0 = .ok (.aload_n 0, 1) := by decide +kernel
theorem dX11_behind_1 : decode cX11_behind 1 = .ok (.iload_n 2, 1) := by decide +kernel
theorem dX11_behind_2 : decode cX11_behind 2 = .ok (.invokevirtual 46, 3) := by decide +kernel
theorem dX11_behind_5 : decode cX11_behind 5 = .ok (.ifCond .ne 7, 3) := by decide +kernel
theorem dX11_behind_8 : decode cX11_behind 8 = .ok (.ldc2_w 139, 3) := by decide +kernel
theorem dX11_behind_11 : decode cX11_behind 11 = .ok (.lreturn, 1) := by decide +kernel
theorem dX11_behind_12 : decode cX11_behind 12 = .ok (.iload_n 3, 1) := by decide +kernel
theorem dX11_behind_13 : decode cX11_behind 13 = .ok (.iconst 0, 1) := by decide +kernel
theorem dX11_behind_14 : decode cX11_behind 14 = .ok (.aload_n 0, 1) := by decide +kernel
theorem dX11_behind_15 : decode cX11_behind 15 = .ok (.getfield 16, 3) := by decide +kernel
theorem dX11_behind_18 : decode cX11_behind 18 = .ok (.invokestatic 42, 3) := by decide +kernel
theorem dX11_behind_21 : decode cX11_behind 21 = .ok (.ifCond .eq 13, 3) := by decide +kernel
theorem dX11_behind_24 : decode cX11_behind 24 = .ok (.iload 4, 2) := by decide +kernel
theorem dX11_behind_26 : decode cX11_behind 26 = .ok (.iconst 0, 1) := by decide +kernel
theorem dX11_behind_27 : decode cX11_behind 27 = .ok (.iconst 1, 1) := by decide +kernel
theorem dX11_behind_28 : decode cX11_behind 28 = .ok (.invokestatic 42, 3) := by decide +kernel
theorem dX11_behind_31 : decode cX11_behind 31 = .ok (.ifCond .ne 7, 3) := by decide +kernel
theorem dX11_behind_34 : decode cX11_behind 34 = .ok (.ldc2_w 141, 3) := by decide +kernel
theorem dX11_behind_37 : decode cX11_behind 37 = .ok (.lreturn, 1) := by decide +kernel
theorem dX11_behind_38 : decode cX11_behind 38 = .ok (.aload_n 0, 1) := by decide +kernel
theorem dX11_behind_39 : decode cX11_behind 39 = .ok (.iload_n 1, 1) := by decide +kernel
theorem dX11_behind_40 : decode cX11_behind 40 = .ok (.invokevirtual 132, 3) := by decide +kernel
theorem dX11_behind_43 : decode cX11_behind 43 = .ok (.aload_n 0, 1) := by decide +kernel
theorem dX11_behind_44 : decode cX11_behind 44 = .ok (.getfield 32, 3) := by decide +kernel
theorem dX11_behind_47 : decode cX11_behind 47 = .ok (.bipush 7, 2) := by decide +kernel
theorem dX11_behind_49 : decode cX11_behind 49 = .ok (.iload_n 3, 1) := by decide +kernel
theorem dX11_behind_50 : decode cX11_behind 50 = .ok (.imul, 1) := by decide +kernel
theorem dX11_behind_51 : decode cX11_behind 51 = .ok (.iload_n 2, 1) := by decide +kernel
theorem dX11_behind_52 : decode cX11_behind 52 = .ok (.iadd, 1) := by decide +kernel
theorem dX11_behind_53 : decode cX11_behind 53 = .ok (.laload, 1) := by decide +kernel
theorem dX11_behind_54 : decode cX11_behind 54 = .ok (.aload_n 0, 1) := by decide +kernel
theorem dX11_behind_55 : decode cX11_behind 55 = .ok (.getfield 36, 3) := by decide +kernel
theorem dX11_behind_58 : decode cX11_behind 58 = .ok (.iload_n 3, 1) := by decide +kernel
theorem dX11_behind_59 : decode cX11_behind 59 = .ok (.laload, 1) := by decide +kernel
theorem dX11_behind_60 : decode cX11_behind 60 = .ok (.iload 4, 2) := by decide +kernel
theorem dX11_behind_62 : decode cX11_behind 62 = .ok (.invokestatic 143, 3) := by decide +kernel
theorem dX11_behind_65 : decode cX11_behind 65 = .ok (.lreturn, 1) := by decide +kernel
set_option maxRecDepth 20000 in
theorem ggX11_load_X11_behind : GoodIn wsX11_load wsX11_behind := goodIn_r _ [5, 6, 7, 8, 9, 10, 11, 12, 13, 4, 14, 15, 16, 17, 18, 19, 20, 21, 22, 23, 24, 25, 26, 27, 28, 29, 30, 31, 32, 33, 34, 35, 36, 37, 38, 39, 40, 41, 42, 43, 44, 45, 46, 47, 48, 49, 50, 51, 52, 53, 54, 55, 56, 57, 58, 59, 60, 61, 62, 63, 64, 65, 66, 67, 68, 69, 70, 71, 72, 73, 74, 75, 76, 77, 78, 79, 80, 81, 82, 83, 84, 85, 86, 87, 88, 89, 90, 91, 92, 93, 94, 95, 96, 97, 98, 99, 100, 101, 102, 103, 104, 105, 106, 107, 108, 109, 110, 111] (by decide +kernel) (by decide +kernel)
set_option maxRecDepth 20000 in
theorem gX11_load_X11_behind : GoodIn wsX11_load (wsV RX11 147 RX11 yX11_behind wsX11_behind) := goodIn_app (goodIn_of _ (by decide +kernel)) ggX11_load_X11_behind
theorem dX11_load_0 : decode cX11_load 0 = .ok (.aload_n 0, 1) := by decide +kernel
theorem dX11_load_1 : decode cX11_load 1 = .ok (.iconst 2, 1) := by decide +kernel
theorem dX11_load_2 : decode cX11_load 2 = .ok (.iload_n 1, 1) := by decide +kernel
theorem dX11_load_3 : decode cX11_load 3 = .ok (.iload_n 2, 1) := by decide +kernel
theorem dX11_load_4 : decode cX11_load 4 = .ok (.iload_n 3, 1) := by decide +kernel
theorem dX11_load_5 : decode cX11_load 5 = .ok (.invokevirtual 147, 3) := by decide +kernel
theorem dX11_load_8 : decode cX11_load 8 = .ok (.lreturn, 1) := by decide +kernel
set_option maxRecDepth 20000 in
theorem ggX11_purse_X11_behind : GoodIn wsX11_purse wsX11_behind := goodIn_r _ [5, 6, 7, 8, 9, 10, 11, 12, 13, 4, 14, 15, 16, 17, 18, 19, 20, 21, 22, 23, 24, 25, 26, 27, 28, 29, 30, 31, 32, 33, 34, 35, 36, 37, 38, 39, 40, 41, 42, 43, 44, 45, 46, 47, 48, 49, 50, 51, 52, 53, 54, 55, 56, 57, 58, 59, 60, 61, 62, 63, 64, 65, 66, 67, 68, 69, 70, 71, 72, 73, 74, 75, 76, 77, 78, 79, 80, 81, 82, 83, 84, 85, 86, 87, 88, 89, 90, 91, 92, 93, 94, 95, 96, 97, 98, 99, 100, 101, 102, 103, 104, 105, 106, 107, 108, 109, 110, 111] (by decide +kernel) (by decide +kernel)
set_option maxRecDepth 20000 in
theorem gX11_purse_X11_behind : GoodIn wsX11_purse (wsV RX11 147 RX11 yX11_behind wsX11_behind) := goodIn_app (goodIn_of _ (by decide +kernel)) ggX11_purse_X11_behind
theorem dX11_purse_0 : decode cX11_purse 0 = .ok (.aload_n 0, 1) := by decide +kernel
theorem dX11_purse_1 : decode cX11_purse 1 = .ok (.iconst 3, 1) := by decide +kernel
theorem dX11_purse_2 : decode cX11_purse 2 = .ok (.iload_n 1, 1) := by decide +kernel
theorem dX11_purse_3 : decode cX11_purse 3 = .ok (.iload_n 2, 1) := by decide +kernel
theorem dX11_purse_4 : decode cX11_purse 4 = .ok (.iload_n 3, 1) := by decide +kernel
theorem dX11_purse_5 : decode cX11_purse 5 = .ok (.invokevirtual 147, 3) := by decide +kernel
theorem dX11_purse_8 : decode cX11_purse 8 = .ok (.lreturn, 1) := by decide +kernel
set_option maxRecDepth 20000 in
theorem ggX11_paid_X11_layWay : GoodIn wsX11_paid wsX11_layWay := goodIn_r _ [6, 7, 1, 8, 9, 10, 11, 12, 13, 5, 14, 15, 16, 17, 18, 19, 20, 21, 22, 23, 24, 25, 26, 27, 28, 29, 30, 31, 32, 33, 34, 35, 36, 37, 38, 39, 40, 41, 42, 43, 44, 45, 46, 47, 48, 49, 50, 51, 52, 53, 54, 55, 56, 57, 58, 59, 60, 61, 62, 63, 64, 65, 66, 67, 68, 69, 70, 71, 72, 73, 74, 75, 76, 77, 78, 79, 80, 81, 82, 83, 84, 85, 86, 87, 88, 89, 90, 91, 92, 93, 94, 95, 96, 97, 98] (by decide +kernel) (by decide +kernel)
set_option maxRecDepth 20000 in
theorem gX11_paid_X11_layWay : GoodIn wsX11_paid (wsV RX11 132 RX11 yX11_layWay wsX11_layWay) := goodIn_app (goodIn_of _ (by decide +kernel)) ggX11_paid_X11_layWay
theorem dX11_paid_0 : decode cX11_paid 0 = .ok (.aload_n 0, 1) := by decide +kernel
theorem dX11_paid_1 : decode cX11_paid 1 = .ok (.iconst 3, 1) := by decide +kernel
theorem dX11_paid_2 : decode cX11_paid 2 = .ok (.invokevirtual 132, 3) := by decide +kernel
theorem dX11_paid_5 : decode cX11_paid 5 = .ok (.aload_n 0, 1) := by decide +kernel
theorem dX11_paid_6 : decode cX11_paid 6 = .ok (.getfield 110, 3) := by decide +kernel
theorem dX11_paid_9 : decode cX11_paid 9 = .ok (.ireturn, 1) := by decide +kernel
set_option maxRecDepth 20000 in
theorem ggX11_isOwed_X11_bits : GoodIn wsX11_isOwed wsX11_bits := goodIn_r _ [8] (by decide +kernel) (by decide +kernel)
set_option maxRecDepth 20000 in
theorem gX11_isOwed_X11_bits : GoodIn wsX11_isOwed (va_wsS RX11 60 yX11_bits wsX11_bits) := goodIn_app (goodIn_of _ (by decide +kernel)) ggX11_isOwed_X11_bits
set_option maxRecDepth 20000 in
theorem ggX11_isOwed_X11_allPapers : GoodIn wsX11_isOwed wsX11_allPapers := goodIn_r _ [12, 1, 3, 13, 14, 15, 16, 17, 18, 19, 20, 21, 22, 23, 24, 25, 26, 27, 28, 29] (by decide +kernel) (by decide +kernel)
set_option maxRecDepth 20000 in
theorem gX11_isOwed_X11_allPapers : GoodIn wsX11_isOwed (wsV RX11 96 RX11 yX11_allPapers wsX11_allPapers) := goodIn_app (goodIn_of _ (by decide +kernel)) ggX11_isOwed_X11_allPapers
theorem dX11_isOwed_0 : decode cX11_isOwed 0 = .ok (.sipush 255, 3) := by decide +kernel
theorem dX11_isOwed_3 : decode cX11_isOwed 3 = .ok (.istore_n 3, 1) := by decide +kernel
theorem dX11_isOwed_4 : decode cX11_isOwed 4 = .ok (.iconst 0, 1) := by decide +kernel
theorem dX11_isOwed_5 : decode cX11_isOwed 5 = .ok (.istore 4, 2) := by decide +kernel
theorem dX11_isOwed_7 : decode cX11_isOwed 7 = .ok (.iconst 0, 1) := by decide +kernel
theorem dX11_isOwed_8 : decode cX11_isOwed 8 = .ok (.istore 5, 2) := by decide +kernel
theorem dX11_isOwed_10 : decode cX11_isOwed 10 = .ok (.iload 5, 2) := by decide +kernel
theorem dX11_isOwed_12 : decode cX11_isOwed 12 = .ok (.aload_n 0, 1) := by decide +kernel
theorem dX11_isOwed_13 : decode cX11_isOwed 13 = .ok (.getfield 39, 3) := by decide +kernel
theorem dX11_isOwed_16 : decode cX11_isOwed 16 = .ok (.if_icmp .ge 41, 3) := by decide +kernel
theorem dX11_isOwed_19 : decode cX11_isOwed 19 = .ok (.iload_n 1, 1) := by decide +kernel
theorem dX11_isOwed_20 : decode cX11_isOwed 20 = .ok (.iload 5, 2) := by decide +kernel
theorem dX11_isOwed_22 : decode cX11_isOwed 22 = .ok (.ishr, 1) := by decide +kernel
theorem dX11_isOwed_23 : decode cX11_isOwed 23 = .ok (.iconst 1, 1) := by decide +kernel
theorem dX11_isOwed_24 : decode cX11_isOwed 24 = .ok (.iand, 1) := by decide +kernel
theorem dX11_isOwed_25 : decode cX11_isOwed 25 = .ok (.iconst 1, 1) := by decide +kernel
theorem dX11_isOwed_26 : decode cX11_isOwed 26 = .ok (.if_icmp .ne 25, 3) := by decide +kernel
theorem dX11_isOwed_29 : decode cX11_isOwed 29 = .ok (.iload_n 3, 1) := by decide +kernel
theorem dX11_isOwed_30 : decode cX11_isOwed 30 = .ok (.aload_n 0, 1) := by decide +kernel
theorem dX11_isOwed_31 : decode cX11_isOwed 31 = .ok (.getfield 7, 3) := by decide +kernel
theorem dX11_isOwed_34 : decode cX11_isOwed 34 = .ok (.iload 5, 2) := by decide +kernel
theorem dX11_isOwed_36 : decode cX11_isOwed 36 = .ok (.iaload, 1) := by decide +kernel
theorem dX11_isOwed_37 : decode cX11_isOwed 37 = .ok (.iand, 1) := by decide +kernel
theorem dX11_isOwed_38 : decode cX11_isOwed 38 = .ok (.istore_n 3, 1) := by decide +kernel
theorem dX11_isOwed_39 : decode cX11_isOwed 39 = .ok (.iload 4, 2) := by decide +kernel
theorem dX11_isOwed_41 : decode cX11_isOwed 41 = .ok (.aload_n 0, 1) := by decide +kernel
theorem dX11_isOwed_42 : decode cX11_isOwed 42 = .ok (.getfield 13, 3) := by decide +kernel
theorem dX11_isOwed_45 : decode cX11_isOwed 45 = .ok (.iload 5, 2) := by decide +kernel
theorem dX11_isOwed_47 : decode cX11_isOwed 47 = .ok (.iaload, 1) := by decide +kernel
theorem dX11_isOwed_48 : decode cX11_isOwed 48 = .ok (.iadd, 1) := by decide +kernel
theorem dX11_isOwed_49 : decode cX11_isOwed 49 = .ok (.istore 4, 2) := by decide +kernel
theorem dX11_isOwed_51 : decode cX11_isOwed 51 = .ok (.iinc 5 1, 3) := by decide +kernel
theorem dX11_isOwed_54 : decode cX11_isOwed 54 = .ok (.goto (-44), 3) := by decide +kernel
theorem dX11_isOwed_57 : decode cX11_isOwed 57 = .ok (.iload_n 3, 1) := by decide +kernel
theorem dX11_isOwed_58 : decode cX11_isOwed 58 = .ok (.invokestatic 60, 3) := by decide +kernel
theorem dX11_isOwed_61 : decode cX11_isOwed 61 = .ok (.iload_n 2, 1) := by decide +kernel
theorem dX11_isOwed_62 : decode cX11_isOwed 62 = .ok (.if_icmp .lt 23, 3) := by decide +kernel
theorem dX11_isOwed_65 : decode cX11_isOwed 65 = .ok (.iload 4, 2) := by decide +kernel
theorem dX11_isOwed_67 : decode cX11_isOwed 67 = .ok (.aload_n 0, 1) := by decide +kernel
theorem dX11_isOwed_68 : decode cX11_isOwed 68 = .ok (.getfield 16, 3) := by decide +kernel
theorem dX11_isOwed_71 : decode cX11_isOwed 71 = .ok (.imul, 1) := by decide +kernel
theorem dX11_isOwed_72 : decode cX11_isOwed 72 = .ok (.iload_n 2, 1) := by decide +kernel
theorem dX11_isOwed_73 : decode cX11_isOwed 73 = .ok (.aload_n 0, 1) := by decide +kernel
theorem dX11_isOwed_74 : decode cX11_isOwed 74 = .ok (.invokevirtual 96, 3) := by decide +kernel
theorem dX11_isOwed_77 : decode cX11_isOwed 77 = .ok (.imul, 1) := by decide +kernel
theorem dX11_isOwed_78 : decode cX11_isOwed 78 = .ok (.if_icmp .lt 7, 3) := by decide +kernel
theorem dX11_isOwed_81 : decode cX11_isOwed 81 = .ok (.iconst 1, 1) := by decide +kernel
theorem dX11_isOwed_82 : decode cX11_isOwed 82 = .ok (.goto 4, 3) := by decide +kernel
theorem dX11_isOwed_85 : decode cX11_isOwed 85 = .ok (.iconst 0, 1) := by decide +kernel
theorem dX11_isOwed_86 : decode cX11_isOwed 86 = .ok (.ireturn, 1) := by decide +kernel
set_option maxRecDepth 20000 in
theorem ggX11_owed_X11_in : GoodIn wsX11_owed wsX11_in := goodIn_r _ [5] (by decide +kernel) (by decide +kernel)
set_option maxRecDepth 20000 in
theorem gX11_owed_X11_in : GoodIn wsX11_owed (va_wsS RX11 42 yX11_in wsX11_in) := goodIn_app (goodIn_of _ (by decide +kernel)) ggX11_owed_X11_in
set_option maxRecDepth 20000 in
theorem ggX11_owed_X11_isOwed : GoodIn wsX11_owed wsX11_isOwed := goodIn_r _ [9, 1, 10, 11, 12, 13, 14, 4, 15, 16, 17, 18, 19, 20, 21, 22, 23, 24, 25, 26, 27, 28, 29, 30, 31, 32, 33, 34, 35, 36] (by decide +kernel) (by decide +kernel)
set_option maxRecDepth 20000 in
theorem gX11_owed_X11_isOwed : GoodIn wsX11_owed (wsV RX11 151 RX11 yX11_isOwed wsX11_isOwed) := goodIn_app (goodIn_of _ (by decide +kernel)) ggX11_owed_X11_isOwed
theorem dX11_owed_0 : decode cX11_owed 0 = .ok (.iload_n 2, 1) := by decide +kernel
theorem dX11_owed_1 : decode cX11_owed 1 = .ok (.iconst 1, 1) := by decide +kernel
theorem dX11_owed_2 : decode cX11_owed 2 = .ok (.iconst 4, 1) := by decide +kernel
theorem dX11_owed_3 : decode cX11_owed 3 = .ok (.invokestatic 42, 3) := by decide +kernel
theorem dX11_owed_6 : decode cX11_owed 6 = .ok (.ifCond .eq 19, 3) := by decide +kernel
theorem dX11_owed_9 : decode cX11_owed 9 = .ok (.iload_n 1, 1) := by decide +kernel
theorem dX11_owed_10 : decode cX11_owed 10 = .ok (.iconst 1, 1) := by decide +kernel
theorem dX11_owed_11 : decode cX11_owed 11 = .ok (.iconst 1, 1) := by decide +kernel
theorem dX11_owed_12 : decode cX11_owed 12 = .ok (.aload_n 0, 1) := by decide +kernel
theorem dX11_owed_13 : decode cX11_owed 13 = .ok (.getfield 39, 3) := by decide +kernel
theorem dX11_owed_16 : decode cX11_owed 16 = .ok (.ishl, 1) := by decide +kernel
theorem dX11_owed_17 : decode cX11_owed 17 = .ok (.iconst 1, 1) := by decide +kernel
theorem dX11_owed_18 : decode cX11_owed 18 = .ok (.isub, 1) := by decide +kernel
theorem dX11_owed_19 : decode cX11_owed 19 = .ok (.invokestatic 42, 3) := by decide +kernel
theorem dX11_owed_22 : decode cX11_owed 22 = .ok (.ifCond .ne 6, 3) := by decide +kernel
theorem dX11_owed_25 : decode cX11_owed 25 = .ok (.bipush (-2), 2) := by decide +kernel
theorem dX11_owed_27 : decode cX11_owed 27 = .ok (.ireturn, 1) := by decide +kernel
theorem dX11_owed_28 : decode cX11_owed 28 = .ok (.aload_n 0, 1) := by decide +kernel
theorem dX11_owed_29 : decode cX11_owed 29 = .ok (.iload_n 1, 1) := by decide +kernel
theorem dX11_owed_30 : decode cX11_owed 30 = .ok (.iload_n 2, 1) := by decide +kernel
theorem dX11_owed_31 : decode cX11_owed 31 = .ok (.invokevirtual 151, 3) := by decide +kernel
theorem dX11_owed_34 : decode cX11_owed 34 = .ok (.ifCond .eq 7, 3) := by decide +kernel
theorem dX11_owed_37 : decode cX11_owed 37 = .ok (.iconst 1, 1) := by decide +kernel
theorem dX11_owed_38 : decode cX11_owed 38 = .ok (.goto 4, 3) := by decide +kernel
theorem dX11_owed_41 : decode cX11_owed 41 = .ok (.iconst 0, 1) := by decide +kernel
theorem dX11_owed_42 : decode cX11_owed 42 = .ok (.ireturn, 1) := by decide +kernel
set_option maxRecDepth 20000 in
theorem ggX11_lacks_X11_bits : GoodIn wsX11_lacks wsX11_bits := goodIn_r _ [6] (by decide +kernel) (by decide +kernel)
set_option maxRecDepth 20000 in
theorem gX11_lacks_X11_bits : GoodIn wsX11_lacks (va_wsS RX11 60 yX11_bits wsX11_bits) := goodIn_app (goodIn_of _ (by decide +kernel)) ggX11_lacks_X11_bits
theorem dX11_lacks_0 : decode cX11_lacks 0 = .ok (.iconst 0, 1) := by decide +kernel
theorem dX11_lacks_1 : decode cX11_lacks 1 = .ok (.istore 5, 2) := by decide +kernel
theorem dX11_lacks_3 : decode cX11_lacks 3 = .ok (.iconst 0, 1) := by decide +kernel
theorem dX11_lacks_4 : decode cX11_lacks 4 = .ok (.istore 6, 2) := by decide +kernel
theorem dX11_lacks_6 : decode cX11_lacks 6 = .ok (.iconst 0, 1) := by decide +kernel
theorem dX11_lacks_7 : decode cX11_lacks 7 = .ok (.istore 7, 2) := by decide +kernel
theorem dX11_lacks_9 : decode cX11_lacks 9 = .ok (.iload 7, 2) := by decide +kernel
theorem dX11_lacks_11 : decode cX11_lacks 11 = .ok (.aload_n 0, 1) := by decide +kernel
theorem dX11_lacks_12 : decode cX11_lacks 12 = .ok (.getfield 39, 3) := by decide +kernel
theorem dX11_lacks_15 : decode cX11_lacks 15 = .ok (.if_icmp .ge 67, 3) := by decide +kernel
theorem dX11_lacks_18 : decode cX11_lacks 18 = .ok (.iload_n 3, 1) := by decide +kernel
theorem dX11_lacks_19 : decode cX11_lacks 19 = .ok (.iload 7, 2) := by decide +kernel
theorem dX11_lacks_21 : decode cX11_lacks 21 = .ok (.ishr, 1) := by decide +kernel
theorem dX11_lacks_22 : decode cX11_lacks 22 = .ok (.iconst 1, 1) := by decide +kernel
theorem dX11_lacks_23 : decode cX11_lacks 23 = .ok (.iand, 1) := by decide +kernel
theorem dX11_lacks_24 : decode cX11_lacks 24 = .ok (.iconst 1, 1) := by decide +kernel
theorem dX11_lacks_25 : decode cX11_lacks 25 = .ok (.if_icmp .ne 51, 3) := by decide +kernel
theorem dX11_lacks_28 : decode cX11_lacks 28 = .ok (.iload 5, 2) := by decide +kernel
theorem dX11_lacks_30 : decode cX11_lacks 30 = .ok (.aload_n 0, 1) := by decide +kernel
theorem dX11_lacks_31 : decode cX11_lacks 31 = .ok (.getfield 7, 3) := by decide +kernel
theorem dX11_lacks_34 : decode cX11_lacks 34 = .ok (.iload 7, 2) := by decide +kernel
theorem dX11_lacks_36 : decode cX11_lacks 36 = .ok (.iaload, 1) := by decide +kernel
theorem dX11_lacks_37 : decode cX11_lacks 37 = .ok (.ior, 1) := by decide +kernel
theorem dX11_lacks_38 : decode cX11_lacks 38 = .ok (.istore 5, 2) := by decide +kernel
theorem dX11_lacks_40 : decode cX11_lacks 40 = .ok (.iload_n 2, 1) := by decide +kernel
theorem dX11_lacks_41 : decode cX11_lacks 41 = .ok (.aload_n 0, 1) := by decide +kernel
theorem dX11_lacks_42 : decode cX11_lacks 42 = .ok (.getfield 7, 3) := by decide +kernel
theorem dX11_lacks_45 : decode cX11_lacks 45 = .ok (.iload 7, 2) := by decide +kernel
theorem dX11_lacks_47 : decode cX11_lacks 47 = .ok (.iaload, 1) := by decide +kernel
theorem dX11_lacks_48 : decode cX11_lacks 48 = .ok (.iand, 1) := by decide +kernel
theorem dX11_lacks_49 : decode cX11_lacks 49 = .ok (.invokestatic 60, 3) := by decide +kernel
theorem dX11_lacks_52 : decode cX11_lacks 52 = .ok (.iload 6, 2) := by decide +kernel
theorem dX11_lacks_54 : decode cX11_lacks 54 = .ok (.if_icmp .le 18, 3) := by decide +kernel
theorem dX11_lacks_57 : decode cX11_lacks 57 = .ok (.iload_n 2, 1) := by decide +kernel
theorem dX11_lacks_58 : decode cX11_lacks 58 = .ok (.aload_n 0, 1) := by decide +kernel
theorem dX11_lacks_59 : decode cX11_lacks 59 = .ok (.getfield 7, 3) := by decide +kernel
theorem dX11_lacks_62 : decode cX11_lacks 62 = .ok (.iload 7, 2) := by decide +kernel
theorem dX11_lacks_64 : decode cX11_lacks 64 = .ok (.iaload, 1) := by decide +kernel
theorem dX11_lacks_65 : decode cX11_lacks 65 = .ok (.iand, 1) := by decide +kernel
theorem dX11_lacks_66 : decode cX11_lacks 66 = .ok (.invokestatic 60, 3) := by decide +kernel
theorem dX11_lacks_69 : decode cX11_lacks 69 = .ok (.goto 5, 3) := by decide +kernel
theorem dX11_lacks_72 : decode cX11_lacks 72 = .ok (.iload 6, 2) := by decide +kernel
theorem dX11_lacks_74 : decode cX11_lacks 74 = .ok (.istore 6, 2) := by decide +kernel
theorem dX11_lacks_76 : decode cX11_lacks 76 = .ok (.iinc 7 1, 3) := by decide +kernel
theorem dX11_lacks_79 : decode cX11_lacks 79 = .ok (.goto (-70), 3) := by decide +kernel
theorem dX11_lacks_82 : decode cX11_lacks 82 = .ok (.iload_n 1, 1) := by decide +kernel
theorem dX11_lacks_83 : decode cX11_lacks 83 = .ok (.iconst 1, 1) := by decide +kernel
theorem dX11_lacks_84 : decode cX11_lacks 84 = .ok (.if_icmp .ne 23, 3) := by decide +kernel
theorem dX11_lacks_87 : decode cX11_lacks 87 = .ok (.iload 5, 2) := by decide +kernel
theorem dX11_lacks_89 : decode cX11_lacks 89 = .ok (.iload_n 2, 1) := by decide +kernel
theorem dX11_lacks_90 : decode cX11_lacks 90 = .ok (.iand, 1) := by decide +kernel
theorem dX11_lacks_91 : decode cX11_lacks 91 = .ok (.invokestatic 60, 3) := by decide +kernel
theorem dX11_lacks_94 : decode cX11_lacks 94 = .ok (.iload 4, 2) := by decide +kernel
theorem dX11_lacks_96 : decode cX11_lacks 96 = .ok (.if_icmp .ge 7, 3) := by decide +kernel
theorem dX11_lacks_99 : decode cX11_lacks 99 = .ok (.iconst 1, 1) := by decide +kernel
theorem dX11_lacks_100 : decode cX11_lacks 100 = .ok (.goto 19, 3) := by decide +kernel
theorem dX11_lacks_103 : decode cX11_lacks 103 = .ok (.iconst 0, 1) := by decide +kernel
theorem dX11_lacks_104 : decode cX11_lacks 104 = .ok (.goto 15, 3) := by decide +kernel
theorem dX11_lacks_107 : decode cX11_lacks 107 = .ok (.iload 6, 2) := by decide +kernel
theorem dX11_lacks_109 : decode cX11_lacks 109 = .ok (.iload 4, 2) := by decide +kernel
theorem dX11_lacks_111 : decode cX11_lacks 111 = .ok (.if_icmp .ge 7, 3) := by decide +kernel
theorem dX11_lacks_114 : decode cX11_lacks 114 = .ok (.iconst 1, 1) := by decide +kernel
theorem dX11_lacks_115 : decode cX11_lacks 115 = .ok (.goto 4, 3) := by decide +kernel
theorem dX11_lacks_118 : decode cX11_lacks 118 = .ok (.iconst 0, 1) := by decide +kernel
theorem dX11_lacks_119 : decode cX11_lacks 119 = .ok (.ireturn, 1) := by decide +kernel
set_option maxRecDepth 20000 in
theorem ggX11_breachOf_X11_isOwed : GoodIn wsX11_breachOf wsX11_isOwed := goodIn_r _ [7, 1, 8, 9, 10, 11, 12, 6, 13, 14, 15, 16, 17, 22, 23, 24, 25, 26, 27, 28, 29, 30, 31, 32, 33, 34, 35, 36, 37, 38] (by decide +kernel) (by decide +kernel)
set_option maxRecDepth 20000 in
theorem gX11_breachOf_X11_isOwed : GoodIn wsX11_breachOf (wsV RX11 151 RX11 yX11_isOwed wsX11_isOwed) := goodIn_app (goodIn_of _ (by decide +kernel)) ggX11_breachOf_X11_isOwed
set_option maxRecDepth 20000 in
theorem ggX11_breachOf_X11_lacks : GoodIn wsX11_breachOf wsX11_lacks := goodIn_r _ [21, 1, 8, 11, 12, 6, 13, 22, 23, 24, 25, 26, 27, 28, 29, 30, 31, 32, 33, 34, 35, 36, 37, 38] (by decide +kernel) (by decide +kernel)
set_option maxRecDepth 20000 in
theorem gX11_breachOf_X11_lacks : GoodIn wsX11_breachOf (wsV RX11 154 RX11 yX11_lacks wsX11_lacks) := goodIn_app (goodIn_of _ (by decide +kernel)) ggX11_breachOf_X11_lacks
theorem dX11_breachOf_0 : decode cX11_breachOf 0 = .ok (.iconst 1, 1) := by decide +kernel
theorem dX11_breachOf_1 : decode cX11_breachOf 1 = .ok (.istore_n 3, 1) := by decide +kernel
theorem dX11_breachOf_2 : decode cX11_breachOf 2 = .ok (.iload_n 3, 1) := by decide +kernel
theorem dX11_breachOf_3 : decode cX11_breachOf 3 = .ok (.iload_n 1, 1) := by decide +kernel
theorem dX11_breachOf_4 : decode cX11_breachOf 4 = .ok (.ifCond .ne 7, 3) := by decide +kernel
theorem dX11_breachOf_7 : decode cX11_breachOf 7 = .ok (.iconst 1, 1) := by decide +kernel
theorem dX11_breachOf_8 : decode cX11_breachOf 8 = .ok (.goto 4, 3) := by decide +kernel
theorem dX11_breachOf_11 : decode cX11_breachOf 11 = .ok (.iconst 4, 1) := by decide +kernel
theorem dX11_breachOf_12 : decode cX11_breachOf 12 = .ok (.if_icmp .gt 59, 3) := by decide +kernel
theorem dX11_breachOf_15 : decode cX11_breachOf 15 = .ok (.iconst 1, 1) := by decide +kernel
theorem dX11_breachOf_16 : decode cX11_breachOf 16 = .ok (.istore 4, 2) := by decide +kernel
theorem dX11_breachOf_18 : decode cX11_breachOf 18 = .ok (.iload 4, 2) := by decide +kernel
theorem dX11_breachOf_20 : decode cX11_breachOf 20 = .ok (.iconst 1, 1) := by decide +kernel
theorem dX11_breachOf_21 : decode cX11_breachOf 21 = .ok (.aload_n 0, 1) := by decide +kernel
theorem dX11_breachOf_22 : decode cX11_breachOf 22 = .ok (.getfield 39, 3) := by decide +kernel
theorem dX11_breachOf_25 : decode cX11_breachOf 25 = .ok (.ishl, 1) := by decide +kernel
theorem dX11_breachOf_26 : decode cX11_breachOf 26 = .ok (.if_icmp .ge 39, 3) := by decide +kernel
theorem dX11_breachOf_29 : decode cX11_breachOf 29 = .ok (.aload_n 0, 1) := by decide +kernel
theorem dX11_breachOf_30 : decode cX11_breachOf 30 = .ok (.iload 4, 2) := by decide +kernel
theorem dX11_breachOf_32 : decode cX11_breachOf 32 = .ok (.iload_n 3, 1) := by decide +kernel
theorem dX11_breachOf_33 : decode cX11_breachOf 33 = .ok (.invokevirtual 151, 3) := by decide +kernel
theorem dX11_breachOf_36 : decode cX11_breachOf 36 = .ok (.ifCond .eq 23, 3) := by decide +kernel
theorem dX11_breachOf_39 : decode cX11_breachOf 39 = .ok (.aload_n 0, 1) := by decide +kernel
theorem dX11_breachOf_40 : decode cX11_breachOf 40 = .ok (.iload_n 1, 1) := by decide +kernel
theorem dX11_breachOf_41 : decode cX11_breachOf 41 = .ok (.iload_n 2, 1) := by decide +kernel
theorem dX11_breachOf_42 : decode cX11_breachOf 42 = .ok (.iload 4, 2) := by decide +kernel
theorem dX11_breachOf_44 : decode cX11_breachOf 44 = .ok (.iload_n 3, 1) := by decide +kernel
theorem dX11_breachOf_45 : decode cX11_breachOf 45 = .ok (.invokevirtual 154, 3) := by decide +kernel
theorem dX11_breachOf_48 : decode cX11_breachOf 48 = .ok (.ifCond .eq 11, 3) := by decide +kernel
theorem dX11_breachOf_51 : decode cX11_breachOf 51 = .ok (.aload_n 0, 1) := by decide +kernel
theorem dX11_breachOf_52 : decode cX11_breachOf 52 = .ok (.iload 4, 2) := by decide +kernel
theorem dX11_breachOf_54 : decode cX11_breachOf 54 = .ok (.putfield 158, 3) := by decide +kernel
theorem dX11_breachOf_57 : decode cX11_breachOf 57 = .ok (.iload_n 3, 1) := by decide +kernel
theorem dX11_breachOf_58 : decode cX11_breachOf 58 = .ok (.ireturn, 1) := by decide +kernel
theorem dX11_breachOf_59 : decode cX11_breachOf 59 = .ok (.iinc 4 1, 3) := by decide +kernel
theorem dX11_breachOf_62 : decode cX11_breachOf 62 = .ok (.goto (-44), 3) := by decide +kernel
theorem dX11_breachOf_65 : decode cX11_breachOf 65 = .ok (.iinc 3 1, 3) := by decide +kernel
theorem dX11_breachOf_68 : decode cX11_breachOf 68 = .ok (.goto (-66), 3) := by decide +kernel
theorem dX11_breachOf_71 : decode cX11_breachOf 71 = .ok (.aload_n 0, 1) := by decide +kernel
theorem dX11_breachOf_72 : decode cX11_breachOf 72 = .ok (.bipush (-6), 2) := by decide +kernel
theorem dX11_breachOf_74 : decode cX11_breachOf 74 = .ok (.putfield 158, 3) := by decide +kernel
theorem dX11_breachOf_77 : decode cX11_breachOf 77 = .ok (.bipush (-6), 2) := by decide +kernel
theorem dX11_breachOf_79 : decode cX11_breachOf 79 = .ok (.ireturn, 1) := by decide +kernel
set_option maxRecDepth 20000 in
theorem ggX11_isLaw_X11_in : GoodIn wsX11_isLaw wsX11_in := goodIn_r _ [4] (by decide +kernel) (by decide +kernel)
set_option maxRecDepth 20000 in
theorem gX11_isLaw_X11_in : GoodIn wsX11_isLaw (va_wsS RX11 42 yX11_in wsX11_in) := goodIn_app (goodIn_of _ (by decide +kernel)) ggX11_isLaw_X11_in
theorem dX11_isLaw_0 : decode cX11_isLaw 0 = .ok (.iload_n 0, 1) := by decide +kernel
theorem dX11_isLaw_1 : decode cX11_isLaw 1 = .ok (.iconst 0, 1) := by decide +kernel
theorem dX11_isLaw_2 : decode cX11_isLaw 2 = .ok (.iconst 2, 1) := by decide +kernel
theorem dX11_isLaw_3 : decode cX11_isLaw 3 = .ok (.invokestatic 42, 3) := by decide +kernel
theorem dX11_isLaw_6 : decode cX11_isLaw 6 = .ok (.ireturn, 1) := by decide +kernel
set_option maxRecDepth 20000 in
theorem ggX11_breach_X11_isLaw : GoodIn wsX11_breach wsX11_isLaw := goodIn_r _ [5, 6, 7, 4, 8] (by decide +kernel) (by decide +kernel)
set_option maxRecDepth 20000 in
theorem gX11_breach_X11_isLaw : GoodIn wsX11_breach (va_wsS RX11 161 yX11_isLaw wsX11_isLaw) := goodIn_app (goodIn_of _ (by decide +kernel)) ggX11_breach_X11_isLaw
set_option maxRecDepth 20000 in
theorem ggX11_breach_X11_isCommittee : GoodIn wsX11_breach wsX11_isCommittee := goodIn_r _ [12, 13, 6, 7, 4, 8, 14, 15, 16, 36, 37, 38, 39, 40, 41, 42, 43, 44, 45, 46, 47, 48, 49, 50, 51, 52] (by decide +kernel) (by decide +kernel)
set_option maxRecDepth 20000 in
theorem gX11_breach_X11_isCommittee : GoodIn wsX11_breach (wsV RX11 64 RX11 yX11_isCommittee wsX11_isCommittee) := goodIn_app (goodIn_of _ (by decide +kernel)) ggX11_breach_X11_isCommittee
set_option maxRecDepth 20000 in
theorem ggX11_breach_X11_in : GoodIn wsX11_breach wsX11_in := goodIn_r _ [8] (by decide +kernel) (by decide +kernel)
set_option maxRecDepth 20000 in
theorem gX11_breach_X11_in : GoodIn wsX11_breach (va_wsS RX11 42 yX11_in wsX11_in) := goodIn_app (goodIn_of _ (by decide +kernel)) ggX11_breach_X11_in
set_option maxRecDepth 20000 in
theorem ggX11_breach_X11_breachOf : GoodIn wsX11_breach wsX11_breachOf := goodIn_r _ [20, 21, 1, 22, 23, 24, 4, 25, 26, 27, 13, 14, 15, 16, 28, 29, 30, 31, 32, 33, 34, 35, 36, 37, 38, 39, 40, 41, 42, 43, 44, 45, 46, 47, 48, 49, 50, 51, 52] (by decide +kernel) (by decide +kernel)
set_option maxRecDepth 20000 in
theorem gX11_breach_X11_breachOf : GoodIn wsX11_breach (wsV RX11 164 RX11 yX11_breachOf wsX11_breachOf) := goodIn_app (goodIn_of _ (by decide +kernel)) ggX11_breach_X11_breachOf
theorem dX11_breach_0 : decode cX11_breach 0 = .ok (.iload_n 1, 1) := by decide +kernel
theorem dX11_breach_1 : decode cX11_breach 1 = .ok (.invokestatic 161, 3) := by decide +kernel
theorem dX11_breach_4 : decode cX11_breach 4 = .ok (.ifCond .ne 5, 3) := by decide +kernel
theorem dX11_breach_7 : decode cX11_breach 7 = .ok (.iconst (-1), 1) := by decide +kernel
theorem dX11_breach_8 : decode cX11_breach 8 = .ok (.ireturn, 1) := by decide +kernel
theorem dX11_breach_9 : decode cX11_breach 9 = .ok (.aload_n 0, 1) := by decide +kernel
theorem dX11_breach_10 : decode cX11_breach 10 = .ok (.iload_n 2, 1) := by decide +kernel
theorem dX11_breach_11 : decode cX11_breach 11 = .ok (.invokevirtual 64, 3) := by decide +kernel
theorem dX11_breach_14 : decode cX11_breach 14 = .ok (.ifCond .eq 12, 3) := by decide +kernel
theorem dX11_breach_17 : decode cX11_breach 17 = .ok (.iload_n 3, 1) := by decide +kernel
theorem dX11_breach_18 : decode cX11_breach 18 = .ok (.iconst 0, 1) := by decide +kernel
theorem dX11_breach_19 : decode cX11_breach 19 = .ok (.iconst 2, 1) := by decide +kernel
theorem dX11_breach_20 : decode cX11_breach 20 = .ok (.invokestatic 42, 3) := by decide +kernel
theorem dX11_breach_23 : decode cX11_breach 23 = .ok (.ifCond .ne 6, 3) := by decide +kernel
theorem dX11_breach_26 : decode cX11_breach 26 = .ok (.bipush (-2), 2) := by decide +kernel
theorem dX11_breach_28 : decode cX11_breach 28 = .ok (.ireturn, 1) := by decide +kernel
theorem dX11_breach_29 : decode cX11_breach 29 = .ok (.aload_n 0, 1) := by decide +kernel
theorem dX11_breach_30 : decode cX11_breach 30 = .ok (.iload_n 1, 1) := by decide +kernel
theorem dX11_breach_31 : decode cX11_breach 31 = .ok (.iload_n 2, 1) := by decide +kernel
theorem dX11_breach_32 : decode cX11_breach 32 = .ok (.invokevirtual 164, 3) := by decide +kernel
theorem dX11_breach_35 : decode cX11_breach 35 = .ok (.istore 4, 2) := by decide +kernel
theorem dX11_breach_37 : decode cX11_breach 37 = .ok (.iload_n 3, 1) := by decide +kernel
theorem dX11_breach_38 : decode cX11_breach 38 = .ok (.ifCond .ne 16, 3) := by decide +kernel
theorem dX11_breach_41 : decode cX11_breach 41 = .ok (.iload 4, 2) := by decide +kernel
theorem dX11_breach_43 : decode cX11_breach 43 = .ok (.ifCond .ge 7, 3) := by decide +kernel
theorem dX11_breach_46 : decode cX11_breach 46 = .ok (.iconst 0, 1) := by decide +kernel
theorem dX11_breach_47 : decode cX11_breach 47 = .ok (.goto 21, 3) := by decide +kernel
theorem dX11_breach_50 : decode cX11_breach 50 = .ok (.iconst 1, 1) := by decide +kernel
theorem dX11_breach_51 : decode cX11_breach 51 = .ok (.goto 17, 3) := by decide +kernel
theorem dX11_breach_54 : decode cX11_breach 54 = .ok (.iload_n 3, 1) := by decide +kernel
theorem dX11_breach_55 : decode cX11_breach 55 = .ok (.iconst 1, 1) := by decide +kernel
theorem dX11_breach_56 : decode cX11_breach 56 = .ok (.if_icmp .ne 8, 3) := by decide +kernel
theorem dX11_breach_59 : decode cX11_breach 59 = .ok (.iload 4, 2) := by decide +kernel
theorem dX11_breach_61 : decode cX11_breach 61 = .ok (.goto 7, 3) := by decide +kernel
theorem dX11_breach_64 : decode cX11_breach 64 = .ok (.aload_n 0, 1) := by decide +kernel
theorem dX11_breach_65 : decode cX11_breach 65 = .ok (.getfield 158, 3) := by decide +kernel
theorem dX11_breach_68 : decode cX11_breach 68 = .ok (.ireturn, 1) := by decide +kernel
set_option maxRecDepth 20000 in
theorem ggX11_isKept_X11_isCommittee : GoodIn wsX11_isKept wsX11_isCommittee := goodIn_r _ [5, 6, 7, 8, 4, 9, 10, 11, 12, 39, 40, 41, 42, 43, 44, 45, 46, 47, 48, 49, 50, 51, 52, 53, 54, 55] (by decide +kernel) (by decide +kernel)
set_option maxRecDepth 20000 in
theorem gX11_isKept_X11_isCommittee : GoodIn wsX11_isKept (wsV RX11 64 RX11 yX11_isCommittee wsX11_isCommittee) := goodIn_app (goodIn_of _ (by decide +kernel)) ggX11_isKept_X11_isCommittee
set_option maxRecDepth 20000 in
theorem ggX11_isKept_X11_barOf : GoodIn wsX11_isKept wsX11_barOf := goodIn_r _ [16, 17, 18, 7, 8, 4, 9, 10, 11, 12, 39, 40, 41, 42, 43, 44, 45, 46, 47, 48, 49, 50, 51, 52, 53, 54, 55] (by decide +kernel) (by decide +kernel)
set_option maxRecDepth 20000 in
theorem gX11_isKept_X11_barOf : GoodIn wsX11_isKept (wsV RX11 67 RX11 yX11_barOf wsX11_barOf) := goodIn_app (goodIn_of _ (by decide +kernel)) ggX11_isKept_X11_barOf
set_option maxRecDepth 20000 in
theorem ggX11_isKept_X11_breachOf : GoodIn wsX11_isKept wsX11_breachOf := goodIn_r _ [22, 23, 24, 25, 26, 27, 4, 28, 29, 30, 6, 10, 11, 12, 31, 32, 33, 34, 35, 36, 37, 38, 39, 40, 41, 42, 43, 44, 45, 46, 47, 48, 49, 50, 51, 52, 53, 54, 55] (by decide +kernel) (by decide +kernel)
set_option maxRecDepth 20000 in
theorem gX11_isKept_X11_breachOf : GoodIn wsX11_isKept (wsV RX11 164 RX11 yX11_breachOf wsX11_breachOf) := goodIn_app (goodIn_of _ (by decide +kernel)) ggX11_isKept_X11_breachOf
theorem dX11_isKept_0 : decode cX11_isKept 0 = .ok (.aload_n 0, 1) := by decide +kernel
theorem dX11_isKept_1 : decode cX11_isKept 1 = .ok (.iload_n 2, 1) := by decide +kernel
theorem dX11_isKept_2 : decode cX11_isKept 2 = .ok (.invokevirtual 64, 3) := by decide +kernel
theorem dX11_isKept_5 : decode cX11_isKept 5 = .ok (.ifCond .eq 24, 3) := by decide +kernel
theorem dX11_isKept_8 : decode cX11_isKept 8 = .ok (.aload_n 0, 1) := by decide +kernel
theorem dX11_isKept_9 : decode cX11_isKept 9 = .ok (.iload_n 2, 1) := by decide +kernel
theorem dX11_isKept_10 : decode cX11_isKept 10 = .ok (.invokevirtual 67, 3) := by decide +kernel
theorem dX11_isKept_13 : decode cX11_isKept 13 = .ok (.ifCond .ge 16, 3) := by decide +kernel
theorem dX11_isKept_16 : decode cX11_isKept 16 = .ok (.aload_n 0, 1) := by decide +kernel
theorem dX11_isKept_17 : decode cX11_isKept 17 = .ok (.iload_n 1, 1) := by decide +kernel
theorem dX11_isKept_18 : decode cX11_isKept 18 = .ok (.iload_n 2, 1) := by decide +kernel
theorem dX11_isKept_19 : decode cX11_isKept 19 = .ok (.invokevirtual 164, 3) := by decide +kernel
theorem dX11_isKept_22 : decode cX11_isKept 22 = .ok (.ifCond .ge 7, 3) := by decide +kernel
theorem dX11_isKept_25 : decode cX11_isKept 25 = .ok (.iconst 1, 1) := by decide +kernel
theorem dX11_isKept_26 : decode cX11_isKept 26 = .ok (.goto 4, 3) := by decide +kernel
theorem dX11_isKept_29 : decode cX11_isKept 29 = .ok (.iconst 0, 1) := by decide +kernel
theorem dX11_isKept_30 : decode cX11_isKept 30 = .ok (.ireturn, 1) := by decide +kernel
set_option maxRecDepth 20000 in
theorem ggX11_kept_X11_isLaw : GoodIn wsX11_kept wsX11_isLaw := goodIn_r _ [4, 5, 6, 3, 7] (by decide +kernel) (by decide +kernel)
set_option maxRecDepth 20000 in
theorem gX11_kept_X11_isLaw : GoodIn wsX11_kept (va_wsS RX11 161 yX11_isLaw wsX11_isLaw) := goodIn_app (goodIn_of _ (by decide +kernel)) ggX11_kept_X11_isLaw
set_option maxRecDepth 20000 in
theorem ggX11_kept_X11_isKept : GoodIn wsX11_kept wsX11_isKept := goodIn_r _ [11, 12, 13, 14, 3, 15, 16, 5, 6, 7, 17, 18, 19, 20, 21, 22, 23, 24, 25, 26, 27, 28, 29, 30, 31, 32, 33, 34, 35, 36, 37, 38, 39, 40, 41, 42, 43, 44, 45, 46, 47, 48, 49, 50, 51, 52, 53, 54, 55, 56, 57, 58, 59, 60, 61, 62] (by decide +kernel) (by decide +kernel)
set_option maxRecDepth 20000 in
theorem gX11_kept_X11_isKept : GoodIn wsX11_kept (wsV RX11 167 RX11 yX11_isKept wsX11_isKept) := goodIn_app (goodIn_of _ (by decide +kernel)) ggX11_kept_X11_isKept
theorem dX11_kept_0 : decode cX11_kept 0 = .ok (.iload_n 1, 1) := by decide +kernel
theorem dX11_kept_1 : decode cX11_kept 1 = .ok (.invokestatic 161, 3) := by decide +kernel
theorem dX11_kept_4 : decode cX11_kept 4 = .ok (.ifCond .ne 5, 3) := by decide +kernel
theorem dX11_kept_7 : decode cX11_kept 7 = .ok (.iconst (-1), 1) := by decide +kernel
theorem dX11_kept_8 : decode cX11_kept 8 = .ok (.ireturn, 1) := by decide +kernel
theorem dX11_kept_9 : decode cX11_kept 9 = .ok (.iconst 0, 1) := by decide +kernel
theorem dX11_kept_10 : decode cX11_kept 10 = .ok (.istore_n 3, 1) := by decide +kernel
theorem dX11_kept_11 : decode cX11_kept 11 = .ok (.iconst 0, 1) := by decide +kernel
theorem dX11_kept_12 : decode cX11_kept 12 = .ok (.istore 4, 2) := by decide +kernel
theorem dX11_kept_14 : decode cX11_kept 14 = .ok (.iload 4, 2) := by decide +kernel
theorem dX11_kept_16 : decode cX11_kept 16 = .ok (.sipush 256, 3) := by decide +kernel
theorem dX11_kept_19 : decode cX11_kept 19 = .ok (.if_icmp .ge 30, 3) := by decide +kernel
theorem dX11_kept_22 : decode cX11_kept 22 = .ok (.aload_n 0, 1) := by decide +kernel
theorem dX11_kept_23 : decode cX11_kept 23 = .ok (.iload_n 1, 1) := by decide +kernel
theorem dX11_kept_24 : decode cX11_kept 24 = .ok (.iload 4, 2) := by decide +kernel
theorem dX11_kept_26 : decode cX11_kept 26 = .ok (.invokevirtual 167, 3) := by decide +kernel
theorem dX11_kept_29 : decode cX11_kept 29 = .ok (.ifCond .eq 14, 3) := by decide +kernel
theorem dX11_kept_32 : decode cX11_kept 32 = .ok (.iload_n 3, 1) := by decide +kernel
theorem dX11_kept_33 : decode cX11_kept 33 = .ok (.iload_n 2, 1) := by decide +kernel
theorem dX11_kept_34 : decode cX11_kept 34 = .ok (.if_icmp .ne 6, 3) := by decide +kernel
theorem dX11_kept_37 : decode cX11_kept 37 = .ok (.iload 4, 2) := by decide +kernel
theorem dX11_kept_39 : decode cX11_kept 39 = .ok (.ireturn, 1) := by decide +kernel
theorem dX11_kept_40 : decode cX11_kept 40 = .ok (.iinc 3 1, 3) := by decide +kernel
theorem dX11_kept_43 : decode cX11_kept 43 = .ok (.iinc 4 1, 3) := by decide +kernel
theorem dX11_kept_46 : decode cX11_kept 46 = .ok (.goto (-32), 3) := by decide +kernel
theorem dX11_kept_49 : decode cX11_kept 49 = .ok (.iload_n 2, 1) := by decide +kernel
theorem dX11_kept_50 : decode cX11_kept 50 = .ok (.iconst (-1), 1) := by decide +kernel
theorem dX11_kept_51 : decode cX11_kept 51 = .ok (.if_icmp .ne 7, 3) := by decide +kernel
theorem dX11_kept_54 : decode cX11_kept 54 = .ok (.iload_n 3, 1) := by decide +kernel
theorem dX11_kept_55 : decode cX11_kept 55 = .ok (.goto 5, 3) := by decide +kernel
theorem dX11_kept_58 : decode cX11_kept 58 = .ok (.bipush (-6), 2) := by decide +kernel
theorem dX11_kept_60 : decode cX11_kept 60 = .ok (.ireturn, 1) := by decide +kernel
set_option maxRecDepth 20000 in
theorem ggX11_least_X11_in : GoodIn wsX11_least wsX11_in := goodIn_r _ [4] (by decide +kernel) (by decide +kernel)
set_option maxRecDepth 20000 in
theorem gX11_least_X11_in : GoodIn wsX11_least (va_wsS RX11 42 yX11_in wsX11_in) := goodIn_app (goodIn_of _ (by decide +kernel)) ggX11_least_X11_in
set_option maxRecDepth 20000 in
theorem ggX11_least_X11_isCommittee : GoodIn wsX11_least wsX11_isCommittee := goodIn_r _ [8, 9, 1, 2, 3, 4, 10, 11, 12, 26, 27, 28, 29, 30, 31, 32, 33, 34, 35, 36, 37, 38, 39, 40, 41, 42] (by decide +kernel) (by decide +kernel)
set_option maxRecDepth 20000 in
theorem gX11_least_X11_isCommittee : GoodIn wsX11_least (wsV RX11 64 RX11 yX11_isCommittee wsX11_isCommittee) := goodIn_app (goodIn_of _ (by decide +kernel)) ggX11_least_X11_isCommittee
set_option maxRecDepth 20000 in
theorem ggX11_least_X11_barOf : GoodIn wsX11_least wsX11_barOf := goodIn_r _ [16, 17, 18, 1, 2, 3, 4, 10, 11, 12, 26, 27, 28, 29, 30, 31, 32, 33, 34, 35, 36, 37, 38, 39, 40, 41, 42] (by decide +kernel) (by decide +kernel)
set_option maxRecDepth 20000 in
theorem gX11_least_X11_barOf : GoodIn wsX11_least (wsV RX11 67 RX11 yX11_barOf wsX11_barOf) := goodIn_app (goodIn_of _ (by decide +kernel)) ggX11_least_X11_barOf
set_option maxRecDepth 20000 in
theorem ggX11_least_X11_wronged : GoodIn wsX11_least wsX11_wronged := goodIn_r _ [22, 23, 24, 25, 26, 27, 28, 29, 30, 31, 32, 33, 34, 35, 36, 37, 38, 39, 40, 41, 42] (by decide +kernel) (by decide +kernel)
set_option maxRecDepth 20000 in
theorem gX11_least_X11_wronged : GoodIn wsX11_least (wsV RX11 73 RX11 yX11_wronged wsX11_wronged) := goodIn_app (goodIn_of _ (by decide +kernel)) ggX11_least_X11_wronged
theorem dX11_least_0 : decode cX11_least 0 = .ok (.iload_n 1, 1) := by decide +kernel
theorem dX11_least_1 : decode cX11_least 1 = .ok (.iconst 0, 1) := by decide +kernel
theorem dX11_least_2 : decode cX11_least 2 = .ok (.iconst 1, 1) := by decide +kernel
theorem dX11_least_3 : decode cX11_least 3 = .ok (.invokestatic 42, 3) := by decide +kernel
theorem dX11_least_6 : decode cX11_least 6 = .ok (.ifCond .ne 6, 3) := by decide +kernel
theorem dX11_least_9 : decode cX11_least 9 = .ok (.bipush (-2), 2) := by decide +kernel
theorem dX11_least_11 : decode cX11_least 11 = .ok (.ireturn, 1) := by decide +kernel
theorem dX11_least_12 : decode cX11_least 12 = .ok (.bipush (-6), 2) := by decide +kernel
theorem dX11_least_14 : decode cX11_least 14 = .ok (.istore_n 2, 1) := by decide +kernel
theorem dX11_least_15 : decode cX11_least 15 = .ok (.iconst 0, 1) := by decide +kernel
theorem dX11_least_16 : decode cX11_least 16 = .ok (.istore_n 3, 1) := by decide +kernel
theorem dX11_least_17 : decode cX11_least 17 = .ok (.iload_n 3, 1) := by decide +kernel
theorem dX11_least_18 : decode cX11_least 18 = .ok (.sipush 256, 3) := by decide +kernel
theorem dX11_least_21 : decode cX11_least 21 = .ok (.if_icmp .ge 60, 3) := by decide +kernel
theorem dX11_least_24 : decode cX11_least 24 = .ok (.aload_n 0, 1) := by decide +kernel
theorem dX11_least_25 : decode cX11_least 25 = .ok (.iload_n 3, 1) := by decide +kernel
theorem dX11_least_26 : decode cX11_least 26 = .ok (.invokevirtual 64, 3) := by decide +kernel
theorem dX11_least_29 : decode cX11_least 29 = .ok (.ifCond .eq 15, 3) := by decide +kernel
theorem dX11_least_32 : decode cX11_least 32 = .ok (.aload_n 0, 1) := by decide +kernel
theorem dX11_least_33 : decode cX11_least 33 = .ok (.iload_n 3, 1) := by decide +kernel
theorem dX11_least_34 : decode cX11_least 34 = .ok (.invokevirtual 67, 3) := by decide +kernel
theorem dX11_least_37 : decode cX11_least 37 = .ok (.ifCond .ge 7, 3) := by decide +kernel
theorem dX11_least_40 : decode cX11_least 40 = .ok (.iconst 1, 1) := by decide +kernel
theorem dX11_least_41 : decode cX11_least 41 = .ok (.goto 4, 3) := by decide +kernel
theorem dX11_least_44 : decode cX11_least 44 = .ok (.iconst 0, 1) := by decide +kernel
theorem dX11_least_45 : decode cX11_least 45 = .ok (.istore 4, 2) := by decide +kernel
theorem dX11_least_47 : decode cX11_least 47 = .ok (.iload 4, 2) := by decide +kernel
theorem dX11_least_49 : decode cX11_least 49 = .ok (.ifCond .eq 24, 3) := by decide +kernel
theorem dX11_least_52 : decode cX11_least 52 = .ok (.iload_n 2, 1) := by decide +kernel
theorem dX11_least_53 : decode cX11_least 53 = .ok (.ifCond .lt 16, 3) := by decide +kernel
theorem dX11_least_56 : decode cX11_least 56 = .ok (.aload_n 0, 1) := by decide +kernel
theorem dX11_least_57 : decode cX11_least 57 = .ok (.iload_n 3, 1) := by decide +kernel
theorem dX11_least_58 : decode cX11_least 58 = .ok (.invokevirtual 73, 3) := by decide +kernel
theorem dX11_least_61 : decode cX11_least 61 = .ok (.aload_n 0, 1) := by decide +kernel
theorem dX11_least_62 : decode cX11_least 62 = .ok (.iload_n 2, 1) := by decide +kernel
theorem dX11_least_63 : decode cX11_least 63 = .ok (.invokevirtual 73, 3) := by decide +kernel
theorem dX11_least_66 : decode cX11_least 66 = .ok (.if_icmp .ge 7, 3) := by decide +kernel
theorem dX11_least_69 : decode cX11_least 69 = .ok (.iload_n 3, 1) := by decide +kernel
theorem dX11_least_70 : decode cX11_least 70 = .ok (.goto 4, 3) := by decide +kernel
theorem dX11_least_73 : decode cX11_least 73 = .ok (.iload_n 2, 1) := by decide +kernel
theorem dX11_least_74 : decode cX11_least 74 = .ok (.istore_n 2, 1) := by decide +kernel
theorem dX11_least_75 : decode cX11_least 75 = .ok (.iinc 3 1, 3) := by decide +kernel
theorem dX11_least_78 : decode cX11_least 78 = .ok (.goto (-61), 3) := by decide +kernel
theorem dX11_least_81 : decode cX11_least 81 = .ok (.iload_n 2, 1) := by decide +kernel
theorem dX11_least_82 : decode cX11_least 82 = .ok (.ifCond .lt 7, 3) := by decide +kernel
theorem dX11_least_85 : decode cX11_least 85 = .ok (.iload_n 1, 1) := by decide +kernel
theorem dX11_least_86 : decode cX11_least 86 = .ok (.ifCond .ne 7, 3) := by decide +kernel
theorem dX11_least_89 : decode cX11_least 89 = .ok (.iload_n 2, 1) := by decide +kernel
theorem dX11_least_90 : decode cX11_least 90 = .ok (.goto 8, 3) := by decide +kernel
theorem dX11_least_93 : decode cX11_least 93 = .ok (.aload_n 0, 1) := by decide +kernel
theorem dX11_least_94 : decode cX11_least 94 = .ok (.iload_n 2, 1) := by decide +kernel
theorem dX11_least_95 : decode cX11_least 95 = .ok (.invokevirtual 73, 3) := by decide +kernel
theorem dX11_least_98 : decode cX11_least 98 = .ok (.ireturn, 1) := by decide +kernel
set_option maxRecDepth 20000 in
theorem ggX11_nearest_X11_isLaw : GoodIn wsX11_nearest wsX11_isLaw := goodIn_r _ [4, 5, 6, 3, 7] (by decide +kernel) (by decide +kernel)
set_option maxRecDepth 20000 in
theorem gX11_nearest_X11_isLaw : GoodIn wsX11_nearest (va_wsS RX11 161 yX11_isLaw wsX11_isLaw) := goodIn_app (goodIn_of _ (by decide +kernel)) ggX11_nearest_X11_isLaw
set_option maxRecDepth 20000 in
theorem ggX11_nearest_X11_isCommittee : GoodIn wsX11_nearest wsX11_isCommittee := goodIn_r _ [11, 12, 5, 6, 3, 7, 13, 14, 15, 46, 47, 48, 49, 50, 51, 52, 53, 54, 55, 56, 57, 58, 59, 60, 61, 62] (by decide +kernel) (by decide +kernel)
set_option maxRecDepth 20000 in
theorem gX11_nearest_X11_isCommittee : GoodIn wsX11_nearest (wsV RX11 64 RX11 yX11_isCommittee wsX11_isCommittee) := goodIn_app (goodIn_of _ (by decide +kernel)) ggX11_nearest_X11_isCommittee
set_option maxRecDepth 20000 in
theorem ggX11_nearest_X11_bits : GoodIn wsX11_nearest wsX11_bits := goodIn_r _ [15] (by decide +kernel) (by decide +kernel)
set_option maxRecDepth 20000 in
theorem gX11_nearest_X11_bits : GoodIn wsX11_nearest (va_wsS RX11 60 yX11_bits wsX11_bits) := goodIn_app (goodIn_of _ (by decide +kernel)) ggX11_nearest_X11_bits
set_option maxRecDepth 20000 in
theorem ggX11_nearest_X11_isKept : GoodIn wsX11_nearest wsX11_isKept := goodIn_r _ [19, 8, 9, 10, 3, 11, 12, 5, 6, 7, 13, 14, 15, 20, 21, 22, 23, 24, 25, 26, 27, 28, 29, 30, 31, 32, 33, 34, 35, 36, 37, 38, 39, 40, 41, 42, 43, 44, 45, 46, 47, 48, 49, 50, 51, 52, 53, 54, 55, 56, 57, 58, 59, 60, 61, 62] (by decide +kernel) (by decide +kernel)
set_option maxRecDepth 20000 in
theorem gX11_nearest_X11_isKept : GoodIn wsX11_nearest (wsV RX11 167 RX11 yX11_isKept wsX11_isKept) := goodIn_app (goodIn_of _ (by decide +kernel)) ggX11_nearest_X11_isKept
theorem dX11_nearest_0 : decode cX11_nearest 0 = .ok (.iload_n 1, 1) := by decide +kernel
theorem dX11_nearest_1 : decode cX11_nearest 1 = .ok (.invokestatic 161, 3) := by decide +kernel
theorem dX11_nearest_4 : decode cX11_nearest 4 = .ok (.ifCond .ne 5, 3) := by decide +kernel
theorem dX11_nearest_7 : decode cX11_nearest 7 = .ok (.iconst (-1), 1) := by decide +kernel
theorem dX11_nearest_8 : decode cX11_nearest 8 = .ok (.ireturn, 1) := by decide +kernel
theorem dX11_nearest_9 : decode cX11_nearest 9 = .ok (.aload_n 0, 1) := by decide +kernel
theorem dX11_nearest_10 : decode cX11_nearest 10 = .ok (.iload_n 2, 1) := by decide +kernel
theorem dX11_nearest_11 : decode cX11_nearest 11 = .ok (.invokevirtual 64, 3) := by decide +kernel
theorem dX11_nearest_14 : decode cX11_nearest 14 = .ok (.ifCond .ne 6, 3) := by decide +kernel
theorem dX11_nearest_17 : decode cX11_nearest 17 = .ok (.bipush (-2), 2) := by decide +kernel
theorem dX11_nearest_19 : decode cX11_nearest 19 = .ok (.ireturn, 1) := by decide +kernel
theorem dX11_nearest_20 : decode cX11_nearest 20 = .ok (.bipush (-6), 2) := by decide +kernel
theorem dX11_nearest_22 : decode cX11_nearest 22 = .ok (.istore_n 3, 1) := by decide +kernel
theorem dX11_nearest_23 : decode cX11_nearest 23 = .ok (.iconst 0, 1) := by decide +kernel
theorem dX11_nearest_24 : decode cX11_nearest 24 = .ok (.istore 4, 2) := by decide +kernel
theorem dX11_nearest_26 : decode cX11_nearest 26 = .ok (.iload 4, 2) := by decide +kernel
theorem dX11_nearest_28 : decode cX11_nearest 28 = .ok (.sipush 256, 3) := by decide +kernel
theorem dX11_nearest_31 : decode cX11_nearest 31 = .ok (.if_icmp .ge 62, 3) := by decide +kernel
theorem dX11_nearest_34 : decode cX11_nearest 34 = .ok (.iload_n 3, 1) := by decide +kernel
theorem dX11_nearest_35 : decode cX11_nearest 35 = .ok (.ifCond .lt 23, 3) := by decide +kernel
theorem dX11_nearest_38 : decode cX11_nearest 38 = .ok (.iload 4, 2) := by decide +kernel
theorem dX11_nearest_40 : decode cX11_nearest 40 = .ok (.iload_n 2, 1) := by decide +kernel
theorem dX11_nearest_41 : decode cX11_nearest 41 = .ok (.iconst (-1), 1) := by decide +kernel
theorem dX11_nearest_42 : decode cX11_nearest 42 = .ok (.ixor, 1) := by decide +kernel
theorem dX11_nearest_43 : decode cX11_nearest 43 = .ok (.iand, 1) := by decide +kernel
theorem dX11_nearest_44 : decode cX11_nearest 44 = .ok (.invokestatic 60, 3) := by decide +kernel
theorem dX11_nearest_47 : decode cX11_nearest 47 = .ok (.iload_n 3, 1) := by decide +kernel
theorem dX11_nearest_48 : decode cX11_nearest 48 = .ok (.iload_n 2, 1) := by decide +kernel
theorem dX11_nearest_49 : decode cX11_nearest 49 = .ok (.iconst (-1), 1) := by decide +kernel
theorem dX11_nearest_50 : decode cX11_nearest 50 = .ok (.ixor, 1) := by decide +kernel
theorem dX11_nearest_51 : decode cX11_nearest 51 = .ok (.iand, 1) := by decide +kernel
theorem dX11_nearest_52 : decode cX11_nearest 52 = .ok (.invokestatic 60, 3) := by decide +kernel
theorem dX11_nearest_55 : decode cX11_nearest 55 = .ok (.if_icmp .ge 7, 3) := by decide +kernel
theorem dX11_nearest_58 : decode cX11_nearest 58 = .ok (.iconst 1, 1) := by decide +kernel
theorem dX11_nearest_59 : decode cX11_nearest 59 = .ok (.goto 4, 3) := by decide +kernel
theorem dX11_nearest_62 : decode cX11_nearest 62 = .ok (.iconst 0, 1) := by decide +kernel
theorem dX11_nearest_63 : decode cX11_nearest 63 = .ok (.istore 5, 2) := by decide +kernel
theorem dX11_nearest_65 : decode cX11_nearest 65 = .ok (.iload 5, 2) := by decide +kernel
theorem dX11_nearest_67 : decode cX11_nearest 67 = .ok (.ifCond .eq 18, 3) := by decide +kernel
theorem dX11_nearest_70 : decode cX11_nearest 70 = .ok (.aload_n 0, 1) := by decide +kernel
theorem dX11_nearest_71 : decode cX11_nearest 71 = .ok (.iload_n 1, 1) := by decide +kernel
theorem dX11_nearest_72 : decode cX11_nearest 72 = .ok (.iload 4, 2) := by decide +kernel
theorem dX11_nearest_74 : decode cX11_nearest 74 = .ok (.invokevirtual 167, 3) := by decide +kernel
theorem dX11_nearest_77 : decode cX11_nearest 77 = .ok (.ifCond .eq 8, 3) := by decide +kernel
theorem dX11_nearest_80 : decode cX11_nearest 80 = .ok (.iload 4, 2) := by decide +kernel
theorem dX11_nearest_82 : decode cX11_nearest 82 = .ok (.goto 4, 3) := by decide +kernel
theorem dX11_nearest_85 : decode cX11_nearest 85 = .ok (.iload_n 3, 1) := by decide +kernel
theorem dX11_nearest_86 : decode cX11_nearest 86 = .ok (.istore_n 3, 1) := by decide +kernel
theorem dX11_nearest_87 : decode cX11_nearest 87 = .ok (.iinc 4 1, 3) := by decide +kernel
theorem dX11_nearest_90 : decode cX11_nearest 90 = .ok (.goto (-64), 3) := by decide +kernel
theorem dX11_nearest_93 : decode cX11_nearest 93 = .ok (.iload_n 3, 1) := by decide +kernel
theorem dX11_nearest_94 : decode cX11_nearest 94 = .ok (.ireturn, 1) := by decide +kernel
set_option maxRecDepth 20000 in
theorem ggX11_more_X11_isWay : GoodIn wsX11_more wsX11_isWay := goodIn_r _ [6, 7, 8, 5, 9] (by decide +kernel) (by decide +kernel)
set_option maxRecDepth 20000 in
theorem gX11_more_X11_isWay : GoodIn wsX11_more (va_wsS RX11 129 yX11_isWay wsX11_isWay) := goodIn_app (goodIn_of _ (by decide +kernel)) ggX11_more_X11_isWay
set_option maxRecDepth 20000 in
theorem ggX11_more_X11_in : GoodIn wsX11_more wsX11_in := goodIn_r _ [9] (by decide +kernel) (by decide +kernel)
set_option maxRecDepth 20000 in
theorem gX11_more_X11_in : GoodIn wsX11_more (va_wsS RX11 42 yX11_in wsX11_in) := goodIn_app (goodIn_of _ (by decide +kernel)) ggX11_more_X11_in
set_option maxRecDepth 20000 in
theorem ggX11_more_X11_layWay : GoodIn wsX11_more wsX11_layWay := goodIn_r _ [13, 2, 14, 15, 16, 1, 17, 18, 19, 5, 20, 21, 22, 23, 24, 25, 26, 27, 28, 29, 30, 31, 32, 33, 34, 35, 36, 37, 38, 39, 40, 41, 42, 43, 44, 45, 46, 47, 48, 49, 50, 51, 52, 53, 54, 55, 56, 57, 58, 59, 60, 61, 62, 63, 64, 65, 66, 67, 68, 69, 70, 71, 72, 73, 74, 75, 76, 77, 78, 79, 80, 7, 8, 9, 81, 82, 83, 84, 85, 86, 87, 88, 89, 90, 91, 92, 93, 94, 95, 96, 97, 98, 99, 100, 101] (by decide +kernel) (by decide +kernel)
set_option maxRecDepth 20000 in
theorem gX11_more_X11_layWay : GoodIn wsX11_more (wsV RX11 132 RX11 yX11_layWay wsX11_layWay) := goodIn_app (goodIn_of _ (by decide +kernel)) ggX11_more_X11_layWay
theorem dX11_more_0 : decode cX11_more 0 = .ok (.iload_n 1, 1) := by decide +kernel
theorem dX11_more_1 : decode cX11_more 1 = .ok (.invokestatic 129, 3) := by decide +kernel
theorem dX11_more_4 : decode cX11_more 4 = .ok (.ifCond .ne 5, 3) := by decide +kernel
theorem dX11_more_7 : decode cX11_more 7 = .ok (.iconst (-1), 1) := by decide +kernel
theorem dX11_more_8 : decode cX11_more 8 = .ok (.ireturn, 1) := by decide +kernel
theorem dX11_more_9 : decode cX11_more 9 = .ok (.iload_n 2, 1) := by decide +kernel
theorem dX11_more_10 : decode cX11_more 10 = .ok (.iconst 0, 1) := by decide +kernel
theorem dX11_more_11 : decode cX11_more 11 = .ok (.iconst 1, 1) := by decide +kernel
theorem dX11_more_12 : decode cX11_more 12 = .ok (.invokestatic 42, 3) := by decide +kernel
theorem dX11_more_15 : decode cX11_more 15 = .ok (.ifCond .ne 6, 3) := by decide +kernel
theorem dX11_more_18 : decode cX11_more 18 = .ok (.bipush (-2), 2) := by decide +kernel
theorem dX11_more_20 : decode cX11_more 20 = .ok (.ireturn, 1) := by decide +kernel
theorem dX11_more_21 : decode cX11_more 21 = .ok (.aload_n 0, 1) := by decide +kernel
theorem dX11_more_22 : decode cX11_more 22 = .ok (.getfield 16, 3) := by decide +kernel
theorem dX11_more_25 : decode cX11_more 25 = .ok (.iconst 4, 1) := by decide +kernel
theorem dX11_more_26 : decode cX11_more 26 = .ok (.if_icmp .ne 6, 3) := by decide +kernel
theorem dX11_more_29 : decode cX11_more 29 = .ok (.bipush (-3), 2) := by decide +kernel
theorem dX11_more_31 : decode cX11_more 31 = .ok (.ireturn, 1) := by decide +kernel
theorem dX11_more_32 : decode cX11_more 32 = .ok (.aload_n 0, 1) := by decide +kernel
theorem dX11_more_33 : decode cX11_more 33 = .ok (.iload_n 1, 1) := by decide +kernel
theorem dX11_more_34 : decode cX11_more 34 = .ok (.invokevirtual 132, 3) := by decide +kernel
theorem dX11_more_37 : decode cX11_more 37 = .ok (.aload_n 0, 1) := by decide +kernel
theorem dX11_more_38 : decode cX11_more 38 = .ok (.getfield 76, 3) := by decide +kernel
theorem dX11_more_41 : decode cX11_more 41 = .ok (.istore_n 3, 1) := by decide +kernel
theorem dX11_more_42 : decode cX11_more 42 = .ok (.aload_n 0, 1) := by decide +kernel
theorem dX11_more_43 : decode cX11_more 43 = .ok (.dup, 1) := by decide +kernel
theorem dX11_more_44 : decode cX11_more 44 = .ok (.getfield 16, 3) := by decide +kernel
theorem dX11_more_47 : decode cX11_more 47 = .ok (.iconst 1, 1) := by decide +kernel
theorem dX11_more_48 : decode cX11_more 48 = .ok (.iadd, 1) := by decide +kernel
theorem dX11_more_49 : decode cX11_more 49 = .ok (.putfield 16, 3) := by decide +kernel
theorem dX11_more_52 : decode cX11_more 52 = .ok (.aload_n 0, 1) := by decide +kernel
theorem dX11_more_53 : decode cX11_more 53 = .ok (.iload_n 1, 1) := by decide +kernel
theorem dX11_more_54 : decode cX11_more 54 = .ok (.invokevirtual 132, 3) := by decide +kernel
theorem dX11_more_57 : decode cX11_more 57 = .ok (.aload_n 0, 1) := by decide +kernel
theorem dX11_more_58 : decode cX11_more 58 = .ok (.dup, 1) := by decide +kernel
theorem dX11_more_59 : decode cX11_more 59 = .ok (.getfield 16, 3) := by decide +kernel
theorem dX11_more_62 : decode cX11_more 62 = .ok (.iconst 1, 1) := by decide +kernel
theorem dX11_more_63 : decode cX11_more 63 = .ok (.isub, 1) := by decide +kernel
theorem dX11_more_64 : decode cX11_more 64 = .ok (.putfield 16, 3) := by decide +kernel
theorem dX11_more_67 : decode cX11_more 67 = .ok (.iload_n 2, 1) := by decide +kernel
theorem dX11_more_68 : decode cX11_more 68 = .ok (.ifCond .ne 14, 3) := by decide +kernel
theorem dX11_more_71 : decode cX11_more 71 = .ok (.aload_n 0, 1) := by decide +kernel
theorem dX11_more_72 : decode cX11_more 72 = .ok (.getfield 76, 3) := by decide +kernel
theorem dX11_more_75 : decode cX11_more 75 = .ok (.iload_n 3, 1) := by decide +kernel
theorem dX11_more_76 : decode cX11_more 76 = .ok (.iconst (-1), 1) := by decide +kernel
theorem dX11_more_77 : decode cX11_more 77 = .ok (.ixor, 1) := by decide +kernel
theorem dX11_more_78 : decode cX11_more 78 = .ok (.iand, 1) := by decide +kernel
theorem dX11_more_79 : decode cX11_more 79 = .ok (.goto 11, 3) := by decide +kernel
theorem dX11_more_82 : decode cX11_more 82 = .ok (.iload_n 3, 1) := by decide +kernel
theorem dX11_more_83 : decode cX11_more 83 = .ok (.aload_n 0, 1) := by decide +kernel
theorem dX11_more_84 : decode cX11_more 84 = .ok (.getfield 76, 3) := by decide +kernel
theorem dX11_more_87 : decode cX11_more 87 = .ok (.iconst (-1), 1) := by decide +kernel
theorem dX11_more_88 : decode cX11_more 88 = .ok (.ixor, 1) := by decide +kernel
theorem dX11_more_89 : decode cX11_more 89 = .ok (.iand, 1) := by decide +kernel
theorem dX11_more_90 : decode cX11_more 90 = .ok (.ireturn, 1) := by decide +kernel
set_option maxRecDepth 20000 in
theorem ggX11_turn_X11_isWay : GoodIn wsX11_turn wsX11_isWay := goodIn_r _ [7, 8, 9, 6, 10] (by decide +kernel) (by decide +kernel)
set_option maxRecDepth 20000 in
theorem gX11_turn_X11_isWay : GoodIn wsX11_turn (va_wsS RX11 129 yX11_isWay wsX11_isWay) := goodIn_app (goodIn_of _ (by decide +kernel)) ggX11_turn_X11_isWay
set_option maxRecDepth 20000 in
theorem ggX11_turn_X11_isHeap : GoodIn wsX11_turn wsX11_isHeap := goodIn_r _ [14, 2, 8, 9, 6, 10, 89, 90, 91, 92, 93, 94, 95, 96, 97, 98, 99, 100, 101, 102, 103, 104, 105] (by decide +kernel) (by decide +kernel)
set_option maxRecDepth 20000 in
theorem gX11_turn_X11_isHeap : GoodIn wsX11_turn (wsV RX11 46 RX11 yX11_isHeap wsX11_isHeap) := goodIn_app (goodIn_of _ (by decide +kernel)) ggX11_turn_X11_isHeap
set_option maxRecDepth 20000 in
theorem ggX11_turn_X11_in : GoodIn wsX11_turn wsX11_in := goodIn_r _ [10] (by decide +kernel) (by decide +kernel)
set_option maxRecDepth 20000 in
theorem gX11_turn_X11_in : GoodIn wsX11_turn (va_wsS RX11 42 yX11_in wsX11_in) := goodIn_app (goodIn_of _ (by decide +kernel)) ggX11_turn_X11_in
set_option maxRecDepth 20000 in
theorem ggX11_turn_X11_layWay : GoodIn wsX11_turn wsX11_layWay := goodIn_r _ [18, 19, 20, 21, 22, 23, 24, 25, 26, 6, 27, 28, 29, 30, 31, 32, 33, 34, 35, 2, 3, 1, 36, 37, 38, 39, 40, 41, 42, 43, 44, 45, 46, 47, 48, 49, 50, 51, 52, 53, 54, 55, 56, 57, 58, 59, 60, 61, 62, 63, 64, 65, 66, 67, 68, 69, 70, 71, 72, 73, 74, 75, 76, 77, 78, 79, 80, 81, 82, 83, 84, 8, 9, 10, 85, 86, 87, 88, 89, 90, 91, 92, 93, 94, 95, 96, 97, 98, 99, 100, 101, 102, 103, 104, 105] (by decide +kernel) (by decide +kernel)
set_option maxRecDepth 20000 in
theorem gX11_turn_X11_layWay : GoodIn wsX11_turn (wsV RX11 132 RX11 yX11_layWay wsX11_layWay) := goodIn_app (goodIn_of _ (by decide +kernel)) ggX11_turn_X11_layWay
set_option maxRecDepth 20000 in
theorem ggX11_turn_X11_isLeft : GoodIn wsX11_turn wsX11_isLeft := goodIn_r _ [31, 19, 89, 90, 91, 92, 93, 94, 95, 96, 97, 98, 99, 100, 101, 102, 103, 104, 105] (by decide +kernel) (by decide +kernel)
set_option maxRecDepth 20000 in
theorem gX11_turn_X11_isLeft : GoodIn wsX11_turn (wsV RX11 79 RX11 yX11_isLeft wsX11_isLeft) := goodIn_app (goodIn_of _ (by decide +kernel)) ggX11_turn_X11_isLeft
theorem dX11_turn_0 : decode cX11_turn 0 = .ok (.iload_n 1, 1) := by decide +kernel
theorem dX11_turn_1 : decode cX11_turn 1 = .ok (.invokestatic 129, 3) := by decide +kernel
theorem dX11_turn_4 : decode cX11_turn 4 = .ok (.ifCond .eq 21, 3) := by decide +kernel
theorem dX11_turn_7 : decode cX11_turn 7 = .ok (.aload_n 0, 1) := by decide +kernel
theorem dX11_turn_8 : decode cX11_turn 8 = .ok (.iload_n 2, 1) := by decide +kernel
theorem dX11_turn_9 : decode cX11_turn 9 = .ok (.invokevirtual 46, 3) := by decide +kernel
theorem dX11_turn_12 : decode cX11_turn 12 = .ok (.ifCond .eq 13, 3) := by decide +kernel
theorem dX11_turn_15 : decode cX11_turn 15 = .ok (.iload_n 3, 1) := by decide +kernel
theorem dX11_turn_16 : decode cX11_turn 16 = .ok (.iconst 0, 1) := by decide +kernel
theorem dX11_turn_17 : decode cX11_turn 17 = .ok (.bipush 7, 2) := by decide +kernel
theorem dX11_turn_19 : decode cX11_turn 19 = .ok (.invokestatic 42, 3) := by decide +kernel
theorem dX11_turn_22 : decode cX11_turn 22 = .ok (.ifCond .ne 5, 3) := by decide +kernel
theorem dX11_turn_25 : decode cX11_turn 25 = .ok (.iconst (-1), 1) := by decide +kernel
theorem dX11_turn_26 : decode cX11_turn 26 = .ok (.ireturn, 1) := by decide +kernel
theorem dX11_turn_27 : decode cX11_turn 27 = .ok (.aload_n 0, 1) := by decide +kernel
theorem dX11_turn_28 : decode cX11_turn 28 = .ok (.getfield 13, 3) := by decide +kernel
theorem dX11_turn_31 : decode cX11_turn 31 = .ok (.iload_n 2, 1) := by decide +kernel
theorem dX11_turn_32 : decode cX11_turn 32 = .ok (.iaload, 1) := by decide +kernel
theorem dX11_turn_33 : decode cX11_turn 33 = .ok (.istore 4, 2) := by decide +kernel
theorem dX11_turn_35 : decode cX11_turn 35 = .ok (.bipush (-6), 2) := by decide +kernel
theorem dX11_turn_37 : decode cX11_turn 37 = .ok (.istore 5, 2) := by decide +kernel
theorem dX11_turn_39 : decode cX11_turn 39 = .ok (.aload_n 0, 1) := by decide +kernel
theorem dX11_turn_40 : decode cX11_turn 40 = .ok (.iload_n 1, 1) := by decide +kernel
theorem dX11_turn_41 : decode cX11_turn 41 = .ok (.invokevirtual 132, 3) := by decide +kernel
theorem dX11_turn_44 : decode cX11_turn 44 = .ok (.aload_n 0, 1) := by decide +kernel
theorem dX11_turn_45 : decode cX11_turn 45 = .ok (.iload_n 3, 1) := by decide +kernel
theorem dX11_turn_46 : decode cX11_turn 46 = .ok (.invokevirtual 79, 3) := by decide +kernel
theorem dX11_turn_49 : decode cX11_turn 49 = .ok (.ifCond .eq 8, 3) := by decide +kernel
theorem dX11_turn_52 : decode cX11_turn 52 = .ok (.bipush (-6), 2) := by decide +kernel
theorem dX11_turn_54 : decode cX11_turn 54 = .ok (.goto 4, 3) := by decide +kernel
theorem dX11_turn_57 : decode cX11_turn 57 = .ok (.iconst 0, 1) := by decide +kernel
theorem dX11_turn_58 : decode cX11_turn 58 = .ok (.istore 5, 2) := by decide +kernel
theorem dX11_turn_60 : decode cX11_turn 60 = .ok (.aload_n 0, 1) := by decide +kernel
theorem dX11_turn_61 : decode cX11_turn 61 = .ok (.dup, 1) := by decide +kernel
theorem dX11_turn_62 : decode cX11_turn 62 = .ok (.getfield 39, 3) := by decide +kernel
theorem dX11_turn_65 : decode cX11_turn 65 = .ok (.iconst 1, 1) := by decide +kernel
theorem dX11_turn_66 : decode cX11_turn 66 = .ok (.iadd, 1) := by decide +kernel
theorem dX11_turn_67 : decode cX11_turn 67 = .ok (.putfield 39, 3) := by decide +kernel
theorem dX11_turn_70 : decode cX11_turn 70 = .ok (.iconst 1, 1) := by decide +kernel
theorem dX11_turn_71 : decode cX11_turn 71 = .ok (.istore 6, 2) := by decide +kernel
theorem dX11_turn_73 : decode cX11_turn 73 = .ok (.iload 6, 2) := by decide +kernel
theorem dX11_turn_75 : decode cX11_turn 75 = .ok (.iload 4, 2) := by decide +kernel
theorem dX11_turn_77 : decode cX11_turn 77 = .ok (.if_icmp .gt 74, 3) := by decide +kernel
theorem dX11_turn_80 : decode cX11_turn 80 = .ok (.iload 5, 2) := by decide +kernel
theorem dX11_turn_82 : decode cX11_turn 82 = .ok (.ifCond .ge 69, 3) := by decide +kernel
theorem dX11_turn_85 : decode cX11_turn 85 = .ok (.aload_n 0, 1) := by decide +kernel
theorem dX11_turn_86 : decode cX11_turn 86 = .ok (.getfield 13, 3) := by decide +kernel
theorem dX11_turn_89 : decode cX11_turn 89 = .ok (.iload_n 2, 1) := by decide +kernel
theorem dX11_turn_90 : decode cX11_turn 90 = .ok (.iload 4, 2) := by decide +kernel
theorem dX11_turn_92 : decode cX11_turn 92 = .ok (.iload 6, 2) := by decide +kernel
theorem dX11_turn_94 : decode cX11_turn 94 = .ok (.isub, 1) := by decide +kernel
theorem dX11_turn_95 : decode cX11_turn 95 = .ok (.iastore, 1) := by decide +kernel
theorem dX11_turn_96 : decode cX11_turn 96 = .ok (.aload_n 0, 1) := by decide +kernel
theorem dX11_turn_97 : decode cX11_turn 97 = .ok (.getfield 7, 3) := by decide +kernel
theorem dX11_turn_100 : decode cX11_turn 100 = .ok (.aload_n 0, 1) := by decide +kernel
theorem dX11_turn_101 : decode cX11_turn 101 = .ok (.getfield 39, 3) := by decide +kernel
theorem dX11_turn_104 : decode cX11_turn 104 = .ok (.iconst 1, 1) := by decide +kernel
theorem dX11_turn_105 : decode cX11_turn 105 = .ok (.isub, 1) := by decide +kernel
theorem dX11_turn_106 : decode cX11_turn 106 = .ok (.iconst 1, 1) := by decide +kernel
theorem dX11_turn_107 : decode cX11_turn 107 = .ok (.iload_n 3, 1) := by decide +kernel
theorem dX11_turn_108 : decode cX11_turn 108 = .ok (.ishl, 1) := by decide +kernel
theorem dX11_turn_109 : decode cX11_turn 109 = .ok (.iastore, 1) := by decide +kernel
theorem dX11_turn_110 : decode cX11_turn 110 = .ok (.aload_n 0, 1) := by decide +kernel
theorem dX11_turn_111 : decode cX11_turn 111 = .ok (.getfield 13, 3) := by decide +kernel
theorem dX11_turn_114 : decode cX11_turn 114 = .ok (.aload_n 0, 1) := by decide +kernel
theorem dX11_turn_115 : decode cX11_turn 115 = .ok (.getfield 39, 3) := by decide +kernel
theorem dX11_turn_118 : decode cX11_turn 118 = .ok (.iconst 1, 1) := by decide +kernel
theorem dX11_turn_119 : decode cX11_turn 119 = .ok (.isub, 1) := by decide +kernel
theorem dX11_turn_120 : decode cX11_turn 120 = .ok (.iload 6, 2) := by decide +kernel
theorem dX11_turn_122 : decode cX11_turn 122 = .ok (.iastore, 1) := by decide +kernel
theorem dX11_turn_123 : decode cX11_turn 123 = .ok (.aload_n 0, 1) := by decide +kernel
theorem dX11_turn_124 : decode cX11_turn 124 = .ok (.iload_n 1, 1) := by decide +kernel
theorem dX11_turn_125 : decode cX11_turn 125 = .ok (.invokevirtual 132, 3) := by decide +kernel
theorem dX11_turn_128 : decode cX11_turn 128 = .ok (.aload_n 0, 1) := by decide +kernel
theorem dX11_turn_129 : decode cX11_turn 129 = .ok (.iload_n 3, 1) := by decide +kernel
theorem dX11_turn_130 : decode cX11_turn 130 = .ok (.invokevirtual 79, 3) := by decide +kernel
theorem dX11_turn_133 : decode cX11_turn 133 = .ok (.ifCond .eq 8, 3) := by decide +kernel
theorem dX11_turn_136 : decode cX11_turn 136 = .ok (.bipush (-6), 2) := by decide +kernel
theorem dX11_turn_138 : decode cX11_turn 138 = .ok (.goto 5, 3) := by decide +kernel
theorem dX11_turn_141 : decode cX11_turn 141 = .ok (.iload 6, 2) := by decide +kernel
theorem dX11_turn_143 : decode cX11_turn 143 = .ok (.istore 5, 2) := by decide +kernel
theorem dX11_turn_145 : decode cX11_turn 145 = .ok (.iinc 6 1, 3) := by decide +kernel
theorem dX11_turn_148 : decode cX11_turn 148 = .ok (.goto (-75), 3) := by decide +kernel
theorem dX11_turn_151 : decode cX11_turn 151 = .ok (.aload_n 0, 1) := by decide +kernel
theorem dX11_turn_152 : decode cX11_turn 152 = .ok (.dup, 1) := by decide +kernel
theorem dX11_turn_153 : decode cX11_turn 153 = .ok (.getfield 39, 3) := by decide +kernel
theorem dX11_turn_156 : decode cX11_turn 156 = .ok (.iconst 1, 1) := by decide +kernel
theorem dX11_turn_157 : decode cX11_turn 157 = .ok (.isub, 1) := by decide +kernel
theorem dX11_turn_158 : decode cX11_turn 158 = .ok (.putfield 39, 3) := by decide +kernel
theorem dX11_turn_161 : decode cX11_turn 161 = .ok (.aload_n 0, 1) := by decide +kernel
theorem dX11_turn_162 : decode cX11_turn 162 = .ok (.getfield 13, 3) := by decide +kernel
theorem dX11_turn_165 : decode cX11_turn 165 = .ok (.iload_n 2, 1) := by decide +kernel
theorem dX11_turn_166 : decode cX11_turn 166 = .ok (.iload 4, 2) := by decide +kernel
theorem dX11_turn_168 : decode cX11_turn 168 = .ok (.iastore, 1) := by decide +kernel
theorem dX11_turn_169 : decode cX11_turn 169 = .ok (.iload 5, 2) := by decide +kernel
theorem dX11_turn_171 : decode cX11_turn 171 = .ok (.ireturn, 1) := by decide +kernel
set_option maxRecDepth 20000 in
theorem ggX11_told_X11_in : GoodIn wsX11_told wsX11_in := goodIn_r _ [12] (by decide +kernel) (by decide +kernel)
set_option maxRecDepth 20000 in
theorem gX11_told_X11_in : GoodIn wsX11_told (va_wsS RX11 42 yX11_in wsX11_in) := goodIn_app (goodIn_of _ (by decide +kernel)) ggX11_told_X11_in
set_option maxRecDepth 20000 in
theorem ggX11_told_X11_isHeap : GoodIn wsX11_told wsX11_isHeap := goodIn_r _ [16, 6, 9, 10, 11, 12, 21, 22, 23, 24, 25, 26, 27, 28, 29, 30, 31, 32, 33, 34, 35, 36, 37] (by decide +kernel) (by decide +kernel)
set_option maxRecDepth 20000 in
theorem gX11_told_X11_isHeap : GoodIn wsX11_told (wsV RX11 46 RX11 yX11_isHeap wsX11_isHeap) := goodIn_app (goodIn_of _ (by decide +kernel)) ggX11_told_X11_isHeap
set_option maxRecDepth 20000 in
theorem ggX11_told_X11_allPapers : GoodIn wsX11_told wsX11_allPapers := goodIn_r _ [20, 6, 4, 21, 22, 23, 24, 25, 26, 27, 28, 29, 30, 31, 32, 33, 34, 35, 36, 37] (by decide +kernel) (by decide +kernel)
set_option maxRecDepth 20000 in
theorem gX11_told_X11_allPapers : GoodIn wsX11_told (wsV RX11 96 RX11 yX11_allPapers wsX11_allPapers) := goodIn_app (goodIn_of _ (by decide +kernel)) ggX11_told_X11_allPapers
theorem dX11_told_0 : decode cX11_told 0 = .ok (.aload_n 0, 1) := by decide +kernel
theorem dX11_told_1 : decode cX11_told 1 = .ok (.getfield 57, 3) := by decide +kernel
theorem dX11_told_4 : decode cX11_told 4 = .ok (.ifCond .le 7, 3) := by decide +kernel
theorem dX11_told_7 : decode cX11_told 7 = .ok (.iconst 1, 1) := by decide +kernel
theorem dX11_told_8 : decode cX11_told 8 = .ok (.goto 4, 3) := by decide +kernel
theorem dX11_told_11 : decode cX11_told 11 = .ok (.iconst 0, 1) := by decide +kernel
theorem dX11_told_12 : decode cX11_told 12 = .ok (.istore_n 2, 1) := by decide +kernel
theorem dX11_told_13 : decode cX11_told 13 = .ok (.iconst 0, 1) := by decide +kernel
theorem dX11_told_14 : decode cX11_told 14 = .ok (.istore_n 3, 1) := by decide +kernel
theorem dX11_told_15 : decode cX11_told 15 = .ok (.iload_n 3, 1) := by decide +kernel
theorem dX11_told_16 : decode cX11_told 16 = .ok (.aload_n 0, 1) := by decide +kernel
theorem dX11_told_17 : decode cX11_told 17 = .ok (.getfield 57, 3) := by decide +kernel
theorem dX11_told_20 : decode cX11_told 20 = .ok (.if_icmp .ge 28, 3) := by decide +kernel
theorem dX11_told_23 : decode cX11_told 23 = .ok (.iload_n 2, 1) := by decide +kernel
theorem dX11_told_24 : decode cX11_told 24 = .ok (.aload_n 0, 1) := by decide +kernel
theorem dX11_told_25 : decode cX11_told 25 = .ok (.getfield 26, 3) := by decide +kernel
theorem dX11_told_28 : decode cX11_told 28 = .ok (.iload_n 3, 1) := by decide +kernel
theorem dX11_told_29 : decode cX11_told 29 = .ok (.iaload, 1) := by decide +kernel
theorem dX11_told_30 : decode cX11_told 30 = .ok (.bipush 59, 2) := by decide +kernel
theorem dX11_told_32 : decode cX11_told 32 = .ok (.if_icmp .ne 7, 3) := by decide +kernel
theorem dX11_told_35 : decode cX11_told 35 = .ok (.iconst 1, 1) := by decide +kernel
theorem dX11_told_36 : decode cX11_told 36 = .ok (.goto 4, 3) := by decide +kernel
theorem dX11_told_39 : decode cX11_told 39 = .ok (.iconst 0, 1) := by decide +kernel
theorem dX11_told_40 : decode cX11_told 40 = .ok (.iadd, 1) := by decide +kernel
theorem dX11_told_41 : decode cX11_told 41 = .ok (.istore_n 2, 1) := by decide +kernel
theorem dX11_told_42 : decode cX11_told 42 = .ok (.iinc 3 1, 3) := by decide +kernel
theorem dX11_told_45 : decode cX11_told 45 = .ok (.goto (-30), 3) := by decide +kernel
theorem dX11_told_48 : decode cX11_told 48 = .ok (.iload_n 1, 1) := by decide +kernel
theorem dX11_told_49 : decode cX11_told 49 = .ok (.bipush 10, 2) := by decide +kernel
theorem dX11_told_51 : decode cX11_told 51 = .ok (.bipush 13, 2) := by decide +kernel
theorem dX11_told_53 : decode cX11_told 53 = .ok (.invokestatic 42, 3) := by decide +kernel
theorem dX11_told_56 : decode cX11_told 56 = .ok (.ifCond .eq 13, 3) := by decide +kernel
theorem dX11_told_59 : decode cX11_told 59 = .ok (.aload_n 0, 1) := by decide +kernel
theorem dX11_told_60 : decode cX11_told 60 = .ok (.getfield 20, 3) := by decide +kernel
theorem dX11_told_63 : decode cX11_told 63 = .ok (.iload_n 1, 1) := by decide +kernel
theorem dX11_told_64 : decode cX11_told 64 = .ok (.bipush 10, 2) := by decide +kernel
theorem dX11_told_66 : decode cX11_told 66 = .ok (.isub, 1) := by decide +kernel
theorem dX11_told_67 : decode cX11_told 67 = .ok (.iaload, 1) := by decide +kernel
theorem dX11_told_68 : decode cX11_told 68 = .ok (.ireturn, 1) := by decide +kernel
theorem dX11_told_69 : decode cX11_told 69 = .ok (.iload_n 1, 1) := by decide +kernel
theorem dX11_told_70 : decode cX11_told 70 = .ok (.bipush 20, 2) := by decide +kernel
theorem dX11_told_72 : decode cX11_told 72 = .ok (.bipush 25, 2) := by decide +kernel
theorem dX11_told_74 : decode cX11_told 74 = .ok (.invokestatic 42, 3) := by decide +kernel
theorem dX11_told_77 : decode cX11_told 77 = .ok (.ifCond .eq 29, 3) := by decide +kernel
theorem dX11_told_80 : decode cX11_told 80 = .ok (.aload_n 0, 1) := by decide +kernel
theorem dX11_told_81 : decode cX11_told 81 = .ok (.iload_n 1, 1) := by decide +kernel
theorem dX11_told_82 : decode cX11_told 82 = .ok (.bipush 20, 2) := by decide +kernel
theorem dX11_told_84 : decode cX11_told 84 = .ok (.isub, 1) := by decide +kernel
theorem dX11_told_85 : decode cX11_told 85 = .ok (.invokevirtual 46, 3) := by decide +kernel
theorem dX11_told_88 : decode cX11_told 88 = .ok (.ifCond .eq 15, 3) := by decide +kernel
theorem dX11_told_91 : decode cX11_told 91 = .ok (.aload_n 0, 1) := by decide +kernel
theorem dX11_told_92 : decode cX11_told 92 = .ok (.getfield 13, 3) := by decide +kernel
theorem dX11_told_95 : decode cX11_told 95 = .ok (.iload_n 1, 1) := by decide +kernel
theorem dX11_told_96 : decode cX11_told 96 = .ok (.bipush 20, 2) := by decide +kernel
theorem dX11_told_98 : decode cX11_told 98 = .ok (.isub, 1) := by decide +kernel
theorem dX11_told_99 : decode cX11_told 99 = .ok (.iaload, 1) := by decide +kernel
theorem dX11_told_100 : decode cX11_told 100 = .ok (.goto 5, 3) := by decide +kernel
theorem dX11_told_103 : decode cX11_told 103 = .ok (.bipush (-6), 2) := by decide +kernel
theorem dX11_told_105 : decode cX11_told 105 = .ok (.ireturn, 1) := by decide +kernel
theorem dX11_told_106 : decode cX11_told 106 = .ok (.iload_n 1, 1) := by decide +kernel
theorem dX11_told_107 : decode cX11_told 107 = .ok (.bipush 30, 2) := by decide +kernel
theorem dX11_told_109 : decode cX11_told 109 = .ok (.bipush 35, 2) := by decide +kernel
theorem dX11_told_111 : decode cX11_told 111 = .ok (.invokestatic 42, 3) := by decide +kernel
theorem dX11_told_114 : decode cX11_told 114 = .ok (.ifCond .eq 29, 3) := by decide +kernel
theorem dX11_told_117 : decode cX11_told 117 = .ok (.aload_n 0, 1) := by decide +kernel
theorem dX11_told_118 : decode cX11_told 118 = .ok (.iload_n 1, 1) := by decide +kernel
theorem dX11_told_119 : decode cX11_told 119 = .ok (.bipush 30, 2) := by decide +kernel
theorem dX11_told_121 : decode cX11_told 121 = .ok (.isub, 1) := by decide +kernel
theorem dX11_told_122 : decode cX11_told 122 = .ok (.invokevirtual 46, 3) := by decide +kernel
theorem dX11_told_125 : decode cX11_told 125 = .ok (.ifCond .eq 15, 3) := by decide +kernel
theorem dX11_told_128 : decode cX11_told 128 = .ok (.aload_n 0, 1) := by decide +kernel
theorem dX11_told_129 : decode cX11_told 129 = .ok (.getfield 7, 3) := by decide +kernel
theorem dX11_told_132 : decode cX11_told 132 = .ok (.iload_n 1, 1) := by decide +kernel
theorem dX11_told_133 : decode cX11_told 133 = .ok (.bipush 30, 2) := by decide +kernel
theorem dX11_told_135 : decode cX11_told 135 = .ok (.isub, 1) := by decide +kernel
theorem dX11_told_136 : decode cX11_told 136 = .ok (.iaload, 1) := by decide +kernel
theorem dX11_told_137 : decode cX11_told 137 = .ok (.goto 5, 3) := by decide +kernel
theorem dX11_told_140 : decode cX11_told 140 = .ok (.bipush (-6), 2) := by decide +kernel
theorem dX11_told_142 : decode cX11_told 142 = .ok (.ireturn, 1) := by decide +kernel
theorem dX11_told_143 : decode cX11_told 143 = .ok (.iload_n 1, 1) := by decide +kernel
theorem dX11_told_144 : decode cX11_told 144 = .ok (.ifCond .ne 10, 3) := by decide +kernel
theorem dX11_told_147 : decode cX11_told 147 = .ok (.aload_n 0, 1) := by decide +kernel
theorem dX11_told_148 : decode cX11_told 148 = .ok (.getfield 39, 3) := by decide +kernel
theorem dX11_told_151 : decode cX11_told 151 = .ok (.goto 50, 3) := by decide +kernel
theorem dX11_told_154 : decode cX11_told 154 = .ok (.iload_n 1, 1) := by decide +kernel
theorem dX11_told_155 : decode cX11_told 155 = .ok (.iconst 1, 1) := by decide +kernel
theorem dX11_told_156 : decode cX11_told 156 = .ok (.if_icmp .ne 10, 3) := by decide +kernel
theorem dX11_told_159 : decode cX11_told 159 = .ok (.aload_n 0, 1) := by decide +kernel
theorem dX11_told_160 : decode cX11_told 160 = .ok (.invokevirtual 96, 3) := by decide +kernel
theorem dX11_told_163 : decode cX11_told 163 = .ok (.goto 38, 3) := by decide +kernel
theorem dX11_told_166 : decode cX11_told 166 = .ok (.iload_n 1, 1) := by decide +kernel
theorem dX11_told_167 : decode cX11_told 167 = .ok (.iconst 2, 1) := by decide +kernel
theorem dX11_told_168 : decode cX11_told 168 = .ok (.if_icmp .ne 10, 3) := by decide +kernel
theorem dX11_told_171 : decode cX11_told 171 = .ok (.aload_n 0, 1) := by decide +kernel
theorem dX11_told_172 : decode cX11_told 172 = .ok (.getfield 16, 3) := by decide +kernel
theorem dX11_told_175 : decode cX11_told 175 = .ok (.goto 26, 3) := by decide +kernel
theorem dX11_told_178 : decode cX11_told 178 = .ok (.iload_n 1, 1) := by decide +kernel
theorem dX11_told_179 : decode cX11_told 179 = .ok (.iconst 3, 1) := by decide +kernel
theorem dX11_told_180 : decode cX11_told 180 = .ok (.if_icmp .ne 10, 3) := by decide +kernel
theorem dX11_told_183 : decode cX11_told 183 = .ok (.aload_n 0, 1) := by decide +kernel
theorem dX11_told_184 : decode cX11_told 184 = .ok (.getfield 50, 3) := by decide +kernel
theorem dX11_told_187 : decode cX11_told 187 = .ok (.goto 14, 3) := by decide +kernel
theorem dX11_told_190 : decode cX11_told 190 = .ok (.iload_n 1, 1) := by decide +kernel
theorem dX11_told_191 : decode cX11_told 191 = .ok (.iconst 4, 1) := by decide +kernel
theorem dX11_told_192 : decode cX11_told 192 = .ok (.if_icmp .ne 7, 3) := by decide +kernel
theorem dX11_told_195 : decode cX11_told 195 = .ok (.iload_n 2, 1) := by decide +kernel
theorem dX11_told_196 : decode cX11_told 196 = .ok (.goto 5, 3) := by decide +kernel
theorem dX11_told_199 : decode cX11_told 199 = .ok (.bipush (-2), 2) := by decide +kernel
theorem dX11_told_201 : decode cX11_told 201 = .ok (.ireturn, 1) := by decide +kernel
theorem dJ6_bitCount_0f7a4_0 : decode cJ6_bitCount_0f7a4 0 = .ok (.iload_n 0, 1) := by decide +kernel
theorem dJ6_bitCount_0f7a4_1 : decode cJ6_bitCount_0f7a4 1 = .ok (.iload_n 0, 1) := by decide +kernel
theorem dJ6_bitCount_0f7a4_2 : decode cJ6_bitCount_0f7a4 2 = .ok (.iconst 1, 1) := by decide +kernel
theorem dJ6_bitCount_0f7a4_3 : decode cJ6_bitCount_0f7a4 3 = .ok (.iushr, 1) := by decide +kernel
theorem dJ6_bitCount_0f7a4_4 : decode cJ6_bitCount_0f7a4 4 = .ok (.ldc_w 265, 3) := by decide +kernel
theorem dJ6_bitCount_0f7a4_7 : decode cJ6_bitCount_0f7a4 7 = .ok (.iand, 1) := by decide +kernel
theorem dJ6_bitCount_0f7a4_8 : decode cJ6_bitCount_0f7a4 8 = .ok (.isub, 1) := by decide +kernel
theorem dJ6_bitCount_0f7a4_9 : decode cJ6_bitCount_0f7a4 9 = .ok (.istore_n 0, 1) := by decide +kernel
theorem dJ6_bitCount_0f7a4_10 : decode cJ6_bitCount_0f7a4 10 = .ok (.iload_n 0, 1) := by decide +kernel
theorem dJ6_bitCount_0f7a4_11 : decode cJ6_bitCount_0f7a4 11 = .ok (.ldc_w 266, 3) := by decide +kernel
theorem dJ6_bitCount_0f7a4_14 : decode cJ6_bitCount_0f7a4 14 = .ok (.iand, 1) := by decide +kernel
theorem dJ6_bitCount_0f7a4_15 : decode cJ6_bitCount_0f7a4 15 = .ok (.iload_n 0, 1) := by decide +kernel
theorem dJ6_bitCount_0f7a4_16 : decode cJ6_bitCount_0f7a4 16 = .ok (.iconst 2, 1) := by decide +kernel
theorem dJ6_bitCount_0f7a4_17 : decode cJ6_bitCount_0f7a4 17 = .ok (.iushr, 1) := by decide +kernel
theorem dJ6_bitCount_0f7a4_18 : decode cJ6_bitCount_0f7a4 18 = .ok (.ldc_w 266, 3) := by decide +kernel
theorem dJ6_bitCount_0f7a4_21 : decode cJ6_bitCount_0f7a4 21 = .ok (.iand, 1) := by decide +kernel
theorem dJ6_bitCount_0f7a4_22 : decode cJ6_bitCount_0f7a4 22 = .ok (.iadd, 1) := by decide +kernel
theorem dJ6_bitCount_0f7a4_23 : decode cJ6_bitCount_0f7a4 23 = .ok (.istore_n 0, 1) := by decide +kernel
theorem dJ6_bitCount_0f7a4_24 : decode cJ6_bitCount_0f7a4 24 = .ok (.iload_n 0, 1) := by decide +kernel
theorem dJ6_bitCount_0f7a4_25 : decode cJ6_bitCount_0f7a4 25 = .ok (.iload_n 0, 1) := by decide +kernel
theorem dJ6_bitCount_0f7a4_26 : decode cJ6_bitCount_0f7a4 26 = .ok (.iconst 4, 1) := by decide +kernel
theorem dJ6_bitCount_0f7a4_27 : decode cJ6_bitCount_0f7a4 27 = .ok (.iushr, 1) := by decide +kernel
theorem dJ6_bitCount_0f7a4_28 : decode cJ6_bitCount_0f7a4 28 = .ok (.iadd, 1) := by decide +kernel
theorem dJ6_bitCount_0f7a4_29 : decode cJ6_bitCount_0f7a4 29 = .ok (.ldc_w 267, 3) := by decide +kernel
theorem dJ6_bitCount_0f7a4_32 : decode cJ6_bitCount_0f7a4 32 = .ok (.iand, 1) := by decide +kernel
theorem dJ6_bitCount_0f7a4_33 : decode cJ6_bitCount_0f7a4 33 = .ok (.istore_n 0, 1) := by decide +kernel
theorem dJ6_bitCount_0f7a4_34 : decode cJ6_bitCount_0f7a4 34 = .ok (.iload_n 0, 1) := by decide +kernel
theorem dJ6_bitCount_0f7a4_35 : decode cJ6_bitCount_0f7a4 35 = .ok (.iload_n 0, 1) := by decide +kernel
theorem dJ6_bitCount_0f7a4_36 : decode cJ6_bitCount_0f7a4 36 = .ok (.bipush 8, 2) := by decide +kernel
theorem dJ6_bitCount_0f7a4_38 : decode cJ6_bitCount_0f7a4 38 = .ok (.iushr, 1) := by decide +kernel
theorem dJ6_bitCount_0f7a4_39 : decode cJ6_bitCount_0f7a4 39 = .ok (.iadd, 1) := by decide +kernel
theorem dJ6_bitCount_0f7a4_40 : decode cJ6_bitCount_0f7a4 40 = .ok (.istore_n 0, 1) := by decide +kernel
theorem dJ6_bitCount_0f7a4_41 : decode cJ6_bitCount_0f7a4 41 = .ok (.iload_n 0, 1) := by decide +kernel
theorem dJ6_bitCount_0f7a4_42 : decode cJ6_bitCount_0f7a4 42 = .ok (.iload_n 0, 1) := by decide +kernel
theorem dJ6_bitCount_0f7a4_43 : decode cJ6_bitCount_0f7a4 43 = .ok (.bipush 16, 2) := by decide +kernel
theorem dJ6_bitCount_0f7a4_45 : decode cJ6_bitCount_0f7a4 45 = .ok (.iushr, 1) := by decide +kernel
theorem dJ6_bitCount_0f7a4_46 : decode cJ6_bitCount_0f7a4 46 = .ok (.iadd, 1) := by decide +kernel
theorem dJ6_bitCount_0f7a4_47 : decode cJ6_bitCount_0f7a4 47 = .ok (.istore_n 0, 1) := by decide +kernel
theorem dJ6_bitCount_0f7a4_48 : decode cJ6_bitCount_0f7a4 48 = .ok (.iload_n 0, 1) := by decide +kernel
theorem dJ6_bitCount_0f7a4_49 : decode cJ6_bitCount_0f7a4 49 = .ok (.bipush 63, 2) := by decide +kernel
theorem dJ6_bitCount_0f7a4_51 : decode cJ6_bitCount_0f7a4 51 = .ok (.iand, 1) := by decide +kernel
theorem dJ6_bitCount_0f7a4_52 : decode cJ6_bitCount_0f7a4 52 = .ok (.ireturn, 1) := by decide +kernel
theorem dJ9_max_7cf53_0 : decode cJ9_max_7cf53 0 = .ok (.iload_n 0, 1) := by decide +kernel
theorem dJ9_max_7cf53_1 : decode cJ9_max_7cf53 1 = .ok (.iload_n 1, 1) := by decide +kernel
theorem dJ9_max_7cf53_2 : decode cJ9_max_7cf53 2 = .ok (.if_icmp .lt 7, 3) := by decide +kernel
theorem dJ9_max_7cf53_5 : decode cJ9_max_7cf53 5 = .ok (.iload_n 0, 1) := by decide +kernel
theorem dJ9_max_7cf53_6 : decode cJ9_max_7cf53 6 = .ok (.goto 4, 3) := by decide +kernel
theorem dJ9_max_7cf53_9 : decode cJ9_max_7cf53 9 = .ok (.iload_n 1, 1) := by decide +kernel
theorem dJ9_max_7cf53_10 : decode cJ9_max_7cf53 10 = .ok (.ireturn, 1) := by decide +kernel
theorem dJ9_max_f86c9_0 : decode cJ9_max_f86c9 0 = .ok (.lload_n 0, 1) := by decide +kernel
theorem dJ9_max_f86c9_1 : decode cJ9_max_f86c9 1 = .ok (.lload_n 2, 1) := by decide +kernel
theorem dJ9_max_f86c9_2 : decode cJ9_max_f86c9 2 = .ok (.lcmp, 1) := by decide +kernel
theorem dJ9_max_f86c9_3 : decode cJ9_max_f86c9 3 = .ok (.ifCond .lt 7, 3) := by decide +kernel
theorem dJ9_max_f86c9_6 : decode cJ9_max_f86c9 6 = .ok (.lload_n 0, 1) := by decide +kernel
theorem dJ9_max_f86c9_7 : decode cJ9_max_f86c9 7 = .ok (.goto 4, 3) := by decide +kernel
theorem dJ9_max_f86c9_10 : decode cJ9_max_f86c9 10 = .ok (.lload_n 2, 1) := by decide +kernel
theorem dJ9_max_f86c9_11 : decode cJ9_max_f86c9 11 = .ok (.lreturn, 1) := by decide +kernel
theorem dJ9_min_7cf53_0 : decode cJ9_min_7cf53 0 = .ok (.iload_n 0, 1) := by decide +kernel
theorem dJ9_min_7cf53_1 : decode cJ9_min_7cf53 1 = .ok (.iload_n 1, 1) := by decide +kernel
theorem dJ9_min_7cf53_2 : decode cJ9_min_7cf53 2 = .ok (.if_icmp .gt 7, 3) := by decide +kernel
theorem dJ9_min_7cf53_5 : decode cJ9_min_7cf53 5 = .ok (.iload_n 0, 1) := by decide +kernel
theorem dJ9_min_7cf53_6 : decode cJ9_min_7cf53 6 = .ok (.goto 4, 3) := by decide +kernel
theorem dJ9_min_7cf53_9 : decode cJ9_min_7cf53 9 = .ok (.iload_n 1, 1) := by decide +kernel
theorem dJ9_min_7cf53_10 : decode cJ9_min_7cf53 10 = .ok (.ireturn, 1) := by decide +kernel
set_option maxRecDepth 20000 in
theorem ggL_law_X10_init : GoodIn wsL_law wsX10_init := goodIn_r _ [8, 9, 10, 11, 12, 13, 14, 15, 16, 17, 18, 19, 20, 21, 22, 23, 24, 25, 26, 27, 28, 29, 30, 31, 32, 33, 34, 35, 36, 37, 38, 39, 40, 41, 42, 43, 44, 45, 46, 47, 48, 49, 50, 51, 52, 53, 54, 55, 56, 57, 58, 59, 60, 61, 62, 63, 64, 65, 66, 67, 68, 69, 70, 71, 72, 73, 74, 75, 76, 77, 78, 79, 80, 81, 82, 83, 84, 85, 86, 87, 88, 89, 90, 91, 92, 93, 94, 95, 96, 97, 98, 99, 100, 101, 102, 103, 104, 105, 106, 107, 780, 781, 754, 755, 756, 757, 758, 759, 760, 761, 762, 782, 783, 784, 785, 786, 787, 788, 789, 790, 791, 792, 793, 794, 795, 796, 797, 798, 799, 800, 801, 802, 803, 804, 805, 806, 807, 808, 809, 810, 811, 812, 813, 814, 815] (by decide +kernel) (by decide +kernel)
set_option maxRecDepth 20000 in
theorem gL_law_X10_init : GoodIn wsL_law (wsX10_init) := ggL_law_X10_init
set_option maxRecDepth 20000 in
theorem ggL_law_X11_init : GoodIn wsL_law wsX11_init := goodIn_r _ [110, 111, 10, 11, 46, 112, 113, 114, 115, 116, 117, 118, 104, 119, 120, 763, 764, 765, 766, 767, 768, 769, 770, 771, 772, 773, 774, 775, 776, 777, 778, 779] (by decide +kernel) (by decide +kernel)
set_option maxRecDepth 20000 in
theorem gL_law_X11_init : GoodIn wsL_law (wsX11_init) := ggL_law_X11_init
set_option maxRecDepth 20000 in
theorem ggL_law_X10_heap : GoodIn wsL_law wsX10_heap := goodIn_r _ [124, 19, 125, 126, 127, 2, 128, 129, 130, 131, 132, 133, 134, 18, 135, 136, 57, 58, 754, 755, 756, 757, 758, 759, 760, 761, 762, 782, 783, 784, 785] (by decide +kernel) (by decide +kernel)
set_option maxRecDepth 20000 in
theorem gL_law_X10_heap : GoodIn wsL_law (wsV RL 13 RX10 yX10_heap wsX10_heap) := goodIn_app (goodIn_of _ (by decide +kernel)) ggL_law_X10_heap
set_option maxRecDepth 20000 in
theorem ggL_law_X11_heap : GoodIn wsL_law wsX11_heap := goodIn_r _ [140, 141, 112, 113, 142, 143, 5, 144, 763, 764, 765, 766, 767, 768, 769, 770, 771, 772, 773, 774, 775, 776, 777, 778, 779] (by decide +kernel) (by decide +kernel)
set_option maxRecDepth 20000 in
theorem gL_law_X11_heap : GoodIn wsL_law (wsV RL 17 RX11 yX11_heap wsX11_heap) := goodIn_app (goodIn_of _ (by decide +kernel)) ggL_law_X11_heap
set_option maxRecDepth 20000 in
theorem ggL_law_X10_change : GoodIn wsL_law wsX10_change := goodIn_r _ [148, 19, 149, 150, 151, 152, 153, 2, 154, 125, 126, 127, 128, 129, 130, 131, 754, 755, 756, 757, 758, 759, 760, 761, 762, 782, 783, 784, 785] (by decide +kernel) (by decide +kernel)
set_option maxRecDepth 20000 in
theorem gL_law_X10_change : GoodIn wsL_law (wsV RL 18 RX10 yX10_change wsX10_change) := goodIn_app (goodIn_of _ (by decide +kernel)) ggL_law_X10_change
set_option maxRecDepth 20000 in
theorem ggL_law_X11_change : GoodIn wsL_law wsX11_change := goodIn_r _ [158, 112, 113, 159, 160, 161, 5, 162, 141, 142, 143, 144, 763, 764, 765, 766, 767, 768, 769, 770, 771, 772, 773, 774, 775, 776, 777, 778, 779] (by decide +kernel) (by decide +kernel)
set_option maxRecDepth 20000 in
theorem gL_law_X11_change : GoodIn wsL_law (wsV RL 22 RX11 yX11_change wsX11_change) := goodIn_app (goodIn_of _ (by decide +kernel)) ggL_law_X11_change
set_option maxRecDepth 20000 in
theorem ggL_law_X10_drop : GoodIn wsL_law wsX10_drop := goodIn_r _ [166, 19, 125, 754, 755, 756, 757, 758, 759, 760, 761, 762, 782, 783, 784, 785] (by decide +kernel) (by decide +kernel)
set_option maxRecDepth 20000 in
theorem gL_law_X10_drop : GoodIn wsL_law (wsV RL 23 RX10 yX10_drop wsX10_drop) := goodIn_app (goodIn_of _ (by decide +kernel)) ggL_law_X10_drop
set_option maxRecDepth 20000 in
theorem ggL_law_X11_drop : GoodIn wsL_law wsX11_drop := goodIn_r _ [170, 141, 763, 764, 765, 766, 767, 768, 769, 770, 771, 772, 773, 774, 775, 776, 777, 778, 779] (by decide +kernel) (by decide +kernel)
set_option maxRecDepth 20000 in
theorem gL_law_X11_drop : GoodIn wsL_law (wsV RL 27 RX11 yX11_drop wsX11_drop) := goodIn_app (goodIn_of _ (by decide +kernel)) ggL_law_X11_drop
set_option maxRecDepth 20000 in
theorem ggL_law_X10_seats : GoodIn wsL_law wsX10_seats := goodIn_r _ [174, 41, 754, 755, 756, 757, 758, 759, 760, 761, 762] (by decide +kernel) (by decide +kernel)
set_option maxRecDepth 20000 in
theorem gL_law_X10_seats : GoodIn wsL_law (wsV RL 28 RX10 yX10_seats wsX10_seats) := goodIn_app (goodIn_of _ (by decide +kernel)) ggL_law_X10_seats
set_option maxRecDepth 20000 in
theorem ggL_law_X11_seats : GoodIn wsL_law wsX11_seats := goodIn_r _ [178, 114, 142, 143, 5, 144, 763, 764, 765, 766, 767, 768, 769, 770, 771, 772, 773, 774, 775, 776, 777, 778, 779] (by decide +kernel) (by decide +kernel)
set_option maxRecDepth 20000 in
theorem gL_law_X11_seats : GoodIn wsL_law (wsV RL 32 RX11 yX11_seats wsX11_seats) := goodIn_app (goodIn_of _ (by decide +kernel)) ggL_law_X11_seats
set_option maxRecDepth 20000 in
theorem ggL_law_X10_worth : GoodIn wsL_law wsX10_worth := goodIn_r _ [182, 15, 183, 184, 185, 186, 14, 187, 47, 188, 189, 190, 191, 49, 50, 51, 52, 48, 754, 755, 756, 757, 758, 759, 760, 761, 762, 780, 781] (by decide +kernel) (by decide +kernel)
set_option maxRecDepth 20000 in
theorem gL_law_X10_worth : GoodIn wsL_law (wsV RL 33 RX10 yX10_worth wsX10_worth) := goodIn_app (goodIn_of _ (by decide +kernel)) ggL_law_X10_worth
set_option maxRecDepth 20000 in
theorem ggL_law_X11_worth : GoodIn wsL_law wsX11_worth := goodIn_r _ [195, 115, 142, 143, 5, 144, 763, 764, 765, 766, 767, 768, 769, 770, 771, 772, 773, 774, 775, 776, 777, 778, 779] (by decide +kernel) (by decide +kernel)
set_option maxRecDepth 20000 in
theorem gL_law_X11_worth : GoodIn wsL_law (wsV RL 36 RX11 yX11_worth wsX11_worth) := goodIn_app (goodIn_of _ (by decide +kernel)) ggL_law_X11_worth
set_option maxRecDepth 20000 in
theorem ggL_law_X10_say : GoodIn wsL_law wsX10_say := goodIn_r _ [199, 24, 200, 201, 202, 203, 23, 204, 205, 63, 754, 755, 756, 757, 758, 759, 760, 761, 762, 786, 787] (by decide +kernel) (by decide +kernel)
set_option maxRecDepth 20000 in
theorem gL_law_X10_say : GoodIn wsL_law (wsV RL 37 RX10 yX10_say wsX10_say) := goodIn_app (goodIn_of _ (by decide +kernel)) ggL_law_X10_say
set_option maxRecDepth 20000 in
theorem ggL_law_X11_say : GoodIn wsL_law wsX11_say := goodIn_r _ [209, 210, 116, 142, 143, 5, 144, 763, 764, 765, 766, 767, 768, 769, 770, 771, 772, 773, 774, 775, 776, 777, 778, 779] (by decide +kernel) (by decide +kernel)
set_option maxRecDepth 20000 in
theorem gL_law_X11_say : GoodIn wsL_law (wsV RL 40 RX11 yX11_say wsX11_say) := goodIn_app (goodIn_of _ (by decide +kernel)) ggL_law_X11_say
set_option maxRecDepth 20000 in
theorem ggL_law_X10_wipe : GoodIn wsL_law wsX10_wipe := goodIn_r _ [214, 24, 200, 754, 755, 756, 757, 758, 759, 760, 761, 762, 786, 787] (by decide +kernel) (by decide +kernel)
set_option maxRecDepth 20000 in
theorem gL_law_X10_wipe : GoodIn wsL_law (wsV RL 41 RX10 yX10_wipe wsX10_wipe) := goodIn_app (goodIn_of _ (by decide +kernel)) ggL_law_X10_wipe
set_option maxRecDepth 20000 in
theorem ggL_law_X11_wipe : GoodIn wsL_law wsX11_wipe := goodIn_r _ [218, 210, 763, 764, 765, 766, 767, 768, 769, 770, 771, 772, 773, 774, 775, 776, 777, 778, 779] (by decide +kernel) (by decide +kernel)
set_option maxRecDepth 20000 in
theorem gL_law_X11_wipe : GoodIn wsL_law (wsV RL 44 RX11 yX11_wipe wsX11_wipe) := goodIn_app (goodIn_of _ (by decide +kernel)) ggL_law_X11_wipe
set_option maxRecDepth 20000 in
theorem ggL_law_X10_fault : GoodIn wsL_law wsX10_fault := goodIn_r _ [222, 24, 223, 224, 225, 23, 226, 205, 63, 227, 228, 229, 754, 755, 756, 757, 758, 759, 760, 761, 762, 786, 787] (by decide +kernel) (by decide +kernel)
set_option maxRecDepth 20000 in
theorem gL_law_X10_fault : GoodIn wsL_law (wsV RL 45 RX10 yX10_fault wsX10_fault) := goodIn_app (goodIn_of _ (by decide +kernel)) ggL_law_X10_fault
set_option maxRecDepth 20000 in
theorem ggL_law_X11_fault : GoodIn wsL_law wsX11_fault := goodIn_r _ [233, 234, 235, 236, 5, 237, 210, 116, 142, 143, 144, 763, 764, 765, 766, 767, 768, 769, 770, 771, 772, 773, 774, 775, 776, 777, 778, 779] (by decide +kernel) (by decide +kernel)
set_option maxRecDepth 20000 in
theorem gL_law_X11_fault : GoodIn wsL_law (wsV RL 48 RX11 yX11_fault wsX11_fault) := goodIn_app (goodIn_of _ (by decide +kernel)) ggL_law_X11_fault
set_option maxRecDepth 20000 in
theorem ggL_law_X10_hall : GoodIn wsL_law wsX10_hall := goodIn_r _ [241, 24, 28, 200, 223, 224, 225, 23, 226, 205, 63, 227, 228, 229, 242, 243, 244, 27, 245, 246, 247, 248, 249, 250, 251, 252, 67, 70, 68, 754, 755, 756, 757, 758, 759, 760, 761, 762, 786, 787, 788, 789, 790, 791] (by decide +kernel) (by decide +kernel)
set_option maxRecDepth 20000 in
theorem gL_law_X10_hall : GoodIn wsL_law (wsV RL 49 RX10 yX10_hall wsX10_hall) := goodIn_app (goodIn_of _ (by decide +kernel)) ggL_law_X10_hall
set_option maxRecDepth 20000 in
theorem ggL_law_X11_hall : GoodIn wsL_law wsX11_hall := goodIn_r _ [256, 210, 257, 117, 116, 234, 235, 236, 5, 237, 142, 143, 144, 763, 764, 765, 766, 767, 768, 769, 770, 771, 772, 773, 774, 775, 776, 777, 778, 779] (by decide +kernel) (by decide +kernel)
set_option maxRecDepth 20000 in
theorem gL_law_X11_hall : GoodIn wsL_law (wsV RL 52 RX11 yX11_hall wsX11_hall) := goodIn_app (goodIn_of _ (by decide +kernel)) ggL_law_X11_hall
set_option maxRecDepth 20000 in
theorem ggL_law_X10_open : GoodIn wsL_law wsX10_open := goodIn_r _ [261, 28, 262, 754, 755, 756, 757, 758, 759, 760, 761, 762, 788, 789, 790, 791] (by decide +kernel) (by decide +kernel)
set_option maxRecDepth 20000 in
theorem gL_law_X10_open : GoodIn wsL_law (wsV RL 53 RX10 yX10_open wsX10_open) := goodIn_app (goodIn_of _ (by decide +kernel)) ggL_law_X10_open
set_option maxRecDepth 20000 in
theorem ggL_law_X11_open : GoodIn wsL_law wsX11_open := goodIn_r _ [266, 257, 763, 764, 765, 766, 767, 768, 769, 770, 771, 772, 773, 774, 775, 776, 777, 778, 779] (by decide +kernel) (by decide +kernel)
set_option maxRecDepth 20000 in
theorem gL_law_X11_open : GoodIn wsL_law (wsV RL 56 RX11 yX11_open wsX11_open) := goodIn_app (goodIn_of _ (by decide +kernel)) ggL_law_X11_open
set_option maxRecDepth 20000 in
theorem ggL_law_X10_of : GoodIn wsL_law wsX10_of := goodIn_r _ [270, 28, 19, 271, 272, 273, 2, 274, 41, 126, 127, 128, 275, 276, 277, 278, 279, 280, 281, 282, 283, 284, 27, 285, 286, 287, 288, 289, 246, 67, 70, 68, 290, 291, 292, 293, 18, 294, 136, 58, 59, 295, 57, 296, 297, 298, 299, 300, 301, 754, 755, 756, 757, 758, 759, 760, 761, 762, 788, 789, 790, 791, 782, 783, 784, 785, 780, 781] (by decide +kernel) (by decide +kernel)
set_option maxRecDepth 20000 in
theorem gL_law_X10_of : GoodIn wsL_law (wsV RL 57 RX10 yX10_of wsX10_of) := goodIn_app (goodIn_of _ (by decide +kernel)) ggL_law_X10_of
set_option maxRecDepth 20000 in
theorem ggL_law_X11_of : GoodIn wsL_law wsX11_of := goodIn_r _ [305, 306, 307, 308, 5, 309, 114, 142, 143, 144, 310, 311, 312, 313, 314, 315, 316, 257, 117, 317, 318, 319, 320, 141, 112, 113, 115, 321, 322, 323, 324, 763, 764, 765, 766, 767, 768, 769, 770, 771, 772, 773, 774, 775, 776, 777, 778, 779] (by decide +kernel) (by decide +kernel)
set_option maxRecDepth 20000 in
theorem gL_law_X11_of : GoodIn wsL_law (wsV RL 60 RX11 yX11_of wsX11_of) := goodIn_app (goodIn_of _ (by decide +kernel)) ggL_law_X11_of
set_option maxRecDepth 20000 in
theorem ggL_law_X10_choose : GoodIn wsL_law wsX10_choose := goodIn_r _ [328, 41, 40, 329, 330, 331, 2, 332, 333, 334, 335, 336, 32, 28, 19, 337, 338, 339, 31, 340, 341, 74, 342, 276, 277, 278, 279, 280, 281, 343, 283, 284, 27, 285, 286, 287, 288, 289, 246, 67, 70, 68, 290, 344, 345, 346, 39, 347, 97, 348, 349, 350, 351, 352, 353, 354, 355, 356, 357, 358, 359, 360, 361, 362, 363, 364, 18, 365, 136, 58, 366, 367, 368, 369, 57, 370, 371, 372, 373, 96, 374, 375, 376, 377, 378, 292, 293, 294, 59, 295, 296, 379, 380, 381, 382, 91, 383, 384, 385, 386, 101, 387, 105, 388, 389, 390, 391, 90, 392, 393, 394, 395, 396, 397, 398, 399, 400, 401, 402, 403, 404, 405, 406, 407, 408, 409, 410, 411, 412, 413, 414, 415, 416, 417, 418, 419, 420, 95, 421, 422, 423, 424, 425, 426, 427, 94, 428, 429, 430, 431, 432, 433, 434, 435, 436, 437, 438, 439, 440, 441, 442, 443, 444, 445, 446, 447, 448, 449, 450, 451, 452, 453, 454, 455, 456, 457, 458, 459, 460, 461, 462, 463, 464, 465, 466, 467, 468, 469, 470, 471, 472, 473, 474, 475, 476, 477, 478, 479, 480, 754, 755, 756, 757, 758, 759, 760, 761, 762, 803, 804, 805, 806, 807, 808, 809, 792, 793, 788, 789, 790, 791, 782, 783, 784, 785, 780, 781, 810, 811, 812, 813, 814, 815] (by decide +kernel) (by decide +kernel)
set_option maxRecDepth 20000 in
theorem gL_law_X10_choose : GoodIn wsL_law (wsV RL 61 RX10 yX10_choose wsX10_choose) := goodIn_app (goodIn_of _ (by decide +kernel)) ggL_law_X10_choose
set_option maxRecDepth 20000 in
theorem ggL_law_X11_choose : GoodIn wsL_law wsX11_choose := goodIn_r _ [484, 485, 114, 118, 486, 487, 5, 488, 142, 143, 144, 489, 490, 491, 492, 493, 120, 119, 494, 495, 496, 497, 498, 499, 500, 501, 502, 503, 504, 505, 141, 112, 113, 506, 507, 508, 509, 510, 511, 512, 513, 317, 318, 319, 320, 115, 310, 311, 312, 514, 515, 516, 517, 518, 519, 520, 521, 522, 523, 524, 525, 526, 527, 528, 529, 530, 531, 532, 533, 534, 535, 536, 537, 538, 539, 313, 314, 315, 316, 257, 117, 540, 541, 542, 543, 544, 545, 546, 763, 764, 765, 766, 767, 768, 769, 770, 771, 772, 773, 774, 775, 776, 777, 778, 779] (by decide +kernel) (by decide +kernel)
set_option maxRecDepth 20000 in
theorem gL_law_X11_choose : GoodIn wsL_law (wsV RL 64 RX11 yX11_choose wsX11_choose) := goodIn_app (goodIn_of _ (by decide +kernel)) ggL_law_X11_choose
set_option maxRecDepth 20000 in
theorem ggL_law_X10_load : GoodIn wsL_law wsX10_load := goodIn_r _ [550, 551, 40, 19, 552, 553, 554, 555, 2, 556, 41, 151, 152, 153, 154, 125, 557, 380, 381, 39, 382, 91, 353, 348, 349, 350, 351, 352, 383, 384, 385, 386, 101, 387, 105, 388, 389, 390, 391, 90, 392, 393, 394, 395, 363, 364, 18, 365, 136, 58, 366, 367, 368, 369, 57, 396, 397, 398, 399, 400, 401, 402, 403, 404, 405, 406, 407, 408, 409, 410, 411, 412, 413, 414, 415, 416, 370, 371, 372, 373, 96, 558, 559, 560, 561, 562, 563, 564, 565, 754, 755, 756, 757, 758, 759, 760, 761, 762, 803, 804, 805, 806, 807, 808, 809, 782, 783, 784, 785, 810, 811, 812, 813, 814, 815] (by decide +kernel) (by decide +kernel)
set_option maxRecDepth 20000 in
theorem gL_law_X10_load : GoodIn wsL_law (wsV RL 65 RX10 yX10_load wsX10_load) := goodIn_app (goodIn_of _ (by decide +kernel)) ggL_law_X10_load
set_option maxRecDepth 20000 in
theorem ggL_law_X11_load : GoodIn wsL_law wsX11_load := goodIn_r _ [569, 570, 571, 572, 5, 573, 574, 114, 575, 119, 120, 159, 160, 161, 162, 141, 142, 143, 144, 489, 490, 491, 492, 485, 493, 494, 495, 496, 497, 498, 499, 500, 501, 502, 503, 504, 505, 112, 113, 506, 507, 508, 509, 118, 510, 511, 512, 513, 317, 318, 319, 320, 115, 310, 311, 312, 514, 515, 516, 517, 518, 519, 520, 521, 522, 523, 524, 525, 526, 527, 528, 529, 530, 531, 532, 533, 534, 535, 536, 537, 538, 539, 313, 314, 315, 316, 257, 117, 540, 541, 542, 543, 576, 577, 578, 763, 764, 765, 766, 767, 768, 769, 770, 771, 772, 773, 774, 775, 776, 777, 778, 779] (by decide +kernel) (by decide +kernel)
set_option maxRecDepth 20000 in
theorem gL_law_X11_load : GoodIn wsL_law (wsV RL 69 RX11 yX11_load wsX11_load) := goodIn_app (goodIn_of _ (by decide +kernel)) ggL_law_X11_load
set_option maxRecDepth 20000 in
theorem ggL_law_X10_purse : GoodIn wsL_law wsX10_purse := goodIn_r _ [582, 551, 40, 19, 41, 583, 553, 554, 555, 2, 556, 151, 152, 153, 154, 125, 584, 418, 419, 39, 420, 95, 421, 353, 348, 349, 350, 351, 352, 422, 423, 424, 386, 101, 387, 105, 388, 425, 426, 427, 94, 428, 429, 430, 431, 432, 433, 434, 435, 18, 436, 136, 58, 437, 363, 364, 365, 366, 367, 368, 369, 57, 438, 439, 440, 399, 400, 401, 402, 403, 441, 442, 443, 444, 445, 446, 447, 448, 449, 450, 451, 452, 453, 454, 455, 456, 457, 458, 459, 460, 414, 415, 370, 371, 372, 373, 96, 354, 355, 356, 357, 358, 359, 360, 361, 362, 585, 586, 587, 561, 562, 563, 564, 565, 754, 755, 756, 757, 758, 759, 760, 761, 762, 803, 804, 805, 806, 807, 808, 809, 782, 783, 784, 785, 810, 811, 812, 813, 814, 815] (by decide +kernel) (by decide +kernel)
set_option maxRecDepth 20000 in
theorem gL_law_X10_purse : GoodIn wsL_law (wsV RL 70 RX10 yX10_purse wsX10_purse) := goodIn_app (goodIn_of _ (by decide +kernel)) ggL_law_X10_purse
set_option maxRecDepth 20000 in
theorem ggL_law_X11_purse : GoodIn wsL_law wsX11_purse := goodIn_r _ [591, 570, 571, 572, 5, 573, 574, 114, 575, 119, 120, 159, 160, 161, 162, 141, 142, 143, 144, 489, 490, 491, 492, 485, 493, 494, 495, 496, 497, 498, 499, 500, 501, 502, 503, 504, 505, 112, 113, 506, 507, 508, 509, 118, 510, 511, 512, 513, 317, 318, 319, 320, 115, 310, 311, 312, 514, 515, 516, 517, 518, 519, 520, 521, 522, 523, 524, 525, 526, 527, 528, 529, 530, 531, 532, 533, 534, 535, 536, 537, 538, 539, 313, 314, 315, 316, 257, 117, 540, 541, 542, 543, 576, 577, 578, 763, 764, 765, 766, 767, 768, 769, 770, 771, 772, 773, 774, 775, 776, 777, 778, 779] (by decide +kernel) (by decide +kernel)
set_option maxRecDepth 20000 in
theorem gL_law_X11_purse : GoodIn wsL_law (wsV RL 73 RX11 yX11_purse wsX11_purse) := goodIn_app (goodIn_of _ (by decide +kernel)) ggL_law_X11_purse
set_option maxRecDepth 20000 in
theorem ggL_law_X10_paid : GoodIn wsL_law wsX10_paid := goodIn_r _ [595, 40, 19, 41, 596, 584, 418, 419, 39, 420, 95, 421, 353, 348, 349, 350, 351, 352, 422, 423, 424, 386, 101, 387, 105, 388, 425, 426, 427, 94, 428, 429, 430, 431, 432, 433, 434, 435, 18, 436, 136, 58, 437, 363, 364, 365, 366, 367, 368, 369, 57, 438, 439, 440, 399, 400, 401, 402, 403, 441, 442, 443, 444, 445, 446, 447, 448, 449, 450, 451, 452, 453, 454, 455, 456, 457, 458, 459, 460, 414, 415, 370, 371, 372, 373, 96, 354, 355, 356, 357, 358, 359, 360, 361, 362, 754, 755, 756, 757, 758, 759, 760, 761, 762, 803, 804, 805, 806, 807, 808, 809, 810, 811, 812, 813, 814, 815, 782, 783, 784, 785] (by decide +kernel) (by decide +kernel)
set_option maxRecDepth 20000 in
theorem gL_law_X10_paid : GoodIn wsL_law (wsV RL 74 RX10 yX10_paid wsX10_paid) := goodIn_app (goodIn_of _ (by decide +kernel)) ggL_law_X10_paid
set_option maxRecDepth 20000 in
theorem ggL_law_X11_paid : GoodIn wsL_law wsX11_paid := goodIn_r _ [600, 493, 489, 490, 491, 5, 492, 485, 120, 119, 114, 494, 495, 496, 497, 498, 499, 500, 501, 502, 503, 504, 505, 141, 112, 113, 506, 507, 508, 509, 118, 510, 511, 512, 513, 317, 318, 319, 320, 115, 310, 311, 312, 514, 515, 516, 517, 518, 519, 520, 521, 522, 523, 524, 525, 526, 527, 528, 529, 530, 531, 532, 533, 534, 535, 536, 537, 538, 539, 313, 314, 315, 316, 257, 117, 142, 143, 144, 540, 541, 542, 543, 763, 764, 765, 766, 767, 768, 769, 770, 771, 772, 773, 774, 775, 776, 777, 778, 779] (by decide +kernel) (by decide +kernel)
set_option maxRecDepth 20000 in
theorem gL_law_X11_paid : GoodIn wsL_law (wsV RL 77 RX11 yX11_paid wsX11_paid) := goodIn_app (goodIn_of _ (by decide +kernel)) ggL_law_X11_paid
set_option maxRecDepth 20000 in
theorem ggL_law_X10_owed : GoodIn wsL_law wsX10_owed := goodIn_r _ [604, 19, 125, 36, 41, 605, 606, 607, 608, 35, 609, 610, 611, 612, 456, 613, 614, 78, 83, 615, 79, 80, 616, 81, 617, 434, 435, 18, 436, 136, 58, 618, 619, 620, 621, 276, 277, 278, 279, 280, 281, 754, 755, 756, 757, 758, 759, 760, 761, 762, 782, 783, 784, 785, 794, 795, 796, 797, 798, 799, 800, 801, 802] (by decide +kernel) (by decide +kernel)
set_option maxRecDepth 20000 in
theorem gL_law_X10_owed : GoodIn wsL_law (wsV RL 78 RX10 yX10_owed wsX10_owed) := goodIn_app (goodIn_of _ (by decide +kernel)) ggL_law_X10_owed
set_option maxRecDepth 20000 in
theorem ggL_law_X11_owed : GoodIn wsL_law wsX11_owed := goodIn_r _ [625, 141, 142, 143, 5, 144, 626, 627, 628, 629, 112, 113, 114, 310, 311, 312, 532, 533, 534, 535, 763, 764, 765, 766, 767, 768, 769, 770, 771, 772, 773, 774, 775, 776, 777, 778, 779] (by decide +kernel) (by decide +kernel)
set_option maxRecDepth 20000 in
theorem gL_law_X11_owed : GoodIn wsL_law (wsV RL 81 RX11 yX11_owed wsX11_owed) := goodIn_app (goodIn_of _ (by decide +kernel)) ggL_law_X11_owed
set_option maxRecDepth 20000 in
theorem ggL_law_X10_breach : GoodIn wsL_law wsX10_breach := goodIn_r _ [633, 36, 19, 41, 634, 635, 636, 637, 2, 638, 271, 272, 273, 274, 126, 127, 128, 275, 276, 277, 278, 279, 280, 281, 606, 607, 608, 35, 609, 610, 611, 612, 456, 613, 614, 78, 83, 615, 79, 80, 616, 81, 617, 434, 435, 18, 436, 136, 58, 618, 619, 620, 621, 639, 640, 641, 642, 643, 644, 82, 645, 646, 647, 648, 649, 650, 651, 754, 755, 756, 757, 758, 759, 760, 761, 762, 794, 795, 796, 797, 798, 799, 800, 801, 802, 782, 783, 784, 785] (by decide +kernel) (by decide +kernel)
set_option maxRecDepth 20000 in
theorem gL_law_X10_breach : GoodIn wsL_law (wsV RL 82 RX10 yX10_breach wsX10_breach) := goodIn_app (goodIn_of _ (by decide +kernel)) ggL_law_X10_breach
set_option maxRecDepth 20000 in
theorem ggL_law_X11_breach : GoodIn wsL_law wsX11_breach := goodIn_r _ [655, 656, 657, 658, 5, 659, 142, 143, 144, 306, 307, 308, 309, 114, 310, 311, 312, 660, 661, 662, 663, 141, 626, 627, 628, 629, 112, 113, 532, 533, 534, 535, 664, 665, 666, 667, 763, 764, 765, 766, 767, 768, 769, 770, 771, 772, 773, 774, 775, 776, 777, 778, 779] (by decide +kernel) (by decide +kernel)
set_option maxRecDepth 20000 in
theorem gL_law_X11_breach : GoodIn wsL_law (wsV RL 85 RX11 yX11_breach wsX11_breach) := goodIn_app (goodIn_of _ (by decide +kernel)) ggL_law_X11_breach
set_option maxRecDepth 20000 in
theorem ggL_law_X10_kept : GoodIn wsL_law wsX10_kept := goodIn_r _ [671, 32, 672, 636, 637, 2, 638, 673, 674, 675, 676, 28, 41, 36, 19, 337, 338, 339, 31, 340, 341, 74, 342, 276, 277, 278, 279, 280, 281, 343, 283, 284, 27, 285, 286, 287, 288, 289, 246, 67, 70, 68, 290, 606, 607, 608, 35, 609, 610, 611, 612, 456, 613, 614, 78, 83, 615, 79, 80, 616, 81, 617, 434, 435, 18, 436, 136, 58, 618, 619, 620, 621, 677, 678, 679, 680, 681, 682, 640, 641, 642, 643, 644, 82, 645, 646, 647, 648, 649, 650, 651, 683, 684, 685, 686, 754, 755, 756, 757, 758, 759, 760, 761, 762, 792, 793, 788, 789, 790, 791, 782, 783, 784, 785, 794, 795, 796, 797, 798, 799, 800, 801, 802] (by decide +kernel) (by decide +kernel)
set_option maxRecDepth 20000 in
theorem gL_law_X10_kept : GoodIn wsL_law (wsV RL 86 RX10 yX10_kept wsX10_kept) := goodIn_app (goodIn_of _ (by decide +kernel)) ggL_law_X10_kept
set_option maxRecDepth 20000 in
theorem ggL_law_X11_kept : GoodIn wsL_law wsX11_kept := goodIn_r _ [690, 657, 658, 5, 659, 142, 143, 144, 691, 692, 693, 694, 306, 307, 308, 309, 114, 310, 311, 312, 313, 314, 315, 316, 257, 117, 660, 661, 662, 663, 141, 656, 626, 627, 628, 629, 112, 113, 532, 533, 534, 535, 664, 665, 666, 667, 763, 764, 765, 766, 767, 768, 769, 770, 771, 772, 773, 774, 775, 776, 777, 778, 779] (by decide +kernel) (by decide +kernel)
set_option maxRecDepth 20000 in
theorem gL_law_X11_kept : GoodIn wsL_law (wsV RL 89 RX11 yX11_kept wsX11_kept) := goodIn_app (goodIn_of _ (by decide +kernel)) ggL_law_X11_kept
set_option maxRecDepth 20000 in
theorem ggL_law_X10_least : GoodIn wsL_law wsX10_least := goodIn_r _ [698, 32, 28, 41, 19, 337, 338, 339, 31, 340, 341, 74, 342, 276, 277, 278, 279, 280, 281, 343, 283, 284, 27, 285, 286, 287, 288, 289, 246, 67, 70, 68, 290, 699, 700, 701, 702, 703, 298, 299, 18, 300, 136, 57, 58, 297, 754, 755, 756, 757, 758, 759, 760, 761, 762, 792, 793, 788, 789, 790, 791, 782, 783, 784, 785] (by decide +kernel) (by decide +kernel)
set_option maxRecDepth 20000 in
theorem gL_law_X10_least : GoodIn wsL_law (wsV RL 90 RX10 yX10_least wsX10_least) := goodIn_app (goodIn_of _ (by decide +kernel)) ggL_law_X10_least
set_option maxRecDepth 20000 in
theorem ggL_law_X11_least : GoodIn wsL_law wsX11_least := goodIn_r _ [707, 142, 143, 5, 144, 306, 307, 308, 309, 114, 310, 311, 312, 313, 314, 315, 316, 257, 117, 321, 322, 323, 324, 141, 112, 113, 763, 764, 765, 766, 767, 768, 769, 770, 771, 772, 773, 774, 775, 776, 777, 778, 779] (by decide +kernel) (by decide +kernel)
set_option maxRecDepth 20000 in
theorem gL_law_X11_least : GoodIn wsL_law (wsV RL 93 RX11 yX11_least wsX11_least) := goodIn_app (goodIn_of _ (by decide +kernel)) ggL_law_X11_least
set_option maxRecDepth 20000 in
theorem ggL_law_X10_nearest : GoodIn wsL_law wsX10_nearest := goodIn_r _ [711, 32, 636, 637, 2, 638, 271, 272, 273, 274, 41, 126, 127, 128, 275, 276, 277, 278, 279, 280, 281, 673, 674, 675, 676, 28, 36, 19, 337, 338, 339, 31, 340, 341, 74, 342, 343, 283, 284, 27, 285, 286, 287, 288, 289, 246, 67, 70, 68, 290, 606, 607, 608, 35, 609, 610, 611, 612, 456, 613, 614, 78, 83, 615, 79, 80, 616, 81, 617, 434, 435, 18, 436, 136, 58, 618, 619, 620, 621, 677, 678, 679, 680, 681, 682, 640, 641, 642, 643, 644, 82, 645, 646, 647, 648, 649, 650, 651, 712, 713, 714, 715, 754, 755, 756, 757, 758, 759, 760, 761, 762, 792, 793, 788, 789, 790, 791, 782, 783, 784, 785, 794, 795, 796, 797, 798, 799, 800, 801, 802] (by decide +kernel) (by decide +kernel)
set_option maxRecDepth 20000 in
theorem gL_law_X10_nearest : GoodIn wsL_law (wsV RL 94 RX10 yX10_nearest wsX10_nearest) := goodIn_app (goodIn_of _ (by decide +kernel)) ggL_law_X10_nearest
set_option maxRecDepth 20000 in
theorem ggL_law_X11_nearest : GoodIn wsL_law wsX11_nearest := goodIn_r _ [719, 657, 658, 5, 659, 142, 143, 144, 306, 307, 308, 309, 114, 310, 311, 312, 691, 692, 693, 694, 313, 314, 315, 316, 257, 117, 660, 661, 662, 663, 141, 656, 626, 627, 628, 629, 112, 113, 532, 533, 534, 535, 664, 665, 666, 667, 763, 764, 765, 766, 767, 768, 769, 770, 771, 772, 773, 774, 775, 776, 777, 778, 779] (by decide +kernel) (by decide +kernel)
set_option maxRecDepth 20000 in
theorem gL_law_X11_nearest : GoodIn wsL_law (wsV RL 97 RX11 yX11_nearest wsX11_nearest) := goodIn_app (goodIn_of _ (by decide +kernel)) ggL_law_X11_nearest
set_option maxRecDepth 20000 in
theorem ggL_law_X10_more : GoodIn wsL_law wsX10_more := goodIn_r _ [723, 41, 40, 329, 330, 331, 2, 332, 333, 334, 335, 336, 32, 28, 19, 337, 338, 339, 31, 340, 341, 74, 342, 276, 277, 278, 279, 280, 281, 343, 283, 284, 27, 285, 286, 287, 288, 289, 246, 67, 70, 68, 290, 344, 345, 346, 39, 347, 97, 348, 349, 350, 351, 352, 353, 354, 355, 356, 357, 358, 359, 360, 361, 362, 363, 364, 18, 365, 136, 58, 366, 367, 368, 369, 57, 370, 371, 372, 373, 96, 374, 375, 376, 377, 378, 292, 293, 294, 59, 295, 296, 379, 380, 381, 382, 91, 383, 384, 385, 386, 101, 387, 105, 388, 389, 390, 391, 90, 392, 393, 394, 395, 396, 397, 398, 399, 400, 401, 402, 403, 404, 405, 406, 407, 408, 409, 410, 411, 412, 413, 414, 415, 416, 417, 418, 419, 420, 95, 421, 422, 423, 424, 425, 426, 427, 94, 428, 429, 430, 431, 432, 433, 434, 435, 436, 437, 438, 439, 440, 441, 442, 443, 444, 445, 446, 447, 448, 449, 450, 451, 452, 453, 454, 455, 456, 457, 458, 459, 460, 461, 462, 463, 464, 465, 466, 467, 468, 469, 470, 471, 472, 473, 474, 475, 476, 754, 755, 756, 757, 758, 759, 760, 761, 762, 803, 804, 805, 806, 807, 808, 809, 792, 793, 788, 789, 790, 791, 782, 783, 784, 785, 780, 781, 810, 811, 812, 813, 814, 815] (by decide +kernel) (by decide +kernel)
set_option maxRecDepth 20000 in
theorem gL_law_X10_more : GoodIn wsL_law (wsV RL 98 RX10 yX10_more wsX10_more) := goodIn_app (goodIn_of _ (by decide +kernel)) ggL_law_X10_more
set_option maxRecDepth 20000 in
theorem ggL_law_X11_more : GoodIn wsL_law wsX11_more := goodIn_r _ [727, 114, 485, 486, 487, 5, 488, 142, 143, 144, 489, 490, 491, 492, 493, 120, 119, 494, 495, 496, 497, 498, 499, 500, 501, 502, 503, 504, 505, 141, 112, 113, 506, 507, 508, 509, 118, 510, 511, 512, 513, 317, 318, 319, 320, 115, 310, 311, 312, 514, 515, 516, 517, 518, 519, 520, 521, 522, 523, 524, 525, 526, 527, 528, 529, 530, 531, 532, 533, 534, 535, 536, 537, 538, 539, 313, 314, 315, 316, 257, 117, 540, 541, 542, 543, 763, 764, 765, 766, 767, 768, 769, 770, 771, 772, 773, 774, 775, 776, 777, 778, 779] (by decide +kernel) (by decide +kernel)
set_option maxRecDepth 20000 in
theorem gL_law_X11_more : GoodIn wsL_law (wsV RL 101 RX11 yX11_more wsX11_more) := goodIn_app (goodIn_of _ (by decide +kernel)) ggL_law_X11_more
set_option maxRecDepth 20000 in
theorem ggL_law_X10_turn : GoodIn wsL_law wsX10_turn := goodIn_r _ [731, 32, 28, 41, 20, 19, 150, 40, 330, 331, 2, 332, 151, 152, 153, 154, 125, 337, 338, 339, 31, 340, 341, 74, 342, 276, 277, 278, 279, 280, 281, 343, 283, 284, 27, 285, 286, 287, 288, 289, 246, 67, 70, 68, 290, 732, 733, 734, 18, 735, 57, 58, 136, 132, 133, 134, 135, 344, 345, 346, 39, 347, 97, 348, 349, 350, 351, 352, 353, 354, 355, 356, 357, 358, 359, 360, 361, 362, 363, 364, 365, 366, 367, 368, 369, 370, 371, 372, 373, 96, 374, 375, 376, 377, 378, 292, 293, 294, 59, 295, 296, 379, 380, 381, 382, 91, 383, 384, 385, 386, 101, 387, 105, 388, 389, 390, 391, 90, 392, 393, 394, 395, 396, 397, 398, 399, 400, 401, 402, 403, 404, 405, 406, 407, 408, 409, 410, 411, 412, 413, 414, 415, 416, 417, 418, 419, 420, 95, 421, 422, 423, 424, 425, 426, 427, 94, 428, 429, 430, 431, 432, 433, 434, 435, 436, 437, 438, 439, 440, 441, 442, 443, 444, 445, 446, 447, 448, 449, 450, 451, 452, 453, 454, 455, 456, 457, 458, 459, 460, 461, 462, 463, 464, 465, 466, 467, 468, 469, 470, 471, 472, 473, 474, 475, 476, 736, 737, 738, 739, 740, 754, 755, 756, 757, 758, 759, 760, 761, 762, 782, 783, 784, 785, 792, 793, 788, 789, 790, 791, 803, 804, 805, 806, 807, 808, 809, 780, 781, 810, 811, 812, 813, 814, 815] (by decide +kernel) (by decide +kernel)
set_option maxRecDepth 20000 in
theorem gL_law_X10_turn : GoodIn wsL_law (wsV RL 102 RX10 yX10_turn wsX10_turn) := goodIn_app (goodIn_of _ (by decide +kernel)) ggL_law_X10_turn
set_option maxRecDepth 20000 in
theorem ggL_law_X11_turn : GoodIn wsL_law wsX11_turn := goodIn_r _ [744, 113, 141, 112, 486, 487, 5, 488, 142, 143, 144, 159, 160, 161, 162, 489, 490, 491, 492, 485, 493, 120, 119, 114, 494, 495, 496, 497, 498, 499, 500, 501, 502, 503, 504, 505, 506, 507, 508, 509, 118, 510, 511, 512, 513, 317, 318, 319, 320, 115, 310, 311, 312, 514, 515, 516, 517, 518, 519, 520, 521, 522, 523, 524, 525, 526, 527, 528, 529, 530, 531, 532, 533, 534, 535, 536, 537, 538, 539, 313, 314, 315, 316, 257, 117, 540, 541, 542, 543, 763, 764, 765, 766, 767, 768, 769, 770, 771, 772, 773, 774, 775, 776, 777, 778, 779] (by decide +kernel) (by decide +kernel)
set_option maxRecDepth 20000 in
theorem gL_law_X11_turn : GoodIn wsL_law (wsV RL 105 RX11 yX11_turn wsX11_turn) := goodIn_app (goodIn_of _ (by decide +kernel)) ggL_law_X11_turn
set_option maxRecDepth 20000 in
theorem ggL_law_X10_told : GoodIn wsL_law wsX10_told := goodIn_r _ [748, 15, 183, 19, 150, 149, 125, 41, 24, 200, 28, 262, 151, 152, 153, 2, 154, 749, 434, 435, 18, 436, 136, 58, 754, 755, 756, 757, 758, 759, 760, 761, 762, 780, 781, 782, 783, 784, 785, 786, 787, 788, 789, 790, 791] (by decide +kernel) (by decide +kernel)
set_option maxRecDepth 20000 in
theorem gL_law_X10_told : GoodIn wsL_law (wsV RL 106 RX10 yX10_told wsX10_told) := goodIn_app (goodIn_of _ (by decide +kernel)) ggL_law_X10_told
set_option maxRecDepth 20000 in
theorem ggL_law_X11_told : GoodIn wsL_law wsX11_told := goodIn_r _ [753, 257, 117, 115, 113, 112, 141, 114, 210, 142, 143, 5, 144, 159, 160, 161, 162, 532, 533, 534, 535, 763, 764, 765, 766, 767, 768, 769, 770, 771, 772, 773, 774, 775, 776, 777, 778, 779] (by decide +kernel) (by decide +kernel)
set_option maxRecDepth 20000 in
theorem gL_law_X11_told : GoodIn wsL_law (wsV RL 109 RX11 yX11_told wsX11_told) := goodIn_app (goodIn_of _ (by decide +kernel)) ggL_law_X11_told
theorem dL_law_0 : decode cL_law 0 = .ok (.new 7, 3) := by decide +kernel
theorem dL_law_3 : decode cL_law 3 = .ok (.dup, 1) := by decide +kernel
theorem dL_law_4 : decode cL_law 4 = .ok (.invokespecial 9, 3) := by decide +kernel
theorem dL_law_7 : decode cL_law 7 = .ok (.astore_n 1, 1) := by decide +kernel
theorem dL_law_8 : decode cL_law 8 = .ok (.new 10, 3) := by decide +kernel
theorem dL_law_11 : decode cL_law 11 = .ok (.dup, 1) := by decide +kernel
theorem dL_law_12 : decode cL_law 12 = .ok (.invokespecial 12, 3) := by decide +kernel
theorem dL_law_15 : decode cL_law 15 = .ok (.astore_n 2, 1) := by decide +kernel
theorem dL_law_16 : decode cL_law 16 = .ok (.iconst 0, 1) := by decide +kernel
theorem dL_law_17 : decode cL_law 17 = .ok (.istore_n 3, 1) := by decide +kernel
theorem dL_law_18 : decode cL_law 18 = .ok (.iload_n 3, 1) := by decide +kernel
theorem dL_law_19 : decode cL_law 19 = .ok (.aload_n 0, 1) := by decide +kernel
theorem dL_law_20 : decode cL_law 20 = .ok (.arraylength, 1) := by decide +kernel
theorem dL_law_21 : decode cL_law 21 = .ok (.iconst 4, 1) := by decide +kernel
theorem dL_law_22 : decode cL_law 22 = .ok (.isub, 1) := by decide +kernel
theorem dL_law_23 : decode cL_law 23 = .ok (.if_icmp .gt 774, 3) := by decide +kernel
theorem dL_law_26 : decode cL_law 26 = .ok (.aload_n 0, 1) := by decide +kernel
theorem dL_law_27 : decode cL_law 27 = .ok (.iload_n 3, 1) := by decide +kernel
theorem dL_law_28 : decode cL_law 28 = .ok (.iaload, 1) := by decide +kernel
theorem dL_law_29 : decode cL_law 29 = .ok (.bipush 31, 2) := by decide +kernel
theorem dL_law_31 : decode cL_law 31 = .ok (.iand, 1) := by decide +kernel
theorem dL_law_32 : decode cL_law 32 = .ok (.tableswitch 759 0 22 #[108, 141, 184, 197, 220, 253, 276, 289, 302, 315, 328, 361, 394, 438, 482, 495, 528, 571, 604, 627, 660, 693, 736], 108) := by decide +kernel
theorem dL_law_140 : decode cL_law 140 = .ok (.aload_n 1, 1) := by decide +kernel
theorem dL_law_141 : decode cL_law 141 = .ok (.aload_n 0, 1) := by decide +kernel
theorem dL_law_142 : decode cL_law 142 = .ok (.iload_n 3, 1) := by decide +kernel
theorem dL_law_143 : decode cL_law 143 = .ok (.iconst 1, 1) := by decide +kernel
theorem dL_law_144 : decode cL_law 144 = .ok (.iadd, 1) := by decide +kernel
theorem dL_law_145 : decode cL_law 145 = .ok (.iaload, 1) := by decide +kernel
theorem dL_law_146 : decode cL_law 146 = .ok (.aload_n 0, 1) := by decide +kernel
theorem dL_law_147 : decode cL_law 147 = .ok (.iload_n 3, 1) := by decide +kernel
theorem dL_law_148 : decode cL_law 148 = .ok (.iconst 2, 1) := by decide +kernel
theorem dL_law_149 : decode cL_law 149 = .ok (.iadd, 1) := by decide +kernel
theorem dL_law_150 : decode cL_law 150 = .ok (.iaload, 1) := by decide +kernel
theorem dL_law_151 : decode cL_law 151 = .ok (.invokevirtual 13, 3) := by decide +kernel
theorem dL_law_154 : decode cL_law 154 = .ok (.aload_n 2, 1) := by decide +kernel
theorem dL_law_155 : decode cL_law 155 = .ok (.aload_n 0, 1) := by decide +kernel
theorem dL_law_156 : decode cL_law 156 = .ok (.iload_n 3, 1) := by decide +kernel
theorem dL_law_157 : decode cL_law 157 = .ok (.iconst 1, 1) := by decide +kernel
theorem dL_law_158 : decode cL_law 158 = .ok (.iadd, 1) := by decide +kernel
theorem dL_law_159 : decode cL_law 159 = .ok (.iaload, 1) := by decide +kernel
theorem dL_law_160 : decode cL_law 160 = .ok (.aload_n 0, 1) := by decide +kernel
theorem dL_law_161 : decode cL_law 161 = .ok (.iload_n 3, 1) := by decide +kernel
theorem dL_law_162 : decode cL_law 162 = .ok (.iconst 2, 1) := by decide +kernel
theorem dL_law_163 : decode cL_law 163 = .ok (.iadd, 1) := by decide +kernel
theorem dL_law_164 : decode cL_law 164 = .ok (.iaload, 1) := by decide +kernel
theorem dL_law_165 : decode cL_law 165 = .ok (.invokevirtual 17, 3) := by decide +kernel
theorem dL_law_168 : decode cL_law 168 = .ok (.if_icmp .eq 623, 3) := by decide +kernel
theorem dL_law_171 : decode cL_law 171 = .ok (.iconst 0, 1) := by decide +kernel
theorem dL_law_172 : decode cL_law 172 = .ok (.ireturn, 1) := by decide +kernel
theorem dL_law_173 : decode cL_law 173 = .ok (.aload_n 1, 1) := by decide +kernel
theorem dL_law_174 : decode cL_law 174 = .ok (.aload_n 0, 1) := by decide +kernel
theorem dL_law_175 : decode cL_law 175 = .ok (.iload_n 3, 1) := by decide +kernel
theorem dL_law_176 : decode cL_law 176 = .ok (.iconst 1, 1) := by decide +kernel
theorem dL_law_177 : decode cL_law 177 = .ok (.iadd, 1) := by decide +kernel
theorem dL_law_178 : decode cL_law 178 = .ok (.iaload, 1) := by decide +kernel
theorem dL_law_179 : decode cL_law 179 = .ok (.aload_n 0, 1) := by decide +kernel
theorem dL_law_180 : decode cL_law 180 = .ok (.iload_n 3, 1) := by decide +kernel
theorem dL_law_181 : decode cL_law 181 = .ok (.iconst 2, 1) := by decide +kernel
theorem dL_law_182 : decode cL_law 182 = .ok (.iadd, 1) := by decide +kernel
theorem dL_law_183 : decode cL_law 183 = .ok (.iaload, 1) := by decide +kernel
theorem dL_law_184 : decode cL_law 184 = .ok (.aload_n 0, 1) := by decide +kernel
theorem dL_law_185 : decode cL_law 185 = .ok (.iload_n 3, 1) := by decide +kernel
theorem dL_law_186 : decode cL_law 186 = .ok (.iconst 3, 1) := by decide +kernel
theorem dL_law_187 : decode cL_law 187 = .ok (.iadd, 1) := by decide +kernel
theorem dL_law_188 : decode cL_law 188 = .ok (.iaload, 1) := by decide +kernel
theorem dL_law_189 : decode cL_law 189 = .ok (.invokevirtual 18, 3) := by decide +kernel
theorem dL_law_192 : decode cL_law 192 = .ok (.aload_n 2, 1) := by decide +kernel
theorem dL_law_193 : decode cL_law 193 = .ok (.aload_n 0, 1) := by decide +kernel
theorem dL_law_194 : decode cL_law 194 = .ok (.iload_n 3, 1) := by decide +kernel
theorem dL_law_195 : decode cL_law 195 = .ok (.iconst 1, 1) := by decide +kernel
theorem dL_law_196 : decode cL_law 196 = .ok (.iadd, 1) := by decide +kernel
theorem dL_law_197 : decode cL_law 197 = .ok (.iaload, 1) := by decide +kernel
theorem dL_law_198 : decode cL_law 198 = .ok (.aload_n 0, 1) := by decide +kernel
theorem dL_law_199 : decode cL_law 199 = .ok (.iload_n 3, 1) := by decide +kernel
theorem dL_law_200 : decode cL_law 200 = .ok (.iconst 2, 1) := by decide +kernel
theorem dL_law_201 : decode cL_law 201 = .ok (.iadd, 1) := by decide +kernel
theorem dL_law_202 : decode cL_law 202 = .ok (.iaload, 1) := by decide +kernel
theorem dL_law_203 : decode cL_law 203 = .ok (.aload_n 0, 1) := by decide +kernel
theorem dL_law_204 : decode cL_law 204 = .ok (.iload_n 3, 1) := by decide +kernel
theorem dL_law_205 : decode cL_law 205 = .ok (.iconst 3, 1) := by decide +kernel
theorem dL_law_206 : decode cL_law 206 = .ok (.iadd, 1) := by decide +kernel
theorem dL_law_207 : decode cL_law 207 = .ok (.iaload, 1) := by decide +kernel
theorem dL_law_208 : decode cL_law 208 = .ok (.invokevirtual 22, 3) := by decide +kernel
theorem dL_law_211 : decode cL_law 211 = .ok (.if_icmp .eq 580, 3) := by decide +kernel
theorem dL_law_214 : decode cL_law 214 = .ok (.iconst 0, 1) := by decide +kernel
theorem dL_law_215 : decode cL_law 215 = .ok (.ireturn, 1) := by decide +kernel
theorem dL_law_216 : decode cL_law 216 = .ok (.aload_n 1, 1) := by decide +kernel
theorem dL_law_217 : decode cL_law 217 = .ok (.invokevirtual 23, 3) := by decide +kernel
theorem dL_law_220 : decode cL_law 220 = .ok (.aload_n 2, 1) := by decide +kernel
theorem dL_law_221 : decode cL_law 221 = .ok (.invokevirtual 27, 3) := by decide +kernel
theorem dL_law_224 : decode cL_law 224 = .ok (.if_icmp .eq 567, 3) := by decide +kernel
theorem dL_law_227 : decode cL_law 227 = .ok (.iconst 0, 1) := by decide +kernel
theorem dL_law_228 : decode cL_law 228 = .ok (.ireturn, 1) := by decide +kernel
theorem dL_law_229 : decode cL_law 229 = .ok (.aload_n 1, 1) := by decide +kernel
theorem dL_law_230 : decode cL_law 230 = .ok (.aload_n 0, 1) := by decide +kernel
theorem dL_law_231 : decode cL_law 231 = .ok (.iload_n 3, 1) := by decide +kernel
theorem dL_law_232 : decode cL_law 232 = .ok (.iconst 1, 1) := by decide +kernel
theorem dL_law_233 : decode cL_law 233 = .ok (.iadd, 1) := by decide +kernel
theorem dL_law_234 : decode cL_law 234 = .ok (.iaload, 1) := by decide +kernel
theorem dL_law_235 : decode cL_law 235 = .ok (.invokevirtual 28, 3) := by decide +kernel
theorem dL_law_238 : decode cL_law 238 = .ok (.aload_n 2, 1) := by decide +kernel
theorem dL_law_239 : decode cL_law 239 = .ok (.aload_n 0, 1) := by decide +kernel
theorem dL_law_240 : decode cL_law 240 = .ok (.iload_n 3, 1) := by decide +kernel
theorem dL_law_241 : decode cL_law 241 = .ok (.iconst 1, 1) := by decide +kernel
theorem dL_law_242 : decode cL_law 242 = .ok (.iadd, 1) := by decide +kernel
theorem dL_law_243 : decode cL_law 243 = .ok (.iaload, 1) := by decide +kernel
theorem dL_law_244 : decode cL_law 244 = .ok (.invokevirtual 32, 3) := by decide +kernel
theorem dL_law_247 : decode cL_law 247 = .ok (.if_icmp .eq 544, 3) := by decide +kernel
theorem dL_law_250 : decode cL_law 250 = .ok (.iconst 0, 1) := by decide +kernel
theorem dL_law_251 : decode cL_law 251 = .ok (.ireturn, 1) := by decide +kernel
theorem dL_law_252 : decode cL_law 252 = .ok (.aload_n 1, 1) := by decide +kernel
theorem dL_law_253 : decode cL_law 253 = .ok (.aload_n 0, 1) := by decide +kernel
theorem dL_law_254 : decode cL_law 254 = .ok (.iload_n 3, 1) := by decide +kernel
theorem dL_law_255 : decode cL_law 255 = .ok (.iconst 1, 1) := by decide +kernel
theorem dL_law_256 : decode cL_law 256 = .ok (.iadd, 1) := by decide +kernel
theorem dL_law_257 : decode cL_law 257 = .ok (.iaload, 1) := by decide +kernel
theorem dL_law_258 : decode cL_law 258 = .ok (.aload_n 0, 1) := by decide +kernel
theorem dL_law_259 : decode cL_law 259 = .ok (.iload_n 3, 1) := by decide +kernel
theorem dL_law_260 : decode cL_law 260 = .ok (.iconst 2, 1) := by decide +kernel
theorem dL_law_261 : decode cL_law 261 = .ok (.iadd, 1) := by decide +kernel
theorem dL_law_262 : decode cL_law 262 = .ok (.iaload, 1) := by decide +kernel
theorem dL_law_263 : decode cL_law 263 = .ok (.invokevirtual 33, 3) := by decide +kernel
theorem dL_law_266 : decode cL_law 266 = .ok (.aload_n 2, 1) := by decide +kernel
theorem dL_law_267 : decode cL_law 267 = .ok (.aload_n 0, 1) := by decide +kernel
theorem dL_law_268 : decode cL_law 268 = .ok (.iload_n 3, 1) := by decide +kernel
theorem dL_law_269 : decode cL_law 269 = .ok (.iconst 1, 1) := by decide +kernel
theorem dL_law_270 : decode cL_law 270 = .ok (.iadd, 1) := by decide +kernel
theorem dL_law_271 : decode cL_law 271 = .ok (.iaload, 1) := by decide +kernel
theorem dL_law_272 : decode cL_law 272 = .ok (.aload_n 0, 1) := by decide +kernel
theorem dL_law_273 : decode cL_law 273 = .ok (.iload_n 3, 1) := by decide +kernel
theorem dL_law_274 : decode cL_law 274 = .ok (.iconst 2, 1) := by decide +kernel
theorem dL_law_275 : decode cL_law 275 = .ok (.iadd, 1) := by decide +kernel
theorem dL_law_276 : decode cL_law 276 = .ok (.iaload, 1) := by decide +kernel
theorem dL_law_277 : decode cL_law 277 = .ok (.invokevirtual 36, 3) := by decide +kernel
theorem dL_law_280 : decode cL_law 280 = .ok (.if_icmp .eq 511, 3) := by decide +kernel
theorem dL_law_283 : decode cL_law 283 = .ok (.iconst 0, 1) := by decide +kernel
theorem dL_law_284 : decode cL_law 284 = .ok (.ireturn, 1) := by decide +kernel
theorem dL_law_285 : decode cL_law 285 = .ok (.aload_n 1, 1) := by decide +kernel
theorem dL_law_286 : decode cL_law 286 = .ok (.aload_n 0, 1) := by decide +kernel
theorem dL_law_287 : decode cL_law 287 = .ok (.iload_n 3, 1) := by decide +kernel
theorem dL_law_288 : decode cL_law 288 = .ok (.iconst 1, 1) := by decide +kernel
theorem dL_law_289 : decode cL_law 289 = .ok (.iadd, 1) := by decide +kernel
theorem dL_law_290 : decode cL_law 290 = .ok (.iaload, 1) := by decide +kernel
theorem dL_law_291 : decode cL_law 291 = .ok (.invokevirtual 37, 3) := by decide +kernel
theorem dL_law_294 : decode cL_law 294 = .ok (.aload_n 2, 1) := by decide +kernel
theorem dL_law_295 : decode cL_law 295 = .ok (.aload_n 0, 1) := by decide +kernel
theorem dL_law_296 : decode cL_law 296 = .ok (.iload_n 3, 1) := by decide +kernel
theorem dL_law_297 : decode cL_law 297 = .ok (.iconst 1, 1) := by decide +kernel
theorem dL_law_298 : decode cL_law 298 = .ok (.iadd, 1) := by decide +kernel
theorem dL_law_299 : decode cL_law 299 = .ok (.iaload, 1) := by decide +kernel
theorem dL_law_300 : decode cL_law 300 = .ok (.invokevirtual 40, 3) := by decide +kernel
theorem dL_law_303 : decode cL_law 303 = .ok (.if_icmp .eq 488, 3) := by decide +kernel
theorem dL_law_306 : decode cL_law 306 = .ok (.iconst 0, 1) := by decide +kernel
theorem dL_law_307 : decode cL_law 307 = .ok (.ireturn, 1) := by decide +kernel
theorem dL_law_308 : decode cL_law 308 = .ok (.aload_n 1, 1) := by decide +kernel
theorem dL_law_309 : decode cL_law 309 = .ok (.invokevirtual 41, 3) := by decide +kernel
theorem dL_law_312 : decode cL_law 312 = .ok (.aload_n 2, 1) := by decide +kernel
theorem dL_law_313 : decode cL_law 313 = .ok (.invokevirtual 44, 3) := by decide +kernel
theorem dL_law_316 : decode cL_law 316 = .ok (.if_icmp .eq 475, 3) := by decide +kernel
theorem dL_law_319 : decode cL_law 319 = .ok (.iconst 0, 1) := by decide +kernel
theorem dL_law_320 : decode cL_law 320 = .ok (.ireturn, 1) := by decide +kernel
theorem dL_law_321 : decode cL_law 321 = .ok (.aload_n 1, 1) := by decide +kernel
theorem dL_law_322 : decode cL_law 322 = .ok (.invokevirtual 45, 3) := by decide +kernel
theorem dL_law_325 : decode cL_law 325 = .ok (.aload_n 2, 1) := by decide +kernel
theorem dL_law_326 : decode cL_law 326 = .ok (.invokevirtual 48, 3) := by decide +kernel
theorem dL_law_329 : decode cL_law 329 = .ok (.if_icmp .eq 462, 3) := by decide +kernel
theorem dL_law_332 : decode cL_law 332 = .ok (.iconst 0, 1) := by decide +kernel
theorem dL_law_333 : decode cL_law 333 = .ok (.ireturn, 1) := by decide +kernel
theorem dL_law_334 : decode cL_law 334 = .ok (.aload_n 1, 1) := by decide +kernel
theorem dL_law_335 : decode cL_law 335 = .ok (.invokevirtual 49, 3) := by decide +kernel
theorem dL_law_338 : decode cL_law 338 = .ok (.aload_n 2, 1) := by decide +kernel
theorem dL_law_339 : decode cL_law 339 = .ok (.invokevirtual 52, 3) := by decide +kernel
theorem dL_law_342 : decode cL_law 342 = .ok (.if_icmp .eq 449, 3) := by decide +kernel
theorem dL_law_345 : decode cL_law 345 = .ok (.iconst 0, 1) := by decide +kernel
theorem dL_law_346 : decode cL_law 346 = .ok (.ireturn, 1) := by decide +kernel
theorem dL_law_347 : decode cL_law 347 = .ok (.aload_n 1, 1) := by decide +kernel
theorem dL_law_348 : decode cL_law 348 = .ok (.invokevirtual 53, 3) := by decide +kernel
theorem dL_law_351 : decode cL_law 351 = .ok (.aload_n 2, 1) := by decide +kernel
theorem dL_law_352 : decode cL_law 352 = .ok (.invokevirtual 56, 3) := by decide +kernel
theorem dL_law_355 : decode cL_law 355 = .ok (.if_icmp .eq 436, 3) := by decide +kernel
theorem dL_law_358 : decode cL_law 358 = .ok (.iconst 0, 1) := by decide +kernel
theorem dL_law_359 : decode cL_law 359 = .ok (.ireturn, 1) := by decide +kernel
theorem dL_law_360 : decode cL_law 360 = .ok (.aload_n 1, 1) := by decide +kernel
theorem dL_law_361 : decode cL_law 361 = .ok (.aload_n 0, 1) := by decide +kernel
theorem dL_law_362 : decode cL_law 362 = .ok (.iload_n 3, 1) := by decide +kernel
theorem dL_law_363 : decode cL_law 363 = .ok (.iconst 1, 1) := by decide +kernel
theorem dL_law_364 : decode cL_law 364 = .ok (.iadd, 1) := by decide +kernel
theorem dL_law_365 : decode cL_law 365 = .ok (.iaload, 1) := by decide +kernel
theorem dL_law_366 : decode cL_law 366 = .ok (.aload_n 0, 1) := by decide +kernel
theorem dL_law_367 : decode cL_law 367 = .ok (.iload_n 3, 1) := by decide +kernel
theorem dL_law_368 : decode cL_law 368 = .ok (.iconst 2, 1) := by decide +kernel
theorem dL_law_369 : decode cL_law 369 = .ok (.iadd, 1) := by decide +kernel
theorem dL_law_370 : decode cL_law 370 = .ok (.iaload, 1) := by decide +kernel
theorem dL_law_371 : decode cL_law 371 = .ok (.invokevirtual 57, 3) := by decide +kernel
theorem dL_law_374 : decode cL_law 374 = .ok (.aload_n 2, 1) := by decide +kernel
theorem dL_law_375 : decode cL_law 375 = .ok (.aload_n 0, 1) := by decide +kernel
theorem dL_law_376 : decode cL_law 376 = .ok (.iload_n 3, 1) := by decide +kernel
theorem dL_law_377 : decode cL_law 377 = .ok (.iconst 1, 1) := by decide +kernel
theorem dL_law_378 : decode cL_law 378 = .ok (.iadd, 1) := by decide +kernel
theorem dL_law_379 : decode cL_law 379 = .ok (.iaload, 1) := by decide +kernel
theorem dL_law_380 : decode cL_law 380 = .ok (.aload_n 0, 1) := by decide +kernel
theorem dL_law_381 : decode cL_law 381 = .ok (.iload_n 3, 1) := by decide +kernel
theorem dL_law_382 : decode cL_law 382 = .ok (.iconst 2, 1) := by decide +kernel
theorem dL_law_383 : decode cL_law 383 = .ok (.iadd, 1) := by decide +kernel
theorem dL_law_384 : decode cL_law 384 = .ok (.iaload, 1) := by decide +kernel
theorem dL_law_385 : decode cL_law 385 = .ok (.invokevirtual 60, 3) := by decide +kernel
theorem dL_law_388 : decode cL_law 388 = .ok (.if_icmp .eq 403, 3) := by decide +kernel
theorem dL_law_391 : decode cL_law 391 = .ok (.iconst 0, 1) := by decide +kernel
theorem dL_law_392 : decode cL_law 392 = .ok (.ireturn, 1) := by decide +kernel
theorem dL_law_393 : decode cL_law 393 = .ok (.aload_n 1, 1) := by decide +kernel
theorem dL_law_394 : decode cL_law 394 = .ok (.aload_n 0, 1) := by decide +kernel
theorem dL_law_395 : decode cL_law 395 = .ok (.iload_n 3, 1) := by decide +kernel
theorem dL_law_396 : decode cL_law 396 = .ok (.iconst 1, 1) := by decide +kernel
theorem dL_law_397 : decode cL_law 397 = .ok (.iadd, 1) := by decide +kernel
theorem dL_law_398 : decode cL_law 398 = .ok (.iaload, 1) := by decide +kernel
theorem dL_law_399 : decode cL_law 399 = .ok (.aload_n 0, 1) := by decide +kernel
theorem dL_law_400 : decode cL_law 400 = .ok (.iload_n 3, 1) := by decide +kernel
theorem dL_law_401 : decode cL_law 401 = .ok (.iconst 2, 1) := by decide +kernel
theorem dL_law_402 : decode cL_law 402 = .ok (.iadd, 1) := by decide +kernel
theorem dL_law_403 : decode cL_law 403 = .ok (.iaload, 1) := by decide +kernel
theorem dL_law_404 : decode cL_law 404 = .ok (.invokevirtual 61, 3) := by decide +kernel
theorem dL_law_407 : decode cL_law 407 = .ok (.aload_n 2, 1) := by decide +kernel
theorem dL_law_408 : decode cL_law 408 = .ok (.aload_n 0, 1) := by decide +kernel
theorem dL_law_409 : decode cL_law 409 = .ok (.iload_n 3, 1) := by decide +kernel
theorem dL_law_410 : decode cL_law 410 = .ok (.iconst 1, 1) := by decide +kernel
theorem dL_law_411 : decode cL_law 411 = .ok (.iadd, 1) := by decide +kernel
theorem dL_law_412 : decode cL_law 412 = .ok (.iaload, 1) := by decide +kernel
theorem dL_law_413 : decode cL_law 413 = .ok (.aload_n 0, 1) := by decide +kernel
theorem dL_law_414 : decode cL_law 414 = .ok (.iload_n 3, 1) := by decide +kernel
theorem dL_law_415 : decode cL_law 415 = .ok (.iconst 2, 1) := by decide +kernel
theorem dL_law_416 : decode cL_law 416 = .ok (.iadd, 1) := by decide +kernel
theorem dL_law_417 : decode cL_law 417 = .ok (.iaload, 1) := by decide +kernel
theorem dL_law_418 : decode cL_law 418 = .ok (.invokevirtual 64, 3) := by decide +kernel
theorem dL_law_421 : decode cL_law 421 = .ok (.if_icmp .eq 370, 3) := by decide +kernel
theorem dL_law_424 : decode cL_law 424 = .ok (.iconst 0, 1) := by decide +kernel
theorem dL_law_425 : decode cL_law 425 = .ok (.ireturn, 1) := by decide +kernel
theorem dL_law_426 : decode cL_law 426 = .ok (.aload_n 1, 1) := by decide +kernel
theorem dL_law_427 : decode cL_law 427 = .ok (.aload_n 0, 1) := by decide +kernel
theorem dL_law_428 : decode cL_law 428 = .ok (.iload_n 3, 1) := by decide +kernel
theorem dL_law_429 : decode cL_law 429 = .ok (.iconst 1, 1) := by decide +kernel
theorem dL_law_430 : decode cL_law 430 = .ok (.iadd, 1) := by decide +kernel
theorem dL_law_431 : decode cL_law 431 = .ok (.iaload, 1) := by decide +kernel
theorem dL_law_432 : decode cL_law 432 = .ok (.aload_n 0, 1) := by decide +kernel
theorem dL_law_433 : decode cL_law 433 = .ok (.iload_n 3, 1) := by decide +kernel
theorem dL_law_434 : decode cL_law 434 = .ok (.iconst 2, 1) := by decide +kernel
theorem dL_law_435 : decode cL_law 435 = .ok (.iadd, 1) := by decide +kernel
theorem dL_law_436 : decode cL_law 436 = .ok (.iaload, 1) := by decide +kernel
theorem dL_law_437 : decode cL_law 437 = .ok (.aload_n 0, 1) := by decide +kernel
theorem dL_law_438 : decode cL_law 438 = .ok (.iload_n 3, 1) := by decide +kernel
theorem dL_law_439 : decode cL_law 439 = .ok (.iconst 3, 1) := by decide +kernel
theorem dL_law_440 : decode cL_law 440 = .ok (.iadd, 1) := by decide +kernel
theorem dL_law_441 : decode cL_law 441 = .ok (.iaload, 1) := by decide +kernel
theorem dL_law_442 : decode cL_law 442 = .ok (.invokevirtual 65, 3) := by decide +kernel
theorem dL_law_445 : decode cL_law 445 = .ok (.aload_n 2, 1) := by decide +kernel
theorem dL_law_446 : decode cL_law 446 = .ok (.aload_n 0, 1) := by decide +kernel
theorem dL_law_447 : decode cL_law 447 = .ok (.iload_n 3, 1) := by decide +kernel
theorem dL_law_448 : decode cL_law 448 = .ok (.iconst 1, 1) := by decide +kernel
theorem dL_law_449 : decode cL_law 449 = .ok (.iadd, 1) := by decide +kernel
theorem dL_law_450 : decode cL_law 450 = .ok (.iaload, 1) := by decide +kernel
theorem dL_law_451 : decode cL_law 451 = .ok (.aload_n 0, 1) := by decide +kernel
theorem dL_law_452 : decode cL_law 452 = .ok (.iload_n 3, 1) := by decide +kernel
theorem dL_law_453 : decode cL_law 453 = .ok (.iconst 2, 1) := by decide +kernel
theorem dL_law_454 : decode cL_law 454 = .ok (.iadd, 1) := by decide +kernel
theorem dL_law_455 : decode cL_law 455 = .ok (.iaload, 1) := by decide +kernel
theorem dL_law_456 : decode cL_law 456 = .ok (.aload_n 0, 1) := by decide +kernel
theorem dL_law_457 : decode cL_law 457 = .ok (.iload_n 3, 1) := by decide +kernel
theorem dL_law_458 : decode cL_law 458 = .ok (.iconst 3, 1) := by decide +kernel
theorem dL_law_459 : decode cL_law 459 = .ok (.iadd, 1) := by decide +kernel
theorem dL_law_460 : decode cL_law 460 = .ok (.iaload, 1) := by decide +kernel
theorem dL_law_461 : decode cL_law 461 = .ok (.invokevirtual 69, 3) := by decide +kernel
theorem dL_law_464 : decode cL_law 464 = .ok (.lcmp, 1) := by decide +kernel
theorem dL_law_465 : decode cL_law 465 = .ok (.ifCond .eq 326, 3) := by decide +kernel
theorem dL_law_468 : decode cL_law 468 = .ok (.iconst 0, 1) := by decide +kernel
theorem dL_law_469 : decode cL_law 469 = .ok (.ireturn, 1) := by decide +kernel
theorem dL_law_470 : decode cL_law 470 = .ok (.aload_n 1, 1) := by decide +kernel
theorem dL_law_471 : decode cL_law 471 = .ok (.aload_n 0, 1) := by decide +kernel
theorem dL_law_472 : decode cL_law 472 = .ok (.iload_n 3, 1) := by decide +kernel
theorem dL_law_473 : decode cL_law 473 = .ok (.iconst 1, 1) := by decide +kernel
theorem dL_law_474 : decode cL_law 474 = .ok (.iadd, 1) := by decide +kernel
theorem dL_law_475 : decode cL_law 475 = .ok (.iaload, 1) := by decide +kernel
theorem dL_law_476 : decode cL_law 476 = .ok (.aload_n 0, 1) := by decide +kernel
theorem dL_law_477 : decode cL_law 477 = .ok (.iload_n 3, 1) := by decide +kernel
theorem dL_law_478 : decode cL_law 478 = .ok (.iconst 2, 1) := by decide +kernel
theorem dL_law_479 : decode cL_law 479 = .ok (.iadd, 1) := by decide +kernel
theorem dL_law_480 : decode cL_law 480 = .ok (.iaload, 1) := by decide +kernel
theorem dL_law_481 : decode cL_law 481 = .ok (.aload_n 0, 1) := by decide +kernel
theorem dL_law_482 : decode cL_law 482 = .ok (.iload_n 3, 1) := by decide +kernel
theorem dL_law_483 : decode cL_law 483 = .ok (.iconst 3, 1) := by decide +kernel
theorem dL_law_484 : decode cL_law 484 = .ok (.iadd, 1) := by decide +kernel
theorem dL_law_485 : decode cL_law 485 = .ok (.iaload, 1) := by decide +kernel
theorem dL_law_486 : decode cL_law 486 = .ok (.invokevirtual 70, 3) := by decide +kernel
theorem dL_law_489 : decode cL_law 489 = .ok (.aload_n 2, 1) := by decide +kernel
theorem dL_law_490 : decode cL_law 490 = .ok (.aload_n 0, 1) := by decide +kernel
theorem dL_law_491 : decode cL_law 491 = .ok (.iload_n 3, 1) := by decide +kernel
theorem dL_law_492 : decode cL_law 492 = .ok (.iconst 1, 1) := by decide +kernel
theorem dL_law_493 : decode cL_law 493 = .ok (.iadd, 1) := by decide +kernel
theorem dL_law_494 : decode cL_law 494 = .ok (.iaload, 1) := by decide +kernel
theorem dL_law_495 : decode cL_law 495 = .ok (.aload_n 0, 1) := by decide +kernel
theorem dL_law_496 : decode cL_law 496 = .ok (.iload_n 3, 1) := by decide +kernel
theorem dL_law_497 : decode cL_law 497 = .ok (.iconst 2, 1) := by decide +kernel
theorem dL_law_498 : decode cL_law 498 = .ok (.iadd, 1) := by decide +kernel
theorem dL_law_499 : decode cL_law 499 = .ok (.iaload, 1) := by decide +kernel
theorem dL_law_500 : decode cL_law 500 = .ok (.aload_n 0, 1) := by decide +kernel
theorem dL_law_501 : decode cL_law 501 = .ok (.iload_n 3, 1) := by decide +kernel
theorem dL_law_502 : decode cL_law 502 = .ok (.iconst 3, 1) := by decide +kernel
theorem dL_law_503 : decode cL_law 503 = .ok (.iadd, 1) := by decide +kernel
theorem dL_law_504 : decode cL_law 504 = .ok (.iaload, 1) := by decide +kernel
theorem dL_law_505 : decode cL_law 505 = .ok (.invokevirtual 73, 3) := by decide +kernel
theorem dL_law_508 : decode cL_law 508 = .ok (.lcmp, 1) := by decide +kernel
theorem dL_law_509 : decode cL_law 509 = .ok (.ifCond .eq 282, 3) := by decide +kernel
theorem dL_law_512 : decode cL_law 512 = .ok (.iconst 0, 1) := by decide +kernel
theorem dL_law_513 : decode cL_law 513 = .ok (.ireturn, 1) := by decide +kernel
theorem dL_law_514 : decode cL_law 514 = .ok (.aload_n 1, 1) := by decide +kernel
theorem dL_law_515 : decode cL_law 515 = .ok (.invokevirtual 74, 3) := by decide +kernel
theorem dL_law_518 : decode cL_law 518 = .ok (.aload_n 2, 1) := by decide +kernel
theorem dL_law_519 : decode cL_law 519 = .ok (.invokevirtual 77, 3) := by decide +kernel
theorem dL_law_522 : decode cL_law 522 = .ok (.if_icmp .eq 269, 3) := by decide +kernel
theorem dL_law_525 : decode cL_law 525 = .ok (.iconst 0, 1) := by decide +kernel
theorem dL_law_526 : decode cL_law 526 = .ok (.ireturn, 1) := by decide +kernel
theorem dL_law_527 : decode cL_law 527 = .ok (.aload_n 1, 1) := by decide +kernel
theorem dL_law_528 : decode cL_law 528 = .ok (.aload_n 0, 1) := by decide +kernel
theorem dL_law_529 : decode cL_law 529 = .ok (.iload_n 3, 1) := by decide +kernel
theorem dL_law_530 : decode cL_law 530 = .ok (.iconst 1, 1) := by decide +kernel
theorem dL_law_531 : decode cL_law 531 = .ok (.iadd, 1) := by decide +kernel
theorem dL_law_532 : decode cL_law 532 = .ok (.iaload, 1) := by decide +kernel
theorem dL_law_533 : decode cL_law 533 = .ok (.aload_n 0, 1) := by decide +kernel
theorem dL_law_534 : decode cL_law 534 = .ok (.iload_n 3, 1) := by decide +kernel
theorem dL_law_535 : decode cL_law 535 = .ok (.iconst 2, 1) := by decide +kernel
theorem dL_law_536 : decode cL_law 536 = .ok (.iadd, 1) := by decide +kernel
theorem dL_law_537 : decode cL_law 537 = .ok (.iaload, 1) := by decide +kernel
theorem dL_law_538 : decode cL_law 538 = .ok (.invokevirtual 78, 3) := by decide +kernel
theorem dL_law_541 : decode cL_law 541 = .ok (.aload_n 2, 1) := by decide +kernel
theorem dL_law_542 : decode cL_law 542 = .ok (.aload_n 0, 1) := by decide +kernel
theorem dL_law_543 : decode cL_law 543 = .ok (.iload_n 3, 1) := by decide +kernel
theorem dL_law_544 : decode cL_law 544 = .ok (.iconst 1, 1) := by decide +kernel
theorem dL_law_545 : decode cL_law 545 = .ok (.iadd, 1) := by decide +kernel
theorem dL_law_546 : decode cL_law 546 = .ok (.iaload, 1) := by decide +kernel
theorem dL_law_547 : decode cL_law 547 = .ok (.aload_n 0, 1) := by decide +kernel
theorem dL_law_548 : decode cL_law 548 = .ok (.iload_n 3, 1) := by decide +kernel
theorem dL_law_549 : decode cL_law 549 = .ok (.iconst 2, 1) := by decide +kernel
theorem dL_law_550 : decode cL_law 550 = .ok (.iadd, 1) := by decide +kernel
theorem dL_law_551 : decode cL_law 551 = .ok (.iaload, 1) := by decide +kernel
theorem dL_law_552 : decode cL_law 552 = .ok (.invokevirtual 81, 3) := by decide +kernel
theorem dL_law_555 : decode cL_law 555 = .ok (.if_icmp .eq 236, 3) := by decide +kernel
theorem dL_law_558 : decode cL_law 558 = .ok (.iconst 0, 1) := by decide +kernel
theorem dL_law_559 : decode cL_law 559 = .ok (.ireturn, 1) := by decide +kernel
theorem dL_law_560 : decode cL_law 560 = .ok (.aload_n 1, 1) := by decide +kernel
theorem dL_law_561 : decode cL_law 561 = .ok (.aload_n 0, 1) := by decide +kernel
theorem dL_law_562 : decode cL_law 562 = .ok (.iload_n 3, 1) := by decide +kernel
theorem dL_law_563 : decode cL_law 563 = .ok (.iconst 1, 1) := by decide +kernel
theorem dL_law_564 : decode cL_law 564 = .ok (.iadd, 1) := by decide +kernel
theorem dL_law_565 : decode cL_law 565 = .ok (.iaload, 1) := by decide +kernel
theorem dL_law_566 : decode cL_law 566 = .ok (.aload_n 0, 1) := by decide +kernel
theorem dL_law_567 : decode cL_law 567 = .ok (.iload_n 3, 1) := by decide +kernel
theorem dL_law_568 : decode cL_law 568 = .ok (.iconst 2, 1) := by decide +kernel
theorem dL_law_569 : decode cL_law 569 = .ok (.iadd, 1) := by decide +kernel
theorem dL_law_570 : decode cL_law 570 = .ok (.iaload, 1) := by decide +kernel
theorem dL_law_571 : decode cL_law 571 = .ok (.aload_n 0, 1) := by decide +kernel
theorem dL_law_572 : decode cL_law 572 = .ok (.iload_n 3, 1) := by decide +kernel
theorem dL_law_573 : decode cL_law 573 = .ok (.iconst 3, 1) := by decide +kernel
theorem dL_law_574 : decode cL_law 574 = .ok (.iadd, 1) := by decide +kernel
theorem dL_law_575 : decode cL_law 575 = .ok (.iaload, 1) := by decide +kernel
theorem dL_law_576 : decode cL_law 576 = .ok (.invokevirtual 82, 3) := by decide +kernel
theorem dL_law_579 : decode cL_law 579 = .ok (.aload_n 2, 1) := by decide +kernel
theorem dL_law_580 : decode cL_law 580 = .ok (.aload_n 0, 1) := by decide +kernel
theorem dL_law_581 : decode cL_law 581 = .ok (.iload_n 3, 1) := by decide +kernel
theorem dL_law_582 : decode cL_law 582 = .ok (.iconst 1, 1) := by decide +kernel
theorem dL_law_583 : decode cL_law 583 = .ok (.iadd, 1) := by decide +kernel
theorem dL_law_584 : decode cL_law 584 = .ok (.iaload, 1) := by decide +kernel
theorem dL_law_585 : decode cL_law 585 = .ok (.aload_n 0, 1) := by decide +kernel
theorem dL_law_586 : decode cL_law 586 = .ok (.iload_n 3, 1) := by decide +kernel
theorem dL_law_587 : decode cL_law 587 = .ok (.iconst 2, 1) := by decide +kernel
theorem dL_law_588 : decode cL_law 588 = .ok (.iadd, 1) := by decide +kernel
theorem dL_law_589 : decode cL_law 589 = .ok (.iaload, 1) := by decide +kernel
theorem dL_law_590 : decode cL_law 590 = .ok (.aload_n 0, 1) := by decide +kernel
theorem dL_law_591 : decode cL_law 591 = .ok (.iload_n 3, 1) := by decide +kernel
theorem dL_law_592 : decode cL_law 592 = .ok (.iconst 3, 1) := by decide +kernel
theorem dL_law_593 : decode cL_law 593 = .ok (.iadd, 1) := by decide +kernel
theorem dL_law_594 : decode cL_law 594 = .ok (.iaload, 1) := by decide +kernel
theorem dL_law_595 : decode cL_law 595 = .ok (.invokevirtual 85, 3) := by decide +kernel
theorem dL_law_598 : decode cL_law 598 = .ok (.if_icmp .eq 193, 3) := by decide +kernel
theorem dL_law_601 : decode cL_law 601 = .ok (.iconst 0, 1) := by decide +kernel
theorem dL_law_602 : decode cL_law 602 = .ok (.ireturn, 1) := by decide +kernel
theorem dL_law_603 : decode cL_law 603 = .ok (.aload_n 1, 1) := by decide +kernel
theorem dL_law_604 : decode cL_law 604 = .ok (.aload_n 0, 1) := by decide +kernel
theorem dL_law_605 : decode cL_law 605 = .ok (.iload_n 3, 1) := by decide +kernel
theorem dL_law_606 : decode cL_law 606 = .ok (.iconst 1, 1) := by decide +kernel
theorem dL_law_607 : decode cL_law 607 = .ok (.iadd, 1) := by decide +kernel
theorem dL_law_608 : decode cL_law 608 = .ok (.iaload, 1) := by decide +kernel
theorem dL_law_609 : decode cL_law 609 = .ok (.aload_n 0, 1) := by decide +kernel
theorem dL_law_610 : decode cL_law 610 = .ok (.iload_n 3, 1) := by decide +kernel
theorem dL_law_611 : decode cL_law 611 = .ok (.iconst 2, 1) := by decide +kernel
theorem dL_law_612 : decode cL_law 612 = .ok (.iadd, 1) := by decide +kernel
theorem dL_law_613 : decode cL_law 613 = .ok (.iaload, 1) := by decide +kernel
theorem dL_law_614 : decode cL_law 614 = .ok (.invokevirtual 86, 3) := by decide +kernel
theorem dL_law_617 : decode cL_law 617 = .ok (.aload_n 2, 1) := by decide +kernel
theorem dL_law_618 : decode cL_law 618 = .ok (.aload_n 0, 1) := by decide +kernel
theorem dL_law_619 : decode cL_law 619 = .ok (.iload_n 3, 1) := by decide +kernel
theorem dL_law_620 : decode cL_law 620 = .ok (.iconst 1, 1) := by decide +kernel
theorem dL_law_621 : decode cL_law 621 = .ok (.iadd, 1) := by decide +kernel
theorem dL_law_622 : decode cL_law 622 = .ok (.iaload, 1) := by decide +kernel
theorem dL_law_623 : decode cL_law 623 = .ok (.aload_n 0, 1) := by decide +kernel
theorem dL_law_624 : decode cL_law 624 = .ok (.iload_n 3, 1) := by decide +kernel
theorem dL_law_625 : decode cL_law 625 = .ok (.iconst 2, 1) := by decide +kernel
theorem dL_law_626 : decode cL_law 626 = .ok (.iadd, 1) := by decide +kernel
theorem dL_law_627 : decode cL_law 627 = .ok (.iaload, 1) := by decide +kernel
theorem dL_law_628 : decode cL_law 628 = .ok (.invokevirtual 89, 3) := by decide +kernel
theorem dL_law_631 : decode cL_law 631 = .ok (.if_icmp .eq 160, 3) := by decide +kernel
theorem dL_law_634 : decode cL_law 634 = .ok (.iconst 0, 1) := by decide +kernel
theorem dL_law_635 : decode cL_law 635 = .ok (.ireturn, 1) := by decide +kernel
theorem dL_law_636 : decode cL_law 636 = .ok (.aload_n 1, 1) := by decide +kernel
theorem dL_law_637 : decode cL_law 637 = .ok (.aload_n 0, 1) := by decide +kernel
theorem dL_law_638 : decode cL_law 638 = .ok (.iload_n 3, 1) := by decide +kernel
theorem dL_law_639 : decode cL_law 639 = .ok (.iconst 1, 1) := by decide +kernel
theorem dL_law_640 : decode cL_law 640 = .ok (.iadd, 1) := by decide +kernel
theorem dL_law_641 : decode cL_law 641 = .ok (.iaload, 1) := by decide +kernel
theorem dL_law_642 : decode cL_law 642 = .ok (.invokevirtual 90, 3) := by decide +kernel
theorem dL_law_645 : decode cL_law 645 = .ok (.aload_n 2, 1) := by decide +kernel
theorem dL_law_646 : decode cL_law 646 = .ok (.aload_n 0, 1) := by decide +kernel
theorem dL_law_647 : decode cL_law 647 = .ok (.iload_n 3, 1) := by decide +kernel
theorem dL_law_648 : decode cL_law 648 = .ok (.iconst 1, 1) := by decide +kernel
theorem dL_law_649 : decode cL_law 649 = .ok (.iadd, 1) := by decide +kernel
theorem dL_law_650 : decode cL_law 650 = .ok (.iaload, 1) := by decide +kernel
theorem dL_law_651 : decode cL_law 651 = .ok (.invokevirtual 93, 3) := by decide +kernel
theorem dL_law_654 : decode cL_law 654 = .ok (.if_icmp .eq 137, 3) := by decide +kernel
theorem dL_law_657 : decode cL_law 657 = .ok (.iconst 0, 1) := by decide +kernel
theorem dL_law_658 : decode cL_law 658 = .ok (.ireturn, 1) := by decide +kernel
theorem dL_law_659 : decode cL_law 659 = .ok (.aload_n 1, 1) := by decide +kernel
theorem dL_law_660 : decode cL_law 660 = .ok (.aload_n 0, 1) := by decide +kernel
theorem dL_law_661 : decode cL_law 661 = .ok (.iload_n 3, 1) := by decide +kernel
theorem dL_law_662 : decode cL_law 662 = .ok (.iconst 1, 1) := by decide +kernel
theorem dL_law_663 : decode cL_law 663 = .ok (.iadd, 1) := by decide +kernel
theorem dL_law_664 : decode cL_law 664 = .ok (.iaload, 1) := by decide +kernel
theorem dL_law_665 : decode cL_law 665 = .ok (.aload_n 0, 1) := by decide +kernel
theorem dL_law_666 : decode cL_law 666 = .ok (.iload_n 3, 1) := by decide +kernel
theorem dL_law_667 : decode cL_law 667 = .ok (.iconst 2, 1) := by decide +kernel
theorem dL_law_668 : decode cL_law 668 = .ok (.iadd, 1) := by decide +kernel
theorem dL_law_669 : decode cL_law 669 = .ok (.iaload, 1) := by decide +kernel
theorem dL_law_670 : decode cL_law 670 = .ok (.invokevirtual 94, 3) := by decide +kernel
theorem dL_law_673 : decode cL_law 673 = .ok (.aload_n 2, 1) := by decide +kernel
theorem dL_law_674 : decode cL_law 674 = .ok (.aload_n 0, 1) := by decide +kernel
theorem dL_law_675 : decode cL_law 675 = .ok (.iload_n 3, 1) := by decide +kernel
theorem dL_law_676 : decode cL_law 676 = .ok (.iconst 1, 1) := by decide +kernel
theorem dL_law_677 : decode cL_law 677 = .ok (.iadd, 1) := by decide +kernel
theorem dL_law_678 : decode cL_law 678 = .ok (.iaload, 1) := by decide +kernel
theorem dL_law_679 : decode cL_law 679 = .ok (.aload_n 0, 1) := by decide +kernel
theorem dL_law_680 : decode cL_law 680 = .ok (.iload_n 3, 1) := by decide +kernel
theorem dL_law_681 : decode cL_law 681 = .ok (.iconst 2, 1) := by decide +kernel
theorem dL_law_682 : decode cL_law 682 = .ok (.iadd, 1) := by decide +kernel
theorem dL_law_683 : decode cL_law 683 = .ok (.iaload, 1) := by decide +kernel
theorem dL_law_684 : decode cL_law 684 = .ok (.invokevirtual 97, 3) := by decide +kernel
theorem dL_law_687 : decode cL_law 687 = .ok (.if_icmp .eq 104, 3) := by decide +kernel
theorem dL_law_690 : decode cL_law 690 = .ok (.iconst 0, 1) := by decide +kernel
theorem dL_law_691 : decode cL_law 691 = .ok (.ireturn, 1) := by decide +kernel
theorem dL_law_692 : decode cL_law 692 = .ok (.aload_n 1, 1) := by decide +kernel
theorem dL_law_693 : decode cL_law 693 = .ok (.aload_n 0, 1) := by decide +kernel
theorem dL_law_694 : decode cL_law 694 = .ok (.iload_n 3, 1) := by decide +kernel
theorem dL_law_695 : decode cL_law 695 = .ok (.iconst 1, 1) := by decide +kernel
theorem dL_law_696 : decode cL_law 696 = .ok (.iadd, 1) := by decide +kernel
theorem dL_law_697 : decode cL_law 697 = .ok (.iaload, 1) := by decide +kernel
theorem dL_law_698 : decode cL_law 698 = .ok (.aload_n 0, 1) := by decide +kernel
theorem dL_law_699 : decode cL_law 699 = .ok (.iload_n 3, 1) := by decide +kernel
theorem dL_law_700 : decode cL_law 700 = .ok (.iconst 2, 1) := by decide +kernel
theorem dL_law_701 : decode cL_law 701 = .ok (.iadd, 1) := by decide +kernel
theorem dL_law_702 : decode cL_law 702 = .ok (.iaload, 1) := by decide +kernel
theorem dL_law_703 : decode cL_law 703 = .ok (.invokevirtual 98, 3) := by decide +kernel
theorem dL_law_706 : decode cL_law 706 = .ok (.aload_n 2, 1) := by decide +kernel
theorem dL_law_707 : decode cL_law 707 = .ok (.aload_n 0, 1) := by decide +kernel
theorem dL_law_708 : decode cL_law 708 = .ok (.iload_n 3, 1) := by decide +kernel
theorem dL_law_709 : decode cL_law 709 = .ok (.iconst 1, 1) := by decide +kernel
theorem dL_law_710 : decode cL_law 710 = .ok (.iadd, 1) := by decide +kernel
theorem dL_law_711 : decode cL_law 711 = .ok (.iaload, 1) := by decide +kernel
theorem dL_law_712 : decode cL_law 712 = .ok (.aload_n 0, 1) := by decide +kernel
theorem dL_law_713 : decode cL_law 713 = .ok (.iload_n 3, 1) := by decide +kernel
theorem dL_law_714 : decode cL_law 714 = .ok (.iconst 2, 1) := by decide +kernel
theorem dL_law_715 : decode cL_law 715 = .ok (.iadd, 1) := by decide +kernel
theorem dL_law_716 : decode cL_law 716 = .ok (.iaload, 1) := by decide +kernel
theorem dL_law_717 : decode cL_law 717 = .ok (.invokevirtual 101, 3) := by decide +kernel
theorem dL_law_720 : decode cL_law 720 = .ok (.if_icmp .eq 71, 3) := by decide +kernel
theorem dL_law_723 : decode cL_law 723 = .ok (.iconst 0, 1) := by decide +kernel
theorem dL_law_724 : decode cL_law 724 = .ok (.ireturn, 1) := by decide +kernel
theorem dL_law_725 : decode cL_law 725 = .ok (.aload_n 1, 1) := by decide +kernel
theorem dL_law_726 : decode cL_law 726 = .ok (.aload_n 0, 1) := by decide +kernel
theorem dL_law_727 : decode cL_law 727 = .ok (.iload_n 3, 1) := by decide +kernel
theorem dL_law_728 : decode cL_law 728 = .ok (.iconst 1, 1) := by decide +kernel
theorem dL_law_729 : decode cL_law 729 = .ok (.iadd, 1) := by decide +kernel
theorem dL_law_730 : decode cL_law 730 = .ok (.iaload, 1) := by decide +kernel
theorem dL_law_731 : decode cL_law 731 = .ok (.aload_n 0, 1) := by decide +kernel
theorem dL_law_732 : decode cL_law 732 = .ok (.iload_n 3, 1) := by decide +kernel
theorem dL_law_733 : decode cL_law 733 = .ok (.iconst 2, 1) := by decide +kernel
theorem dL_law_734 : decode cL_law 734 = .ok (.iadd, 1) := by decide +kernel
theorem dL_law_735 : decode cL_law 735 = .ok (.iaload, 1) := by decide +kernel
theorem dL_law_736 : decode cL_law 736 = .ok (.aload_n 0, 1) := by decide +kernel
theorem dL_law_737 : decode cL_law 737 = .ok (.iload_n 3, 1) := by decide +kernel
theorem dL_law_738 : decode cL_law 738 = .ok (.iconst 3, 1) := by decide +kernel
theorem dL_law_739 : decode cL_law 739 = .ok (.iadd, 1) := by decide +kernel
theorem dL_law_740 : decode cL_law 740 = .ok (.iaload, 1) := by decide +kernel
theorem dL_law_741 : decode cL_law 741 = .ok (.invokevirtual 102, 3) := by decide +kernel
theorem dL_law_744 : decode cL_law 744 = .ok (.aload_n 2, 1) := by decide +kernel
theorem dL_law_745 : decode cL_law 745 = .ok (.aload_n 0, 1) := by decide +kernel
theorem dL_law_746 : decode cL_law 746 = .ok (.iload_n 3, 1) := by decide +kernel
theorem dL_law_747 : decode cL_law 747 = .ok (.iconst 1, 1) := by decide +kernel
theorem dL_law_748 : decode cL_law 748 = .ok (.iadd, 1) := by decide +kernel
theorem dL_law_749 : decode cL_law 749 = .ok (.iaload, 1) := by decide +kernel
theorem dL_law_750 : decode cL_law 750 = .ok (.aload_n 0, 1) := by decide +kernel
theorem dL_law_751 : decode cL_law 751 = .ok (.iload_n 3, 1) := by decide +kernel
theorem dL_law_752 : decode cL_law 752 = .ok (.iconst 2, 1) := by decide +kernel
theorem dL_law_753 : decode cL_law 753 = .ok (.iadd, 1) := by decide +kernel
theorem dL_law_754 : decode cL_law 754 = .ok (.iaload, 1) := by decide +kernel
theorem dL_law_755 : decode cL_law 755 = .ok (.aload_n 0, 1) := by decide +kernel
theorem dL_law_756 : decode cL_law 756 = .ok (.iload_n 3, 1) := by decide +kernel
theorem dL_law_757 : decode cL_law 757 = .ok (.iconst 3, 1) := by decide +kernel
theorem dL_law_758 : decode cL_law 758 = .ok (.iadd, 1) := by decide +kernel
theorem dL_law_759 : decode cL_law 759 = .ok (.iaload, 1) := by decide +kernel
theorem dL_law_760 : decode cL_law 760 = .ok (.invokevirtual 105, 3) := by decide +kernel
theorem dL_law_763 : decode cL_law 763 = .ok (.if_icmp .eq 28, 3) := by decide +kernel
theorem dL_law_766 : decode cL_law 766 = .ok (.iconst 0, 1) := by decide +kernel
theorem dL_law_767 : decode cL_law 767 = .ok (.ireturn, 1) := by decide +kernel
theorem dL_law_768 : decode cL_law 768 = .ok (.aload_n 1, 1) := by decide +kernel
theorem dL_law_769 : decode cL_law 769 = .ok (.aload_n 0, 1) := by decide +kernel
theorem dL_law_770 : decode cL_law 770 = .ok (.iload_n 3, 1) := by decide +kernel
theorem dL_law_771 : decode cL_law 771 = .ok (.iconst 1, 1) := by decide +kernel
theorem dL_law_772 : decode cL_law 772 = .ok (.iadd, 1) := by decide +kernel
theorem dL_law_773 : decode cL_law 773 = .ok (.iaload, 1) := by decide +kernel
theorem dL_law_774 : decode cL_law 774 = .ok (.invokevirtual 106, 3) := by decide +kernel
theorem dL_law_777 : decode cL_law 777 = .ok (.aload_n 2, 1) := by decide +kernel
theorem dL_law_778 : decode cL_law 778 = .ok (.aload_n 0, 1) := by decide +kernel
theorem dL_law_779 : decode cL_law 779 = .ok (.iload_n 3, 1) := by decide +kernel
theorem dL_law_780 : decode cL_law 780 = .ok (.iconst 1, 1) := by decide +kernel
theorem dL_law_781 : decode cL_law 781 = .ok (.iadd, 1) := by decide +kernel
theorem dL_law_782 : decode cL_law 782 = .ok (.iaload, 1) := by decide +kernel
theorem dL_law_783 : decode cL_law 783 = .ok (.invokevirtual 109, 3) := by decide +kernel
theorem dL_law_786 : decode cL_law 786 = .ok (.if_icmp .eq 5, 3) := by decide +kernel
theorem dL_law_789 : decode cL_law 789 = .ok (.iconst 0, 1) := by decide +kernel
theorem dL_law_790 : decode cL_law 790 = .ok (.ireturn, 1) := by decide +kernel
theorem dL_law_791 : decode cL_law 791 = .ok (.iinc 3 4, 3) := by decide +kernel
theorem dL_law_794 : decode cL_law 794 = .ok (.goto (-776), 3) := by decide +kernel
theorem dL_law_797 : decode cL_law 797 = .ok (.iconst 1, 1) := by decide +kernel
theorem dL_law_798 : decode cL_law 798 = .ok (.ireturn, 1) := by decide +kernel
abbrev vwCl : List vw_C := [(RX0, TX0, 2), (RX2, TX2, 9), (RX3, TX3, 4), (RX4, TX4, 4), (RX5, TX5, 2), (RX6, TX6, 4), (RX7, TX7, 2), (RX8, TX8, 7), (RX9, TX9, 2), (RX10, TX10, 9), (RX11, TX11, 17)]
end
section
/-! my own kit: what stays through a body (kC), contracts (kMi, kMz, kMl, kMv), their entries, calls as one row each -/
def ob_in (i : Int32) (n : Nat) : Bool := !(decide (i < 0) || decide (n ≤ i.toNatClampNeg))
theorem ob_in_iff {i : Int32} {n : Nat} : ob_in i n = true ↔ vp_in i n := by
  unfold ob_in vp_in
  simp
theorem ob_pos {α : Type} {c : Prop} [Decidable c] {A B : Option α} {r : α} (h : c) (hf : (if c then A else B) = some r) : A = some r := by rwa [if_pos h] at hf
theorem ob_neg {α : Type} {c : Prop} [Decidable c] {A B : Option α} {r : α} (h : ¬ c) (hf : (if c then A else B) = some r) : B = some r := by rwa [if_neg h] at hf
theorem og_in {α : Type} {i : Int32} {n : Nat} {A : Option α} {r : α} (hf : (if ob_in i n = true then A else none) = some r) : vp_in i n ∧ A = some r := by
  by_cases h : ob_in i n = true
  · rw [if_pos h] at hf; exact ⟨ob_in_iff.mp h, hf⟩
  · rw [if_neg h] at hf; cases hf
theorem og_nz {α : Type} {c : Prop} [Decidable c] {A : Option α} {r : α} (hf : (if c then none else A) = some r) : ¬ c ∧ A = some r := by
  by_cases h : c
  · rw [if_pos h] at hf; cases hf
  · rw [if_neg h] at hf; exact ⟨h, hf⟩
theorem ob_bind {α β : Type} {x : Option α} {g : α → Option β} {r : β} (hf : x.bind g = some r) : ∃ a, x = some a ∧ g a = some r := by
  cases x with
  | none => cases hf
  | some a => exact ⟨a, rfl, hf⟩
def ob_let {α β : Type} (a : α) (g : α → β) : β := g a
theorem k_fm {α : Type} {f : Nat → Option α} : ∀ {l : List Nat} {w : List α}, l.map f = w.map some → l.filterMap f = w := by
  intro l
  induction l with
  | nil => intro w h; cases w with
    | nil => rfl
    | cons a w => cases h
  | cons i l ih => intro w h; cases w with
    | nil => cases h
    | cons a w =>
      simp only [List.map_cons, List.cons.injEq] at h
      rw [List.filterMap_cons, h.1]
      simp only [ih h.2]
abbrev kTy (cyI cyJ cyZ : ClassId) : List (ClassId × FieldType) := [(cyI, .int), (cyJ, .long), (cyZ, .boolean)]
def kC (p : Program) (s : State) (m : MethodId) (args : Array Value) (c : Code) (cc : ByteArray) (nL : Nat) (own : String) (Ts : List Cond) (D : va_G) (tys : List (ClassId × FieldType)) (A : Nat → Prop) : Prop :=
  p.tables.exec = Jvm.exec ∧ c.code = cc ∧ c.maxLocals = nL ∧ s.vm.findClass own = some m.cls ∧ (∀ w ∈ Ts, w.before args s = true) ∧ va_K D vwCl tys s ∧ (∀ q : Nat, s.heap.size ≤ q → A q)
def kP (D : va_G) (tys : List (ClassId × FieldType)) (ws : va_W) (sz : Nat) (U : State) : Prop := U.heap.size = sz ∧ va_P D vwCl ws U.heap ∧ va_K D vwCl tys U ∧ va_D (fun _ => True) ws
def kB (D : va_G) (tys : List (ClassId × FieldType)) (ws : va_W) (A : Nat → Prop) (_ : Unit) (t : State) : Prop := va_P D vwCl ws t.heap ∧ va_K D vwCl tys t ∧ va_D A ws

def kMi (l : Launch) (y : MethodName) (wsY : List Cond) (rm : Room) (D : va_G) (tys : List (ClassId × FieldType)) (as : List Value) (ws ws1 : va_W) (r : Int32) : Prop :=
  ∀ sz : Nat, Met l y wsY rm (va_Pc as (kP D tys ws sz)) (va_Qi (fun (r1 : Int32) (_ : Unit) => r1 = r) (kB D tys ws1 (va_A ws sz)) (va_A ws sz)) 0 0 (va_A ws sz)
theorem kMi_of {l : Launch} {y : MethodName} {wsY ws2 : List Cond} {rm : Room} {D : va_G} {tys : List (ClassId × FieldType)} {as : List Value} {ws ws1 : va_W} {r : Int32} {cc : ByteArray} {nL : Nat} {own : String} (hy : plainName y.cls = true) (hw : wsY = Cond.code y cc nL (some .int) :: ws2) (hoc : y.cls = own) (hlen : (lg_sl as).length ≤ nL)
    (body : ∀ (p : Program) (e : Env) (s : State) (m : MethodId) (below : List Frame) (meth : Method) (c : Code) (A : Nat → Prop) (Q : State → Prop) (ls : Array Slot),
      kC p s m as.toArray c cc nL own wsY D tys A →
      (∀ (pc : Nat) (H : Heap) (locs : List Loc) (ls : Array Slot), decode cc pc = .ok (.ireturn, 1) → va_P D vwCl ws1 H → va_D A ws1 → va_S A s.heap H locs → W p l e rm s m as.toArray below meth c H locs 0 0 Q (F0 m pc ls [.int r])) →
      va_P D vwCl ws s.heap → va_D A ws → va_S A s.heap s.heap [] → lv_has ls nL (lv_args 0 as) →
      W p l e rm s m as.toArray below meth c s.heap [] 0 0 Q (F0 m 0 ls [])) : kMi l y wsY rm D tys as ws ws1 r := by
  intro sz
  refine Met.ofW (cc := cc) (maxL := nL) (ret := (some .int)) hy hw ?_
  intro p e s m args below meth c s₁ B hml hv
  obtain ⟨rfl, hsz, hP, hK, hD0⟩ := hv
  have hx := B.exec
  have hb := B.bytes
  have hr := B.returns
  have hts := atoms_spec (ws := wsY) B.pre
  have hown : s.vm.findClass own = some m.cls := by rw [← hoc]; exact findClass_of_methodNamed B.named
  have hlocks := B.notSynchronized
  subst hsz
  have hD := hD0.self (sz := s.heap.size)
  have hl := lv_entry as (n := nL) hlen
  rw [lg_entry_eq]
  exact body p e s m below meth c _ _ _ ⟨hx, hb, hml, hown, hts, hK, fun q h => Or.inr h⟩ (fun pc H locs ls hd hP9 hD9 hS => W.iret hx hb hr (fun t ht hW => ⟨⟨r, (), rfl, rfl, by rw [ht]; exact hP9, va_K.moved hW.alike hK, hD9⟩, hS.F ht⟩) hS.2.2 hd) hP hD va_S.rf hl
def kMz (l : Launch) (y : MethodName) (wsY : List Cond) (rm : Room) (D : va_G) (tys : List (ClassId × FieldType)) (as : List Value) (ws ws1 : va_W) (r : Int32) : Prop :=
  ∀ sz : Nat, Met l y wsY rm (va_Pc as (kP D tys ws sz)) (va_Qi (fun (r1 : Int32) (_ : Unit) => r1 = r ∧ narrow .boolean (.int r) = .int r) (kB D tys ws1 (va_A ws sz)) (va_A ws sz)) 0 0 (va_A ws sz)
theorem kMz_of {l : Launch} {y : MethodName} {wsY ws2 : List Cond} {rm : Room} {D : va_G} {tys : List (ClassId × FieldType)} {as : List Value} {ws ws1 : va_W} {r : Int32} {cc : ByteArray} {nL : Nat} {own : String} (hy : plainName y.cls = true) (hw : wsY = Cond.code y cc nL (some .boolean) :: ws2) (hoc : y.cls = own) (hlen : (lg_sl as).length ≤ nL)
    (body : ∀ (p : Program) (e : Env) (s : State) (m : MethodId) (below : List Frame) (meth : Method) (c : Code) (A : Nat → Prop) (Q : State → Prop) (ls : Array Slot),
      kC p s m as.toArray c cc nL own wsY D tys A →
      (∀ (pc : Nat) (H : Heap) (locs : List Loc) (ls : Array Slot), narrow .boolean (.int r) = .int r → decode cc pc = .ok (.ireturn, 1) → va_P D vwCl ws1 H → va_D A ws1 → va_S A s.heap H locs → W p l e rm s m as.toArray below meth c H locs 0 0 Q (F0 m pc ls [.int r])) →
      va_P D vwCl ws s.heap → va_D A ws → va_S A s.heap s.heap [] → lv_has ls nL (lv_args 0 as) →
      W p l e rm s m as.toArray below meth c s.heap [] 0 0 Q (F0 m 0 ls [])) : kMz l y wsY rm D tys as ws ws1 r := by
  intro sz
  refine Met.ofW (cc := cc) (maxL := nL) (ret := (some .boolean)) hy hw ?_
  intro p e s m args below meth c s₁ B hml hv
  obtain ⟨rfl, hsz, hP, hK, hD0⟩ := hv
  have hx := B.exec
  have hb := B.bytes
  have hr := B.returns
  have hts := atoms_spec (ws := wsY) B.pre
  have hown : s.vm.findClass own = some m.cls := by rw [← hoc]; exact findClass_of_methodNamed B.named
  have hlocks := B.notSynchronized
  subst hsz
  have hD := hD0.self (sz := s.heap.size)
  have hl := lv_entry as (n := nL) hlen
  rw [lg_entry_eq]
  exact body p e s m below meth c _ _ _ ⟨hx, hb, hml, hown, hts, hK, fun q h => Or.inr h⟩ (fun pc H locs ls hz hd hP9 hD9 hS => W.zret hx hb hr hz (fun t ht hW => ⟨⟨r, (), rfl, ⟨rfl, hz⟩, by rw [ht]; exact hP9, va_K.moved hW.alike hK, hD9⟩, hS.F ht⟩) hS.2.2 hd) hP hD va_S.rf hl
def kMl (l : Launch) (y : MethodName) (wsY : List Cond) (rm : Room) (D : va_G) (tys : List (ClassId × FieldType)) (as : List Value) (ws ws1 : va_W) (r : Int64) : Prop :=
  ∀ sz : Nat, Met l y wsY rm (va_Pc as (kP D tys ws sz)) (va_Ql (fun (r1 : Int64) (_ : Unit) => r1 = r) (kB D tys ws1 (va_A ws sz)) (va_A ws sz)) 0 0 (va_A ws sz)
theorem kMl_of {l : Launch} {y : MethodName} {wsY ws2 : List Cond} {rm : Room} {D : va_G} {tys : List (ClassId × FieldType)} {as : List Value} {ws ws1 : va_W} {r : Int64} {cc : ByteArray} {nL : Nat} {own : String} (hy : plainName y.cls = true) (hw : wsY = Cond.code y cc nL (some .long) :: ws2) (hoc : y.cls = own) (hlen : (lg_sl as).length ≤ nL)
    (body : ∀ (p : Program) (e : Env) (s : State) (m : MethodId) (below : List Frame) (meth : Method) (c : Code) (A : Nat → Prop) (Q : State → Prop) (ls : Array Slot),
      kC p s m as.toArray c cc nL own wsY D tys A →
      (∀ (pc : Nat) (H : Heap) (locs : List Loc) (ls : Array Slot), decode cc pc = .ok (.lreturn, 1) → va_P D vwCl ws1 H → va_D A ws1 → va_S A s.heap H locs → W p l e rm s m as.toArray below meth c H locs 0 0 Q (F0 m pc ls [.long r])) →
      va_P D vwCl ws s.heap → va_D A ws → va_S A s.heap s.heap [] → lv_has ls nL (lv_args 0 as) →
      W p l e rm s m as.toArray below meth c s.heap [] 0 0 Q (F0 m 0 ls [])) : kMl l y wsY rm D tys as ws ws1 r := by
  intro sz
  refine Met.ofW (cc := cc) (maxL := nL) (ret := (some .long)) hy hw ?_
  intro p e s m args below meth c s₁ B hml hv
  obtain ⟨rfl, hsz, hP, hK, hD0⟩ := hv
  have hx := B.exec
  have hb := B.bytes
  have hr := B.returns
  have hts := atoms_spec (ws := wsY) B.pre
  have hown : s.vm.findClass own = some m.cls := by rw [← hoc]; exact findClass_of_methodNamed B.named
  have hlocks := B.notSynchronized
  subst hsz
  have hD := hD0.self (sz := s.heap.size)
  have hl := lv_entry as (n := nL) hlen
  rw [lg_entry_eq]
  exact body p e s m below meth c _ _ _ ⟨hx, hb, hml, hown, hts, hK, fun q h => Or.inr h⟩ (fun pc H locs ls hd hP9 hD9 hS => W.lret hx hb hr (fun t ht hW => ⟨⟨r, (), rfl, rfl, by rw [ht]; exact hP9, va_K.moved hW.alike hK, hD9⟩, hS.F ht⟩) hS.2.2 hd) hP hD va_S.rf hl
def kMv (l : Launch) (y : MethodName) (wsY : List Cond) (rm : Room) (D : va_G) (tys : List (ClassId × FieldType)) (as : List Value) (ws ws1 : va_W) : Prop :=
  ∀ sz : Nat, Met l y wsY rm (va_Pc as (kP D tys ws sz)) (va_Qv (fun (_ : Unit) => True) (kB D tys ws1 (va_A ws sz)) (va_A ws sz)) 0 0 (va_A ws sz)
theorem kMv_of {l : Launch} {y : MethodName} {wsY ws2 : List Cond} {rm : Room} {D : va_G} {tys : List (ClassId × FieldType)} {as : List Value} {ws ws1 : va_W} {cc : ByteArray} {nL : Nat} {own : String} (hy : plainName y.cls = true) (hw : wsY = Cond.code y cc nL none :: ws2) (hoc : y.cls = own) (hlen : (lg_sl as).length ≤ nL)
    (body : ∀ (p : Program) (e : Env) (s : State) (m : MethodId) (below : List Frame) (meth : Method) (c : Code) (A : Nat → Prop) (Q : State → Prop) (ls : Array Slot),
      kC p s m as.toArray c cc nL own wsY D tys A →
      (∀ (pc : Nat) (H : Heap) (locs : List Loc) (ls : Array Slot), decode cc pc = .ok (.return_, 1) → va_P D vwCl ws1 H → va_D A ws1 → va_S A s.heap H locs → W p l e rm s m as.toArray below meth c H locs 0 0 Q (F0 m pc ls [])) →
      va_P D vwCl ws s.heap → va_D A ws → va_S A s.heap s.heap [] → lv_has ls nL (lv_args 0 as) →
      W p l e rm s m as.toArray below meth c s.heap [] 0 0 Q (F0 m 0 ls [])) : kMv l y wsY rm D tys as ws ws1 := by
  intro sz
  refine Met.ofW (cc := cc) (maxL := nL) (ret := none) hy hw ?_
  intro p e s m args below meth c s₁ B hml hv
  obtain ⟨rfl, hsz, hP, hK, hD0⟩ := hv
  have hx := B.exec
  have hb := B.bytes
  have hr := B.returns
  have hts := atoms_spec (ws := wsY) B.pre
  have hown : s.vm.findClass own = some m.cls := by rw [← hoc]; exact findClass_of_methodNamed B.named
  have hlocks := B.notSynchronized
  subst hsz
  have hD := hD0.self (sz := s.heap.size)
  have hl := lv_entry as (n := nL) hlen
  rw [lg_entry_eq]
  exact body p e s m below meth c _ _ _ ⟨hx, hb, hml, hown, hts, hK, fun q h => Or.inr h⟩ (fun pc H locs ls hd hP9 hD9 hS => W.vret hx hb hr (fun t ht hW => ⟨⟨(), rfl, trivial, by rw [ht]; exact hP9, va_K.moved hW.alike hK, hD9⟩, hS.F ht⟩) hS.2.2 hd) hP hD va_S.rf hl
theorem k_Vi {p : Program} {l : Launch} {e : Env} {R : Room} {s : State} {m : MethodId} {args : Array Value} {below : List Frame} {meth : Method} {c : Code} {H : Heap} {locs : List Loc} {cells slots : Nat} {Q : State → Prop} {cc : ByteArray} {nL : Nat} {own : String} {Ts : List Cond} {D : va_G} {tys : List (ClassId × FieldType)} {A : Nat → Prop} {Cn : String} {y : MethodName} {bytes : ByteArray} {maxL n index : Nat} {ret : Option FieldType} {wsY : List Cond} {rm : Room} {ws wc wc1 wr wo : va_W} {b : Addr} {As rest st : List Value} {pc : Nat} {ls : Array Slot} {r : Int32}
    (C : kC p s m args c cc nL own Ts D tys A) (hM : kMi l y wsY rm D tys (.ref b :: As) wc wc1 r) (cw : CallW R s args own Cn index y bytes maxL ret wsY rm 0 0 n)
    (hP : va_P D vwCl ws H) (hD : va_D A ws) (hS : va_S A s.heap H locs) (isC isR isO : List Nat) (hC : isC.map (fun i => ws[i]?) = wc.map some) (hR : isR.map (fun i => ws[i]?) = wr.map some) (hO : isO.map (fun i => (wr ++ wc1)[i]?) = wo.map some) (hnd : va_nd isC = true ∧ va_nd isR = true ∧ va_nd isO = true ∧ isR.all (fun i => !isC.contains i) = true) (q0 : Nat) {ci : Nat} {qc : vw_C} {fs : List Value} (hc : vwCl[ci]? = some qc) (hq : qc.1 = Cn) (he : wc[q0]? = some (b, .inr (ci, fs)))
    (hst : st = As.reverse ++ .ref b :: rest) (hn : As.length = n) (hsize : ls.size = nL) (hcat : (rest.map fun v => v.category).sum ≤ 8) (hd : decode cc pc = .ok (.invokevirtual index, 3)) (hcs : cells ≤ R.cells ∧ slots ≤ R.slots)
    (kk : ∀ (H1 : Heap) (locs1 : List Loc), va_P D vwCl wo H1 → va_D A wo → va_S A s.heap H1 locs1 → W p l e R s m args below meth c H1 locs1 cells slots Q (F0 m (pc + 3) ls (.int r :: rest))) : W p l e R s m args below meth c H locs cells slots Q (F0 m pc ls st) := by
  obtain ⟨hx, hb, hml, hown, hts, hK, hA⟩ := C
  obtain ⟨hnC, hnR, hnO, hdis⟩ := hnd
  have hdis : ∀ i ∈ isR, i ∉ isC := fun i hi hc => by
    have h1 := List.all_eq_true.mp hdis i hi
    simp [hc] at h1
  have hPc := hP.sub (ws' := wc) isC (k_fm hC)
  have hDc := hD.sub (ws' := wc) isC hnC hC
  have hFc := va_free (wc := wc) hD hS hA isC hC
  subst hst
  refine va_calli (va_runV (As := As) (rest := rest) ⟨hx, hb, hml, hown, hts⟩ (hM H.size) cw ⟨fun a U g mk q => by obtain ⟨q0, q1, qP, qK, qD⟩ := q; exact ⟨q0, q1, qP, va_K.moved (u := U) (U := U.calling g mk a) (Vm.Alike.refl U.vm) qK, qD⟩, by rw [← hq]; exact va_recv hK hPc hc he, fun U hU hW => ⟨rfl, by rw [hU], by rw [hU]; exact hPc, va_K.moved hW.alike hK, hDc.weaken (fun _ _ _ _ => trivial)⟩⟩ rfl hn hsize rfl (lv_room hcat) hd hcs) hS (fun q _ h => hFc q h) hFc (fun r1 u t H1 locs ht hvm hw hB hz1 hk1 hS => ?_)
  obtain ⟨hP1, hK1, hD1⟩ := hB
  rw [ht] at hP1
  try dsimp only at hw
  subst hw
  obtain ⟨hP2, hD2⟩ := va_join (wr := wr) (w1 := wc1) hP hD isC isR hC hR hnR hdis hk1 hFc hP1 hD1
  exact kk H1 locs (hP2.sub (ws' := wo) isO (k_fm hO)) (hD2.sub (ws' := wo) isO hnO hO) hS
theorem k_Vz {p : Program} {l : Launch} {e : Env} {R : Room} {s : State} {m : MethodId} {args : Array Value} {below : List Frame} {meth : Method} {c : Code} {H : Heap} {locs : List Loc} {cells slots : Nat} {Q : State → Prop} {cc : ByteArray} {nL : Nat} {own : String} {Ts : List Cond} {D : va_G} {tys : List (ClassId × FieldType)} {A : Nat → Prop} {Cn : String} {y : MethodName} {bytes : ByteArray} {maxL n index : Nat} {ret : Option FieldType} {wsY : List Cond} {rm : Room} {ws wc wc1 wr wo : va_W} {b : Addr} {As rest st : List Value} {pc : Nat} {ls : Array Slot} {r : Int32}
    (C : kC p s m args c cc nL own Ts D tys A) (hM : kMz l y wsY rm D tys (.ref b :: As) wc wc1 r) (cw : CallW R s args own Cn index y bytes maxL ret wsY rm 0 0 n)
    (hP : va_P D vwCl ws H) (hD : va_D A ws) (hS : va_S A s.heap H locs) (isC isR isO : List Nat) (hC : isC.map (fun i => ws[i]?) = wc.map some) (hR : isR.map (fun i => ws[i]?) = wr.map some) (hO : isO.map (fun i => (wr ++ wc1)[i]?) = wo.map some) (hnd : va_nd isC = true ∧ va_nd isR = true ∧ va_nd isO = true ∧ isR.all (fun i => !isC.contains i) = true) (q0 : Nat) {ci : Nat} {qc : vw_C} {fs : List Value} (hc : vwCl[ci]? = some qc) (hq : qc.1 = Cn) (he : wc[q0]? = some (b, .inr (ci, fs)))
    (hst : st = As.reverse ++ .ref b :: rest) (hn : As.length = n) (hsize : ls.size = nL) (hcat : (rest.map fun v => v.category).sum ≤ 8) (hd : decode cc pc = .ok (.invokevirtual index, 3)) (hcs : cells ≤ R.cells ∧ slots ≤ R.slots)
    (kk : ∀ (H1 : Heap) (locs1 : List Loc), narrow .boolean (.int r) = .int r → va_P D vwCl wo H1 → va_D A wo → va_S A s.heap H1 locs1 → W p l e R s m args below meth c H1 locs1 cells slots Q (F0 m (pc + 3) ls (.int r :: rest))) : W p l e R s m args below meth c H locs cells slots Q (F0 m pc ls st) := by
  obtain ⟨hx, hb, hml, hown, hts, hK, hA⟩ := C
  obtain ⟨hnC, hnR, hnO, hdis⟩ := hnd
  have hdis : ∀ i ∈ isR, i ∉ isC := fun i hi hc => by
    have h1 := List.all_eq_true.mp hdis i hi
    simp [hc] at h1
  have hPc := hP.sub (ws' := wc) isC (k_fm hC)
  have hDc := hD.sub (ws' := wc) isC hnC hC
  have hFc := va_free (wc := wc) hD hS hA isC hC
  subst hst
  refine va_calli (va_runV (As := As) (rest := rest) ⟨hx, hb, hml, hown, hts⟩ (hM H.size) cw ⟨fun a U g mk q => by obtain ⟨q0, q1, qP, qK, qD⟩ := q; exact ⟨q0, q1, qP, va_K.moved (u := U) (U := U.calling g mk a) (Vm.Alike.refl U.vm) qK, qD⟩, by rw [← hq]; exact va_recv hK hPc hc he, fun U hU hW => ⟨rfl, by rw [hU], by rw [hU]; exact hPc, va_K.moved hW.alike hK, hDc.weaken (fun _ _ _ _ => trivial)⟩⟩ rfl hn hsize rfl (lv_room hcat) hd hcs) hS (fun q _ h => hFc q h) hFc (fun r1 u t H1 locs ht hvm hw hB hz1 hk1 hS => ?_)
  obtain ⟨hP1, hK1, hD1⟩ := hB
  rw [ht] at hP1
  try dsimp only at hw
  obtain ⟨rfl, hz⟩ := hw
  obtain ⟨hP2, hD2⟩ := va_join (wr := wr) (w1 := wc1) hP hD isC isR hC hR hnR hdis hk1 hFc hP1 hD1
  exact kk H1 locs hz (hP2.sub (ws' := wo) isO (k_fm hO)) (hD2.sub (ws' := wo) isO hnO hO) hS
theorem k_Vl {p : Program} {l : Launch} {e : Env} {R : Room} {s : State} {m : MethodId} {args : Array Value} {below : List Frame} {meth : Method} {c : Code} {H : Heap} {locs : List Loc} {cells slots : Nat} {Q : State → Prop} {cc : ByteArray} {nL : Nat} {own : String} {Ts : List Cond} {D : va_G} {tys : List (ClassId × FieldType)} {A : Nat → Prop} {Cn : String} {y : MethodName} {bytes : ByteArray} {maxL n index : Nat} {ret : Option FieldType} {wsY : List Cond} {rm : Room} {ws wc wc1 wr wo : va_W} {b : Addr} {As rest st : List Value} {pc : Nat} {ls : Array Slot} {r : Int64}
    (C : kC p s m args c cc nL own Ts D tys A) (hM : kMl l y wsY rm D tys (.ref b :: As) wc wc1 r) (cw : CallW R s args own Cn index y bytes maxL ret wsY rm 0 0 n)
    (hP : va_P D vwCl ws H) (hD : va_D A ws) (hS : va_S A s.heap H locs) (isC isR isO : List Nat) (hC : isC.map (fun i => ws[i]?) = wc.map some) (hR : isR.map (fun i => ws[i]?) = wr.map some) (hO : isO.map (fun i => (wr ++ wc1)[i]?) = wo.map some) (hnd : va_nd isC = true ∧ va_nd isR = true ∧ va_nd isO = true ∧ isR.all (fun i => !isC.contains i) = true) (q0 : Nat) {ci : Nat} {qc : vw_C} {fs : List Value} (hc : vwCl[ci]? = some qc) (hq : qc.1 = Cn) (he : wc[q0]? = some (b, .inr (ci, fs)))
    (hst : st = As.reverse ++ .ref b :: rest) (hn : As.length = n) (hsize : ls.size = nL) (hcat : (rest.map fun v => v.category).sum ≤ 8) (hd : decode cc pc = .ok (.invokevirtual index, 3)) (hcs : cells ≤ R.cells ∧ slots ≤ R.slots)
    (kk : ∀ (H1 : Heap) (locs1 : List Loc), va_P D vwCl wo H1 → va_D A wo → va_S A s.heap H1 locs1 → W p l e R s m args below meth c H1 locs1 cells slots Q (F0 m (pc + 3) ls (.long r :: rest))) : W p l e R s m args below meth c H locs cells slots Q (F0 m pc ls st) := by
  obtain ⟨hx, hb, hml, hown, hts, hK, hA⟩ := C
  obtain ⟨hnC, hnR, hnO, hdis⟩ := hnd
  have hdis : ∀ i ∈ isR, i ∉ isC := fun i hi hc => by
    have h1 := List.all_eq_true.mp hdis i hi
    simp [hc] at h1
  have hPc := hP.sub (ws' := wc) isC (k_fm hC)
  have hDc := hD.sub (ws' := wc) isC hnC hC
  have hFc := va_free (wc := wc) hD hS hA isC hC
  subst hst
  refine va_calll (va_runV (As := As) (rest := rest) ⟨hx, hb, hml, hown, hts⟩ (hM H.size) cw ⟨fun a U g mk q => by obtain ⟨q0, q1, qP, qK, qD⟩ := q; exact ⟨q0, q1, qP, va_K.moved (u := U) (U := U.calling g mk a) (Vm.Alike.refl U.vm) qK, qD⟩, by rw [← hq]; exact va_recv hK hPc hc he, fun U hU hW => ⟨rfl, by rw [hU], by rw [hU]; exact hPc, va_K.moved hW.alike hK, hDc.weaken (fun _ _ _ _ => trivial)⟩⟩ rfl hn hsize rfl (lv_room hcat) hd hcs) hS (fun q _ h => hFc q h) hFc (fun r1 u t H1 locs ht hvm hw hB hz1 hk1 hS => ?_)
  obtain ⟨hP1, hK1, hD1⟩ := hB
  rw [ht] at hP1
  try dsimp only at hw
  subst hw
  obtain ⟨hP2, hD2⟩ := va_join (wr := wr) (w1 := wc1) hP hD isC isR hC hR hnR hdis hk1 hFc hP1 hD1
  exact kk H1 locs (hP2.sub (ws' := wo) isO (k_fm hO)) (hD2.sub (ws' := wo) isO hnO hO) hS
theorem k_Vv {p : Program} {l : Launch} {e : Env} {R : Room} {s : State} {m : MethodId} {args : Array Value} {below : List Frame} {meth : Method} {c : Code} {H : Heap} {locs : List Loc} {cells slots : Nat} {Q : State → Prop} {cc : ByteArray} {nL : Nat} {own : String} {Ts : List Cond} {D : va_G} {tys : List (ClassId × FieldType)} {A : Nat → Prop} {Cn : String} {y : MethodName} {bytes : ByteArray} {maxL n index : Nat} {ret : Option FieldType} {wsY : List Cond} {rm : Room} {ws wc wc1 wr wo : va_W} {b : Addr} {As rest st : List Value} {pc : Nat} {ls : Array Slot}
    (C : kC p s m args c cc nL own Ts D tys A) (hM : kMv l y wsY rm D tys (.ref b :: As) wc wc1) (cw : CallW R s args own Cn index y bytes maxL ret wsY rm 0 0 n)
    (hP : va_P D vwCl ws H) (hD : va_D A ws) (hS : va_S A s.heap H locs) (isC isR isO : List Nat) (hC : isC.map (fun i => ws[i]?) = wc.map some) (hR : isR.map (fun i => ws[i]?) = wr.map some) (hO : isO.map (fun i => (wr ++ wc1)[i]?) = wo.map some) (hnd : va_nd isC = true ∧ va_nd isR = true ∧ va_nd isO = true ∧ isR.all (fun i => !isC.contains i) = true) (q0 : Nat) {ci : Nat} {qc : vw_C} {fs : List Value} (hc : vwCl[ci]? = some qc) (hq : qc.1 = Cn) (he : wc[q0]? = some (b, .inr (ci, fs)))
    (hst : st = As.reverse ++ .ref b :: rest) (hn : As.length = n) (hsize : ls.size = nL) (hcat : (rest.map fun v => v.category).sum ≤ 8) (hd : decode cc pc = .ok (.invokevirtual index, 3)) (hcs : cells ≤ R.cells ∧ slots ≤ R.slots)
    (kk : ∀ (H1 : Heap) (locs1 : List Loc), va_P D vwCl wo H1 → va_D A wo → va_S A s.heap H1 locs1 → W p l e R s m args below meth c H1 locs1 cells slots Q (F0 m (pc + 3) ls rest)) : W p l e R s m args below meth c H locs cells slots Q (F0 m pc ls st) := by
  obtain ⟨hx, hb, hml, hown, hts, hK, hA⟩ := C
  obtain ⟨hnC, hnR, hnO, hdis⟩ := hnd
  have hdis : ∀ i ∈ isR, i ∉ isC := fun i hi hc => by
    have h1 := List.all_eq_true.mp hdis i hi
    simp [hc] at h1
  have hPc := hP.sub (ws' := wc) isC (k_fm hC)
  have hDc := hD.sub (ws' := wc) isC hnC hC
  have hFc := va_free (wc := wc) hD hS hA isC hC
  subst hst
  refine va_callv (va_runV (As := As) (rest := rest) ⟨hx, hb, hml, hown, hts⟩ (hM H.size) cw ⟨fun a U g mk q => by obtain ⟨q0, q1, qP, qK, qD⟩ := q; exact ⟨q0, q1, qP, va_K.moved (u := U) (U := U.calling g mk a) (Vm.Alike.refl U.vm) qK, qD⟩, by rw [← hq]; exact va_recv hK hPc hc he, fun U hU hW => ⟨rfl, by rw [hU], by rw [hU]; exact hPc, va_K.moved hW.alike hK, hDc.weaken (fun _ _ _ _ => trivial)⟩⟩ rfl hn hsize rfl (lv_room hcat) hd hcs) hS (fun q _ h => hFc q h) hFc (fun u t H1 locs ht hvm hw hB hz1 hk1 hS => ?_)
  obtain ⟨hP1, hK1, hD1⟩ := hB
  rw [ht] at hP1
  try dsimp only at hw
  skip
  obtain ⟨hP2, hD2⟩ := va_join (wr := wr) (w1 := wc1) hP hD isC isR hC hR hnR hdis hk1 hFc hP1 hD1
  exact kk H1 locs (hP2.sub (ws' := wo) isO (k_fm hO)) (hD2.sub (ws' := wo) isO hnO hO) hS
theorem k_Si {p : Program} {l : Launch} {e : Env} {R : Room} {s : State} {m : MethodId} {args : Array Value} {below : List Frame} {meth : Method} {c : Code} {H : Heap} {locs : List Loc} {cells slots : Nat} {Q : State → Prop} {cc : ByteArray} {nL : Nat} {own : String} {Ts : List Cond} {D : va_G} {tys : List (ClassId × FieldType)} {A : Nat → Prop} {y : MethodName} {bytes : ByteArray} {maxL n index : Nat} {ret : Option FieldType} {wsY : List Cond} {rm : Room} {ws wc wc1 wr wo : va_W} {As rest st : List Value} {pc : Nat} {ls : Array Slot} {r : Int32}
    (C : kC p s m args c cc nL own Ts D tys A) (hM : kMi l y wsY rm D tys As wc wc1 r) (cw : CallB R s args own index y bytes maxL ret wsY rm 0 0 n ∧ (Cond.static y).before args s = true)
    (hP : va_P D vwCl ws H) (hD : va_D A ws) (hS : va_S A s.heap H locs) (isC isR isO : List Nat) (hC : isC.map (fun i => ws[i]?) = wc.map some) (hR : isR.map (fun i => ws[i]?) = wr.map some) (hO : isO.map (fun i => (wr ++ wc1)[i]?) = wo.map some) (hnd : va_nd isC = true ∧ va_nd isR = true ∧ va_nd isO = true ∧ isR.all (fun i => !isC.contains i) = true)
    (hst : st = As.reverse ++ rest) (hn : As.length = n) (hsize : ls.size = nL) (hcat : (rest.map fun v => v.category).sum ≤ 8) (hd : decode cc pc = .ok (.invokestatic index, 3)) (hcs : cells ≤ R.cells ∧ slots ≤ R.slots)
    (kk : ∀ (H1 : Heap) (locs1 : List Loc), va_P D vwCl wo H1 → va_D A wo → va_S A s.heap H1 locs1 → W p l e R s m args below meth c H1 locs1 cells slots Q (F0 m (pc + 3) ls (.int r :: rest))) : W p l e R s m args below meth c H locs cells slots Q (F0 m pc ls st) := by
  obtain ⟨hx, hb, hml, hown, hts, hK, hA⟩ := C
  obtain ⟨hnC, hnR, hnO, hdis⟩ := hnd
  have hdis : ∀ i ∈ isR, i ∉ isC := fun i hi hc => by
    have h1 := List.all_eq_true.mp hdis i hi
    simp [hc] at h1
  have hPc := hP.sub (ws' := wc) isC (k_fm hC)
  have hDc := hD.sub (ws' := wc) isC hnC hC
  have hFc := va_free (wc := wc) hD hS hA isC hC
  subst hst
  refine va_calli (va_runS (As := As) (rest := rest) ⟨hx, hb, hml, hown, hts⟩ (hM H.size) cw ⟨fun a U g mk q => by obtain ⟨q0, q1, qP, qK, qD⟩ := q; exact ⟨q0, q1, qP, va_K.moved (u := U) (U := U.calling g mk a) (Vm.Alike.refl U.vm) qK, qD⟩, fun U hU hW => ⟨rfl, by rw [hU], by rw [hU]; exact hPc, va_K.moved hW.alike hK, hDc.weaken (fun _ _ _ _ => trivial)⟩⟩ rfl hn hsize rfl (lv_room hcat) hd hcs) hS (fun q _ h => hFc q h) hFc (fun r1 u t H1 locs ht hvm hw hB hz1 hk1 hS => ?_)
  obtain ⟨hP1, hK1, hD1⟩ := hB
  rw [ht] at hP1
  try dsimp only at hw
  subst hw
  obtain ⟨hP2, hD2⟩ := va_join (wr := wr) (w1 := wc1) hP hD isC isR hC hR hnR hdis hk1 hFc hP1 hD1
  exact kk H1 locs (hP2.sub (ws' := wo) isO (k_fm hO)) (hD2.sub (ws' := wo) isO hnO hO) hS
theorem k_Sz {p : Program} {l : Launch} {e : Env} {R : Room} {s : State} {m : MethodId} {args : Array Value} {below : List Frame} {meth : Method} {c : Code} {H : Heap} {locs : List Loc} {cells slots : Nat} {Q : State → Prop} {cc : ByteArray} {nL : Nat} {own : String} {Ts : List Cond} {D : va_G} {tys : List (ClassId × FieldType)} {A : Nat → Prop} {y : MethodName} {bytes : ByteArray} {maxL n index : Nat} {ret : Option FieldType} {wsY : List Cond} {rm : Room} {ws wc wc1 wr wo : va_W} {As rest st : List Value} {pc : Nat} {ls : Array Slot} {r : Int32}
    (C : kC p s m args c cc nL own Ts D tys A) (hM : kMz l y wsY rm D tys As wc wc1 r) (cw : CallB R s args own index y bytes maxL ret wsY rm 0 0 n ∧ (Cond.static y).before args s = true)
    (hP : va_P D vwCl ws H) (hD : va_D A ws) (hS : va_S A s.heap H locs) (isC isR isO : List Nat) (hC : isC.map (fun i => ws[i]?) = wc.map some) (hR : isR.map (fun i => ws[i]?) = wr.map some) (hO : isO.map (fun i => (wr ++ wc1)[i]?) = wo.map some) (hnd : va_nd isC = true ∧ va_nd isR = true ∧ va_nd isO = true ∧ isR.all (fun i => !isC.contains i) = true)
    (hst : st = As.reverse ++ rest) (hn : As.length = n) (hsize : ls.size = nL) (hcat : (rest.map fun v => v.category).sum ≤ 8) (hd : decode cc pc = .ok (.invokestatic index, 3)) (hcs : cells ≤ R.cells ∧ slots ≤ R.slots)
    (kk : ∀ (H1 : Heap) (locs1 : List Loc), narrow .boolean (.int r) = .int r → va_P D vwCl wo H1 → va_D A wo → va_S A s.heap H1 locs1 → W p l e R s m args below meth c H1 locs1 cells slots Q (F0 m (pc + 3) ls (.int r :: rest))) : W p l e R s m args below meth c H locs cells slots Q (F0 m pc ls st) := by
  obtain ⟨hx, hb, hml, hown, hts, hK, hA⟩ := C
  obtain ⟨hnC, hnR, hnO, hdis⟩ := hnd
  have hdis : ∀ i ∈ isR, i ∉ isC := fun i hi hc => by
    have h1 := List.all_eq_true.mp hdis i hi
    simp [hc] at h1
  have hPc := hP.sub (ws' := wc) isC (k_fm hC)
  have hDc := hD.sub (ws' := wc) isC hnC hC
  have hFc := va_free (wc := wc) hD hS hA isC hC
  subst hst
  refine va_calli (va_runS (As := As) (rest := rest) ⟨hx, hb, hml, hown, hts⟩ (hM H.size) cw ⟨fun a U g mk q => by obtain ⟨q0, q1, qP, qK, qD⟩ := q; exact ⟨q0, q1, qP, va_K.moved (u := U) (U := U.calling g mk a) (Vm.Alike.refl U.vm) qK, qD⟩, fun U hU hW => ⟨rfl, by rw [hU], by rw [hU]; exact hPc, va_K.moved hW.alike hK, hDc.weaken (fun _ _ _ _ => trivial)⟩⟩ rfl hn hsize rfl (lv_room hcat) hd hcs) hS (fun q _ h => hFc q h) hFc (fun r1 u t H1 locs ht hvm hw hB hz1 hk1 hS => ?_)
  obtain ⟨hP1, hK1, hD1⟩ := hB
  rw [ht] at hP1
  try dsimp only at hw
  obtain ⟨rfl, hz⟩ := hw
  obtain ⟨hP2, hD2⟩ := va_join (wr := wr) (w1 := wc1) hP hD isC isR hC hR hnR hdis hk1 hFc hP1 hD1
  exact kk H1 locs hz (hP2.sub (ws' := wo) isO (k_fm hO)) (hD2.sub (ws' := wo) isO hnO hO) hS
theorem k_Sl {p : Program} {l : Launch} {e : Env} {R : Room} {s : State} {m : MethodId} {args : Array Value} {below : List Frame} {meth : Method} {c : Code} {H : Heap} {locs : List Loc} {cells slots : Nat} {Q : State → Prop} {cc : ByteArray} {nL : Nat} {own : String} {Ts : List Cond} {D : va_G} {tys : List (ClassId × FieldType)} {A : Nat → Prop} {y : MethodName} {bytes : ByteArray} {maxL n index : Nat} {ret : Option FieldType} {wsY : List Cond} {rm : Room} {ws wc wc1 wr wo : va_W} {As rest st : List Value} {pc : Nat} {ls : Array Slot} {r : Int64}
    (C : kC p s m args c cc nL own Ts D tys A) (hM : kMl l y wsY rm D tys As wc wc1 r) (cw : CallB R s args own index y bytes maxL ret wsY rm 0 0 n ∧ (Cond.static y).before args s = true)
    (hP : va_P D vwCl ws H) (hD : va_D A ws) (hS : va_S A s.heap H locs) (isC isR isO : List Nat) (hC : isC.map (fun i => ws[i]?) = wc.map some) (hR : isR.map (fun i => ws[i]?) = wr.map some) (hO : isO.map (fun i => (wr ++ wc1)[i]?) = wo.map some) (hnd : va_nd isC = true ∧ va_nd isR = true ∧ va_nd isO = true ∧ isR.all (fun i => !isC.contains i) = true)
    (hst : st = As.reverse ++ rest) (hn : As.length = n) (hsize : ls.size = nL) (hcat : (rest.map fun v => v.category).sum ≤ 8) (hd : decode cc pc = .ok (.invokestatic index, 3)) (hcs : cells ≤ R.cells ∧ slots ≤ R.slots)
    (kk : ∀ (H1 : Heap) (locs1 : List Loc), va_P D vwCl wo H1 → va_D A wo → va_S A s.heap H1 locs1 → W p l e R s m args below meth c H1 locs1 cells slots Q (F0 m (pc + 3) ls (.long r :: rest))) : W p l e R s m args below meth c H locs cells slots Q (F0 m pc ls st) := by
  obtain ⟨hx, hb, hml, hown, hts, hK, hA⟩ := C
  obtain ⟨hnC, hnR, hnO, hdis⟩ := hnd
  have hdis : ∀ i ∈ isR, i ∉ isC := fun i hi hc => by
    have h1 := List.all_eq_true.mp hdis i hi
    simp [hc] at h1
  have hPc := hP.sub (ws' := wc) isC (k_fm hC)
  have hDc := hD.sub (ws' := wc) isC hnC hC
  have hFc := va_free (wc := wc) hD hS hA isC hC
  subst hst
  refine va_calll (va_runS (As := As) (rest := rest) ⟨hx, hb, hml, hown, hts⟩ (hM H.size) cw ⟨fun a U g mk q => by obtain ⟨q0, q1, qP, qK, qD⟩ := q; exact ⟨q0, q1, qP, va_K.moved (u := U) (U := U.calling g mk a) (Vm.Alike.refl U.vm) qK, qD⟩, fun U hU hW => ⟨rfl, by rw [hU], by rw [hU]; exact hPc, va_K.moved hW.alike hK, hDc.weaken (fun _ _ _ _ => trivial)⟩⟩ rfl hn hsize rfl (lv_room hcat) hd hcs) hS (fun q _ h => hFc q h) hFc (fun r1 u t H1 locs ht hvm hw hB hz1 hk1 hS => ?_)
  obtain ⟨hP1, hK1, hD1⟩ := hB
  rw [ht] at hP1
  try dsimp only at hw
  subst hw
  obtain ⟨hP2, hD2⟩ := va_join (wr := wr) (w1 := wc1) hP hD isC isR hC hR hnR hdis hk1 hFc hP1 hD1
  exact kk H1 locs (hP2.sub (ws' := wo) isO (k_fm hO)) (hD2.sub (ws' := wo) isO hnO hO) hS
theorem k_Sv {p : Program} {l : Launch} {e : Env} {R : Room} {s : State} {m : MethodId} {args : Array Value} {below : List Frame} {meth : Method} {c : Code} {H : Heap} {locs : List Loc} {cells slots : Nat} {Q : State → Prop} {cc : ByteArray} {nL : Nat} {own : String} {Ts : List Cond} {D : va_G} {tys : List (ClassId × FieldType)} {A : Nat → Prop} {y : MethodName} {bytes : ByteArray} {maxL n index : Nat} {ret : Option FieldType} {wsY : List Cond} {rm : Room} {ws wc wc1 wr wo : va_W} {As rest st : List Value} {pc : Nat} {ls : Array Slot}
    (C : kC p s m args c cc nL own Ts D tys A) (hM : kMv l y wsY rm D tys As wc wc1) (cw : CallB R s args own index y bytes maxL ret wsY rm 0 0 n ∧ (Cond.static y).before args s = true)
    (hP : va_P D vwCl ws H) (hD : va_D A ws) (hS : va_S A s.heap H locs) (isC isR isO : List Nat) (hC : isC.map (fun i => ws[i]?) = wc.map some) (hR : isR.map (fun i => ws[i]?) = wr.map some) (hO : isO.map (fun i => (wr ++ wc1)[i]?) = wo.map some) (hnd : va_nd isC = true ∧ va_nd isR = true ∧ va_nd isO = true ∧ isR.all (fun i => !isC.contains i) = true)
    (hst : st = As.reverse ++ rest) (hn : As.length = n) (hsize : ls.size = nL) (hcat : (rest.map fun v => v.category).sum ≤ 8) (hd : decode cc pc = .ok (.invokestatic index, 3)) (hcs : cells ≤ R.cells ∧ slots ≤ R.slots)
    (kk : ∀ (H1 : Heap) (locs1 : List Loc), va_P D vwCl wo H1 → va_D A wo → va_S A s.heap H1 locs1 → W p l e R s m args below meth c H1 locs1 cells slots Q (F0 m (pc + 3) ls rest)) : W p l e R s m args below meth c H locs cells slots Q (F0 m pc ls st) := by
  obtain ⟨hx, hb, hml, hown, hts, hK, hA⟩ := C
  obtain ⟨hnC, hnR, hnO, hdis⟩ := hnd
  have hdis : ∀ i ∈ isR, i ∉ isC := fun i hi hc => by
    have h1 := List.all_eq_true.mp hdis i hi
    simp [hc] at h1
  have hPc := hP.sub (ws' := wc) isC (k_fm hC)
  have hDc := hD.sub (ws' := wc) isC hnC hC
  have hFc := va_free (wc := wc) hD hS hA isC hC
  subst hst
  refine va_callv (va_runS (As := As) (rest := rest) ⟨hx, hb, hml, hown, hts⟩ (hM H.size) cw ⟨fun a U g mk q => by obtain ⟨q0, q1, qP, qK, qD⟩ := q; exact ⟨q0, q1, qP, va_K.moved (u := U) (U := U.calling g mk a) (Vm.Alike.refl U.vm) qK, qD⟩, fun U hU hW => ⟨rfl, by rw [hU], by rw [hU]; exact hPc, va_K.moved hW.alike hK, hDc.weaken (fun _ _ _ _ => trivial)⟩⟩ rfl hn hsize rfl (lv_room hcat) hd hcs) hS (fun q _ h => hFc q h) hFc (fun u t H1 locs ht hvm hw hB hz1 hk1 hS => ?_)
  obtain ⟨hP1, hK1, hD1⟩ := hB
  rw [ht] at hP1
  try dsimp only at hw
  skip
  obtain ⟨hP2, hD2⟩ := va_join (wr := wr) (w1 := wc1) hP hD isC isR hC hR hnR hdis hk1 hFc hP1 hD1
  exact kk H1 locs (hP2.sub (ws' := wo) isO (k_fm hO)) (hD2.sub (ws' := wo) isO hnO hO) hS
theorem k_Ui {p : Program} {l : Launch} {e : Env} {R : Room} {s : State} {m : MethodId} {args : Array Value} {below : List Frame} {meth : Method} {c : Code} {H : Heap} {locs : List Loc} {cells slots : Nat} {Q : State → Prop} {cc : ByteArray} {nL : Nat} {own : String} {Ts : List Cond} {D : va_G} {tys : List (ClassId × FieldType)} {A : Nat → Prop} {Cn owner : String} {x y : MethodName} {bytes : ByteArray} {maxL n index : Nat} {ret : Option FieldType} {wsY : List Cond} {rm : Room} {ws wc wc1 wr wo : va_W} {b : Addr} {As rest st : List Value} {pc : Nat} {ls : Array Slot} {r : Int32}
    (C : kC p s m args c cc nL own Ts D tys A) (hM : kMi l y wsY rm D tys (.ref b :: As) wc wc1 r) (cw : va_CU R s args own Cn owner index x y bytes maxL ret wsY rm 0 0 n)
    (hP : va_P D vwCl ws H) (hD : va_D A ws) (hS : va_S A s.heap H locs) (isC isR isO : List Nat) (hC : isC.map (fun i => ws[i]?) = wc.map some) (hR : isR.map (fun i => ws[i]?) = wr.map some) (hO : isO.map (fun i => (wr ++ wc1)[i]?) = wo.map some) (hnd : va_nd isC = true ∧ va_nd isR = true ∧ va_nd isO = true ∧ isR.all (fun i => !isC.contains i) = true) (q0 : Nat) {ci : Nat} {qc : vw_C} {fs : List Value} (hc : vwCl[ci]? = some qc) (hq : qc.1 = Cn) (he : wc[q0]? = some (b, .inr (ci, fs)))
    (hst : st = As.reverse ++ .ref b :: rest) (hn : As.length = n) (hsize : ls.size = nL) (hcat : (rest.map fun v => v.category).sum ≤ 8) (hd : decode cc pc = .ok (.invokevirtual index, 3)) (hcs : cells ≤ R.cells ∧ slots ≤ R.slots)
    (kk : ∀ (H1 : Heap) (locs1 : List Loc), va_P D vwCl wo H1 → va_D A wo → va_S A s.heap H1 locs1 → W p l e R s m args below meth c H1 locs1 cells slots Q (F0 m (pc + 3) ls (.int r :: rest))) : W p l e R s m args below meth c H locs cells slots Q (F0 m pc ls st) := by
  obtain ⟨hx, hb, hml, hown, hts, hK, hA⟩ := C
  obtain ⟨hnC, hnR, hnO, hdis⟩ := hnd
  have hdis : ∀ i ∈ isR, i ∉ isC := fun i hi hc => by
    have h1 := List.all_eq_true.mp hdis i hi
    simp [hc] at h1
  have hPc := hP.sub (ws' := wc) isC (k_fm hC)
  have hDc := hD.sub (ws' := wc) isC hnC hC
  have hFc := va_free (wc := wc) hD hS hA isC hC
  subst hst
  refine va_calli (va_runU (As := As) (rest := rest) ⟨hx, hb, hml, hown, hts⟩ (hM H.size) cw ⟨fun a U g mk q => by obtain ⟨q0, q1, qP, qK, qD⟩ := q; exact ⟨q0, q1, qP, va_K.moved (u := U) (U := U.calling g mk a) (Vm.Alike.refl U.vm) qK, qD⟩, by rw [← hq]; exact va_recv hK hPc hc he, fun U hU hW => ⟨rfl, by rw [hU], by rw [hU]; exact hPc, va_K.moved hW.alike hK, hDc.weaken (fun _ _ _ _ => trivial)⟩⟩ rfl hn hsize rfl (lv_room hcat) hd hcs) hS (fun q _ h => hFc q h) hFc (fun r1 u t H1 locs ht hvm hw hB hz1 hk1 hS => ?_)
  obtain ⟨hP1, hK1, hD1⟩ := hB
  rw [ht] at hP1
  try dsimp only at hw
  subst hw
  obtain ⟨hP2, hD2⟩ := va_join (wr := wr) (w1 := wc1) hP hD isC isR hC hR hnR hdis hk1 hFc hP1 hD1
  exact kk H1 locs (hP2.sub (ws' := wo) isO (k_fm hO)) (hD2.sub (ws' := wo) isO hnO hO) hS
theorem k_Uz {p : Program} {l : Launch} {e : Env} {R : Room} {s : State} {m : MethodId} {args : Array Value} {below : List Frame} {meth : Method} {c : Code} {H : Heap} {locs : List Loc} {cells slots : Nat} {Q : State → Prop} {cc : ByteArray} {nL : Nat} {own : String} {Ts : List Cond} {D : va_G} {tys : List (ClassId × FieldType)} {A : Nat → Prop} {Cn owner : String} {x y : MethodName} {bytes : ByteArray} {maxL n index : Nat} {ret : Option FieldType} {wsY : List Cond} {rm : Room} {ws wc wc1 wr wo : va_W} {b : Addr} {As rest st : List Value} {pc : Nat} {ls : Array Slot} {r : Int32}
    (C : kC p s m args c cc nL own Ts D tys A) (hM : kMz l y wsY rm D tys (.ref b :: As) wc wc1 r) (cw : va_CU R s args own Cn owner index x y bytes maxL ret wsY rm 0 0 n)
    (hP : va_P D vwCl ws H) (hD : va_D A ws) (hS : va_S A s.heap H locs) (isC isR isO : List Nat) (hC : isC.map (fun i => ws[i]?) = wc.map some) (hR : isR.map (fun i => ws[i]?) = wr.map some) (hO : isO.map (fun i => (wr ++ wc1)[i]?) = wo.map some) (hnd : va_nd isC = true ∧ va_nd isR = true ∧ va_nd isO = true ∧ isR.all (fun i => !isC.contains i) = true) (q0 : Nat) {ci : Nat} {qc : vw_C} {fs : List Value} (hc : vwCl[ci]? = some qc) (hq : qc.1 = Cn) (he : wc[q0]? = some (b, .inr (ci, fs)))
    (hst : st = As.reverse ++ .ref b :: rest) (hn : As.length = n) (hsize : ls.size = nL) (hcat : (rest.map fun v => v.category).sum ≤ 8) (hd : decode cc pc = .ok (.invokevirtual index, 3)) (hcs : cells ≤ R.cells ∧ slots ≤ R.slots)
    (kk : ∀ (H1 : Heap) (locs1 : List Loc), narrow .boolean (.int r) = .int r → va_P D vwCl wo H1 → va_D A wo → va_S A s.heap H1 locs1 → W p l e R s m args below meth c H1 locs1 cells slots Q (F0 m (pc + 3) ls (.int r :: rest))) : W p l e R s m args below meth c H locs cells slots Q (F0 m pc ls st) := by
  obtain ⟨hx, hb, hml, hown, hts, hK, hA⟩ := C
  obtain ⟨hnC, hnR, hnO, hdis⟩ := hnd
  have hdis : ∀ i ∈ isR, i ∉ isC := fun i hi hc => by
    have h1 := List.all_eq_true.mp hdis i hi
    simp [hc] at h1
  have hPc := hP.sub (ws' := wc) isC (k_fm hC)
  have hDc := hD.sub (ws' := wc) isC hnC hC
  have hFc := va_free (wc := wc) hD hS hA isC hC
  subst hst
  refine va_calli (va_runU (As := As) (rest := rest) ⟨hx, hb, hml, hown, hts⟩ (hM H.size) cw ⟨fun a U g mk q => by obtain ⟨q0, q1, qP, qK, qD⟩ := q; exact ⟨q0, q1, qP, va_K.moved (u := U) (U := U.calling g mk a) (Vm.Alike.refl U.vm) qK, qD⟩, by rw [← hq]; exact va_recv hK hPc hc he, fun U hU hW => ⟨rfl, by rw [hU], by rw [hU]; exact hPc, va_K.moved hW.alike hK, hDc.weaken (fun _ _ _ _ => trivial)⟩⟩ rfl hn hsize rfl (lv_room hcat) hd hcs) hS (fun q _ h => hFc q h) hFc (fun r1 u t H1 locs ht hvm hw hB hz1 hk1 hS => ?_)
  obtain ⟨hP1, hK1, hD1⟩ := hB
  rw [ht] at hP1
  try dsimp only at hw
  obtain ⟨rfl, hz⟩ := hw
  obtain ⟨hP2, hD2⟩ := va_join (wr := wr) (w1 := wc1) hP hD isC isR hC hR hnR hdis hk1 hFc hP1 hD1
  exact kk H1 locs hz (hP2.sub (ws' := wo) isO (k_fm hO)) (hD2.sub (ws' := wo) isO hnO hO) hS
theorem k_Ul {p : Program} {l : Launch} {e : Env} {R : Room} {s : State} {m : MethodId} {args : Array Value} {below : List Frame} {meth : Method} {c : Code} {H : Heap} {locs : List Loc} {cells slots : Nat} {Q : State → Prop} {cc : ByteArray} {nL : Nat} {own : String} {Ts : List Cond} {D : va_G} {tys : List (ClassId × FieldType)} {A : Nat → Prop} {Cn owner : String} {x y : MethodName} {bytes : ByteArray} {maxL n index : Nat} {ret : Option FieldType} {wsY : List Cond} {rm : Room} {ws wc wc1 wr wo : va_W} {b : Addr} {As rest st : List Value} {pc : Nat} {ls : Array Slot} {r : Int64}
    (C : kC p s m args c cc nL own Ts D tys A) (hM : kMl l y wsY rm D tys (.ref b :: As) wc wc1 r) (cw : va_CU R s args own Cn owner index x y bytes maxL ret wsY rm 0 0 n)
    (hP : va_P D vwCl ws H) (hD : va_D A ws) (hS : va_S A s.heap H locs) (isC isR isO : List Nat) (hC : isC.map (fun i => ws[i]?) = wc.map some) (hR : isR.map (fun i => ws[i]?) = wr.map some) (hO : isO.map (fun i => (wr ++ wc1)[i]?) = wo.map some) (hnd : va_nd isC = true ∧ va_nd isR = true ∧ va_nd isO = true ∧ isR.all (fun i => !isC.contains i) = true) (q0 : Nat) {ci : Nat} {qc : vw_C} {fs : List Value} (hc : vwCl[ci]? = some qc) (hq : qc.1 = Cn) (he : wc[q0]? = some (b, .inr (ci, fs)))
    (hst : st = As.reverse ++ .ref b :: rest) (hn : As.length = n) (hsize : ls.size = nL) (hcat : (rest.map fun v => v.category).sum ≤ 8) (hd : decode cc pc = .ok (.invokevirtual index, 3)) (hcs : cells ≤ R.cells ∧ slots ≤ R.slots)
    (kk : ∀ (H1 : Heap) (locs1 : List Loc), va_P D vwCl wo H1 → va_D A wo → va_S A s.heap H1 locs1 → W p l e R s m args below meth c H1 locs1 cells slots Q (F0 m (pc + 3) ls (.long r :: rest))) : W p l e R s m args below meth c H locs cells slots Q (F0 m pc ls st) := by
  obtain ⟨hx, hb, hml, hown, hts, hK, hA⟩ := C
  obtain ⟨hnC, hnR, hnO, hdis⟩ := hnd
  have hdis : ∀ i ∈ isR, i ∉ isC := fun i hi hc => by
    have h1 := List.all_eq_true.mp hdis i hi
    simp [hc] at h1
  have hPc := hP.sub (ws' := wc) isC (k_fm hC)
  have hDc := hD.sub (ws' := wc) isC hnC hC
  have hFc := va_free (wc := wc) hD hS hA isC hC
  subst hst
  refine va_calll (va_runU (As := As) (rest := rest) ⟨hx, hb, hml, hown, hts⟩ (hM H.size) cw ⟨fun a U g mk q => by obtain ⟨q0, q1, qP, qK, qD⟩ := q; exact ⟨q0, q1, qP, va_K.moved (u := U) (U := U.calling g mk a) (Vm.Alike.refl U.vm) qK, qD⟩, by rw [← hq]; exact va_recv hK hPc hc he, fun U hU hW => ⟨rfl, by rw [hU], by rw [hU]; exact hPc, va_K.moved hW.alike hK, hDc.weaken (fun _ _ _ _ => trivial)⟩⟩ rfl hn hsize rfl (lv_room hcat) hd hcs) hS (fun q _ h => hFc q h) hFc (fun r1 u t H1 locs ht hvm hw hB hz1 hk1 hS => ?_)
  obtain ⟨hP1, hK1, hD1⟩ := hB
  rw [ht] at hP1
  try dsimp only at hw
  subst hw
  obtain ⟨hP2, hD2⟩ := va_join (wr := wr) (w1 := wc1) hP hD isC isR hC hR hnR hdis hk1 hFc hP1 hD1
  exact kk H1 locs (hP2.sub (ws' := wo) isO (k_fm hO)) (hD2.sub (ws' := wo) isO hnO hO) hS
theorem k_Uv {p : Program} {l : Launch} {e : Env} {R : Room} {s : State} {m : MethodId} {args : Array Value} {below : List Frame} {meth : Method} {c : Code} {H : Heap} {locs : List Loc} {cells slots : Nat} {Q : State → Prop} {cc : ByteArray} {nL : Nat} {own : String} {Ts : List Cond} {D : va_G} {tys : List (ClassId × FieldType)} {A : Nat → Prop} {Cn owner : String} {x y : MethodName} {bytes : ByteArray} {maxL n index : Nat} {ret : Option FieldType} {wsY : List Cond} {rm : Room} {ws wc wc1 wr wo : va_W} {b : Addr} {As rest st : List Value} {pc : Nat} {ls : Array Slot}
    (C : kC p s m args c cc nL own Ts D tys A) (hM : kMv l y wsY rm D tys (.ref b :: As) wc wc1) (cw : va_CU R s args own Cn owner index x y bytes maxL ret wsY rm 0 0 n)
    (hP : va_P D vwCl ws H) (hD : va_D A ws) (hS : va_S A s.heap H locs) (isC isR isO : List Nat) (hC : isC.map (fun i => ws[i]?) = wc.map some) (hR : isR.map (fun i => ws[i]?) = wr.map some) (hO : isO.map (fun i => (wr ++ wc1)[i]?) = wo.map some) (hnd : va_nd isC = true ∧ va_nd isR = true ∧ va_nd isO = true ∧ isR.all (fun i => !isC.contains i) = true) (q0 : Nat) {ci : Nat} {qc : vw_C} {fs : List Value} (hc : vwCl[ci]? = some qc) (hq : qc.1 = Cn) (he : wc[q0]? = some (b, .inr (ci, fs)))
    (hst : st = As.reverse ++ .ref b :: rest) (hn : As.length = n) (hsize : ls.size = nL) (hcat : (rest.map fun v => v.category).sum ≤ 8) (hd : decode cc pc = .ok (.invokevirtual index, 3)) (hcs : cells ≤ R.cells ∧ slots ≤ R.slots)
    (kk : ∀ (H1 : Heap) (locs1 : List Loc), va_P D vwCl wo H1 → va_D A wo → va_S A s.heap H1 locs1 → W p l e R s m args below meth c H1 locs1 cells slots Q (F0 m (pc + 3) ls rest)) : W p l e R s m args below meth c H locs cells slots Q (F0 m pc ls st) := by
  obtain ⟨hx, hb, hml, hown, hts, hK, hA⟩ := C
  obtain ⟨hnC, hnR, hnO, hdis⟩ := hnd
  have hdis : ∀ i ∈ isR, i ∉ isC := fun i hi hc => by
    have h1 := List.all_eq_true.mp hdis i hi
    simp [hc] at h1
  have hPc := hP.sub (ws' := wc) isC (k_fm hC)
  have hDc := hD.sub (ws' := wc) isC hnC hC
  have hFc := va_free (wc := wc) hD hS hA isC hC
  subst hst
  refine va_callv (va_runU (As := As) (rest := rest) ⟨hx, hb, hml, hown, hts⟩ (hM H.size) cw ⟨fun a U g mk q => by obtain ⟨q0, q1, qP, qK, qD⟩ := q; exact ⟨q0, q1, qP, va_K.moved (u := U) (U := U.calling g mk a) (Vm.Alike.refl U.vm) qK, qD⟩, by rw [← hq]; exact va_recv hK hPc hc he, fun U hU hW => ⟨rfl, by rw [hU], by rw [hU]; exact hPc, va_K.moved hW.alike hK, hDc.weaken (fun _ _ _ _ => trivial)⟩⟩ rfl hn hsize rfl (lv_room hcat) hd hcs) hS (fun q _ h => hFc q h) hFc (fun u t H1 locs ht hvm hw hB hz1 hk1 hS => ?_)
  obtain ⟨hP1, hK1, hD1⟩ := hB
  rw [ht] at hP1
  try dsimp only at hw
  skip
  obtain ⟨hP2, hD2⟩ := va_join (wr := wr) (w1 := wc1) hP hD isC isR hC hR hnR hdis hk1 hFc hP1 hD1
  exact kk H1 locs (hP2.sub (ws' := wo) isO (k_fm hO)) (hD2.sub (ws' := wo) isO hnO hO) hS
theorem k_ldcw {p : Program} {l : Launch} {e : Env} {R : Room} {s : State} {m : MethodId} {args : Array Value} {below : List Frame} {meth : Method} {c : Code} {H : Heap} {locs : List Loc} {cells slots : Nat} {Q : State → Prop} {cc : ByteArray} {pc : Nat} {ls : Array Slot} {rest : List Value} (hx : p.tables.exec = Jvm.exec) (hb : c.code = cc) {own : String} {index : Nat} {v : Int32} (hown : s.vm.findClass own = some m.cls) (hconst : (Cond.constant own index v).before args s = true) (hdg : decode cc pc = .ok (.ldc_w index, 3)) (k : W p l e R s m args below meth c H locs cells slots Q (F0 m (pc + 3) ls (.int v :: rest))) : W p l e R s m args below meth c H locs cells slots Q (F0 m pc ls rest) := by
  intro T hT X
  obtain ⟨t, a, b⟩ := k T hT X
  exact ⟨t, va_ldcwI X hx hown hconst (g := F0 m pc ls rest) rfl (by rw [hb]; exact hdg) t a, b⟩
def FU : Nat := 300
end
