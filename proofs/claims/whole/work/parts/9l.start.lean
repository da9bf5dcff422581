/-! ===== the start: what the statement gives ===== -/
theorem wsX11 : Cond.instantiable "ProperFollow" 20 ∈ zWS := zWS_in (List.mem_of_getElem? (i := 141) (by decide +kernel)) (by decide +kernel)
theorem df11 : ∀ j, j < 20 → defaultValue (kt11 j) = vp_V [.null, .null, .null, .null, .null, .null, .null, .null, .null, .null, .null, .null, .null, .null, .null, .int 0, .int 0, .int 0, .int 0, .int 0] j := fun j hj => match j, hj with
  | 0, _ => rfl
  | 1, _ => rfl
  | 2, _ => rfl
  | 3, _ => rfl
  | 4, _ => rfl
  | 5, _ => rfl
  | 6, _ => rfl
  | 7, _ => rfl
  | 8, _ => rfl
  | 9, _ => rfl
  | 10, _ => rfl
  | 11, _ => rfl
  | 12, _ => rfl
  | 13, _ => rfl
  | 14, _ => rfl
  | 15, _ => rfl
  | 16, _ => rfl
  | 17, _ => rfl
  | 18, _ => rfl
  | 19, _ => rfl
  | k + 20, h => absurd h (by omega)
theorem wsX12 : Cond.instantiable "ProperFollowModel" 53 ∈ zWS := zWS_in (List.mem_of_getElem? (i := 1493) (by decide +kernel)) (by decide +kernel)
theorem df12 : ∀ j, j < 53 → defaultValue (kt12 j) = vp_V [.int 0, .null, .int 0, .int 0, .int 0, .int 0, .null, .null, .null, .null, .null, .int 0, .int 0, .int 0, .int 0, .int 0, .int 0, .long 0, .int 0, .int 0, .null, .null, .null, .null, .int 0, .int 0, .int 0, .int 0, .int 0, .null, .int 0, .int 0, .int 0, .null, .null, .int 0, .int 0, .null, .int 0, .int 0, .int 0, .null, .int 0, .null, .int 0, .int 0, .int 0, .int 0, .int 0, .null, .null, .null, .null] j := fun j hj => match j, hj with
  | 0, _ => rfl
  | 1, _ => rfl
  | 2, _ => rfl
  | 3, _ => rfl
  | 4, _ => rfl
  | 5, _ => rfl
  | 6, _ => rfl
  | 7, _ => rfl
  | 8, _ => rfl
  | 9, _ => rfl
  | 10, _ => rfl
  | 11, _ => rfl
  | 12, _ => rfl
  | 13, _ => rfl
  | 14, _ => rfl
  | 15, _ => rfl
  | 16, _ => rfl
  | 17, _ => rfl
  | 18, _ => rfl
  | 19, _ => rfl
  | 20, _ => rfl
  | 21, _ => rfl
  | 22, _ => rfl
  | 23, _ => rfl
  | 24, _ => rfl
  | 25, _ => rfl
  | 26, _ => rfl
  | 27, _ => rfl
  | 28, _ => rfl
  | 29, _ => rfl
  | 30, _ => rfl
  | 31, _ => rfl
  | 32, _ => rfl
  | 33, _ => rfl
  | 34, _ => rfl
  | 35, _ => rfl
  | 36, _ => rfl
  | 37, _ => rfl
  | 38, _ => rfl
  | 39, _ => rfl
  | 40, _ => rfl
  | 41, _ => rfl
  | 42, _ => rfl
  | 43, _ => rfl
  | 44, _ => rfl
  | 45, _ => rfl
  | 46, _ => rfl
  | 47, _ => rfl
  | 48, _ => rfl
  | 49, _ => rfl
  | 50, _ => rfl
  | 51, _ => rfl
  | 52, _ => rfl
  | k + 53, h => absurd h (by omega)
theorem clW_8 : Cond.classLink "ProperFollowLaw" 8 "ProperFollow" ∈ zWS := zWS_in (List.mem_of_getElem? (i := 140) (by decide +kernel)) (by decide +kernel)
theorem clW_20 : Cond.classLink "ProperFollowLaw" 20 "ProperFollowModel" ∈ zWS := zWS_in (List.mem_of_getElem? (i := 1499) (by decide +kernel)) (by decide +kernel)
theorem mlW_19 : Cond.methodLink "ProperFollowLaw" 19 YX11_init.1 ∈ zWS := zWS_in (List.mem_of_getElem? (i := 142) (by decide +kernel)) (by decide +kernel)
theorem lcWX11 : zlk YX11_init 0 := ⟨wi_X11, zWS_in (List.mem_of_getElem? (i := 144) (by decide +kernel)) (by decide +kernel), by decide, by decide, by decide +kernel, by decide⟩
theorem imWX11 : Cond.instanceMethod YX11_init.1 ∈ zWS := zWS_in (List.mem_of_getElem? (i := 143) (by decide +kernel)) (by decide +kernel)
theorem mlW_22 : Cond.methodLink "ProperFollowLaw" 22 YX12_init.1 ∈ zWS := zWS_in (List.mem_of_getElem? (i := 1500) (by decide +kernel)) (by decide +kernel)
theorem lcWX12 : zlk YX12_init 0 := ⟨wi_X12, zWS_in (List.mem_of_getElem? (i := 1502) (by decide +kernel)) (by decide +kernel), by decide, by decide, by decide +kernel, by decide⟩
theorem imWX12 : Cond.instanceMethod YX12_init.1 ∈ zWS := zWS_in (List.mem_of_getElem? (i := 1501) (by decide +kernel)) (by decide +kernel)
theorem aoD : Cond.arrayOver (.object "ProperFollow$Day") ∈ lw_tbl := List.mem_of_getElem? (i := 372) (by decide +kernel)
theorem aoK : Cond.arrayOver (.object "ProperFollow$Kept") ∈ lw_tbl := List.mem_of_getElem? (i := 385) (by decide +kernel)
theorem srW_0 : Cond.stringRef "ProperFollow$Reader" 23 "corner street person next follows goes drops leaves hires minute or and not alone ringed idle at after buns left behind number " ∈ lw_tbl := List.mem_of_getElem? (i := 171) (by decide +kernel)
theorem srW_1 : Cond.stringRef "ProperFollow" 325 " at " ∈ lw_tbl := List.mem_of_getElem? (i := 1126) (by decide +kernel)
theorem srW_2 : Cond.stringRef "ProperFollow" 333 " after " ∈ lw_tbl := List.mem_of_getElem? (i := 1138) (by decide +kernel)
theorem srW_3 : Cond.stringRef "ProperFollow" 335 " goes " ∈ lw_tbl := List.mem_of_getElem? (i := 1140) (by decide +kernel)
theorem srW_4 : Cond.stringRef "ProperFollow" 340 " stays" ∈ lw_tbl := List.mem_of_getElem? (i := 1145) (by decide +kernel)
theorem srW_5 : Cond.stringRef "ProperFollow" 161 "no such person, or no such thing of him" ∈ lw_tbl := List.mem_of_getElem? (i := 1435) (by decide +kernel)
theorem srW_6 : Cond.stringRef "ProperFollow" 311 "no persons, or no such number of a fraction" ∈ lw_tbl := List.mem_of_getElem? (i := 1478) (by decide +kernel)
theorem lsW_cs : Cond.laysStatic "java/lang/String" "COMPACT_STRINGS" "Z" ∈ lw_tbl := List.mem_of_getElem? (i := 181) (by decide +kernel)
theorem lsW_us : Cond.laysStatic "java/lang/Throwable" "UNASSIGNED_STACK" "[Ljava/lang/StackTraceElement;" ∈ lw_tbl := List.mem_of_getElem? (i := 1423) (by decide +kernel)
theorem lsW_ss : Cond.laysStatic "java/lang/Throwable" "SUPPRESSED_SENTINEL" "Ljava/util/List;" ∈ lw_tbl := List.mem_of_getElem? (i := 1425) (by decide +kernel)
theorem lsW_sf : Cond.laysStatic "jdk/internal/util/Preconditions" "SIOOBE_FORMATTER" "Ljava/util/function/BiFunction;" ∈ lw_tbl := List.mem_of_getElem? (i := 197) (by decide +kernel)
theorem inW_S : Cond.initialized "java/lang/String" ∈ lw_tbl := List.mem_of_getElem? (i := 118) (by decide +kernel)
theorem inW_T : Cond.initialized "java/lang/Throwable" ∈ lw_tbl := List.mem_of_getElem? (i := 135) (by decide +kernel)
theorem inW_P : Cond.initialized "jdk/internal/util/Preconditions" ∈ lw_tbl := List.mem_of_getElem? (i := 120) (by decide +kernel)
theorem dcW_0 : Cond.declares ⟨"java/lang/RuntimeException", "<init>", "(Ljava/lang/String;)V"⟩ ∈ lw_tbl := List.mem_of_getElem? (i := 1400) (by decide +kernel)
theorem dcW_1 : Cond.declares ⟨"java/lang/Exception", "<init>", "(Ljava/lang/String;)V"⟩ ∈ lw_tbl := List.mem_of_getElem? (i := 1402) (by decide +kernel)
theorem dcW_2 : Cond.declares ⟨"java/lang/Throwable", "<init>", "(Ljava/lang/String;)V"⟩ ∈ lw_tbl := List.mem_of_getElem? (i := 1404) (by decide +kernel)
theorem caW : Cond.castable "java/util/NoSuchElementException" "java/util/NoSuchElementException" ∈ lw_tbl := List.mem_of_getElem? (i := 1398) (by decide +kernel)
theorem nwW_0 : Cond.methodLinkNest "ProperFollow" 9 ⟨"ProperFollow$Tape", "<init>", "()V"⟩ "ProperFollow" ∈ lw_tbl := List.mem_of_getElem? (i := 150) (by decide +kernel)
theorem nwW_1 : Cond.methodLinkNest "ProperFollow" 27 ⟨"ProperFollow$Plan", "<init>", "()V"⟩ "ProperFollow" ∈ lw_tbl := List.mem_of_getElem? (i := 256) (by decide +kernel)
theorem nwW_2 : Cond.methodLinkNest "ProperFollow" 47 ⟨"ProperFollow$Sentence", "<init>", "()V"⟩ "ProperFollow" ∈ lw_tbl := List.mem_of_getElem? (i := 327) (by decide +kernel)
theorem nwW_3 : Cond.methodLinkNest "ProperFollow" 70 ⟨"ProperFollow$Book", "<init>", "()V"⟩ "ProperFollow" ∈ lw_tbl := List.mem_of_getElem? (i := 388) (by decide +kernel)
theorem nwW_4 : Cond.methodLinkNest "ProperFollow" 84 ⟨"ProperFollow$Draws", "<init>", "()V"⟩ "ProperFollow" ∈ lw_tbl := List.mem_of_getElem? (i := 445) (by decide +kernel)
theorem nwW_5 : Cond.methodLinkNest "ProperFollow" 91 ⟨"ProperFollow$Line", "<init>", "()V"⟩ "ProperFollow" ∈ lw_tbl := List.mem_of_getElem? (i := 455) (by decide +kernel)
theorem nwW_6 : Cond.methodLinkNest "ProperFollow" 113 ⟨"ProperFollow$Kept", "<init>", "()V"⟩ "ProperFollow" ∈ lw_tbl := List.mem_of_getElem? (i := 467) (by decide +kernel)
theorem nwW_7 : Cond.methodLinkNest "ProperFollow$Kept" 9 ⟨"ProperFollow$Plan", "<init>", "()V"⟩ "ProperFollow" ∈ lw_tbl := List.mem_of_getElem? (i := 472) (by decide +kernel)
theorem nwW_8 : Cond.methodLinkNest "ProperFollow$Kept" 25 ⟨"ProperFollow$Sentence", "<init>", "()V"⟩ "ProperFollow" ∈ lw_tbl := List.mem_of_getElem? (i := 476) (by decide +kernel)
theorem nwW_9 : Cond.methodLinkNest "ProperFollow$Plan" 46 ⟨"ProperFollow", "hasBit", "(II)Z"⟩ "ProperFollow" ∈ lw_tbl := List.mem_of_getElem? (i := 688) (by decide +kernel)
theorem nwW_10 : Cond.methodLinkNest "ProperFollow$Pairing" 58 ⟨"ProperFollow", "hasBit", "(II)Z"⟩ "ProperFollow" ∈ lw_tbl := List.mem_of_getElem? (i := 1081) (by decide +kernel)
theorem nwW_11 : Cond.methodLinkNest "ProperFollow$Day" 84 ⟨"ProperFollow", "hasBit", "(II)Z"⟩ "ProperFollow" ∈ lw_tbl := List.mem_of_getElem? (i := 1470) (by decide +kernel)
theorem zNW_in : ∀ q ∈ zNW, Cond.methodLinkNest q.1 q.2.1 q.2.2.1 q.2.2.2 ∈ lw_tbl := List.forall_mem_cons.mpr ⟨nwW_0, List.forall_mem_cons.mpr ⟨nwW_1, List.forall_mem_cons.mpr ⟨nwW_2, List.forall_mem_cons.mpr ⟨nwW_3, List.forall_mem_cons.mpr ⟨nwW_4, List.forall_mem_cons.mpr ⟨nwW_5, List.forall_mem_cons.mpr ⟨nwW_6, List.forall_mem_cons.mpr ⟨nwW_7, List.forall_mem_cons.mpr ⟨nwW_8, List.forall_mem_cons.mpr ⟨nwW_9, List.forall_mem_cons.mpr ⟨nwW_10, List.forall_mem_cons.mpr ⟨nwW_11, fun _ h => absurd h List.not_mem_nil⟩⟩⟩⟩⟩⟩⟩⟩⟩⟩⟩⟩
def zNF : List Cond := flatC (Jvm.Cond.and given_1 narrow_1)
def zTM (i : Nat) : Term := Term.string (zSC.getD i ("", 0, "", 0)).1 (zSC.getD i ("", 0, "", 0)).2.1
theorem nf_len : ∀ i, i < 7 → zSL.getD i 0 < 2 ^ 31 := by decide
theorem nf_ex : ∀ i, i < 7 → Cond.exactly (zTM i) "java/lang/String" ∈ zNF := fun i hi => match i, hi with
  | 0, _ => List.mem_of_getElem? (i := 54) (by decide +kernel)
  | 1, _ => List.mem_of_getElem? (i := 185) (by decide +kernel)
  | 2, _ => List.mem_of_getElem? (i := 194) (by decide +kernel)
  | 3, _ => List.mem_of_getElem? (i := 207) (by decide +kernel)
  | 4, _ => List.mem_of_getElem? (i := 220) (by decide +kernel)
  | 5, _ => List.mem_of_getElem? (i := 234) (by decide +kernel)
  | 6, _ => List.mem_of_getElem? (i := 282) (by decide +kernel)
  | k + 7, h => absurd h (by omega)
theorem nf_co : ∀ i, i < 7 → Cond.eq (.field (zTM i) "java/lang/String" "coder" "B") (.int 0) ∈ zNF := fun i hi => match i, hi with
  | 0, _ => List.mem_of_getElem? (i := 55) (by decide +kernel)
  | 1, _ => List.mem_of_getElem? (i := 186) (by decide +kernel)
  | 2, _ => List.mem_of_getElem? (i := 195) (by decide +kernel)
  | 3, _ => List.mem_of_getElem? (i := 208) (by decide +kernel)
  | 4, _ => List.mem_of_getElem? (i := 221) (by decide +kernel)
  | 5, _ => List.mem_of_getElem? (i := 235) (by decide +kernel)
  | 6, _ => List.mem_of_getElem? (i := 283) (by decide +kernel)
  | k + 7, h => absurd h (by omega)
theorem nf_ar : ∀ i, i < 7 → Cond.arrayOf (.field (zTM i) "java/lang/String" "value" "[B") .byte ∈ zNF := fun i hi => match i, hi with
  | 0, _ => List.mem_of_getElem? (i := 56) (by decide +kernel)
  | 1, _ => List.mem_of_getElem? (i := 187) (by decide +kernel)
  | 2, _ => List.mem_of_getElem? (i := 196) (by decide +kernel)
  | 3, _ => List.mem_of_getElem? (i := 209) (by decide +kernel)
  | 4, _ => List.mem_of_getElem? (i := 222) (by decide +kernel)
  | 5, _ => List.mem_of_getElem? (i := 236) (by decide +kernel)
  | 6, _ => List.mem_of_getElem? (i := 284) (by decide +kernel)
  | k + 7, h => absurd h (by omega)
theorem nf_le : ∀ i, i < 7 → Cond.eq (.length (.field (zTM i) "java/lang/String" "value" "[B")) (.int (Int32.ofNat (zSL.getD i 0))) ∈ zNF := fun i hi => match i, hi with
  | 0, _ => List.mem_of_getElem? (i := 57) (by decide +kernel)
  | 1, _ => List.mem_of_getElem? (i := 188) (by decide +kernel)
  | 2, _ => List.mem_of_getElem? (i := 197) (by decide +kernel)
  | 3, _ => List.mem_of_getElem? (i := 210) (by decide +kernel)
  | 4, _ => List.mem_of_getElem? (i := 223) (by decide +kernel)
  | 5, _ => List.mem_of_getElem? (i := 237) (by decide +kernel)
  | 6, _ => List.mem_of_getElem? (i := 285) (by decide +kernel)
  | k + 7, h => absurd h (by omega)
theorem nf_el0_0 : ∀ j, j < 16 → zNF[58 + j]? = some (Cond.eq (.elem (.field (zTM 0) "java/lang/String" "value" "[B") (.int (Int32.ofNat (0 + j)))) (.int ((zSB.getD 0 []).getD (0 + j) 0))) := by decide +kernel
theorem nf_el0_16 : ∀ j, j < 16 → zNF[74 + j]? = some (Cond.eq (.elem (.field (zTM 0) "java/lang/String" "value" "[B") (.int (Int32.ofNat (16 + j)))) (.int ((zSB.getD 0 []).getD (16 + j) 0))) := by decide +kernel
theorem nf_el0_32 : ∀ j, j < 16 → zNF[90 + j]? = some (Cond.eq (.elem (.field (zTM 0) "java/lang/String" "value" "[B") (.int (Int32.ofNat (32 + j)))) (.int ((zSB.getD 0 []).getD (32 + j) 0))) := by decide +kernel
theorem nf_el0_48 : ∀ j, j < 16 → zNF[106 + j]? = some (Cond.eq (.elem (.field (zTM 0) "java/lang/String" "value" "[B") (.int (Int32.ofNat (48 + j)))) (.int ((zSB.getD 0 []).getD (48 + j) 0))) := by decide +kernel
theorem nf_el0_64 : ∀ j, j < 16 → zNF[122 + j]? = some (Cond.eq (.elem (.field (zTM 0) "java/lang/String" "value" "[B") (.int (Int32.ofNat (64 + j)))) (.int ((zSB.getD 0 []).getD (64 + j) 0))) := by decide +kernel
theorem nf_el0_80 : ∀ j, j < 16 → zNF[138 + j]? = some (Cond.eq (.elem (.field (zTM 0) "java/lang/String" "value" "[B") (.int (Int32.ofNat (80 + j)))) (.int ((zSB.getD 0 []).getD (80 + j) 0))) := by decide +kernel
theorem nf_el0_96 : ∀ j, j < 16 → zNF[154 + j]? = some (Cond.eq (.elem (.field (zTM 0) "java/lang/String" "value" "[B") (.int (Int32.ofNat (96 + j)))) (.int ((zSB.getD 0 []).getD (96 + j) 0))) := by decide +kernel
theorem nf_el0_112 : ∀ j, j < 15 → zNF[170 + j]? = some (Cond.eq (.elem (.field (zTM 0) "java/lang/String" "value" "[B") (.int (Int32.ofNat (112 + j)))) (.int ((zSB.getD 0 []).getD (112 + j) 0))) := by decide +kernel
theorem nf_el0 : ∀ j, j < 127 → Cond.eq (.elem (.field (zTM 0) "java/lang/String" "value" "[B") (.int (Int32.ofNat j))) (.int ((zSB.getD 0 []).getD j 0)) ∈ zNF := fun j hj => by
  by_cases h0 : j < 16
  · obtain ⟨k, rfl⟩ : ∃ k, j = 0 + k := ⟨j - 0, by omega⟩
    exact List.mem_of_getElem? (nf_el0_0 k (by omega))
  by_cases h16 : j < 32
  · obtain ⟨k, rfl⟩ : ∃ k, j = 16 + k := ⟨j - 16, by omega⟩
    exact List.mem_of_getElem? (nf_el0_16 k (by omega))
  by_cases h32 : j < 48
  · obtain ⟨k, rfl⟩ : ∃ k, j = 32 + k := ⟨j - 32, by omega⟩
    exact List.mem_of_getElem? (nf_el0_32 k (by omega))
  by_cases h48 : j < 64
  · obtain ⟨k, rfl⟩ : ∃ k, j = 48 + k := ⟨j - 48, by omega⟩
    exact List.mem_of_getElem? (nf_el0_48 k (by omega))
  by_cases h64 : j < 80
  · obtain ⟨k, rfl⟩ : ∃ k, j = 64 + k := ⟨j - 64, by omega⟩
    exact List.mem_of_getElem? (nf_el0_64 k (by omega))
  by_cases h80 : j < 96
  · obtain ⟨k, rfl⟩ : ∃ k, j = 80 + k := ⟨j - 80, by omega⟩
    exact List.mem_of_getElem? (nf_el0_80 k (by omega))
  by_cases h96 : j < 112
  · obtain ⟨k, rfl⟩ : ∃ k, j = 96 + k := ⟨j - 96, by omega⟩
    exact List.mem_of_getElem? (nf_el0_96 k (by omega))
  by_cases h112 : j < 127
  · obtain ⟨k, rfl⟩ : ∃ k, j = 112 + k := ⟨j - 112, by omega⟩
    exact List.mem_of_getElem? (nf_el0_112 k (by omega))
  omega
theorem nf_el1_0 : ∀ j, j < 4 → zNF[189 + j]? = some (Cond.eq (.elem (.field (zTM 1) "java/lang/String" "value" "[B") (.int (Int32.ofNat (0 + j)))) (.int ((zSB.getD 1 []).getD (0 + j) 0))) := by decide +kernel
theorem nf_el1 : ∀ j, j < 4 → Cond.eq (.elem (.field (zTM 1) "java/lang/String" "value" "[B") (.int (Int32.ofNat j))) (.int ((zSB.getD 1 []).getD j 0)) ∈ zNF := fun j hj => by
  by_cases h0 : j < 4
  · obtain ⟨k, rfl⟩ : ∃ k, j = 0 + k := ⟨j - 0, by omega⟩
    exact List.mem_of_getElem? (nf_el1_0 k (by omega))
  omega
theorem nf_el2_0 : ∀ j, j < 7 → zNF[198 + j]? = some (Cond.eq (.elem (.field (zTM 2) "java/lang/String" "value" "[B") (.int (Int32.ofNat (0 + j)))) (.int ((zSB.getD 2 []).getD (0 + j) 0))) := by decide +kernel
theorem nf_el2 : ∀ j, j < 7 → Cond.eq (.elem (.field (zTM 2) "java/lang/String" "value" "[B") (.int (Int32.ofNat j))) (.int ((zSB.getD 2 []).getD j 0)) ∈ zNF := fun j hj => by
  by_cases h0 : j < 7
  · obtain ⟨k, rfl⟩ : ∃ k, j = 0 + k := ⟨j - 0, by omega⟩
    exact List.mem_of_getElem? (nf_el2_0 k (by omega))
  omega
theorem nf_el3_0 : ∀ j, j < 6 → zNF[211 + j]? = some (Cond.eq (.elem (.field (zTM 3) "java/lang/String" "value" "[B") (.int (Int32.ofNat (0 + j)))) (.int ((zSB.getD 3 []).getD (0 + j) 0))) := by decide +kernel
theorem nf_el3 : ∀ j, j < 6 → Cond.eq (.elem (.field (zTM 3) "java/lang/String" "value" "[B") (.int (Int32.ofNat j))) (.int ((zSB.getD 3 []).getD j 0)) ∈ zNF := fun j hj => by
  by_cases h0 : j < 6
  · obtain ⟨k, rfl⟩ : ∃ k, j = 0 + k := ⟨j - 0, by omega⟩
    exact List.mem_of_getElem? (nf_el3_0 k (by omega))
  omega
theorem nf_el4_0 : ∀ j, j < 6 → zNF[224 + j]? = some (Cond.eq (.elem (.field (zTM 4) "java/lang/String" "value" "[B") (.int (Int32.ofNat (0 + j)))) (.int ((zSB.getD 4 []).getD (0 + j) 0))) := by decide +kernel
theorem nf_el4 : ∀ j, j < 6 → Cond.eq (.elem (.field (zTM 4) "java/lang/String" "value" "[B") (.int (Int32.ofNat j))) (.int ((zSB.getD 4 []).getD j 0)) ∈ zNF := fun j hj => by
  by_cases h0 : j < 6
  · obtain ⟨k, rfl⟩ : ∃ k, j = 0 + k := ⟨j - 0, by omega⟩
    exact List.mem_of_getElem? (nf_el4_0 k (by omega))
  omega
theorem nf_el5_0 : ∀ j, j < 16 → zNF[238 + j]? = some (Cond.eq (.elem (.field (zTM 5) "java/lang/String" "value" "[B") (.int (Int32.ofNat (0 + j)))) (.int ((zSB.getD 5 []).getD (0 + j) 0))) := by decide +kernel
theorem nf_el5_16 : ∀ j, j < 16 → zNF[254 + j]? = some (Cond.eq (.elem (.field (zTM 5) "java/lang/String" "value" "[B") (.int (Int32.ofNat (16 + j)))) (.int ((zSB.getD 5 []).getD (16 + j) 0))) := by decide +kernel
theorem nf_el5_32 : ∀ j, j < 7 → zNF[270 + j]? = some (Cond.eq (.elem (.field (zTM 5) "java/lang/String" "value" "[B") (.int (Int32.ofNat (32 + j)))) (.int ((zSB.getD 5 []).getD (32 + j) 0))) := by decide +kernel
theorem nf_el5 : ∀ j, j < 39 → Cond.eq (.elem (.field (zTM 5) "java/lang/String" "value" "[B") (.int (Int32.ofNat j))) (.int ((zSB.getD 5 []).getD j 0)) ∈ zNF := fun j hj => by
  by_cases h0 : j < 16
  · obtain ⟨k, rfl⟩ : ∃ k, j = 0 + k := ⟨j - 0, by omega⟩
    exact List.mem_of_getElem? (nf_el5_0 k (by omega))
  by_cases h16 : j < 32
  · obtain ⟨k, rfl⟩ : ∃ k, j = 16 + k := ⟨j - 16, by omega⟩
    exact List.mem_of_getElem? (nf_el5_16 k (by omega))
  by_cases h32 : j < 39
  · obtain ⟨k, rfl⟩ : ∃ k, j = 32 + k := ⟨j - 32, by omega⟩
    exact List.mem_of_getElem? (nf_el5_32 k (by omega))
  omega
theorem nf_el6_0 : ∀ j, j < 16 → zNF[286 + j]? = some (Cond.eq (.elem (.field (zTM 6) "java/lang/String" "value" "[B") (.int (Int32.ofNat (0 + j)))) (.int ((zSB.getD 6 []).getD (0 + j) 0))) := by decide +kernel
theorem nf_el6_16 : ∀ j, j < 16 → zNF[302 + j]? = some (Cond.eq (.elem (.field (zTM 6) "java/lang/String" "value" "[B") (.int (Int32.ofNat (16 + j)))) (.int ((zSB.getD 6 []).getD (16 + j) 0))) := by decide +kernel
theorem nf_el6_32 : ∀ j, j < 11 → zNF[318 + j]? = some (Cond.eq (.elem (.field (zTM 6) "java/lang/String" "value" "[B") (.int (Int32.ofNat (32 + j)))) (.int ((zSB.getD 6 []).getD (32 + j) 0))) := by decide +kernel
theorem nf_el6 : ∀ j, j < 43 → Cond.eq (.elem (.field (zTM 6) "java/lang/String" "value" "[B") (.int (Int32.ofNat j))) (.int ((zSB.getD 6 []).getD j 0)) ∈ zNF := fun j hj => by
  by_cases h0 : j < 16
  · obtain ⟨k, rfl⟩ : ∃ k, j = 0 + k := ⟨j - 0, by omega⟩
    exact List.mem_of_getElem? (nf_el6_0 k (by omega))
  by_cases h16 : j < 32
  · obtain ⟨k, rfl⟩ : ∃ k, j = 16 + k := ⟨j - 16, by omega⟩
    exact List.mem_of_getElem? (nf_el6_16 k (by omega))
  by_cases h32 : j < 43
  · obtain ⟨k, rfl⟩ : ∃ k, j = 32 + k := ⟨j - 32, by omega⟩
    exact List.mem_of_getElem? (nf_el6_32 k (by omega))
  omega
theorem nf_el : ∀ i, i < 7 → ∀ j, j < zSL.getD i 0 → Cond.eq (.elem (.field (zTM i) "java/lang/String" "value" "[B") (.int (Int32.ofNat j))) (.int ((zSB.getD i []).getD j 0)) ∈ zNF := fun i hi => match i, hi with
  | 0, _ => nf_el0
  | 1, _ => nf_el1
  | 2, _ => nf_el2
  | 3, _ => nf_el3
  | 4, _ => nf_el4
  | 5, _ => nf_el5
  | 6, _ => nf_el6
  | k + 7, h => absurd h (by omega)
theorem nf_ne0_1 : Cond.not (Cond.eq (zTM 0) (zTM 1)) ∈ zNF := List.mem_of_getElem? (i := 193) (by decide +kernel)
theorem nf_ne0_2 : Cond.not (Cond.eq (zTM 0) (zTM 2)) ∈ zNF := List.mem_of_getElem? (i := 205) (by decide +kernel)
theorem nf_ne0_3 : Cond.not (Cond.eq (zTM 0) (zTM 3)) ∈ zNF := List.mem_of_getElem? (i := 217) (by decide +kernel)
theorem nf_ne0_4 : Cond.not (Cond.eq (zTM 0) (zTM 4)) ∈ zNF := List.mem_of_getElem? (i := 230) (by decide +kernel)
theorem nf_ne0_5 : Cond.not (Cond.eq (zTM 0) (zTM 5)) ∈ zNF := List.mem_of_getElem? (i := 277) (by decide +kernel)
theorem nf_ne0_6 : Cond.not (Cond.eq (zTM 0) (zTM 6)) ∈ zNF := List.mem_of_getElem? (i := 329) (by decide +kernel)
theorem nf_ne1_2 : Cond.not (Cond.eq (zTM 1) (zTM 2)) ∈ zNF := List.mem_of_getElem? (i := 206) (by decide +kernel)
theorem nf_ne1_3 : Cond.not (Cond.eq (zTM 1) (zTM 3)) ∈ zNF := List.mem_of_getElem? (i := 218) (by decide +kernel)
theorem nf_ne1_4 : Cond.not (Cond.eq (zTM 1) (zTM 4)) ∈ zNF := List.mem_of_getElem? (i := 231) (by decide +kernel)
theorem nf_ne1_5 : Cond.not (Cond.eq (zTM 1) (zTM 5)) ∈ zNF := List.mem_of_getElem? (i := 278) (by decide +kernel)
theorem nf_ne1_6 : Cond.not (Cond.eq (zTM 1) (zTM 6)) ∈ zNF := List.mem_of_getElem? (i := 330) (by decide +kernel)
theorem nf_ne2_3 : Cond.not (Cond.eq (zTM 2) (zTM 3)) ∈ zNF := List.mem_of_getElem? (i := 219) (by decide +kernel)
theorem nf_ne2_4 : Cond.not (Cond.eq (zTM 2) (zTM 4)) ∈ zNF := List.mem_of_getElem? (i := 232) (by decide +kernel)
theorem nf_ne2_5 : Cond.not (Cond.eq (zTM 2) (zTM 5)) ∈ zNF := List.mem_of_getElem? (i := 279) (by decide +kernel)
theorem nf_ne2_6 : Cond.not (Cond.eq (zTM 2) (zTM 6)) ∈ zNF := List.mem_of_getElem? (i := 331) (by decide +kernel)
theorem nf_ne3_4 : Cond.not (Cond.eq (zTM 3) (zTM 4)) ∈ zNF := List.mem_of_getElem? (i := 233) (by decide +kernel)
theorem nf_ne3_5 : Cond.not (Cond.eq (zTM 3) (zTM 5)) ∈ zNF := List.mem_of_getElem? (i := 280) (by decide +kernel)
theorem nf_ne3_6 : Cond.not (Cond.eq (zTM 3) (zTM 6)) ∈ zNF := List.mem_of_getElem? (i := 332) (by decide +kernel)
theorem nf_ne4_5 : Cond.not (Cond.eq (zTM 4) (zTM 5)) ∈ zNF := List.mem_of_getElem? (i := 281) (by decide +kernel)
theorem nf_ne4_6 : Cond.not (Cond.eq (zTM 4) (zTM 6)) ∈ zNF := List.mem_of_getElem? (i := 333) (by decide +kernel)
theorem nf_ne5_6 : Cond.not (Cond.eq (zTM 5) (zTM 6)) ∈ zNF := List.mem_of_getElem? (i := 334) (by decide +kernel)
theorem nf_ne : ∀ i j, i < 7 → j < 7 → i ≠ j → Cond.not (Cond.eq (zTM i) (zTM j)) ∈ zNF ∨ Cond.not (Cond.eq (zTM j) (zTM i)) ∈ zNF := fun i j hi hj hne => match i, j, hi, hj, hne with
  | 0, 0, _, _, h => absurd rfl h
  | 0, 1, _, _, _ => Or.inl nf_ne0_1
  | 0, 2, _, _, _ => Or.inl nf_ne0_2
  | 0, 3, _, _, _ => Or.inl nf_ne0_3
  | 0, 4, _, _, _ => Or.inl nf_ne0_4
  | 0, 5, _, _, _ => Or.inl nf_ne0_5
  | 0, 6, _, _, _ => Or.inl nf_ne0_6
  | 1, 0, _, _, _ => Or.inr nf_ne0_1
  | 1, 1, _, _, h => absurd rfl h
  | 1, 2, _, _, _ => Or.inl nf_ne1_2
  | 1, 3, _, _, _ => Or.inl nf_ne1_3
  | 1, 4, _, _, _ => Or.inl nf_ne1_4
  | 1, 5, _, _, _ => Or.inl nf_ne1_5
  | 1, 6, _, _, _ => Or.inl nf_ne1_6
  | 2, 0, _, _, _ => Or.inr nf_ne0_2
  | 2, 1, _, _, _ => Or.inr nf_ne1_2
  | 2, 2, _, _, h => absurd rfl h
  | 2, 3, _, _, _ => Or.inl nf_ne2_3
  | 2, 4, _, _, _ => Or.inl nf_ne2_4
  | 2, 5, _, _, _ => Or.inl nf_ne2_5
  | 2, 6, _, _, _ => Or.inl nf_ne2_6
  | 3, 0, _, _, _ => Or.inr nf_ne0_3
  | 3, 1, _, _, _ => Or.inr nf_ne1_3
  | 3, 2, _, _, _ => Or.inr nf_ne2_3
  | 3, 3, _, _, h => absurd rfl h
  | 3, 4, _, _, _ => Or.inl nf_ne3_4
  | 3, 5, _, _, _ => Or.inl nf_ne3_5
  | 3, 6, _, _, _ => Or.inl nf_ne3_6
  | 4, 0, _, _, _ => Or.inr nf_ne0_4
  | 4, 1, _, _, _ => Or.inr nf_ne1_4
  | 4, 2, _, _, _ => Or.inr nf_ne2_4
  | 4, 3, _, _, _ => Or.inr nf_ne3_4
  | 4, 4, _, _, h => absurd rfl h
  | 4, 5, _, _, _ => Or.inl nf_ne4_5
  | 4, 6, _, _, _ => Or.inl nf_ne4_6
  | 5, 0, _, _, _ => Or.inr nf_ne0_5
  | 5, 1, _, _, _ => Or.inr nf_ne1_5
  | 5, 2, _, _, _ => Or.inr nf_ne2_5
  | 5, 3, _, _, _ => Or.inr nf_ne3_5
  | 5, 4, _, _, _ => Or.inr nf_ne4_5
  | 5, 5, _, _, h => absurd rfl h
  | 5, 6, _, _, _ => Or.inl nf_ne5_6
  | 6, 0, _, _, _ => Or.inr nf_ne0_6
  | 6, 1, _, _, _ => Or.inr nf_ne1_6
  | 6, 2, _, _, _ => Or.inr nf_ne2_6
  | 6, 3, _, _, _ => Or.inr nf_ne3_6
  | 6, 4, _, _, _ => Or.inr nf_ne4_6
  | 6, 5, _, _, _ => Or.inr nf_ne5_6
  | 6, 6, _, _, h => absurd rfl h
  | k + 7, _, h, _, _ => absurd h (by omega)
  | _, k + 7, _, h, _ => absurd h (by omega)
theorem nf_cs : Cond.eq (.static "java/lang/String" "COMPACT_STRINGS" "Z") (.int 1) ∈ zNF := List.mem_of_getElem? (i := 4) (by decide +kernel)
theorem nf_us : Cond.isRef (.static "java/lang/Throwable" "UNASSIGNED_STACK" "[Ljava/lang/StackTraceElement;") ∈ zNF := List.mem_of_getElem? (i := 9) (by decide +kernel)
theorem nf_ss : Cond.isRef (.static "java/lang/Throwable" "SUPPRESSED_SENTINEL" "Ljava/util/List;") ∈ zNF := List.mem_of_getElem? (i := 10) (by decide +kernel)
theorem nf_sf : Cond.isRef (.static "jdk/internal/util/Preconditions" "SIOOBE_FORMATTER" "Ljava/util/function/BiFunction;") ∈ zNF := List.mem_of_getElem? (i := 5) (by decide +kernel)
