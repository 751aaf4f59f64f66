/-! WHAT STANDS BESIDE THE POOL AND IS NEVER WRITTEN: String constants (the first 14 with their bytes), tables, the cache of Integers, the empty Object[], words on nest mates, the script -/
def sK : List (String × Nat × String) := [
  ("DotRuns$Parser", 45, "wide"), ("DotRuns$Parser", 88, "set"), ("DotRuns$Parser", 93, "loss"), ("DotRuns$Parser", 98, "line"), ("DotRuns$Parser", 100, "alone"), ("DotRuns$Parser", 102, "above"), ("DotRuns$Parser", 158, "p"), ("DotRuns$Parser", 163, "v"), ("DotRuns$Parser", 168, "h"), ("DotRunsLaw", 258, "wide "), ("DotRunsLaw", 266, ";"), ("DotRunsLaw", 275, "line "), ("DotRunsLaw", 281, "set "), ("DotRunsLaw", 283, "loss "), ("DotRuns", 346, "there is no such line"), ("DotRuns", 352, "the line has no such dots"), ("DotRuns", 356, "there is no such colour"), ("DotRuns", 246, "a line is not moved so far"), ("DotRuns", 248, "there is no such place"), ("DotRuns", 354, "the page is full"), ("DotRuns", 102, "there is no such number"), ("DotRuns", 348, "there is no such line or position"), ("DotRuns", 350, "there is no such line or place"), ("DotRuns", 78, "the text has no such length"), ("DotRuns", 67, "the text would be too long")]
def sW : List (List Int32) := [[119, 105, 100, 101], [115, 101, 116], [108, 111, 115, 115], [108, 105, 110, 101], [97, 108, 111, 110, 101], [97, 98, 111, 118, 101], [112], [118], [104], [119, 105, 100, 101, 32], [59], [108, 105, 110, 101, 32], [115, 101, 116, 32], [108, 111, 115, 115, 32]]
def sS : List (String × List Int32) := [("FIRST_SETTINGS", [4, 0, 0, 0, 8, 16]), ("LEAST_SETTINGS", [1, 0, 0, 0, 0, 0]), ("MOST_SETTINGS", [8, 1, 1, 9, 99, 99])]
def nMw : List (String × Nat × MethodName × String) := [
  ("DotRuns$Parser", 34, ⟨"DotRuns$Reading", "<init>", "()V"⟩, "DotRuns"), ("DotRuns$Code", 33, ⟨"DotRuns$Reading", "<init>", "()V"⟩, "DotRuns"), ("DotRuns$Page", 36, ⟨"DotRuns", "allBlack", "(I)J"⟩, "DotRuns"), ("DotRuns$Parser", 140, ⟨"DotRuns", "span", "(II)J"⟩, "DotRuns"), ("DotRuns$Reading", 33, ⟨"DotRuns", "changesOf", "(JI)J"⟩, "DotRuns"), ("DotRuns$Reading", 44, ⟨"DotRuns", "firstBehind", "(JII)I"⟩, "DotRuns"), ("DotRuns$Reading", 52, ⟨"DotRuns", "span", "(II)J"⟩, "DotRuns"), ("DotRunsLaw", 257, ⟨"DotRunsLaw$Page", "<init>", "()V"⟩, "DotRunsLaw"), ("DotRunsLaw$Told", 17, ⟨"DotRunsLaw", "pick", "([II)I"⟩, "DotRunsLaw"), ("DotRuns$Code", 58, ⟨"DotRuns", "allBlack", "(I)J"⟩, "DotRuns"), ("DotRuns$Code", 65, ⟨"DotRuns", "firstBehind", "(JII)I"⟩, "DotRuns"), ("DotRuns$Code", 83, ⟨"DotRuns", "numberBits", "(I)I"⟩, "DotRuns"), ("DotRunsLaw$Page", 61, ⟨"DotRunsLaw", "code", "([Z[Z)Ljava/util/ArrayList;"⟩, "DotRunsLaw"), ("DotRunsLaw$Page", 67, ⟨"DotRunsLaw", "alone", "([Z)Ljava/util/ArrayList;"⟩, "DotRunsLaw"), ("DotRunsLaw$Page", 71, ⟨"DotRunsLaw", "bits", "(Ljava/util/ArrayList;)I"⟩, "DotRunsLaw"), ("DotRunsLaw$Page", 79, ⟨"DotRunsLaw", "modeBits", "(Ljava/util/ArrayList;)I"⟩, "DotRunsLaw"), ("DotRunsLaw$Mode", 22, ⟨"DotRunsLaw", "bitsOf", "(I)I"⟩, "DotRunsLaw"), ("DotRunsLaw$Page", 123, ⟨"DotRunsLaw", "read", "(Ljava/util/ArrayList;[Z)[Z"⟩, "DotRunsLaw"), ("DotRuns$Sending", 74, ⟨"DotRuns", "aloneBits", "(JI)I"⟩, "DotRuns"), ("DotRuns$Sending", 118, ⟨"DotRuns", "isEvery", "(II)Z"⟩, "DotRuns")]
def nFw : List (String × Nat × String × String × String × String) := [("DotRuns$Page", 29, "DotRuns", "FIRST_SETTINGS", "[I", "DotRuns"), ("DotRuns$Parser", 116, "DotRuns", "LEAST_SETTINGS", "[I", "DotRuns"), ("DotRuns$Parser", 120, "DotRuns", "MOST_SETTINGS", "[I", "DotRuns"), ("java/util/ArrayList$Itr", 28, "java/util/ArrayList", "size", "I", "java/util/ArrayList"), ("DotRunsLaw", 98, "DotRunsLaw$Page", "wide", "I", "DotRunsLaw"), ("DotRunsLaw", 101, "DotRunsLaw$Page", "set", "[I", "DotRunsLaw"), ("DotRunsLaw", 135, "DotRunsLaw$Page", "loss", "[I", "DotRunsLaw"), ("DotRunsLaw", 84, "DotRunsLaw$Page", "rows", "Ljava/util/ArrayList;", "DotRunsLaw"), ("DotRunsLaw", 201, "DotRunsLaw$Page", "got", "Ljava/util/ArrayList;", "DotRunsLaw"), ("DotRunsLaw", 186, "DotRunsLaw$Page", "states", "[I", "DotRunsLaw"), ("DotRunsLaw", 162, "DotRunsLaw$Page", "times", "[I", "DotRunsLaw"), ("DotRunsLaw", 189, "DotRunsLaw$Page", "cost", "[I", "DotRunsLaw"), ("DotRunsLaw", 195, "DotRunsLaw$Page", "backs", "[I", "DotRunsLaw"), ("DotRunsLaw", 168, "DotRunsLaw$Page", "bits", "I", "DotRunsLaw"), ("DotRunsLaw", 170, "DotRunsLaw$Page", "stepped", "I", "DotRunsLaw"), ("DotRunsLaw", 176, "DotRunsLaw$Page", "lost", "I", "DotRunsLaw"), ("DotRunsLaw", 179, "DotRunsLaw$Page", "unread", "I", "DotRunsLaw"), ("DotRunsLaw", 68, "DotRunsLaw$Mode", "kind", "I", "DotRunsLaw"), ("DotRunsLaw", 72, "DotRunsLaw$Mode", "one", "I", "DotRunsLaw"), ("DotRunsLaw", 75, "DotRunsLaw$Mode", "two", "I", "DotRunsLaw"), ("DotRunsLaw", 145, "DotRunsLaw$Mode", "place", "I", "DotRunsLaw")]
def pcN : String := "jdk/internal/util/Preconditions"
def pcD : String := "Ljava/util/function/BiFunction;"
def xcN : List String := ["java/lang/IllegalArgumentException", "java/lang/IllegalStateException", "java/lang/IndexOutOfBoundsException"]
def ycN : List String := ["java/lang/RuntimeException", "java/lang/Exception", "java/lang/Throwable"]
def inN : String := "java/lang/Integer"
def itN : String := "java/util/ArrayList$Itr"
/-- castable pairs that the law needs -/
def caN : List (String × String) := [("[Z", "java/lang/Object"), ("DotRunsLaw$Mode", "java/lang/Object"), ("java/lang/Integer", "java/lang/Object"), ("[Z", "java/lang/Cloneable"), ("[I", "java/lang/Cloneable"), ("[B", "java/lang/Cloneable"), ("java/util/ArrayList$Itr", "java/util/Iterator")]
def dgT (j : Nat) (k : Nat) : Int32 := if j = 0 then Int32.ofNat (48 + k % 10) else Int32.ofNat (48 + k / 10)
def dgN (j : Nat) : String := if j = 0 then "DigitOnes" else "DigitTens"
def objN : String := "java/lang/Object"
def gcY : MethodName := ⟨"java/lang/Object", "getClass", "()Ljava/lang/Class;"⟩
def itF : List (MethodName × MethodName) := [(⟨"java/util/Iterator", "hasNext", "()Z"⟩, ⟨"java/util/ArrayList$Itr", "hasNext", "()Z"⟩), (⟨"java/util/Iterator", "next", "()Ljava/lang/Object;"⟩, ⟨"java/util/ArrayList$Itr", "next", "()Ljava/lang/Object;"⟩)]
/-- what the law's side needs of the heap and the tables -/
def CsL (ad : Nat → Nat) (A : Nat → Prop) (U : State) (X : Nat × (Nat → Int32)) : Prop :=
  (∀ j, j < 2 → va_Z inN (dgN j) "[B" (.ref (ad (SB + 103 + j))) A U U.heap ∧ va_T .byte (ad (SB + 103 + j)) 100 (fun k => .int (dgT j k)) A U U.heap) ∧
  va_Z "java/lang/Integer$IntegerCache" "high" "I" (.int 127) A U U.heap ∧
  (va_Z "java/lang/Integer$IntegerCache" "cache" "[Ljava/lang/Integer;" (.ref (ad (SB + 501))) A U U.heap ∧ va_T (.object inN) (ad (SB + 501)) 256 (fun k => .ref (ad (IB + k))) A U U.heap ∧ vb_C (fun k => ad (IB + k)) A U U.heap) ∧
  (va_Z "java/util/ArrayList" "DEFAULTCAPACITY_EMPTY_ELEMENTDATA" "[Ljava/lang/Object;" (.ref (ad EB)) A U U.heap ∧ va_T (.object objN) (ad EB) 0 (fun _ => .null) A U U.heap) ∧
  va_Mi "[Ljava/lang/Object;" (ad MB) U ∧ va_AO objN U ∧
  (∀ q ∈ caN, va_Nw (.castable q.1 q.2) U) ∧
  (∀ q ∈ itF, va_Fw itN q.1 q.2 U) ∧
  va_T .int (ad (SB + 400)) X.1 (fun k => .int (X.2 k)) A U U.heap
theorem CsL.go {ad ad' : Nat → Nat} {A A' : Nat → Prop} {s U : State} {X : Nat × (Nat → Int32)} (h : CsL ad A s X) (hW : s.WarmedH U.vm) (hk : ∀ a : Nat, a < s.heap.size → ¬ A a → U.heap[a]? = s.heap[a]?) (hA : ∀ q, A' q → A q) (had : ∀ x, SB ≤ x → ad' x = ad x) : CsL ad' A' U X := by
  obtain ⟨h1, h2, ⟨h3, h4, h5⟩, ⟨h6, h7⟩, h8, h9, h10, h11, h12⟩ := h
  have hvm := hW.alike
  have e1 : EB = SB + 500 := rfl
  have e2 : IB = SB + 1000 := rfl
  have e3 : MB = SB + 600 := rfl
  have hb : (fun k => ad' (IB + k)) = fun k => ad (IB + k) := by funext k; exact had _ (by omega)
  have hb2 : (fun k => Value.ref (ad' (IB + k))) = fun k => Value.ref (ad (IB + k)) := by funext k; rw [had _ (by omega)]
  refine ⟨fun j hj => ?_, ((va_Z.moved hvm h2).kept hk).narrow hA, ⟨?_, ?_, ?_⟩, ⟨?_, ?_⟩, ?_, va_AO.moved hvm h9, fun q hq => va_Nw.warmC hW (h10 q hq), fun q hq => va_Fw.moved ?_ hvm (h11 q hq), ?_⟩
  · rw [had _ (by omega)]
    exact ⟨((va_Z.moved hvm (h1 j hj).1).kept hk).narrow hA, ((va_T.moved hvm (h1 j hj).2).kept hk).narrow hA⟩
  · rw [had _ (by omega)]; exact ((va_Z.moved hvm h3).kept hk).narrow hA
  · rw [had _ (by omega), hb2]; exact ((va_T.moved hvm h4).kept hk).narrow hA
  · rw [hb]; exact ((vb_C.moved hvm h5).kept hk).narrow hA
  · rw [had _ (by omega)]; exact ((va_Z.moved hvm h6).kept hk).narrow hA
  · rw [had _ (by omega)]; exact ((va_T.moved hvm h7).kept hk).narrow hA
  · rw [had _ (by omega)]; exact va_Mi.moved hvm h8
  · unfold itF at hq
    simp only [List.mem_cons, List.not_mem_nil, or_false] at hq
    rcases hq with rfl | rfl <;> exact ⟨by decide, by decide⟩
  · rw [had _ (by omega)]; exact ((va_T.moved hvm h12).kept hk).narrow hA
def Cst (ad : Nat → Nat) (A : Nat → Prop) (U : State) (X : Nat × (Nat → Int32)) : Prop :=
  (∀ i q, sK[i]? = some q → vk_R q.1 q.2.1 q.2.2 (ad (SB + i)) U) ∧
  (∀ i b, sW[i]? = some b → va_O "java/lang/String" (ad (SB + i)) A U U.heap ∧ va_OF "java/lang/String" "coder" "B" (.int 0) (ad (SB + i)) A U U.heap ∧ va_OF "java/lang/String" "value" "[B" (.ref (ad (SB + 200 + i))) (ad (SB + i)) A U U.heap ∧ va_T .byte (ad (SB + 200 + i)) b.length (fun j => .int (b.getD j 0)) A U U.heap) ∧
  (∀ j q, sS[j]? = some q → va_Z "DotRuns" q.1 "[I" (.ref (ad (SB + 100 + j))) A U U.heap ∧ va_T .int (ad (SB + 100 + j)) 6 (fun k => .int (q.2.getD k 0)) A U U.heap) ∧
  va_Z "java/lang/String" "COMPACT_STRINGS" "Z" (.int 1) A U U.heap ∧
  (va_Z pcN "SIOOBE_FORMATTER" pcD .null A U U.heap ∨ va_Z pcN "SIOOBE_FORMATTER" pcD (.ref (ad (SB + 300))) A U U.heap) ∧
  vx_Zq Bundle.tN "UNASSIGNED_STACK" Bundle.steD A U U.heap ∧ vx_Zq Bundle.tN "SUPPRESSED_SENTINEL" Bundle.listD A U U.heap ∧
  va_AO "DotRuns$Page" U ∧
  (∀ q ∈ nMw, va_Nw (.methodLinkNest q.1 q.2.1 q.2.2.1 q.2.2.2) U) ∧
  (∀ q ∈ nFw, va_Nw (.fieldLinkNest q.1 q.2.1 q.2.2.1 q.2.2.2.1 q.2.2.2.2.1 q.2.2.2.2.2) U) ∧
  (∀ q ∈ xcN, va_Nw (.castable q q) U) ∧
  (∀ q ∈ ycN, va_Nw (.declares (Bundle.initS q)) U) ∧ va_Nw (.declares gcY) U ∧ CsL ad A U X
theorem Cst.go {ad ad' : Nat → Nat} {A A' : Nat → Prop} {s U : State} {X : Nat × (Nat → Int32)} (h : Cst ad A s X) (hW : s.WarmedH U.vm) (hk : ∀ a : Nat, a < s.heap.size → ¬ A a → U.heap[a]? = s.heap[a]?) (hA : ∀ q, A' q → A q) (had : ∀ x, SB ≤ x → ad' x = ad x) : Cst ad' A' U X := by
  obtain ⟨h1, h2, h3, h4, h5, h6, h7, h8, h9, h10, h11, h12, h13, h14⟩ := h
  have hvm := hW.alike
  refine ⟨fun i q hq => ?_, fun i b hb => ?_, fun j q hq => ?_, ?_, ?_, ?_, ?_, ?_, fun q hq => ?_, fun q hq => ?_, fun q hq => ?_, fun q hq => ?_, va_Nw.warmD hW h13, h14.go hW hk hA had⟩
  · rw [had _ (by omega)]
    exact vk_R.warm hW (h1 i q hq)
  · obtain ⟨a1, a2, a3, a4⟩ := h2 i b hb
    rw [had (SB + i) (by omega), had (SB + 200 + i) (by omega)]
    exact ⟨((va_O.moved hvm a1).kept hk).narrow hA, ((va_OF.moved hvm a2).kept hk).narrow hA, ((va_OF.moved hvm a3).kept hk).narrow hA, ((va_T.moved hvm a4).kept hk).narrow hA⟩
  · obtain ⟨a1, a2⟩ := h3 j q hq
    rw [had (SB + 100 + j) (by omega)]
    exact ⟨((va_Z.moved hvm a1).kept hk).narrow hA, ((va_T.moved hvm a2).kept hk).narrow hA⟩
  · exact ((va_Z.moved hvm h4).kept hk).narrow hA
  · rw [had (SB + 300) (by omega)]
    rcases h5 with h5 | h5
    · exact Or.inl (((va_Z.moved hvm h5).kept hk).narrow hA)
    · exact Or.inr (((va_Z.moved hvm h5).kept hk).narrow hA)
  · exact ((vx_Zq.moved hvm h6).kept hk).narrow hA
  · exact ((vx_Zq.moved hvm h7).kept hk).narrow hA
  · exact va_AO.moved hvm h8
  · exact va_Nw.warmM hW (h9 q hq)
  · exact va_Nw.warmF hW (h10 q hq)
  · exact va_Nw.warmC hW (h11 q hq)
  · exact va_Nw.warmD hW (h12 q hq)
/-! THE WORDS: one list for all methods -/
/-- private methods of AbstractStringBuilder, as a StringBuilder's -/
def pvN : List MethodName := [⟨"java/lang/AbstractStringBuilder", "ensureCapacityInternal", "(I)V"⟩, ⟨"java/lang/AbstractStringBuilder", "newCapacity", "(I)I"⟩, ⟨"java/lang/AbstractStringBuilder", "putStringAt", "(ILjava/lang/String;)V"⟩, ⟨"java/lang/AbstractStringBuilder", "inflateIfNeededFor", "(Ljava/lang/String;)V"⟩]
def exW : List Cond := pvN.map (fun y => Cond.selects "java/lang/StringBuilder" y y)
def TW : List Cond := (lw_tbl ++ exW).filter goodWord
theorem tw_x {w : Cond} (h : w ∈ exW) (hg : goodWord w = true) : w ∈ TW := List.mem_filter.mpr ⟨List.mem_append_right _ h, hg⟩
theorem tw_of {w : Cond} (h : w ∈ lw_tbl) (hg : goodWord w = true) : w ∈ TW := List.mem_filter.mpr ⟨List.mem_append_left _ h, hg⟩
theorem tw_t {w : Cond} (i : Nat) (h : tables_1[i]? = some w) (hg : goodWord w = true) : w ∈ TW := tw_of (List.mem_append_right _ (List.mem_of_getElem? h)) hg
theorem tw_p {w : Cond} (i : Nat) (h : (k2_sels lw_privs)[i]? = some w) (hg : goodWord w = true) : w ∈ TW := tw_of (List.mem_append_left _ (List.mem_of_getElem? h)) hg
theorem tw_good {w : Cond} (h : w ∈ TW) : (w.onTables && w.keeps) = true ∨ ∃ ty, w = .arrayClass ty := good_of_word (List.mem_filter.mp h).2
def wsY (y : MethodName) (b : ByteArray) (nL : Nat) (ret : Option FieldType) : List Cond := Cond.code y b nL ret :: TW
theorem tw_y {y : MethodName} {b : ByteArray} {nL : Nat} {ret : Option FieldType} (h : Cond.code y b nL ret ∈ TW) : GoodIn TW (wsY y b nL ret) := by
  intro w hw
  rcases List.mem_cons.mp hw with rfl | hw
  · exact ⟨h, tw_good h⟩
  · exact ⟨hw, tw_good hw⟩
theorem tw_V {own C : String} {index : Nat} {y : MethodName} {b : ByteArray} {nL : Nat} {ret : Option FieldType} (h1 : Cond.methodLink own index y ∈ TW) (h2 : Cond.instanceMethod y ∈ TW) (h3 : Cond.selects C y y ∈ TW) (h4 : Cond.initialized C ∈ TW) (h5 : Cond.code y b nL ret ∈ TW) : GoodIn TW (wsV own index C y (wsY y b nL ret)) := by
  intro w hw
  unfold wsV at hw
  rcases List.mem_append.mp hw with hw | hw
  · simp only [List.mem_cons, List.not_mem_nil, or_false] at hw
    rcases hw with rfl | rfl | rfl | rfl
    · exact ⟨h1, tw_good h1⟩
    · exact ⟨h2, tw_good h2⟩
    · exact ⟨h3, tw_good h3⟩
    · exact ⟨h4, tw_good h4⟩
  · exact tw_y h5 w hw
theorem tw_S {own : String} {index : Nat} {y : MethodName} {b : ByteArray} {nL : Nat} {ret : Option FieldType} (h1 : Cond.methodLink own index y ∈ TW) (h2 : Cond.static y ∈ TW) (h4 : Cond.initialized y.cls ∈ TW) (h5 : Cond.code y b nL ret ∈ TW) : GoodIn TW (va_wsS own index y (wsY y b nL ret)) := by
  intro w hw
  unfold va_wsS at hw
  rcases List.mem_append.mp hw with hw | hw
  · simp only [List.mem_cons, List.not_mem_nil, or_false] at hw
    rcases hw with rfl | rfl | rfl
    · exact ⟨h1, tw_good h1⟩
    · exact ⟨h2, tw_good h2⟩
    · exact ⟨h4, tw_good h4⟩
  · exact tw_y h5 w hw
/-- a class of the pool: its row of vwCl, its words, its names -/
def ClOk (ci : Nat) (C : String) (T : u_T) (N : Nat) (ty : Nat → FieldType) : Prop := vwCl[kno ci]? = some (C, T, N) ∧ (∀ w ∈ u_ws C T N, w ∈ TW) ∧ (∀ k, k < N → parseFieldDescriptor (T k).2.2.1 = some (ty k)) ∧ (∀ a, a < N → ∀ b, b < N → a ≠ b → (T a).2.1 ≠ (T b).2.1) ∧ nsl ci = N ∧ obK ci
theorem uw_of {L : List Cond} (h : L.all (fun w => decide (w ∈ lw_tbl) && goodWord w) = true) : ∀ w ∈ L, w ∈ TW := fun w hw => by
  have := List.all_eq_true.mp h w hw
  rw [Bool.and_eq_true, decide_eq_true_eq] at this
  exact tw_of this.1 this.2
theorem clX0 : ClOk 0 RX0 TX0 7 tyX0 := ⟨rfl, uw_of (by decide +kernel), tyX0_ok, nmX0, rfl, by decide⟩
theorem clX1 : ClOk 1 RX1 TX1 3 tyX1 := ⟨rfl, uw_of (by decide +kernel), tyX1_ok, nmX1, rfl, by decide⟩
theorem clX2 : ClOk 2 RX2 TX2 5 tyX2 := ⟨rfl, uw_of (by decide +kernel), tyX2_ok, nmX2, rfl, by decide⟩
theorem clX3 : ClOk 3 RX3 TX3 5 tyX3 := ⟨rfl, uw_of (by decide +kernel), tyX3_ok, nmX3, rfl, by decide⟩
theorem clX4 : ClOk 4 RX4 TX4 8 tyX4 := ⟨rfl, uw_of (by decide +kernel), tyX4_ok, nmX4, rfl, by decide⟩
theorem clX5 : ClOk 5 RX5 TX5 16 tyX5 := ⟨rfl, uw_of (by decide +kernel), tyX5_ok, nmX5, rfl, by decide⟩
theorem clX6 : ClOk 6 RX6 TX6 5 tyX6 := ⟨rfl, uw_of (by decide +kernel), tyX6_ok, nmX6, rfl, by decide⟩
theorem clX7 : ClOk 7 RX7 TX7 8 tyX7 := ⟨rfl, uw_of (by decide +kernel), tyX7_ok, nmX7, rfl, by decide⟩
theorem clX8 : ClOk 53 RX8 TX8 4 tyX8 := ⟨rfl, uw_of (by decide +kernel), tyX8_ok, nmX8, rfl, by decide⟩
theorem clX9 : ClOk 54 RX9 TX9 13 tyX9 := ⟨rfl, uw_of (by decide +kernel), tyX9_ok, nmX9, rfl, by decide⟩
theorem clX10 : ClOk 55 RX10 TX10 2 tyX10 := ⟨rfl, uw_of (by decide +kernel), tyX10_ok, nmX10, rfl, by decide⟩
theorem clJ0 : ClOk 40 RJ0 TJ0 4 tyJ0 := ⟨rfl, uw_of (by decide +kernel), tyJ0_ok, nmJ0, rfl, by decide⟩
theorem clJ4 : ClOk 41 RJ4 TJ4 4 tyJ4 := ⟨rfl, uw_of (by decide +kernel), tyJ4_ok, nmJ4, rfl, by decide⟩
theorem clJx35411 : ClOk 43 RJx35411 TJx35411 4 tyJx35411 := ⟨rfl, uw_of (by decide +kernel), tyJx35411_ok, nmJx35411, rfl, by decide⟩
theorem clJx4a65c : ClOk 44 RJx4a65c TJx4a65c 3 tyJx4a65c := ⟨rfl, uw_of (by decide +kernel), tyJx4a65c_ok, nmJx4a65c, rfl, by decide⟩
