/-! THE LAW'S WRAPPERS: handlers, programs, contracts -/
theorem hCt_in {hs : List (Nat × Int32)} {k : Nat} {v : Int32} (h : hCt hs k = some v) : (k, v) ∈ hs := by
  unfold hCt at h
  cases hf : hs.find? (fun q => q.1 == k) with
  | none => rw [hf] at h; cases h
  | some q =>
    rw [hf] at h
    have e1 : q.2 = v := Option.some.inj h
    have e2 := List.find?_some hf
    have e2 : q.1 = k := by simpa using e2
    have e3 := List.mem_of_find?_eq_some hf
    rw [← e1, ← e2]; exact e3
section HdRows
variable {κ : Cx} {own : String} {cc : ByteArray} {nL fr mc ms lc pc k i ln : Nat} {v : Int32} {w : Int} {q q2 : Nat × Nat × Nat × Nat} {t : List (Nat × Nat × Nat × Nat)}
theorem Hd_1 (hc : Jc κ own cc nL fr mc ms lc) (ht : κ.1.2.2.2.2.2.2.2.2.2.exceptionTable.toList = tableOf (q :: t)) (hv : covers ⟨q.1, q.2.1, q.2.2.1, q.2.2.2⟩ pc = true) (h0 : q.2.2.2 ≠ 0) (hl : Cond.classLink own q.2.2.2 (exN k) ∈ TW) (ha : (decode cc q.2.2.1 = .ok (.astore i, 2) ∧ ln = 2) ∨ (∃ k0 : Fin 4, decode cc q.2.2.1 = .ok (.astore_n k0, 1) ∧ (k0 : Nat) = i ∧ ln = 1)) (hi : i < nL) (hd : decode cc (q.2.2.1 + ln) = .ok (.iconst w, 1)) (hw : Int32.ofInt w = v) (he : decode cc (q.2.2.1 + ln + 1) = .ok (.ireturn, 1)) : HdOk κ own cc nL pc k v := by
  obtain ⟨⟨p, l9, e, R, s, m, args, below, meth, c⟩, ⟨D, g, A, Q⟩, M0, ad0⟩ := κ
  obtain ⟨hx, hb, hml, hown, hts, hK, hA, hst9, hlk, hR⟩ := hc
  exact ⟨[], ⟨q.1, q.2.1, q.2.2.1, q.2.2.2⟩, tableOf t, ht, (fun z hz => nomatch hz), hv, h0, hts _ hl, i, ln, w, ha, hi, hd, hw, he⟩
theorem Hd_2 (hc : Jc κ own cc nL fr mc ms lc) (hN : NcK κ) {k0 : Nat} (hn : ∀ s, NcA s → va_Nc (exN k) (exN k0) s) (ht : κ.1.2.2.2.2.2.2.2.2.2.exceptionTable.toList = tableOf (q2 :: q :: t)) (h02 : q2.2.2.2 ≠ 0) (hl2 : Cond.classLink own q2.2.2.2 (exN k0) ∈ TW) (hv : covers ⟨q.1, q.2.1, q.2.2.1, q.2.2.2⟩ pc = true) (h0 : q.2.2.2 ≠ 0) (hl : Cond.classLink own q.2.2.2 (exN k) ∈ TW) (ha : (decode cc q.2.2.1 = .ok (.astore i, 2) ∧ ln = 2) ∨ (∃ k0 : Fin 4, decode cc q.2.2.1 = .ok (.astore_n k0, 1) ∧ (k0 : Nat) = i ∧ ln = 1)) (hi : i < nL) (hd : decode cc (q.2.2.1 + ln) = .ok (.iconst w, 1)) (hw : Int32.ofInt w = v) (he : decode cc (q.2.2.1 + ln + 1) = .ok (.ireturn, 1)) : HdOk κ own cc nL pc k v := by
  obtain ⟨⟨p, l9, e, R, s, m, args, below, meth, c⟩, ⟨D, g, A, Q⟩, M0, ad0⟩ := κ
  obtain ⟨hx, hb, hml, hown, hts, hK, hA, hst9, hlk, hR⟩ := hc
  refine ⟨[⟨q2.1, q2.2.1, q2.2.2.1, q2.2.2.2⟩], ⟨q.1, q.2.1, q.2.2.1, q.2.2.2⟩, tableOf t, ht, (fun z hz => ?_), hv, h0, hts _ hl, i, ln, w, ha, hi, hd, hw, he⟩
  rcases List.mem_cons.mp hz with rfl | hz
  · exact Or.inr ⟨h02, _, hts _ hl2, hn s hN⟩
  · cases hz
end HdRows
theorem J_callVCi {κ : Cx} {own : String} {cc : ByteArray} {nL fr mc ms lc cs ss pc : Nat} {l : List (Option TV)} {st : List TV} {ci N : Nat} {C : String} {T : u_T} {ty : Nat → FieldType} {fin : Int32 → Mm → Prop} (hc : Jc κ own cc nL fr mc ms lc) (he : Ed κ cc mc ms wI .ireturn fin) {hs : List (Nat × Int32)} (hh : ∀ k v, hCt hs k = some v → HdOk κ own cc nL pc k v) (hcl : ClOk ci C T N ty) {h : Nat} {y : MethodName} {b : ByteArray} {nL' : Nat} {ret' : Option FieldType} {fr' mc' ms' lc' index n : Nat} {As : List TV} {st0 : List TV} {Fc : Mm → Option ((Nat ⊕ Int32) × Mm)} (hct : CtX wI y b nL' ret' fr' mc' ms' lc' ((ci, .ref h) :: As) Fc) (hd : decode cc pc = .ok (.invokevirtual index, 3)) (hmo : MOk y n) (hyc : y.cls = C) (hw1 : Cond.methodLink own index y ∈ TW) (hw2 : Cond.instanceMethod y ∈ TW) (hw3 : Cond.selects C y y ∈ TW) (hw4 : Cond.initialized C ∈ TW) (hc5 : Cond.code y b nL' ret' ∈ TW) (hlen : As.length = n) (hr1 : fr' + 1 ≤ fr) (hr2 : 8 + (nL' + 11) + lc' ≤ lc) (hr3 : cs + mc' ≤ mc) (hr4 : ss + ms' ≤ ms) (hs8 : (st.map (fun q => q.2.category)).sum ≤ 8) (hst0 : st0 = As.reverse ++ (ci, .ref h) :: st) {G1 : Int32 → Mm → Option (Int32 × Mm)} (kk : ∀ r, Jg κ (wM κ) nL fin (cs + mc') (ss + ms') (pc + 3) l ((0, .int r) :: st) (G1 r)) : Jg κ (wM κ) nL fin cs ss pc l st0 (bndC Fc hs G1) :=
  J_callVC hc he hh hcl hct hd hmo hyc hw1 hw2 hw3 hw4 hc5 hlen hr1 hr2 hr3 hr4 hs8 hst0 (fun _ _ h => by cases h) kk
theorem J_callVCv {κ : Cx} {own : String} {cc : ByteArray} {nL fr mc ms lc cs ss pc : Nat} {l : List (Option TV)} {st : List TV} {ci N : Nat} {C : String} {T : u_T} {ty : Nat → FieldType} {fin : Int32 → Mm → Prop} (hc : Jc κ own cc nL fr mc ms lc) (he : Ed κ cc mc ms wI .ireturn fin) {hs : List (Nat × Int32)} (hh : ∀ k v, hCt hs k = some v → HdOk κ own cc nL pc k v) (hcl : ClOk ci C T N ty) {h : Nat} {y : MethodName} {b : ByteArray} {nL' : Nat} {ret' : Option FieldType} {fr' mc' ms' lc' index n : Nat} {As : List TV} {st0 : List TV} {Fc : Mm → Option ((Nat ⊕ Unit) × Mm)} (hct : CtX wV y b nL' ret' fr' mc' ms' lc' ((ci, .ref h) :: As) Fc) (hd : decode cc pc = .ok (.invokevirtual index, 3)) (hmo : MOk y n) (hyc : y.cls = C) (hw1 : Cond.methodLink own index y ∈ TW) (hw2 : Cond.instanceMethod y ∈ TW) (hw3 : Cond.selects C y y ∈ TW) (hw4 : Cond.initialized C ∈ TW) (hc5 : Cond.code y b nL' ret' ∈ TW) (hlen : As.length = n) (hr1 : fr' + 1 ≤ fr) (hr2 : 8 + (nL' + 11) + lc' ≤ lc) (hr3 : cs + mc' ≤ mc) (hr4 : ss + ms' ≤ ms) (hs8 : (st.map (fun q => q.2.category)).sum ≤ 8) (hst0 : st0 = As.reverse ++ (ci, .ref h) :: st) {G1 : Unit → Mm → Option (Int32 × Mm)} (kk : ∀ r, Jg κ (wM κ) nL fin (cs + mc') (ss + ms') (pc + 3) l st (G1 r)) : Jg κ (wM κ) nL fin cs ss pc l st0 (bndC Fc hs G1) :=
  J_callVC hc he hh hcl hct hd hmo hyc hw1 hw2 hw3 hw4 hc5 hlen hr1 hr2 hr3 hr4 hs8 hst0 (fun _ _ h => by cases h) kk
theorem dL_appendText_0 : decode cL_appendText 0 = .ok (.aload_n 2, 1) := by decide +kernel
theorem dL_appendText_1 : decode cL_appendText 1 = .ok (.iconst 0, 1) := by decide +kernel
theorem dL_appendText_2 : decode cL_appendText 2 = .ok (.aload_n 0, 1) := by decide +kernel
theorem dL_appendText_3 : decode cL_appendText 3 = .ok (.iload_n 1, 1) := by decide +kernel
theorem dL_appendText_4 : decode cL_appendText 4 = .ok (.invokevirtual 7, 3) := by decide +kernel
theorem dL_appendText_7 : decode cL_appendText 7 = .ok (.i2l, 1) := by decide +kernel
theorem dL_appendText_8 : decode cL_appendText 8 = .ok (.lastore, 1) := by decide +kernel
theorem dL_appendText_9 : decode cL_appendText 9 = .ok (.goto 6, 3) := by decide +kernel
theorem dL_appendText_12 : decode cL_appendText 12 = .ok (.astore_n 3, 1) := by decide +kernel
theorem dL_appendText_13 : decode cL_appendText 13 = .ok (.iconst 1, 1) := by decide +kernel
theorem dL_appendText_14 : decode cL_appendText 14 = .ok (.ireturn, 1) := by decide +kernel
theorem dL_appendText_15 : decode cL_appendText 15 = .ok (.iconst 0, 1) := by decide +kernel
theorem dL_appendText_16 : decode cL_appendText 16 = .ok (.ireturn, 1) := by decide +kernel
theorem dL_truncateText_0 : decode cL_truncateText 0 = .ok (.aload_n 2, 1) := by decide +kernel
theorem dL_truncateText_1 : decode cL_truncateText 1 = .ok (.iconst 0, 1) := by decide +kernel
theorem dL_truncateText_2 : decode cL_truncateText 2 = .ok (.aload_n 0, 1) := by decide +kernel
theorem dL_truncateText_3 : decode cL_truncateText 3 = .ok (.iload_n 1, 1) := by decide +kernel
theorem dL_truncateText_4 : decode cL_truncateText 4 = .ok (.invokevirtual 15, 3) := by decide +kernel
theorem dL_truncateText_7 : decode cL_truncateText 7 = .ok (.i2l, 1) := by decide +kernel
theorem dL_truncateText_8 : decode cL_truncateText 8 = .ok (.lastore, 1) := by decide +kernel
theorem dL_truncateText_9 : decode cL_truncateText 9 = .ok (.goto 6, 3) := by decide +kernel
theorem dL_truncateText_12 : decode cL_truncateText 12 = .ok (.astore_n 3, 1) := by decide +kernel
theorem dL_truncateText_13 : decode cL_truncateText 13 = .ok (.iconst 1, 1) := by decide +kernel
theorem dL_truncateText_14 : decode cL_truncateText 14 = .ok (.ireturn, 1) := by decide +kernel
theorem dL_truncateText_15 : decode cL_truncateText 15 = .ok (.iconst 0, 1) := by decide +kernel
theorem dL_truncateText_16 : decode cL_truncateText 16 = .ok (.ireturn, 1) := by decide +kernel
theorem dL_count_0 : decode cL_count 0 = .ok (.aload_n 2, 1) := by decide +kernel
theorem dL_count_1 : decode cL_count 1 = .ok (.iconst 0, 1) := by decide +kernel
theorem dL_count_2 : decode cL_count 2 = .ok (.aload_n 0, 1) := by decide +kernel
theorem dL_count_3 : decode cL_count 3 = .ok (.iload_n 1, 1) := by decide +kernel
theorem dL_count_4 : decode cL_count 4 = .ok (.invokevirtual 20, 3) := by decide +kernel
theorem dL_count_7 : decode cL_count 7 = .ok (.i2l, 1) := by decide +kernel
theorem dL_count_8 : decode cL_count 8 = .ok (.lastore, 1) := by decide +kernel
theorem dL_count_9 : decode cL_count 9 = .ok (.goto 6, 3) := by decide +kernel
theorem dL_count_12 : decode cL_count 12 = .ok (.astore_n 3, 1) := by decide +kernel
theorem dL_count_13 : decode cL_count 13 = .ok (.iconst 1, 1) := by decide +kernel
theorem dL_count_14 : decode cL_count 14 = .ok (.ireturn, 1) := by decide +kernel
theorem dL_count_15 : decode cL_count 15 = .ok (.iconst 0, 1) := by decide +kernel
theorem dL_count_16 : decode cL_count 16 = .ok (.ireturn, 1) := by decide +kernel
theorem dL_dot_0 : decode cL_dot 0 = .ok (.aload_n 3, 1) := by decide +kernel
theorem dL_dot_1 : decode cL_dot 1 = .ok (.iconst 0, 1) := by decide +kernel
theorem dL_dot_2 : decode cL_dot 2 = .ok (.aload_n 0, 1) := by decide +kernel
theorem dL_dot_3 : decode cL_dot 3 = .ok (.iload_n 1, 1) := by decide +kernel
theorem dL_dot_4 : decode cL_dot 4 = .ok (.iload_n 2, 1) := by decide +kernel
theorem dL_dot_5 : decode cL_dot 5 = .ok (.invokevirtual 23, 3) := by decide +kernel
theorem dL_dot_8 : decode cL_dot 8 = .ok (.i2l, 1) := by decide +kernel
theorem dL_dot_9 : decode cL_dot 9 = .ok (.lastore, 1) := by decide +kernel
theorem dL_dot_10 : decode cL_dot 10 = .ok (.goto 7, 3) := by decide +kernel
theorem dL_dot_13 : decode cL_dot 13 = .ok (.astore 4, 2) := by decide +kernel
theorem dL_dot_15 : decode cL_dot 15 = .ok (.iconst 1, 1) := by decide +kernel
theorem dL_dot_16 : decode cL_dot 16 = .ok (.ireturn, 1) := by decide +kernel
theorem dL_dot_17 : decode cL_dot 17 = .ok (.iconst 0, 1) := by decide +kernel
theorem dL_dot_18 : decode cL_dot 18 = .ok (.ireturn, 1) := by decide +kernel
theorem dL_line_0 : decode cL_line 0 = .ok (.aload_n 3, 1) := by decide +kernel
theorem dL_line_1 : decode cL_line 1 = .ok (.iconst 0, 1) := by decide +kernel
theorem dL_line_2 : decode cL_line 2 = .ok (.aload_n 0, 1) := by decide +kernel
theorem dL_line_3 : decode cL_line 3 = .ok (.iload_n 1, 1) := by decide +kernel
theorem dL_line_4 : decode cL_line 4 = .ok (.iload_n 2, 1) := by decide +kernel
theorem dL_line_5 : decode cL_line 5 = .ok (.invokevirtual 29, 3) := by decide +kernel
theorem dL_line_8 : decode cL_line 8 = .ok (.i2l, 1) := by decide +kernel
theorem dL_line_9 : decode cL_line 9 = .ok (.lastore, 1) := by decide +kernel
theorem dL_line_10 : decode cL_line 10 = .ok (.goto 11, 3) := by decide +kernel
theorem dL_line_13 : decode cL_line 13 = .ok (.astore 4, 2) := by decide +kernel
theorem dL_line_15 : decode cL_line 15 = .ok (.iconst 1, 1) := by decide +kernel
theorem dL_line_16 : decode cL_line 16 = .ok (.ireturn, 1) := by decide +kernel
theorem dL_line_17 : decode cL_line 17 = .ok (.astore 4, 2) := by decide +kernel
theorem dL_line_19 : decode cL_line 19 = .ok (.iconst 2, 1) := by decide +kernel
theorem dL_line_20 : decode cL_line 20 = .ok (.ireturn, 1) := by decide +kernel
theorem dL_line_21 : decode cL_line 21 = .ok (.iconst 0, 1) := by decide +kernel
theorem dL_line_22 : decode cL_line 22 = .ok (.ireturn, 1) := by decide +kernel
theorem dL_run_0 : decode cL_run 0 = .ok (.aload_n 3, 1) := by decide +kernel
theorem dL_run_1 : decode cL_run 1 = .ok (.iconst 0, 1) := by decide +kernel
theorem dL_run_2 : decode cL_run 2 = .ok (.aload_n 0, 1) := by decide +kernel
theorem dL_run_3 : decode cL_run 3 = .ok (.iload_n 1, 1) := by decide +kernel
theorem dL_run_4 : decode cL_run 4 = .ok (.iload_n 2, 1) := by decide +kernel
theorem dL_run_5 : decode cL_run 5 = .ok (.invokevirtual 32, 3) := by decide +kernel
theorem dL_run_8 : decode cL_run 8 = .ok (.i2l, 1) := by decide +kernel
theorem dL_run_9 : decode cL_run 9 = .ok (.lastore, 1) := by decide +kernel
theorem dL_run_10 : decode cL_run 10 = .ok (.goto 7, 3) := by decide +kernel
theorem dL_run_13 : decode cL_run 13 = .ok (.astore 4, 2) := by decide +kernel
theorem dL_run_15 : decode cL_run 15 = .ok (.iconst 1, 1) := by decide +kernel
theorem dL_run_16 : decode cL_run 16 = .ok (.ireturn, 1) := by decide +kernel
theorem dL_run_17 : decode cL_run 17 = .ok (.iconst 0, 1) := by decide +kernel
theorem dL_run_18 : decode cL_run 18 = .ok (.ireturn, 1) := by decide +kernel
theorem dL_mode_0 : decode cL_mode 0 = .ok (.aload 4, 2) := by decide +kernel
theorem dL_mode_2 : decode cL_mode 2 = .ok (.iconst 0, 1) := by decide +kernel
theorem dL_mode_3 : decode cL_mode 3 = .ok (.aload_n 0, 1) := by decide +kernel
theorem dL_mode_4 : decode cL_mode 4 = .ok (.iload_n 1, 1) := by decide +kernel
theorem dL_mode_5 : decode cL_mode 5 = .ok (.iload_n 2, 1) := by decide +kernel
theorem dL_mode_6 : decode cL_mode 6 = .ok (.iload_n 3, 1) := by decide +kernel
theorem dL_mode_7 : decode cL_mode 7 = .ok (.invokevirtual 35, 3) := by decide +kernel
theorem dL_mode_10 : decode cL_mode 10 = .ok (.i2l, 1) := by decide +kernel
theorem dL_mode_11 : decode cL_mode 11 = .ok (.lastore, 1) := by decide +kernel
theorem dL_mode_12 : decode cL_mode 12 = .ok (.goto 11, 3) := by decide +kernel
theorem dL_mode_15 : decode cL_mode 15 = .ok (.astore 5, 2) := by decide +kernel
theorem dL_mode_17 : decode cL_mode 17 = .ok (.iconst 1, 1) := by decide +kernel
theorem dL_mode_18 : decode cL_mode 18 = .ok (.ireturn, 1) := by decide +kernel
theorem dL_mode_19 : decode cL_mode 19 = .ok (.astore 5, 2) := by decide +kernel
theorem dL_mode_21 : decode cL_mode 21 = .ok (.iconst 2, 1) := by decide +kernel
theorem dL_mode_22 : decode cL_mode 22 = .ok (.ireturn, 1) := by decide +kernel
theorem dL_mode_23 : decode cL_mode 23 = .ok (.iconst 0, 1) := by decide +kernel
theorem dL_mode_24 : decode cL_mode 24 = .ok (.ireturn, 1) := by decide +kernel
theorem dL_change_0 : decode cL_change 0 = .ok (.aload_n 3, 1) := by decide +kernel
theorem dL_change_1 : decode cL_change 1 = .ok (.iconst 0, 1) := by decide +kernel
theorem dL_change_2 : decode cL_change 2 = .ok (.aload_n 0, 1) := by decide +kernel
theorem dL_change_3 : decode cL_change 3 = .ok (.iload_n 1, 1) := by decide +kernel
theorem dL_change_4 : decode cL_change 4 = .ok (.iload_n 2, 1) := by decide +kernel
theorem dL_change_5 : decode cL_change 5 = .ok (.invokevirtual 39, 3) := by decide +kernel
theorem dL_change_8 : decode cL_change 8 = .ok (.i2l, 1) := by decide +kernel
theorem dL_change_9 : decode cL_change 9 = .ok (.lastore, 1) := by decide +kernel
theorem dL_change_10 : decode cL_change 10 = .ok (.goto 7, 3) := by decide +kernel
theorem dL_change_13 : decode cL_change 13 = .ok (.astore 4, 2) := by decide +kernel
theorem dL_change_15 : decode cL_change 15 = .ok (.iconst 1, 1) := by decide +kernel
theorem dL_change_16 : decode cL_change 16 = .ok (.ireturn, 1) := by decide +kernel
theorem dL_change_17 : decode cL_change 17 = .ok (.iconst 0, 1) := by decide +kernel
theorem dL_change_18 : decode cL_change 18 = .ok (.ireturn, 1) := by decide +kernel
theorem dL_longest_0 : decode cL_longest 0 = .ok (.aload_n 2, 1) := by decide +kernel
theorem dL_longest_1 : decode cL_longest 1 = .ok (.iconst 0, 1) := by decide +kernel
theorem dL_longest_2 : decode cL_longest 2 = .ok (.aload_n 0, 1) := by decide +kernel
theorem dL_longest_3 : decode cL_longest 3 = .ok (.iload_n 1, 1) := by decide +kernel
theorem dL_longest_4 : decode cL_longest 4 = .ok (.invokevirtual 42, 3) := by decide +kernel
theorem dL_longest_7 : decode cL_longest 7 = .ok (.i2l, 1) := by decide +kernel
theorem dL_longest_8 : decode cL_longest 8 = .ok (.lastore, 1) := by decide +kernel
theorem dL_longest_9 : decode cL_longest 9 = .ok (.goto 6, 3) := by decide +kernel
theorem dL_longest_12 : decode cL_longest 12 = .ok (.astore_n 3, 1) := by decide +kernel
theorem dL_longest_13 : decode cL_longest 13 = .ok (.iconst 1, 1) := by decide +kernel
theorem dL_longest_14 : decode cL_longest 14 = .ok (.ireturn, 1) := by decide +kernel
theorem dL_longest_15 : decode cL_longest 15 = .ok (.iconst 0, 1) := by decide +kernel
theorem dL_longest_16 : decode cL_longest 16 = .ok (.ireturn, 1) := by decide +kernel
theorem dL_runsOf_0 : decode cL_runsOf 0 = .ok (.aload_n 3, 1) := by decide +kernel
theorem dL_runsOf_1 : decode cL_runsOf 1 = .ok (.iconst 0, 1) := by decide +kernel
theorem dL_runsOf_2 : decode cL_runsOf 2 = .ok (.aload_n 0, 1) := by decide +kernel
theorem dL_runsOf_3 : decode cL_runsOf 3 = .ok (.iload_n 1, 1) := by decide +kernel
theorem dL_runsOf_4 : decode cL_runsOf 4 = .ok (.iload_n 2, 1) := by decide +kernel
theorem dL_runsOf_5 : decode cL_runsOf 5 = .ok (.invokevirtual 45, 3) := by decide +kernel
theorem dL_runsOf_8 : decode cL_runsOf 8 = .ok (.i2l, 1) := by decide +kernel
theorem dL_runsOf_9 : decode cL_runsOf 9 = .ok (.lastore, 1) := by decide +kernel
theorem dL_runsOf_10 : decode cL_runsOf 10 = .ok (.goto 7, 3) := by decide +kernel
theorem dL_runsOf_13 : decode cL_runsOf 13 = .ok (.astore 4, 2) := by decide +kernel
theorem dL_runsOf_15 : decode cL_runsOf 15 = .ok (.iconst 1, 1) := by decide +kernel
theorem dL_runsOf_16 : decode cL_runsOf 16 = .ok (.ireturn, 1) := by decide +kernel
theorem dL_runsOf_17 : decode cL_runsOf 17 = .ok (.iconst 0, 1) := by decide +kernel
theorem dL_runsOf_18 : decode cL_runsOf 18 = .ok (.ireturn, 1) := by decide +kernel
theorem dL_readBelow_0 : decode cL_readBelow 0 = .ok (.aload_n 3, 1) := by decide +kernel
theorem dL_readBelow_1 : decode cL_readBelow 1 = .ok (.iconst 0, 1) := by decide +kernel
theorem dL_readBelow_2 : decode cL_readBelow 2 = .ok (.aload_n 0, 1) := by decide +kernel
theorem dL_readBelow_3 : decode cL_readBelow 3 = .ok (.iload_n 1, 1) := by decide +kernel
theorem dL_readBelow_4 : decode cL_readBelow 4 = .ok (.iload_n 2, 1) := by decide +kernel
theorem dL_readBelow_5 : decode cL_readBelow 5 = .ok (.invokevirtual 48, 3) := by decide +kernel
theorem dL_readBelow_8 : decode cL_readBelow 8 = .ok (.i2l, 1) := by decide +kernel
theorem dL_readBelow_9 : decode cL_readBelow 9 = .ok (.lastore, 1) := by decide +kernel
theorem dL_readBelow_10 : decode cL_readBelow 10 = .ok (.goto 7, 3) := by decide +kernel
theorem dL_readBelow_13 : decode cL_readBelow 13 = .ok (.astore 4, 2) := by decide +kernel
theorem dL_readBelow_15 : decode cL_readBelow 15 = .ok (.iconst 1, 1) := by decide +kernel
theorem dL_readBelow_16 : decode cL_readBelow 16 = .ok (.ireturn, 1) := by decide +kernel
theorem dL_readBelow_17 : decode cL_readBelow 17 = .ok (.iconst 0, 1) := by decide +kernel
theorem dL_readBelow_18 : decode cL_readBelow 18 = .ok (.ireturn, 1) := by decide +kernel
theorem dL_set_0 : decode cL_set 0 = .ok (.aload_n 3, 1) := by decide +kernel
theorem dL_set_1 : decode cL_set 1 = .ok (.iconst 0, 1) := by decide +kernel
theorem dL_set_2 : decode cL_set 2 = .ok (.aload_n 0, 1) := by decide +kernel
theorem dL_set_3 : decode cL_set 3 = .ok (.iload_n 1, 1) := by decide +kernel
theorem dL_set_4 : decode cL_set 4 = .ok (.iload_n 2, 1) := by decide +kernel
theorem dL_set_5 : decode cL_set 5 = .ok (.invokevirtual 51, 3) := by decide +kernel
theorem dL_set_8 : decode cL_set 8 = .ok (.i2l, 1) := by decide +kernel
theorem dL_set_9 : decode cL_set 9 = .ok (.lastore, 1) := by decide +kernel
theorem dL_set_10 : decode cL_set 10 = .ok (.goto 7, 3) := by decide +kernel
theorem dL_set_13 : decode cL_set 13 = .ok (.astore 4, 2) := by decide +kernel
theorem dL_set_15 : decode cL_set 15 = .ok (.iconst 1, 1) := by decide +kernel
theorem dL_set_16 : decode cL_set 16 = .ok (.ireturn, 1) := by decide +kernel
theorem dL_set_17 : decode cL_set 17 = .ok (.iconst 0, 1) := by decide +kernel
theorem dL_set_18 : decode cL_set 18 = .ok (.ireturn, 1) := by decide +kernel
theorem dL_lose_0 : decode cL_lose 0 = .ok (.aload_n 3, 1) := by decide +kernel
theorem dL_lose_1 : decode cL_lose 1 = .ok (.iconst 0, 1) := by decide +kernel
theorem dL_lose_2 : decode cL_lose 2 = .ok (.aload_n 0, 1) := by decide +kernel
theorem dL_lose_3 : decode cL_lose 3 = .ok (.iload_n 1, 1) := by decide +kernel
theorem dL_lose_4 : decode cL_lose 4 = .ok (.iload_n 2, 1) := by decide +kernel
theorem dL_lose_5 : decode cL_lose 5 = .ok (.invokevirtual 54, 3) := by decide +kernel
theorem dL_lose_8 : decode cL_lose 8 = .ok (.i2l, 1) := by decide +kernel
theorem dL_lose_9 : decode cL_lose 9 = .ok (.lastore, 1) := by decide +kernel
theorem dL_lose_10 : decode cL_lose 10 = .ok (.goto 11, 3) := by decide +kernel
theorem dL_lose_13 : decode cL_lose 13 = .ok (.astore 4, 2) := by decide +kernel
theorem dL_lose_15 : decode cL_lose 15 = .ok (.iconst 1, 1) := by decide +kernel
theorem dL_lose_16 : decode cL_lose 16 = .ok (.ireturn, 1) := by decide +kernel
theorem dL_lose_17 : decode cL_lose 17 = .ok (.astore 4, 2) := by decide +kernel
theorem dL_lose_19 : decode cL_lose 19 = .ok (.iconst 2, 1) := by decide +kernel
theorem dL_lose_20 : decode cL_lose 20 = .ok (.ireturn, 1) := by decide +kernel
theorem dL_lose_21 : decode cL_lose 21 = .ok (.iconst 0, 1) := by decide +kernel
theorem dL_lose_22 : decode cL_lose 22 = .ok (.ireturn, 1) := by decide +kernel
theorem dL_addLine_0 : decode cL_addLine 0 = .ok (.aload_n 3, 1) := by decide +kernel
theorem dL_addLine_1 : decode cL_addLine 1 = .ok (.iconst 0, 1) := by decide +kernel
theorem dL_addLine_2 : decode cL_addLine 2 = .ok (.aload_n 0, 1) := by decide +kernel
theorem dL_addLine_3 : decode cL_addLine 3 = .ok (.iload_n 1, 1) := by decide +kernel
theorem dL_addLine_4 : decode cL_addLine 4 = .ok (.iload_n 2, 1) := by decide +kernel
theorem dL_addLine_5 : decode cL_addLine 5 = .ok (.invokevirtual 57, 3) := by decide +kernel
theorem dL_addLine_8 : decode cL_addLine 8 = .ok (.i2l, 1) := by decide +kernel
theorem dL_addLine_9 : decode cL_addLine 9 = .ok (.lastore, 1) := by decide +kernel
theorem dL_addLine_10 : decode cL_addLine 10 = .ok (.goto 11, 3) := by decide +kernel
theorem dL_addLine_13 : decode cL_addLine 13 = .ok (.astore 4, 2) := by decide +kernel
theorem dL_addLine_15 : decode cL_addLine 15 = .ok (.iconst 1, 1) := by decide +kernel
theorem dL_addLine_16 : decode cL_addLine 16 = .ok (.ireturn, 1) := by decide +kernel
theorem dL_addLine_17 : decode cL_addLine 17 = .ok (.astore 4, 2) := by decide +kernel
theorem dL_addLine_19 : decode cL_addLine 19 = .ok (.iconst 2, 1) := by decide +kernel
theorem dL_addLine_20 : decode cL_addLine 20 = .ok (.ireturn, 1) := by decide +kernel
theorem dL_addLine_21 : decode cL_addLine 21 = .ok (.iconst 0, 1) := by decide +kernel
theorem dL_addLine_22 : decode cL_addLine 22 = .ok (.ireturn, 1) := by decide +kernel
theorem dL_paint_0 : decode cL_paint 0 = .ok (.aload 5, 2) := by decide +kernel
theorem dL_paint_2 : decode cL_paint 2 = .ok (.iconst 0, 1) := by decide +kernel
theorem dL_paint_3 : decode cL_paint 3 = .ok (.aload_n 0, 1) := by decide +kernel
theorem dL_paint_4 : decode cL_paint 4 = .ok (.iload_n 1, 1) := by decide +kernel
theorem dL_paint_5 : decode cL_paint 5 = .ok (.iload_n 2, 1) := by decide +kernel
theorem dL_paint_6 : decode cL_paint 6 = .ok (.iload_n 3, 1) := by decide +kernel
theorem dL_paint_7 : decode cL_paint 7 = .ok (.iload 4, 2) := by decide +kernel
theorem dL_paint_9 : decode cL_paint 9 = .ok (.invokevirtual 60, 3) := by decide +kernel
theorem dL_paint_12 : decode cL_paint 12 = .ok (.i2l, 1) := by decide +kernel
theorem dL_paint_13 : decode cL_paint 13 = .ok (.lastore, 1) := by decide +kernel
theorem dL_paint_14 : decode cL_paint 14 = .ok (.goto 11, 3) := by decide +kernel
theorem dL_paint_17 : decode cL_paint 17 = .ok (.astore 6, 2) := by decide +kernel
theorem dL_paint_19 : decode cL_paint 19 = .ok (.iconst 1, 1) := by decide +kernel
theorem dL_paint_20 : decode cL_paint 20 = .ok (.ireturn, 1) := by decide +kernel
theorem dL_paint_21 : decode cL_paint 21 = .ok (.astore 6, 2) := by decide +kernel
theorem dL_paint_23 : decode cL_paint 23 = .ok (.iconst 2, 1) := by decide +kernel
theorem dL_paint_24 : decode cL_paint 24 = .ok (.ireturn, 1) := by decide +kernel
theorem dL_paint_25 : decode cL_paint 25 = .ok (.iconst 0, 1) := by decide +kernel
theorem dL_paint_26 : decode cL_paint 26 = .ok (.ireturn, 1) := by decide +kernel
theorem dL_shift_0 : decode cL_shift 0 = .ok (.aload_n 3, 1) := by decide +kernel
theorem dL_shift_1 : decode cL_shift 1 = .ok (.iconst 0, 1) := by decide +kernel
theorem dL_shift_2 : decode cL_shift 2 = .ok (.aload_n 0, 1) := by decide +kernel
theorem dL_shift_3 : decode cL_shift 3 = .ok (.iload_n 1, 1) := by decide +kernel
theorem dL_shift_4 : decode cL_shift 4 = .ok (.iload_n 2, 1) := by decide +kernel
theorem dL_shift_5 : decode cL_shift 5 = .ok (.invokevirtual 64, 3) := by decide +kernel
theorem dL_shift_8 : decode cL_shift 8 = .ok (.i2l, 1) := by decide +kernel
theorem dL_shift_9 : decode cL_shift 9 = .ok (.lastore, 1) := by decide +kernel
theorem dL_shift_10 : decode cL_shift 10 = .ok (.goto 11, 3) := by decide +kernel
theorem dL_shift_13 : decode cL_shift 13 = .ok (.astore 4, 2) := by decide +kernel
theorem dL_shift_15 : decode cL_shift 15 = .ok (.iconst 1, 1) := by decide +kernel
theorem dL_shift_16 : decode cL_shift 16 = .ok (.ireturn, 1) := by decide +kernel
theorem dL_shift_17 : decode cL_shift 17 = .ok (.astore 4, 2) := by decide +kernel
theorem dL_shift_19 : decode cL_shift 19 = .ok (.iconst 2, 1) := by decide +kernel
theorem dL_shift_20 : decode cL_shift 20 = .ok (.ireturn, 1) := by decide +kernel
theorem dL_shift_21 : decode cL_shift 21 = .ok (.iconst 0, 1) := by decide +kernel
theorem dL_shift_22 : decode cL_shift 22 = .ok (.ireturn, 1) := by decide +kernel
theorem dL_copyLine_0 : decode cL_copyLine 0 = .ok (.aload_n 3, 1) := by decide +kernel
theorem dL_copyLine_1 : decode cL_copyLine 1 = .ok (.iconst 0, 1) := by decide +kernel
theorem dL_copyLine_2 : decode cL_copyLine 2 = .ok (.aload_n 0, 1) := by decide +kernel
theorem dL_copyLine_3 : decode cL_copyLine 3 = .ok (.iload_n 1, 1) := by decide +kernel
theorem dL_copyLine_4 : decode cL_copyLine 4 = .ok (.iload_n 2, 1) := by decide +kernel
theorem dL_copyLine_5 : decode cL_copyLine 5 = .ok (.invokevirtual 67, 3) := by decide +kernel
theorem dL_copyLine_8 : decode cL_copyLine 8 = .ok (.i2l, 1) := by decide +kernel
theorem dL_copyLine_9 : decode cL_copyLine 9 = .ok (.lastore, 1) := by decide +kernel
theorem dL_copyLine_10 : decode cL_copyLine 10 = .ok (.goto 11, 3) := by decide +kernel
theorem dL_copyLine_13 : decode cL_copyLine 13 = .ok (.astore 4, 2) := by decide +kernel
theorem dL_copyLine_15 : decode cL_copyLine 15 = .ok (.iconst 1, 1) := by decide +kernel
theorem dL_copyLine_16 : decode cL_copyLine 16 = .ok (.ireturn, 1) := by decide +kernel
theorem dL_copyLine_17 : decode cL_copyLine 17 = .ok (.astore 4, 2) := by decide +kernel
theorem dL_copyLine_19 : decode cL_copyLine 19 = .ok (.iconst 2, 1) := by decide +kernel
theorem dL_copyLine_20 : decode cL_copyLine 20 = .ok (.ireturn, 1) := by decide +kernel
theorem dL_copyLine_21 : decode cL_copyLine 21 = .ok (.iconst 0, 1) := by decide +kernel
theorem dL_copyLine_22 : decode cL_copyLine 22 = .ok (.ireturn, 1) := by decide +kernel
theorem dL_removeLine_0 : decode cL_removeLine 0 = .ok (.aload_n 2, 1) := by decide +kernel
theorem dL_removeLine_1 : decode cL_removeLine 1 = .ok (.iconst 0, 1) := by decide +kernel
theorem dL_removeLine_2 : decode cL_removeLine 2 = .ok (.aload_n 0, 1) := by decide +kernel
theorem dL_removeLine_3 : decode cL_removeLine 3 = .ok (.iload_n 1, 1) := by decide +kernel
theorem dL_removeLine_4 : decode cL_removeLine 4 = .ok (.invokevirtual 70, 3) := by decide +kernel
theorem dL_removeLine_7 : decode cL_removeLine 7 = .ok (.i2l, 1) := by decide +kernel
theorem dL_removeLine_8 : decode cL_removeLine 8 = .ok (.lastore, 1) := by decide +kernel
theorem dL_removeLine_9 : decode cL_removeLine 9 = .ok (.goto 6, 3) := by decide +kernel
theorem dL_removeLine_12 : decode cL_removeLine 12 = .ok (.astore_n 3, 1) := by decide +kernel
theorem dL_removeLine_13 : decode cL_removeLine 13 = .ok (.iconst 1, 1) := by decide +kernel
theorem dL_removeLine_14 : decode cL_removeLine 14 = .ok (.ireturn, 1) := by decide +kernel
theorem dL_removeLine_15 : decode cL_removeLine 15 = .ok (.iconst 0, 1) := by decide +kernel
theorem dL_removeLine_16 : decode cL_removeLine 16 = .ok (.ireturn, 1) := by decide +kernel
theorem dL_invert_0 : decode cL_invert 0 = .ok (.aload_n 2, 1) := by decide +kernel
theorem dL_invert_1 : decode cL_invert 1 = .ok (.iconst 0, 1) := by decide +kernel
theorem dL_invert_2 : decode cL_invert 2 = .ok (.aload_n 0, 1) := by decide +kernel
theorem dL_invert_3 : decode cL_invert 3 = .ok (.iload_n 1, 1) := by decide +kernel
theorem dL_invert_4 : decode cL_invert 4 = .ok (.invokevirtual 73, 3) := by decide +kernel
theorem dL_invert_7 : decode cL_invert 7 = .ok (.i2l, 1) := by decide +kernel
theorem dL_invert_8 : decode cL_invert 8 = .ok (.lastore, 1) := by decide +kernel
theorem dL_invert_9 : decode cL_invert 9 = .ok (.goto 6, 3) := by decide +kernel
theorem dL_invert_12 : decode cL_invert 12 = .ok (.astore_n 3, 1) := by decide +kernel
theorem dL_invert_13 : decode cL_invert 13 = .ok (.iconst 1, 1) := by decide +kernel
theorem dL_invert_14 : decode cL_invert 14 = .ok (.ireturn, 1) := by decide +kernel
theorem dL_invert_15 : decode cL_invert 15 = .ok (.iconst 0, 1) := by decide +kernel
theorem dL_invert_16 : decode cL_invert 16 = .ok (.ireturn, 1) := by decide +kernel
theorem dL_swap_0 : decode cL_swap 0 = .ok (.aload_n 3, 1) := by decide +kernel
theorem dL_swap_1 : decode cL_swap 1 = .ok (.iconst 0, 1) := by decide +kernel
theorem dL_swap_2 : decode cL_swap 2 = .ok (.aload_n 0, 1) := by decide +kernel
theorem dL_swap_3 : decode cL_swap 3 = .ok (.iload_n 1, 1) := by decide +kernel
theorem dL_swap_4 : decode cL_swap 4 = .ok (.iload_n 2, 1) := by decide +kernel
theorem dL_swap_5 : decode cL_swap 5 = .ok (.invokevirtual 76, 3) := by decide +kernel
theorem dL_swap_8 : decode cL_swap 8 = .ok (.i2l, 1) := by decide +kernel
theorem dL_swap_9 : decode cL_swap 9 = .ok (.lastore, 1) := by decide +kernel
theorem dL_swap_10 : decode cL_swap 10 = .ok (.goto 7, 3) := by decide +kernel
theorem dL_swap_13 : decode cL_swap 13 = .ok (.astore 4, 2) := by decide +kernel
theorem dL_swap_15 : decode cL_swap 15 = .ok (.iconst 1, 1) := by decide +kernel
theorem dL_swap_16 : decode cL_swap 16 = .ok (.ireturn, 1) := by decide +kernel
theorem dL_swap_17 : decode cL_swap 17 = .ok (.iconst 0, 1) := by decide +kernel
theorem dL_swap_18 : decode cL_swap 18 = .ok (.ireturn, 1) := by decide +kernel
theorem dL_sent_0 : decode cL_sent 0 = .ok (.aload_n 2, 1) := by decide +kernel
theorem dL_sent_1 : decode cL_sent 1 = .ok (.iconst 0, 1) := by decide +kernel
theorem dL_sent_2 : decode cL_sent 2 = .ok (.aload_n 0, 1) := by decide +kernel
theorem dL_sent_3 : decode cL_sent 3 = .ok (.iload_n 1, 1) := by decide +kernel
theorem dL_sent_4 : decode cL_sent 4 = .ok (.invokevirtual 79, 3) := by decide +kernel
theorem dL_sent_7 : decode cL_sent 7 = .ok (.i2l, 1) := by decide +kernel
theorem dL_sent_8 : decode cL_sent 8 = .ok (.lastore, 1) := by decide +kernel
theorem dL_sent_9 : decode cL_sent 9 = .ok (.goto 6, 3) := by decide +kernel
theorem dL_sent_12 : decode cL_sent 12 = .ok (.astore_n 3, 1) := by decide +kernel
theorem dL_sent_13 : decode cL_sent 13 = .ok (.iconst 1, 1) := by decide +kernel
theorem dL_sent_14 : decode cL_sent 14 = .ok (.ireturn, 1) := by decide +kernel
theorem dL_sent_15 : decode cL_sent 15 = .ok (.iconst 0, 1) := by decide +kernel
theorem dL_sent_16 : decode cL_sent 16 = .ok (.ireturn, 1) := by decide +kernel
theorem dL_sentLine_0 : decode cL_sentLine 0 = .ok (.aload_n 3, 1) := by decide +kernel
theorem dL_sentLine_1 : decode cL_sentLine 1 = .ok (.iconst 0, 1) := by decide +kernel
theorem dL_sentLine_2 : decode cL_sentLine 2 = .ok (.aload_n 0, 1) := by decide +kernel
theorem dL_sentLine_3 : decode cL_sentLine 3 = .ok (.iload_n 1, 1) := by decide +kernel
theorem dL_sentLine_4 : decode cL_sentLine 4 = .ok (.iload_n 2, 1) := by decide +kernel
theorem dL_sentLine_5 : decode cL_sentLine 5 = .ok (.invokevirtual 82, 3) := by decide +kernel
theorem dL_sentLine_8 : decode cL_sentLine 8 = .ok (.i2l, 1) := by decide +kernel
theorem dL_sentLine_9 : decode cL_sentLine 9 = .ok (.lastore, 1) := by decide +kernel
theorem dL_sentLine_10 : decode cL_sentLine 10 = .ok (.goto 11, 3) := by decide +kernel
theorem dL_sentLine_13 : decode cL_sentLine 13 = .ok (.astore 4, 2) := by decide +kernel
theorem dL_sentLine_15 : decode cL_sentLine 15 = .ok (.iconst 1, 1) := by decide +kernel
theorem dL_sentLine_16 : decode cL_sentLine 16 = .ok (.ireturn, 1) := by decide +kernel
theorem dL_sentLine_17 : decode cL_sentLine 17 = .ok (.astore 4, 2) := by decide +kernel
theorem dL_sentLine_19 : decode cL_sentLine 19 = .ok (.iconst 2, 1) := by decide +kernel
theorem dL_sentLine_20 : decode cL_sentLine 20 = .ok (.ireturn, 1) := by decide +kernel
theorem dL_sentLine_21 : decode cL_sentLine 21 = .ok (.iconst 0, 1) := by decide +kernel
theorem dL_sentLine_22 : decode cL_sentLine 22 = .ok (.ireturn, 1) := by decide +kernel
theorem dL_received_0 : decode cL_received 0 = .ok (.aload_n 3, 1) := by decide +kernel
theorem dL_received_1 : decode cL_received 1 = .ok (.iconst 0, 1) := by decide +kernel
theorem dL_received_2 : decode cL_received 2 = .ok (.aload_n 0, 1) := by decide +kernel
theorem dL_received_3 : decode cL_received 3 = .ok (.iload_n 1, 1) := by decide +kernel
theorem dL_received_4 : decode cL_received 4 = .ok (.iload_n 2, 1) := by decide +kernel
theorem dL_received_5 : decode cL_received 5 = .ok (.invokevirtual 85, 3) := by decide +kernel
theorem dL_received_8 : decode cL_received 8 = .ok (.i2l, 1) := by decide +kernel
theorem dL_received_9 : decode cL_received 9 = .ok (.lastore, 1) := by decide +kernel
theorem dL_received_10 : decode cL_received 10 = .ok (.goto 7, 3) := by decide +kernel
theorem dL_received_13 : decode cL_received 13 = .ok (.astore 4, 2) := by decide +kernel
theorem dL_received_15 : decode cL_received 15 = .ok (.iconst 1, 1) := by decide +kernel
theorem dL_received_16 : decode cL_received 16 = .ok (.ireturn, 1) := by decide +kernel
theorem dL_received_17 : decode cL_received 17 = .ok (.iconst 0, 1) := by decide +kernel
theorem dL_received_18 : decode cL_received 18 = .ok (.ireturn, 1) := by decide +kernel
theorem dL_harm_0 : decode cL_harm 0 = .ok (.aload_n 3, 1) := by decide +kernel
theorem dL_harm_1 : decode cL_harm 1 = .ok (.iconst 0, 1) := by decide +kernel
theorem dL_harm_2 : decode cL_harm 2 = .ok (.aload_n 0, 1) := by decide +kernel
theorem dL_harm_3 : decode cL_harm 3 = .ok (.iload_n 1, 1) := by decide +kernel
theorem dL_harm_4 : decode cL_harm 4 = .ok (.iload_n 2, 1) := by decide +kernel
theorem dL_harm_5 : decode cL_harm 5 = .ok (.invokevirtual 88, 3) := by decide +kernel
theorem dL_harm_8 : decode cL_harm 8 = .ok (.i2l, 1) := by decide +kernel
theorem dL_harm_9 : decode cL_harm 9 = .ok (.lastore, 1) := by decide +kernel
theorem dL_harm_10 : decode cL_harm 10 = .ok (.goto 11, 3) := by decide +kernel
theorem dL_harm_13 : decode cL_harm 13 = .ok (.astore 4, 2) := by decide +kernel
theorem dL_harm_15 : decode cL_harm 15 = .ok (.iconst 1, 1) := by decide +kernel
theorem dL_harm_16 : decode cL_harm 16 = .ok (.ireturn, 1) := by decide +kernel
theorem dL_harm_17 : decode cL_harm 17 = .ok (.astore 4, 2) := by decide +kernel
theorem dL_harm_19 : decode cL_harm 19 = .ok (.iconst 2, 1) := by decide +kernel
theorem dL_harm_20 : decode cL_harm 20 = .ok (.ireturn, 1) := by decide +kernel
theorem dL_harm_21 : decode cL_harm 21 = .ok (.iconst 0, 1) := by decide +kernel
theorem dL_harm_22 : decode cL_harm 22 = .ok (.ireturn, 1) := by decide +kernel
theorem dL_write_0 : decode cL_write 0 = .ok (.aload_n 2, 1) := by decide +kernel
theorem dL_write_1 : decode cL_write 1 = .ok (.iconst 0, 1) := by decide +kernel
theorem dL_write_2 : decode cL_write 2 = .ok (.aload_n 0, 1) := by decide +kernel
theorem dL_write_3 : decode cL_write 3 = .ok (.iload_n 1, 1) := by decide +kernel
theorem dL_write_4 : decode cL_write 4 = .ok (.invokevirtual 91, 3) := by decide +kernel
theorem dL_write_7 : decode cL_write 7 = .ok (.i2l, 1) := by decide +kernel
theorem dL_write_8 : decode cL_write 8 = .ok (.lastore, 1) := by decide +kernel
theorem dL_write_9 : decode cL_write 9 = .ok (.goto 6, 3) := by decide +kernel
theorem dL_write_12 : decode cL_write 12 = .ok (.astore_n 3, 1) := by decide +kernel
theorem dL_write_13 : decode cL_write 13 = .ok (.iconst 1, 1) := by decide +kernel
theorem dL_write_14 : decode cL_write 14 = .ok (.ireturn, 1) := by decide +kernel
theorem dL_write_15 : decode cL_write 15 = .ok (.iconst 0, 1) := by decide +kernel
theorem dL_write_16 : decode cL_write 16 = .ok (.ireturn, 1) := by decide +kernel
theorem dL_show_0 : decode cL_show 0 = .ok (.aload_n 2, 1) := by decide +kernel
theorem dL_show_1 : decode cL_show 1 = .ok (.iconst 0, 1) := by decide +kernel
theorem dL_show_2 : decode cL_show 2 = .ok (.aload_n 0, 1) := by decide +kernel
theorem dL_show_3 : decode cL_show 3 = .ok (.iload_n 1, 1) := by decide +kernel
theorem dL_show_4 : decode cL_show 4 = .ok (.invokevirtual 94, 3) := by decide +kernel
theorem dL_show_7 : decode cL_show 7 = .ok (.i2l, 1) := by decide +kernel
theorem dL_show_8 : decode cL_show 8 = .ok (.lastore, 1) := by decide +kernel
theorem dL_show_9 : decode cL_show 9 = .ok (.goto 6, 3) := by decide +kernel
theorem dL_show_12 : decode cL_show 12 = .ok (.astore_n 3, 1) := by decide +kernel
theorem dL_show_13 : decode cL_show 13 = .ok (.iconst 1, 1) := by decide +kernel
theorem dL_show_14 : decode cL_show 14 = .ok (.ireturn, 1) := by decide +kernel
theorem dL_show_15 : decode cL_show 15 = .ok (.iconst 0, 1) := by decide +kernel
theorem dL_show_16 : decode cL_show 16 = .ok (.ireturn, 1) := by decide +kernel
theorem dL_save_0 : decode cL_save 0 = .ok (.aload_n 0, 1) := by decide +kernel
theorem dL_save_1 : decode cL_save 1 = .ok (.iload_n 1, 1) := by decide +kernel
theorem dL_save_2 : decode cL_save 2 = .ok (.invokevirtual 97, 3) := by decide +kernel
theorem dL_save_5 : decode cL_save 5 = .ok (.goto 6, 3) := by decide +kernel
theorem dL_save_8 : decode cL_save 8 = .ok (.astore_n 2, 1) := by decide +kernel
theorem dL_save_9 : decode cL_save 9 = .ok (.iconst 1, 1) := by decide +kernel
theorem dL_save_10 : decode cL_save 10 = .ok (.ireturn, 1) := by decide +kernel
theorem dL_save_11 : decode cL_save 11 = .ok (.iconst 0, 1) := by decide +kernel
theorem dL_save_12 : decode cL_save 12 = .ok (.ireturn, 1) := by decide +kernel
theorem dL_restore_0 : decode cL_restore 0 = .ok (.aload_n 0, 1) := by decide +kernel
theorem dL_restore_1 : decode cL_restore 1 = .ok (.iload_n 1, 1) := by decide +kernel
theorem dL_restore_2 : decode cL_restore 2 = .ok (.invokevirtual 101, 3) := by decide +kernel
theorem dL_restore_5 : decode cL_restore 5 = .ok (.goto 9, 3) := by decide +kernel
theorem dL_restore_8 : decode cL_restore 8 = .ok (.astore_n 2, 1) := by decide +kernel
theorem dL_restore_9 : decode cL_restore 9 = .ok (.iconst 1, 1) := by decide +kernel
theorem dL_restore_10 : decode cL_restore 10 = .ok (.ireturn, 1) := by decide +kernel
theorem dL_restore_11 : decode cL_restore 11 = .ok (.astore_n 2, 1) := by decide +kernel
theorem dL_restore_12 : decode cL_restore 12 = .ok (.iconst 2, 1) := by decide +kernel
theorem dL_restore_13 : decode cL_restore 13 = .ok (.ireturn, 1) := by decide +kernel
theorem dL_restore_14 : decode cL_restore 14 = .ok (.iconst 0, 1) := by decide +kernel
theorem dL_restore_15 : decode cL_restore 15 = .ok (.ireturn, 1) := by decide +kernel
def fL_appendText (x0 : Nat) (x1 : Int32) (x2 : Nat) : Mm → Option (Int32 × Mm) :=
  bndC (fX7_appendText x0 x1) [(1, 1)] fun v1 =>
  bnd (aJ x2 0 ((v1).toInt64)) fun _ =>
  rtn 0
set_option maxRecDepth 100000 in
set_option maxHeartbeats 4000000 in
theorem jL_appendText {κ : Cx} {fin : Int32 → Mm → Prop} (hc : Jc κ RL cL_appendText 4 7 1 6 121) (he : Ed κ cL_appendText 1 6 wI .ireturn fin) (hN : NcK κ) (ht : κ.1.2.2.2.2.2.2.2.2.2.exceptionTable.toList = tableOf [(0, 9, 12, 13)]) (x0 : Nat) (x1 : Int32) (x2 : Nat) : Jg κ (wM κ) 4 fin 0 0 0 [some ((7, .ref x0) : TV), some ((0, .int x1) : TV), some ((12, .ref x2) : TV), none] [] (fL_appendText x0 x1 x2) := by
  unfold fL_appendText
  refine J_aload_n (pc := 0) hc dL_appendText_0 rfl rfl ?_
  refine J_iconst (pc := 1) (v := 0) hc dL_appendText_1 (by decide) ?_
  refine J_aload_n (pc := 2) hc dL_appendText_2 rfl rfl ?_
  refine J_iload_n (pc := 3) hc dL_appendText_3 rfl rfl ?_
  refine J_callVCi (pc := 4) hc he (hs := [(1, 1)]) (fun k v h => by
      rcases List.mem_cons.mp (hCt_in h) with e | e
      · cases e; exact Hd_1 hc ht rfl (by decide) tw706 (Or.inr ⟨_, dL_appendText_12, rfl, rfl⟩) (i := 3) (Nat.le_of_ble_eq_true rfl) dL_appendText_13 rfl dL_appendText_14
      · cases e) clX7 (As := [((0, .int x1) : TV)]) (KX7_appendText x0 x1) dL_appendText_4 moX7_appendText rfl tw707 tw708 tw709 tw1 tw710 rfl (Nat.le_of_ble_eq_true rfl) (Nat.le_of_ble_eq_true rfl) (Nat.le_of_ble_eq_true rfl) (Nat.le_of_ble_eq_true rfl) (Nat.le_of_ble_eq_true rfl) rfl (fun v1 => ?_)
  refine J_i2l (pc := 7) hc dL_appendText_7 ?_
  refine J_last (pc := 8) hc dL_appendText_8 ?_
  refine J_goto (pc := 9) (tgt := 15) hc dL_appendText_9 (by decide) ?_
  refine J_iconst (pc := 15) (v := 0) hc dL_appendText_15 (by decide) ?_
  exact J_iret (pc := 16) he dL_appendText_16
theorem moL_appendText : MOk yL_appendText 3 := ⟨by decide +kernel, by decide +kernel, by decide +kernel⟩
set_option maxRecDepth 100000 in
set_option maxHeartbeats 4000000 in
theorem KL_appendText (x0 : Nat) (x1 : Int32) (x2 : Nat) : CtW wI yL_appendText cL_appendText 4 (some .int) [(0, 9, 12, 13)] 7 1 6 121 [((7, .ref x0) : TV), ((0, .int x1) : TV), ((12, .ref x2) : TV)] (fL_appendText x0 x1 x2) :=
  CtW_I (j := 1) (by decide +kernel) rfl rfl (Nat.le_of_ble_eq_true rfl) (fun κ fin hc he hN ht => jL_appendText hc he hN ht x0 x1 x2)
def fL_truncateText (x0 : Nat) (x1 : Int32) (x2 : Nat) : Mm → Option (Int32 × Mm) :=
  bndC (fX7_truncateText x0 x1) [(0, 1)] fun v1 =>
  bnd (aJ x2 0 ((v1).toInt64)) fun _ =>
  rtn 0
set_option maxRecDepth 100000 in
set_option maxHeartbeats 4000000 in
theorem jL_truncateText {κ : Cx} {fin : Int32 → Mm → Prop} (hc : Jc κ RL cL_truncateText 4 7 1 6 121) (he : Ed κ cL_truncateText 1 6 wI .ireturn fin) (hN : NcK κ) (ht : κ.1.2.2.2.2.2.2.2.2.2.exceptionTable.toList = tableOf [(0, 9, 12, 18)]) (x0 : Nat) (x1 : Int32) (x2 : Nat) : Jg κ (wM κ) 4 fin 0 0 0 [some ((7, .ref x0) : TV), some ((0, .int x1) : TV), some ((12, .ref x2) : TV), none] [] (fL_truncateText x0 x1 x2) := by
  unfold fL_truncateText
  refine J_aload_n (pc := 0) hc dL_truncateText_0 rfl rfl ?_
  refine J_iconst (pc := 1) (v := 0) hc dL_truncateText_1 (by decide) ?_
  refine J_aload_n (pc := 2) hc dL_truncateText_2 rfl rfl ?_
  refine J_iload_n (pc := 3) hc dL_truncateText_3 rfl rfl ?_
  refine J_callVCi (pc := 4) hc he (hs := [(0, 1)]) (fun k v h => by
      rcases List.mem_cons.mp (hCt_in h) with e | e
      · cases e; exact Hd_1 hc ht rfl (by decide) tw785 (Or.inr ⟨_, dL_truncateText_12, rfl, rfl⟩) (i := 3) (Nat.le_of_ble_eq_true rfl) dL_truncateText_13 rfl dL_truncateText_14
      · cases e) clX7 (As := [((0, .int x1) : TV)]) (KX7_truncateText x0 x1) dL_truncateText_4 moX7_truncateText rfl tw786 tw787 tw788 tw1 tw789 rfl (Nat.le_of_ble_eq_true rfl) (Nat.le_of_ble_eq_true rfl) (Nat.le_of_ble_eq_true rfl) (Nat.le_of_ble_eq_true rfl) (Nat.le_of_ble_eq_true rfl) rfl (fun v1 => ?_)
  refine J_i2l (pc := 7) hc dL_truncateText_7 ?_
  refine J_last (pc := 8) hc dL_truncateText_8 ?_
  refine J_goto (pc := 9) (tgt := 15) hc dL_truncateText_9 (by decide) ?_
  refine J_iconst (pc := 15) (v := 0) hc dL_truncateText_15 (by decide) ?_
  exact J_iret (pc := 16) he dL_truncateText_16
theorem moL_truncateText : MOk yL_truncateText 3 := ⟨by decide +kernel, by decide +kernel, by decide +kernel⟩
set_option maxRecDepth 100000 in
set_option maxHeartbeats 4000000 in
theorem KL_truncateText (x0 : Nat) (x1 : Int32) (x2 : Nat) : CtW wI yL_truncateText cL_truncateText 4 (some .int) [(0, 9, 12, 18)] 7 1 6 121 [((7, .ref x0) : TV), ((0, .int x1) : TV), ((12, .ref x2) : TV)] (fL_truncateText x0 x1 x2) :=
  CtW_I (j := 1) (by decide +kernel) rfl rfl (Nat.le_of_ble_eq_true rfl) (fun κ fin hc he hN ht => jL_truncateText hc he hN ht x0 x1 x2)
def fL_count (x0 : Nat) (x1 : Int32) (x2 : Nat) : Mm → Option (Int32 × Mm) :=
  bndC (fX7_count x0 x1) [(0, 1)] fun v1 =>
  bnd (aJ x2 0 ((v1).toInt64)) fun _ =>
  rtn 0
set_option maxRecDepth 100000 in
set_option maxHeartbeats 4000000 in
theorem jL_count {κ : Cx} {fin : Int32 → Mm → Prop} (hc : Jc κ RL cL_count 4 8 1 6 188) (he : Ed κ cL_count 1 6 wI .ireturn fin) (hN : NcK κ) (ht : κ.1.2.2.2.2.2.2.2.2.2.exceptionTable.toList = tableOf [(0, 9, 12, 18)]) (x0 : Nat) (x1 : Int32) (x2 : Nat) : Jg κ (wM κ) 4 fin 0 0 0 [some ((7, .ref x0) : TV), some ((0, .int x1) : TV), some ((12, .ref x2) : TV), none] [] (fL_count x0 x1 x2) := by
  unfold fL_count
  refine J_aload_n (pc := 0) hc dL_count_0 rfl rfl ?_
  refine J_iconst (pc := 1) (v := 0) hc dL_count_1 (by decide) ?_
  refine J_aload_n (pc := 2) hc dL_count_2 rfl rfl ?_
  refine J_iload_n (pc := 3) hc dL_count_3 rfl rfl ?_
  refine J_callVCi (pc := 4) hc he (hs := [(0, 1)]) (fun k v h => by
      rcases List.mem_cons.mp (hCt_in h) with e | e
      · cases e; exact Hd_1 hc ht rfl (by decide) tw785 (Or.inr ⟨_, dL_count_12, rfl, rfl⟩) (i := 3) (Nat.le_of_ble_eq_true rfl) dL_count_13 rfl dL_count_14
      · cases e) clX7 (As := [((0, .int x1) : TV)]) (KX7_count x0 x1) dL_count_4 moX7_count rfl tw809 tw810 tw811 tw1 tw812 rfl (Nat.le_of_ble_eq_true rfl) (Nat.le_of_ble_eq_true rfl) (Nat.le_of_ble_eq_true rfl) (Nat.le_of_ble_eq_true rfl) (Nat.le_of_ble_eq_true rfl) rfl (fun v1 => ?_)
  refine J_i2l (pc := 7) hc dL_count_7 ?_
  refine J_last (pc := 8) hc dL_count_8 ?_
  refine J_goto (pc := 9) (tgt := 15) hc dL_count_9 (by decide) ?_
  refine J_iconst (pc := 15) (v := 0) hc dL_count_15 (by decide) ?_
  exact J_iret (pc := 16) he dL_count_16
theorem moL_count : MOk yL_count 3 := ⟨by decide +kernel, by decide +kernel, by decide +kernel⟩
set_option maxRecDepth 100000 in
set_option maxHeartbeats 4000000 in
theorem KL_count (x0 : Nat) (x1 : Int32) (x2 : Nat) : CtW wI yL_count cL_count 4 (some .int) [(0, 9, 12, 18)] 8 1 6 188 [((7, .ref x0) : TV), ((0, .int x1) : TV), ((12, .ref x2) : TV)] (fL_count x0 x1 x2) :=
  CtW_I (j := 1) (by decide +kernel) rfl rfl (Nat.le_of_ble_eq_true rfl) (fun κ fin hc he hN ht => jL_count hc he hN ht x0 x1 x2)
def fL_dot (x0 : Nat) (x1 : Int32) (x2 : Int32) (x3 : Nat) : Mm → Option (Int32 × Mm) :=
  bndC (fX7_dot x0 x1 x2) [(2, 1)] fun v1 =>
  bnd (aJ x3 0 ((v1).toInt64)) fun _ =>
  rtn 0
set_option maxRecDepth 100000 in
set_option maxHeartbeats 4000000 in
theorem jL_dot {κ : Cx} {fin : Int32 → Mm → Prop} (hc : Jc κ RL cL_dot 5 8 1 6 144) (he : Ed κ cL_dot 1 6 wI .ireturn fin) (hN : NcK κ) (ht : κ.1.2.2.2.2.2.2.2.2.2.exceptionTable.toList = tableOf [(0, 10, 13, 27)]) (x0 : Nat) (x1 : Int32) (x2 : Int32) (x3 : Nat) : Jg κ (wM κ) 5 fin 0 0 0 [some ((7, .ref x0) : TV), some ((0, .int x1) : TV), some ((0, .int x2) : TV), some ((12, .ref x3) : TV), none] [] (fL_dot x0 x1 x2 x3) := by
  unfold fL_dot
  refine J_aload_n (pc := 0) hc dL_dot_0 rfl rfl ?_
  refine J_iconst (pc := 1) (v := 0) hc dL_dot_1 (by decide) ?_
  refine J_aload_n (pc := 2) hc dL_dot_2 rfl rfl ?_
  refine J_iload_n (pc := 3) hc dL_dot_3 rfl rfl ?_
  refine J_iload_n (pc := 4) hc dL_dot_4 rfl rfl ?_
  refine J_callVCi (pc := 5) hc he (hs := [(2, 1)]) (fun k v h => by
      rcases List.mem_cons.mp (hCt_in h) with e | e
      · cases e; exact Hd_1 hc ht rfl (by decide) tw829 (Or.inl ⟨dL_dot_13, rfl⟩) (i := 4) (Nat.le_of_ble_eq_true rfl) dL_dot_15 rfl dL_dot_16
      · cases e) clX7 (As := [((0, .int x1) : TV), ((0, .int x2) : TV)]) (KX7_dot x0 x1 x2) dL_dot_5 moX7_dot rfl tw830 tw831 tw832 tw1 tw833 rfl (Nat.le_of_ble_eq_true rfl) (Nat.le_of_ble_eq_true rfl) (Nat.le_of_ble_eq_true rfl) (Nat.le_of_ble_eq_true rfl) (Nat.le_of_ble_eq_true rfl) rfl (fun v1 => ?_)
  refine J_i2l (pc := 8) hc dL_dot_8 ?_
  refine J_last (pc := 9) hc dL_dot_9 ?_
  refine J_goto (pc := 10) (tgt := 17) hc dL_dot_10 (by decide) ?_
  refine J_iconst (pc := 17) (v := 0) hc dL_dot_17 (by decide) ?_
  exact J_iret (pc := 18) he dL_dot_18
theorem moL_dot : MOk yL_dot 4 := ⟨by decide +kernel, by decide +kernel, by decide +kernel⟩
set_option maxRecDepth 100000 in
set_option maxHeartbeats 4000000 in
theorem KL_dot (x0 : Nat) (x1 : Int32) (x2 : Int32) (x3 : Nat) : CtW wI yL_dot cL_dot 5 (some .int) [(0, 10, 13, 27)] 8 1 6 144 [((7, .ref x0) : TV), ((0, .int x1) : TV), ((0, .int x2) : TV), ((12, .ref x3) : TV)] (fL_dot x0 x1 x2 x3) :=
  CtW_I (j := 1) (by decide +kernel) rfl rfl (Nat.le_of_ble_eq_true rfl) (fun κ fin hc he hN ht => jL_dot hc he hN ht x0 x1 x2 x3)
def fL_line (x0 : Nat) (x1 : Int32) (x2 : Int32) (x3 : Nat) : Mm → Option (Int32 × Mm) :=
  bndC (fX7_line x0 x1 x2) [(2, 1), (0, 2)] fun v1 =>
  bnd (aJ x3 0 ((v1).toInt64)) fun _ =>
  rtn 0
set_option maxRecDepth 100000 in
set_option maxHeartbeats 4000000 in
theorem jL_line {κ : Cx} {fin : Int32 → Mm → Prop} (hc : Jc κ RL cL_line 5 8 2 12 189) (he : Ed κ cL_line 2 12 wI .ireturn fin) (hN : NcK κ) (ht : κ.1.2.2.2.2.2.2.2.2.2.exceptionTable.toList = tableOf [(0, 10, 13, 27), (0, 10, 17, 18)]) (x0 : Nat) (x1 : Int32) (x2 : Int32) (x3 : Nat) : Jg κ (wM κ) 5 fin 0 0 0 [some ((7, .ref x0) : TV), some ((0, .int x1) : TV), some ((0, .int x2) : TV), some ((12, .ref x3) : TV), none] [] (fL_line x0 x1 x2 x3) := by
  unfold fL_line
  refine J_aload_n (pc := 0) hc dL_line_0 rfl rfl ?_
  refine J_iconst (pc := 1) (v := 0) hc dL_line_1 (by decide) ?_
  refine J_aload_n (pc := 2) hc dL_line_2 rfl rfl ?_
  refine J_iload_n (pc := 3) hc dL_line_3 rfl rfl ?_
  refine J_iload_n (pc := 4) hc dL_line_4 rfl rfl ?_
  refine J_callVCi (pc := 5) hc he (hs := [(2, 1), (0, 2)]) (fun k v h => by
      rcases List.mem_cons.mp (hCt_in h) with e | e
      · cases e; exact Hd_1 hc ht rfl (by decide) tw829 (Or.inl ⟨dL_line_13, rfl⟩) (i := 4) (Nat.le_of_ble_eq_true rfl) dL_line_15 rfl dL_line_16
      · rcases List.mem_cons.mp e with e | e
        · cases e; exact Hd_2 hc hN (k0 := 2) (fun _ h => h.1) ht (by decide) tw829 rfl (by decide) tw785 (Or.inl ⟨dL_line_17, rfl⟩) (i := 4) (Nat.le_of_ble_eq_true rfl) dL_line_19 rfl dL_line_20
        · cases e) clX7 (As := [((0, .int x1) : TV), ((0, .int x2) : TV)]) (KX7_line x0 x1 x2) dL_line_5 moX7_line rfl tw861 tw862 tw863 tw1 tw864 rfl (Nat.le_of_ble_eq_true rfl) (Nat.le_of_ble_eq_true rfl) (Nat.le_of_ble_eq_true rfl) (Nat.le_of_ble_eq_true rfl) (Nat.le_of_ble_eq_true rfl) rfl (fun v1 => ?_)
  refine J_i2l (pc := 8) hc dL_line_8 ?_
  refine J_last (pc := 9) hc dL_line_9 ?_
  refine J_goto (pc := 10) (tgt := 21) hc dL_line_10 (by decide) ?_
  refine J_iconst (pc := 21) (v := 0) hc dL_line_21 (by decide) ?_
  exact J_iret (pc := 22) he dL_line_22
theorem moL_line : MOk yL_line 4 := ⟨by decide +kernel, by decide +kernel, by decide +kernel⟩
set_option maxRecDepth 100000 in
set_option maxHeartbeats 4000000 in
theorem KL_line (x0 : Nat) (x1 : Int32) (x2 : Int32) (x3 : Nat) : CtW wI yL_line cL_line 5 (some .int) [(0, 10, 13, 27), (0, 10, 17, 18)] 8 2 12 189 [((7, .ref x0) : TV), ((0, .int x1) : TV), ((0, .int x2) : TV), ((12, .ref x3) : TV)] (fL_line x0 x1 x2 x3) :=
  CtW_I (j := 1) (by decide +kernel) rfl rfl (Nat.le_of_ble_eq_true rfl) (fun κ fin hc he hN ht => jL_line hc he hN ht x0 x1 x2 x3)
def fL_run (x0 : Nat) (x1 : Int32) (x2 : Int32) (x3 : Nat) : Mm → Option (Int32 × Mm) :=
  bndC (fX7_run x0 x1 x2) [(2, 1)] fun v1 =>
  bnd (aJ x3 0 ((v1).toInt64)) fun _ =>
  rtn 0
set_option maxRecDepth 100000 in
set_option maxHeartbeats 4000000 in
theorem jL_run {κ : Cx} {fin : Int32 → Mm → Prop} (hc : Jc κ RL cL_run 5 8 1 6 144) (he : Ed κ cL_run 1 6 wI .ireturn fin) (hN : NcK κ) (ht : κ.1.2.2.2.2.2.2.2.2.2.exceptionTable.toList = tableOf [(0, 10, 13, 27)]) (x0 : Nat) (x1 : Int32) (x2 : Int32) (x3 : Nat) : Jg κ (wM κ) 5 fin 0 0 0 [some ((7, .ref x0) : TV), some ((0, .int x1) : TV), some ((0, .int x2) : TV), some ((12, .ref x3) : TV), none] [] (fL_run x0 x1 x2 x3) := by
  unfold fL_run
  refine J_aload_n (pc := 0) hc dL_run_0 rfl rfl ?_
  refine J_iconst (pc := 1) (v := 0) hc dL_run_1 (by decide) ?_
  refine J_aload_n (pc := 2) hc dL_run_2 rfl rfl ?_
  refine J_iload_n (pc := 3) hc dL_run_3 rfl rfl ?_
  refine J_iload_n (pc := 4) hc dL_run_4 rfl rfl ?_
  refine J_callVCi (pc := 5) hc he (hs := [(2, 1)]) (fun k v h => by
      rcases List.mem_cons.mp (hCt_in h) with e | e
      · cases e; exact Hd_1 hc ht rfl (by decide) tw829 (Or.inl ⟨dL_run_13, rfl⟩) (i := 4) (Nat.le_of_ble_eq_true rfl) dL_run_15 rfl dL_run_16
      · cases e) clX7 (As := [((0, .int x1) : TV), ((0, .int x2) : TV)]) (KX7_run x0 x1 x2) dL_run_5 moX7_run rfl tw881 tw882 tw883 tw1 tw884 rfl (Nat.le_of_ble_eq_true rfl) (Nat.le_of_ble_eq_true rfl) (Nat.le_of_ble_eq_true rfl) (Nat.le_of_ble_eq_true rfl) (Nat.le_of_ble_eq_true rfl) rfl (fun v1 => ?_)
  refine J_i2l (pc := 8) hc dL_run_8 ?_
  refine J_last (pc := 9) hc dL_run_9 ?_
  refine J_goto (pc := 10) (tgt := 17) hc dL_run_10 (by decide) ?_
  refine J_iconst (pc := 17) (v := 0) hc dL_run_17 (by decide) ?_
  exact J_iret (pc := 18) he dL_run_18
theorem moL_run : MOk yL_run 4 := ⟨by decide +kernel, by decide +kernel, by decide +kernel⟩
set_option maxRecDepth 100000 in
set_option maxHeartbeats 4000000 in
theorem KL_run (x0 : Nat) (x1 : Int32) (x2 : Int32) (x3 : Nat) : CtW wI yL_run cL_run 5 (some .int) [(0, 10, 13, 27)] 8 1 6 144 [((7, .ref x0) : TV), ((0, .int x1) : TV), ((0, .int x2) : TV), ((12, .ref x3) : TV)] (fL_run x0 x1 x2 x3) :=
  CtW_I (j := 1) (by decide +kernel) rfl rfl (Nat.le_of_ble_eq_true rfl) (fun κ fin hc he hN ht => jL_run hc he hN ht x0 x1 x2 x3)
def fL_mode (x0 : Nat) (x1 : Int32) (x2 : Int32) (x3 : Int32) (x4 : Nat) : Mm → Option (Int32 × Mm) :=
  bndC (fX7_mode x0 x1 x2 x3) [(2, 1), (0, 2)] fun v1 =>
  bnd (aJ x4 0 ((v1).toInt64)) fun _ =>
  rtn 0
set_option maxRecDepth 100000 in
set_option maxHeartbeats 4000000 in
theorem jL_mode {κ : Cx} {fin : Int32 → Mm → Prop} (hc : Jc κ RL cL_mode 6 8 2 12 147) (he : Ed κ cL_mode 2 12 wI .ireturn fin) (hN : NcK κ) (ht : κ.1.2.2.2.2.2.2.2.2.2.exceptionTable.toList = tableOf [(0, 12, 15, 27), (0, 12, 19, 18)]) (x0 : Nat) (x1 : Int32) (x2 : Int32) (x3 : Int32) (x4 : Nat) : Jg κ (wM κ) 6 fin 0 0 0 [some ((7, .ref x0) : TV), some ((0, .int x1) : TV), some ((0, .int x2) : TV), some ((0, .int x3) : TV), some ((12, .ref x4) : TV), none] [] (fL_mode x0 x1 x2 x3 x4) := by
  unfold fL_mode
  refine J_aload (pc := 0) hc dL_mode_0 rfl ?_
  refine J_iconst (pc := 2) (v := 0) hc dL_mode_2 (by decide) ?_
  refine J_aload_n (pc := 3) hc dL_mode_3 rfl rfl ?_
  refine J_iload_n (pc := 4) hc dL_mode_4 rfl rfl ?_
  refine J_iload_n (pc := 5) hc dL_mode_5 rfl rfl ?_
  refine J_iload_n (pc := 6) hc dL_mode_6 rfl rfl ?_
  refine J_callVCi (pc := 7) hc he (hs := [(2, 1), (0, 2)]) (fun k v h => by
      rcases List.mem_cons.mp (hCt_in h) with e | e
      · cases e; exact Hd_1 hc ht rfl (by decide) tw829 (Or.inl ⟨dL_mode_15, rfl⟩) (i := 5) (Nat.le_of_ble_eq_true rfl) dL_mode_17 rfl dL_mode_18
      · rcases List.mem_cons.mp e with e | e
        · cases e; exact Hd_2 hc hN (k0 := 2) (fun _ h => h.1) ht (by decide) tw829 rfl (by decide) tw785 (Or.inl ⟨dL_mode_19, rfl⟩) (i := 5) (Nat.le_of_ble_eq_true rfl) dL_mode_21 rfl dL_mode_22
        · cases e) clX7 (As := [((0, .int x1) : TV), ((0, .int x2) : TV), ((0, .int x3) : TV)]) (KX7_mode x0 x1 x2 x3) dL_mode_7 moX7_mode rfl tw899 tw900 tw901 tw1 tw902 rfl (Nat.le_of_ble_eq_true rfl) (Nat.le_of_ble_eq_true rfl) (Nat.le_of_ble_eq_true rfl) (Nat.le_of_ble_eq_true rfl) (Nat.le_of_ble_eq_true rfl) rfl (fun v1 => ?_)
  refine J_i2l (pc := 10) hc dL_mode_10 ?_
  refine J_last (pc := 11) hc dL_mode_11 ?_
  refine J_goto (pc := 12) (tgt := 23) hc dL_mode_12 (by decide) ?_
  refine J_iconst (pc := 23) (v := 0) hc dL_mode_23 (by decide) ?_
  exact J_iret (pc := 24) he dL_mode_24
theorem moL_mode : MOk yL_mode 5 := ⟨by decide +kernel, by decide +kernel, by decide +kernel⟩
set_option maxRecDepth 100000 in
set_option maxHeartbeats 4000000 in
theorem KL_mode (x0 : Nat) (x1 : Int32) (x2 : Int32) (x3 : Int32) (x4 : Nat) : CtW wI yL_mode cL_mode 6 (some .int) [(0, 12, 15, 27), (0, 12, 19, 18)] 8 2 12 147 [((7, .ref x0) : TV), ((0, .int x1) : TV), ((0, .int x2) : TV), ((0, .int x3) : TV), ((12, .ref x4) : TV)] (fL_mode x0 x1 x2 x3 x4) :=
  CtW_I (j := 1) (by decide +kernel) rfl rfl (Nat.le_of_ble_eq_true rfl) (fun κ fin hc he hN ht => jL_mode hc he hN ht x0 x1 x2 x3 x4)
def fL_change (x0 : Nat) (x1 : Int32) (x2 : Int32) (x3 : Nat) : Mm → Option (Int32 × Mm) :=
  bndC (fX7_change x0 x1 x2) [(2, 1)] fun v1 =>
  bnd (aJ x3 0 ((v1).toInt64)) fun _ =>
  rtn 0
set_option maxRecDepth 100000 in
set_option maxHeartbeats 4000000 in
theorem jL_change {κ : Cx} {fin : Int32 → Mm → Prop} (hc : Jc κ RL cL_change 5 8 1 6 144) (he : Ed κ cL_change 1 6 wI .ireturn fin) (hN : NcK κ) (ht : κ.1.2.2.2.2.2.2.2.2.2.exceptionTable.toList = tableOf [(0, 10, 13, 27)]) (x0 : Nat) (x1 : Int32) (x2 : Int32) (x3 : Nat) : Jg κ (wM κ) 5 fin 0 0 0 [some ((7, .ref x0) : TV), some ((0, .int x1) : TV), some ((0, .int x2) : TV), some ((12, .ref x3) : TV), none] [] (fL_change x0 x1 x2 x3) := by
  unfold fL_change
  refine J_aload_n (pc := 0) hc dL_change_0 rfl rfl ?_
  refine J_iconst (pc := 1) (v := 0) hc dL_change_1 (by decide) ?_
  refine J_aload_n (pc := 2) hc dL_change_2 rfl rfl ?_
  refine J_iload_n (pc := 3) hc dL_change_3 rfl rfl ?_
  refine J_iload_n (pc := 4) hc dL_change_4 rfl rfl ?_
  refine J_callVCi (pc := 5) hc he (hs := [(2, 1)]) (fun k v h => by
      rcases List.mem_cons.mp (hCt_in h) with e | e
      · cases e; exact Hd_1 hc ht rfl (by decide) tw829 (Or.inl ⟨dL_change_13, rfl⟩) (i := 4) (Nat.le_of_ble_eq_true rfl) dL_change_15 rfl dL_change_16
      · cases e) clX7 (As := [((0, .int x1) : TV), ((0, .int x2) : TV)]) (KX7_change x0 x1 x2) dL_change_5 moX7_change rfl tw910 tw911 tw912 tw1 tw913 rfl (Nat.le_of_ble_eq_true rfl) (Nat.le_of_ble_eq_true rfl) (Nat.le_of_ble_eq_true rfl) (Nat.le_of_ble_eq_true rfl) (Nat.le_of_ble_eq_true rfl) rfl (fun v1 => ?_)
  refine J_i2l (pc := 8) hc dL_change_8 ?_
  refine J_last (pc := 9) hc dL_change_9 ?_
  refine J_goto (pc := 10) (tgt := 17) hc dL_change_10 (by decide) ?_
  refine J_iconst (pc := 17) (v := 0) hc dL_change_17 (by decide) ?_
  exact J_iret (pc := 18) he dL_change_18
theorem moL_change : MOk yL_change 4 := ⟨by decide +kernel, by decide +kernel, by decide +kernel⟩
set_option maxRecDepth 100000 in
set_option maxHeartbeats 4000000 in
theorem KL_change (x0 : Nat) (x1 : Int32) (x2 : Int32) (x3 : Nat) : CtW wI yL_change cL_change 5 (some .int) [(0, 10, 13, 27)] 8 1 6 144 [((7, .ref x0) : TV), ((0, .int x1) : TV), ((0, .int x2) : TV), ((12, .ref x3) : TV)] (fL_change x0 x1 x2 x3) :=
  CtW_I (j := 1) (by decide +kernel) rfl rfl (Nat.le_of_ble_eq_true rfl) (fun κ fin hc he hN ht => jL_change hc he hN ht x0 x1 x2 x3)
def fL_longest (x0 : Nat) (x1 : Int32) (x2 : Nat) : Mm → Option (Int32 × Mm) :=
  bndC (fX7_longest x0 x1) [(0, 1)] fun v1 =>
  bnd (aJ x2 0 ((v1).toInt64)) fun _ =>
  rtn 0
set_option maxRecDepth 100000 in
set_option maxHeartbeats 4000000 in
theorem jL_longest {κ : Cx} {fin : Int32 → Mm → Prop} (hc : Jc κ RL cL_longest 4 8 1 6 143) (he : Ed κ cL_longest 1 6 wI .ireturn fin) (hN : NcK κ) (ht : κ.1.2.2.2.2.2.2.2.2.2.exceptionTable.toList = tableOf [(0, 9, 12, 18)]) (x0 : Nat) (x1 : Int32) (x2 : Nat) : Jg κ (wM κ) 4 fin 0 0 0 [some ((7, .ref x0) : TV), some ((0, .int x1) : TV), some ((12, .ref x2) : TV), none] [] (fL_longest x0 x1 x2) := by
  unfold fL_longest
  refine J_aload_n (pc := 0) hc dL_longest_0 rfl rfl ?_
  refine J_iconst (pc := 1) (v := 0) hc dL_longest_1 (by decide) ?_
  refine J_aload_n (pc := 2) hc dL_longest_2 rfl rfl ?_
  refine J_iload_n (pc := 3) hc dL_longest_3 rfl rfl ?_
  refine J_callVCi (pc := 4) hc he (hs := [(0, 1)]) (fun k v h => by
      rcases List.mem_cons.mp (hCt_in h) with e | e
      · cases e; exact Hd_1 hc ht rfl (by decide) tw785 (Or.inr ⟨_, dL_longest_12, rfl, rfl⟩) (i := 3) (Nat.le_of_ble_eq_true rfl) dL_longest_13 rfl dL_longest_14
      · cases e) clX7 (As := [((0, .int x1) : TV)]) (KX7_longest x0 x1) dL_longest_4 moX7_longest rfl tw917 tw918 tw919 tw1 tw920 rfl (Nat.le_of_ble_eq_true rfl) (Nat.le_of_ble_eq_true rfl) (Nat.le_of_ble_eq_true rfl) (Nat.le_of_ble_eq_true rfl) (Nat.le_of_ble_eq_true rfl) rfl (fun v1 => ?_)
  refine J_i2l (pc := 7) hc dL_longest_7 ?_
  refine J_last (pc := 8) hc dL_longest_8 ?_
  refine J_goto (pc := 9) (tgt := 15) hc dL_longest_9 (by decide) ?_
  refine J_iconst (pc := 15) (v := 0) hc dL_longest_15 (by decide) ?_
  exact J_iret (pc := 16) he dL_longest_16
theorem moL_longest : MOk yL_longest 3 := ⟨by decide +kernel, by decide +kernel, by decide +kernel⟩
set_option maxRecDepth 100000 in
set_option maxHeartbeats 4000000 in
theorem KL_longest (x0 : Nat) (x1 : Int32) (x2 : Nat) : CtW wI yL_longest cL_longest 4 (some .int) [(0, 9, 12, 18)] 8 1 6 143 [((7, .ref x0) : TV), ((0, .int x1) : TV), ((12, .ref x2) : TV)] (fL_longest x0 x1 x2) :=
  CtW_I (j := 1) (by decide +kernel) rfl rfl (Nat.le_of_ble_eq_true rfl) (fun κ fin hc he hN ht => jL_longest hc he hN ht x0 x1 x2)
def fL_runsOf (x0 : Nat) (x1 : Int32) (x2 : Int32) (x3 : Nat) : Mm → Option (Int32 × Mm) :=
  bndC (fX7_runsOf x0 x1 x2) [(0, 1)] fun v1 =>
  bnd (aJ x3 0 ((v1).toInt64)) fun _ =>
  rtn 0
set_option maxRecDepth 100000 in
set_option maxHeartbeats 4000000 in
theorem jL_runsOf {κ : Cx} {fin : Int32 → Mm → Prop} (hc : Jc κ RL cL_runsOf 5 8 2 12 145) (he : Ed κ cL_runsOf 2 12 wI .ireturn fin) (hN : NcK κ) (ht : κ.1.2.2.2.2.2.2.2.2.2.exceptionTable.toList = tableOf [(0, 10, 13, 18)]) (x0 : Nat) (x1 : Int32) (x2 : Int32) (x3 : Nat) : Jg κ (wM κ) 5 fin 0 0 0 [some ((7, .ref x0) : TV), some ((0, .int x1) : TV), some ((0, .int x2) : TV), some ((12, .ref x3) : TV), none] [] (fL_runsOf x0 x1 x2 x3) := by
  unfold fL_runsOf
  refine J_aload_n (pc := 0) hc dL_runsOf_0 rfl rfl ?_
  refine J_iconst (pc := 1) (v := 0) hc dL_runsOf_1 (by decide) ?_
  refine J_aload_n (pc := 2) hc dL_runsOf_2 rfl rfl ?_
  refine J_iload_n (pc := 3) hc dL_runsOf_3 rfl rfl ?_
  refine J_iload_n (pc := 4) hc dL_runsOf_4 rfl rfl ?_
  refine J_callVCi (pc := 5) hc he (hs := [(0, 1)]) (fun k v h => by
      rcases List.mem_cons.mp (hCt_in h) with e | e
      · cases e; exact Hd_1 hc ht rfl (by decide) tw785 (Or.inl ⟨dL_runsOf_13, rfl⟩) (i := 4) (Nat.le_of_ble_eq_true rfl) dL_runsOf_15 rfl dL_runsOf_16
      · cases e) clX7 (As := [((0, .int x1) : TV), ((0, .int x2) : TV)]) (KX7_runsOf x0 x1 x2) dL_runsOf_5 moX7_runsOf rfl tw935 tw936 tw937 tw1 tw938 rfl (Nat.le_of_ble_eq_true rfl) (Nat.le_of_ble_eq_true rfl) (Nat.le_of_ble_eq_true rfl) (Nat.le_of_ble_eq_true rfl) (Nat.le_of_ble_eq_true rfl) rfl (fun v1 => ?_)
  refine J_i2l (pc := 8) hc dL_runsOf_8 ?_
  refine J_last (pc := 9) hc dL_runsOf_9 ?_
  refine J_goto (pc := 10) (tgt := 17) hc dL_runsOf_10 (by decide) ?_
  refine J_iconst (pc := 17) (v := 0) hc dL_runsOf_17 (by decide) ?_
  exact J_iret (pc := 18) he dL_runsOf_18
theorem moL_runsOf : MOk yL_runsOf 4 := ⟨by decide +kernel, by decide +kernel, by decide +kernel⟩
set_option maxRecDepth 100000 in
set_option maxHeartbeats 4000000 in
theorem KL_runsOf (x0 : Nat) (x1 : Int32) (x2 : Int32) (x3 : Nat) : CtW wI yL_runsOf cL_runsOf 5 (some .int) [(0, 10, 13, 18)] 8 2 12 145 [((7, .ref x0) : TV), ((0, .int x1) : TV), ((0, .int x2) : TV), ((12, .ref x3) : TV)] (fL_runsOf x0 x1 x2 x3) :=
  CtW_I (j := 1) (by decide +kernel) rfl rfl (Nat.le_of_ble_eq_true rfl) (fun κ fin hc he hN ht => jL_runsOf hc he hN ht x0 x1 x2 x3)
def fL_readBelow (x0 : Nat) (x1 : Int32) (x2 : Int32) (x3 : Nat) : Mm → Option (Int32 × Mm) :=
  bndC (fX7_readBelow x0 x1 x2) [(2, 1)] fun v1 =>
  bnd (aJ x3 0 ((v1).toInt64)) fun _ =>
  rtn 0
set_option maxRecDepth 100000 in
set_option maxHeartbeats 4000000 in
theorem jL_readBelow {κ : Cx} {fin : Int32 → Mm → Prop} (hc : Jc κ RL cL_readBelow 5 8 2 12 148) (he : Ed κ cL_readBelow 2 12 wI .ireturn fin) (hN : NcK κ) (ht : κ.1.2.2.2.2.2.2.2.2.2.exceptionTable.toList = tableOf [(0, 10, 13, 27)]) (x0 : Nat) (x1 : Int32) (x2 : Int32) (x3 : Nat) : Jg κ (wM κ) 5 fin 0 0 0 [some ((7, .ref x0) : TV), some ((0, .int x1) : TV), some ((0, .int x2) : TV), some ((12, .ref x3) : TV), none] [] (fL_readBelow x0 x1 x2 x3) := by
  unfold fL_readBelow
  refine J_aload_n (pc := 0) hc dL_readBelow_0 rfl rfl ?_
  refine J_iconst (pc := 1) (v := 0) hc dL_readBelow_1 (by decide) ?_
  refine J_aload_n (pc := 2) hc dL_readBelow_2 rfl rfl ?_
  refine J_iload_n (pc := 3) hc dL_readBelow_3 rfl rfl ?_
  refine J_iload_n (pc := 4) hc dL_readBelow_4 rfl rfl ?_
  refine J_callVCi (pc := 5) hc he (hs := [(2, 1)]) (fun k v h => by
      rcases List.mem_cons.mp (hCt_in h) with e | e
      · cases e; exact Hd_1 hc ht rfl (by decide) tw829 (Or.inl ⟨dL_readBelow_13, rfl⟩) (i := 4) (Nat.le_of_ble_eq_true rfl) dL_readBelow_15 rfl dL_readBelow_16
      · cases e) clX7 (As := [((0, .int x1) : TV), ((0, .int x2) : TV)]) (KX7_readBelow x0 x1 x2) dL_readBelow_5 moX7_readBelow rfl tw947 tw948 tw949 tw1 tw950 rfl (Nat.le_of_ble_eq_true rfl) (Nat.le_of_ble_eq_true rfl) (Nat.le_of_ble_eq_true rfl) (Nat.le_of_ble_eq_true rfl) (Nat.le_of_ble_eq_true rfl) rfl (fun v1 => ?_)
  refine J_i2l (pc := 8) hc dL_readBelow_8 ?_
  refine J_last (pc := 9) hc dL_readBelow_9 ?_
  refine J_goto (pc := 10) (tgt := 17) hc dL_readBelow_10 (by decide) ?_
  refine J_iconst (pc := 17) (v := 0) hc dL_readBelow_17 (by decide) ?_
  exact J_iret (pc := 18) he dL_readBelow_18
theorem moL_readBelow : MOk yL_readBelow 4 := ⟨by decide +kernel, by decide +kernel, by decide +kernel⟩
set_option maxRecDepth 100000 in
set_option maxHeartbeats 4000000 in
theorem KL_readBelow (x0 : Nat) (x1 : Int32) (x2 : Int32) (x3 : Nat) : CtW wI yL_readBelow cL_readBelow 5 (some .int) [(0, 10, 13, 27)] 8 2 12 148 [((7, .ref x0) : TV), ((0, .int x1) : TV), ((0, .int x2) : TV), ((12, .ref x3) : TV)] (fL_readBelow x0 x1 x2 x3) :=
  CtW_I (j := 1) (by decide +kernel) rfl rfl (Nat.le_of_ble_eq_true rfl) (fun κ fin hc he hN ht => jL_readBelow hc he hN ht x0 x1 x2 x3)
def fL_set (x0 : Nat) (x1 : Int32) (x2 : Int32) (x3 : Nat) : Mm → Option (Int32 × Mm) :=
  bndC (fX7_set x0 x1 x2) [(0, 1)] fun v1 =>
  bnd (aJ x3 0 ((v1).toInt64)) fun _ =>
  rtn 0
set_option maxRecDepth 100000 in
set_option maxHeartbeats 4000000 in
theorem jL_set {κ : Cx} {fin : Int32 → Mm → Prop} (hc : Jc κ RL cL_set 5 7 4 51 123) (he : Ed κ cL_set 4 51 wI .ireturn fin) (hN : NcK κ) (ht : κ.1.2.2.2.2.2.2.2.2.2.exceptionTable.toList = tableOf [(0, 10, 13, 18)]) (x0 : Nat) (x1 : Int32) (x2 : Int32) (x3 : Nat) : Jg κ (wM κ) 5 fin 0 0 0 [some ((7, .ref x0) : TV), some ((0, .int x1) : TV), some ((0, .int x2) : TV), some ((12, .ref x3) : TV), none] [] (fL_set x0 x1 x2 x3) := by
  unfold fL_set
  refine J_aload_n (pc := 0) hc dL_set_0 rfl rfl ?_
  refine J_iconst (pc := 1) (v := 0) hc dL_set_1 (by decide) ?_
  refine J_aload_n (pc := 2) hc dL_set_2 rfl rfl ?_
  refine J_iload_n (pc := 3) hc dL_set_3 rfl rfl ?_
  refine J_iload_n (pc := 4) hc dL_set_4 rfl rfl ?_
  refine J_callVCi (pc := 5) hc he (hs := [(0, 1)]) (fun k v h => by
      rcases List.mem_cons.mp (hCt_in h) with e | e
      · cases e; exact Hd_1 hc ht rfl (by decide) tw785 (Or.inl ⟨dL_set_13, rfl⟩) (i := 4) (Nat.le_of_ble_eq_true rfl) dL_set_15 rfl dL_set_16
      · cases e) clX7 (As := [((0, .int x1) : TV), ((0, .int x2) : TV)]) (KX7_set x0 x1 x2) dL_set_5 moX7_set rfl tw955 tw956 tw957 tw1 tw958 rfl (Nat.le_of_ble_eq_true rfl) (Nat.le_of_ble_eq_true rfl) (Nat.le_of_ble_eq_true rfl) (Nat.le_of_ble_eq_true rfl) (Nat.le_of_ble_eq_true rfl) rfl (fun v1 => ?_)
  refine J_i2l (pc := 8) hc dL_set_8 ?_
  refine J_last (pc := 9) hc dL_set_9 ?_
  refine J_goto (pc := 10) (tgt := 17) hc dL_set_10 (by decide) ?_
  refine J_iconst (pc := 17) (v := 0) hc dL_set_17 (by decide) ?_
  exact J_iret (pc := 18) he dL_set_18
theorem moL_set : MOk yL_set 4 := ⟨by decide +kernel, by decide +kernel, by decide +kernel⟩
set_option maxRecDepth 100000 in
set_option maxHeartbeats 4000000 in
theorem KL_set (x0 : Nat) (x1 : Int32) (x2 : Int32) (x3 : Nat) : CtW wI yL_set cL_set 5 (some .int) [(0, 10, 13, 18)] 7 4 51 123 [((7, .ref x0) : TV), ((0, .int x1) : TV), ((0, .int x2) : TV), ((12, .ref x3) : TV)] (fL_set x0 x1 x2 x3) :=
  CtW_I (j := 1) (by decide +kernel) rfl rfl (Nat.le_of_ble_eq_true rfl) (fun κ fin hc he hN ht => jL_set hc he hN ht x0 x1 x2 x3)
def fL_lose (x0 : Nat) (x1 : Int32) (x2 : Int32) (x3 : Nat) : Mm → Option (Int32 × Mm) :=
  bndC (fX7_lose x0 x1 x2) [(2, 1), (0, 2)] fun v1 =>
  bnd (aJ x3 0 ((v1).toInt64)) fun _ =>
  rtn 0
set_option maxRecDepth 100000 in
set_option maxHeartbeats 4000000 in
theorem jL_lose {κ : Cx} {fin : Int32 → Mm → Prop} (hc : Jc κ RL cL_lose 5 7 4 51 123) (he : Ed κ cL_lose 4 51 wI .ireturn fin) (hN : NcK κ) (ht : κ.1.2.2.2.2.2.2.2.2.2.exceptionTable.toList = tableOf [(0, 10, 13, 27), (0, 10, 17, 18)]) (x0 : Nat) (x1 : Int32) (x2 : Int32) (x3 : Nat) : Jg κ (wM κ) 5 fin 0 0 0 [some ((7, .ref x0) : TV), some ((0, .int x1) : TV), some ((0, .int x2) : TV), some ((12, .ref x3) : TV), none] [] (fL_lose x0 x1 x2 x3) := by
  unfold fL_lose
  refine J_aload_n (pc := 0) hc dL_lose_0 rfl rfl ?_
  refine J_iconst (pc := 1) (v := 0) hc dL_lose_1 (by decide) ?_
  refine J_aload_n (pc := 2) hc dL_lose_2 rfl rfl ?_
  refine J_iload_n (pc := 3) hc dL_lose_3 rfl rfl ?_
  refine J_iload_n (pc := 4) hc dL_lose_4 rfl rfl ?_
  refine J_callVCi (pc := 5) hc he (hs := [(2, 1), (0, 2)]) (fun k v h => by
      rcases List.mem_cons.mp (hCt_in h) with e | e
      · cases e; exact Hd_1 hc ht rfl (by decide) tw829 (Or.inl ⟨dL_lose_13, rfl⟩) (i := 4) (Nat.le_of_ble_eq_true rfl) dL_lose_15 rfl dL_lose_16
      · rcases List.mem_cons.mp e with e | e
        · cases e; exact Hd_2 hc hN (k0 := 2) (fun _ h => h.1) ht (by decide) tw829 rfl (by decide) tw785 (Or.inl ⟨dL_lose_17, rfl⟩) (i := 4) (Nat.le_of_ble_eq_true rfl) dL_lose_19 rfl dL_lose_20
        · cases e) clX7 (As := [((0, .int x1) : TV), ((0, .int x2) : TV)]) (KX7_lose x0 x1 x2) dL_lose_5 moX7_lose rfl tw972 tw973 tw974 tw1 tw975 rfl (Nat.le_of_ble_eq_true rfl) (Nat.le_of_ble_eq_true rfl) (Nat.le_of_ble_eq_true rfl) (Nat.le_of_ble_eq_true rfl) (Nat.le_of_ble_eq_true rfl) rfl (fun v1 => ?_)
  refine J_i2l (pc := 8) hc dL_lose_8 ?_
  refine J_last (pc := 9) hc dL_lose_9 ?_
  refine J_goto (pc := 10) (tgt := 21) hc dL_lose_10 (by decide) ?_
  refine J_iconst (pc := 21) (v := 0) hc dL_lose_21 (by decide) ?_
  exact J_iret (pc := 22) he dL_lose_22
theorem moL_lose : MOk yL_lose 4 := ⟨by decide +kernel, by decide +kernel, by decide +kernel⟩
set_option maxRecDepth 100000 in
set_option maxHeartbeats 4000000 in
theorem KL_lose (x0 : Nat) (x1 : Int32) (x2 : Int32) (x3 : Nat) : CtW wI yL_lose cL_lose 5 (some .int) [(0, 10, 13, 27), (0, 10, 17, 18)] 7 4 51 123 [((7, .ref x0) : TV), ((0, .int x1) : TV), ((0, .int x2) : TV), ((12, .ref x3) : TV)] (fL_lose x0 x1 x2 x3) :=
  CtW_I (j := 1) (by decide +kernel) rfl rfl (Nat.le_of_ble_eq_true rfl) (fun κ fin hc he hN ht => jL_lose hc he hN ht x0 x1 x2 x3)
def fL_addLine (x0 : Nat) (x1 : Int32) (x2 : Int32) (x3 : Nat) : Mm → Option (Int32 × Mm) :=
  bndC (fX7_addLine x0 x1 x2) [(0, 1), (1, 2)] fun v1 =>
  bnd (aJ x3 0 ((v1).toInt64)) fun _ =>
  rtn 0
set_option maxRecDepth 100000 in
set_option maxHeartbeats 4000000 in
theorem jL_addLine {κ : Cx} {fin : Int32 → Mm → Prop} (hc : Jc κ RL cL_addLine 5 8 6 63 144) (he : Ed κ cL_addLine 6 63 wI .ireturn fin) (hN : NcK κ) (ht : κ.1.2.2.2.2.2.2.2.2.2.exceptionTable.toList = tableOf [(0, 10, 13, 18), (0, 10, 17, 13)]) (x0 : Nat) (x1 : Int32) (x2 : Int32) (x3 : Nat) : Jg κ (wM κ) 5 fin 0 0 0 [some ((7, .ref x0) : TV), some ((0, .int x1) : TV), some ((0, .int x2) : TV), some ((12, .ref x3) : TV), none] [] (fL_addLine x0 x1 x2 x3) := by
  unfold fL_addLine
  refine J_aload_n (pc := 0) hc dL_addLine_0 rfl rfl ?_
  refine J_iconst (pc := 1) (v := 0) hc dL_addLine_1 (by decide) ?_
  refine J_aload_n (pc := 2) hc dL_addLine_2 rfl rfl ?_
  refine J_iload_n (pc := 3) hc dL_addLine_3 rfl rfl ?_
  refine J_iload_n (pc := 4) hc dL_addLine_4 rfl rfl ?_
  refine J_callVCi (pc := 5) hc he (hs := [(0, 1), (1, 2)]) (fun k v h => by
      rcases List.mem_cons.mp (hCt_in h) with e | e
      · cases e; exact Hd_1 hc ht rfl (by decide) tw785 (Or.inl ⟨dL_addLine_13, rfl⟩) (i := 4) (Nat.le_of_ble_eq_true rfl) dL_addLine_15 rfl dL_addLine_16
      · rcases List.mem_cons.mp e with e | e
        · cases e; exact Hd_2 hc hN (k0 := 0) (fun _ h => h.2.1) ht (by decide) tw785 rfl (by decide) tw706 (Or.inl ⟨dL_addLine_17, rfl⟩) (i := 4) (Nat.le_of_ble_eq_true rfl) dL_addLine_19 rfl dL_addLine_20
        · cases e) clX7 (As := [((0, .int x1) : TV), ((0, .int x2) : TV)]) (KX7_addLine x0 x1 x2) dL_addLine_5 moX7_addLine rfl tw981 tw982 tw983 tw1 tw984 rfl (Nat.le_of_ble_eq_true rfl) (Nat.le_of_ble_eq_true rfl) (Nat.le_of_ble_eq_true rfl) (Nat.le_of_ble_eq_true rfl) (Nat.le_of_ble_eq_true rfl) rfl (fun v1 => ?_)
  refine J_i2l (pc := 8) hc dL_addLine_8 ?_
  refine J_last (pc := 9) hc dL_addLine_9 ?_
  refine J_goto (pc := 10) (tgt := 21) hc dL_addLine_10 (by decide) ?_
  refine J_iconst (pc := 21) (v := 0) hc dL_addLine_21 (by decide) ?_
  exact J_iret (pc := 22) he dL_addLine_22
theorem moL_addLine : MOk yL_addLine 4 := ⟨by decide +kernel, by decide +kernel, by decide +kernel⟩
set_option maxRecDepth 100000 in
set_option maxHeartbeats 4000000 in
theorem KL_addLine (x0 : Nat) (x1 : Int32) (x2 : Int32) (x3 : Nat) : CtW wI yL_addLine cL_addLine 5 (some .int) [(0, 10, 13, 18), (0, 10, 17, 13)] 8 6 63 144 [((7, .ref x0) : TV), ((0, .int x1) : TV), ((0, .int x2) : TV), ((12, .ref x3) : TV)] (fL_addLine x0 x1 x2 x3) :=
  CtW_I (j := 1) (by decide +kernel) rfl rfl (Nat.le_of_ble_eq_true rfl) (fun κ fin hc he hN ht => jL_addLine hc he hN ht x0 x1 x2 x3)
def fL_paint (x0 : Nat) (x1 : Int32) (x2 : Int32) (x3 : Int32) (x4 : Int32) (x5 : Nat) : Mm → Option (Int32 × Mm) :=
  bndC (fX7_paint x0 x1 x2 x3 x4) [(2, 1), (0, 2)] fun v1 =>
  bnd (aJ x5 0 ((v1).toInt64)) fun _ =>
  rtn 0
set_option maxRecDepth 100000 in
set_option maxHeartbeats 4000000 in
theorem jL_paint {κ : Cx} {fin : Int32 → Mm → Prop} (hc : Jc κ RL cL_paint 7 8 7 69 150) (he : Ed κ cL_paint 7 69 wI .ireturn fin) (hN : NcK κ) (ht : κ.1.2.2.2.2.2.2.2.2.2.exceptionTable.toList = tableOf [(0, 14, 17, 27), (0, 14, 21, 18)]) (x0 : Nat) (x1 : Int32) (x2 : Int32) (x3 : Int32) (x4 : Int32) (x5 : Nat) : Jg κ (wM κ) 7 fin 0 0 0 [some ((7, .ref x0) : TV), some ((0, .int x1) : TV), some ((0, .int x2) : TV), some ((0, .int x3) : TV), some ((0, .int x4) : TV), some ((12, .ref x5) : TV), none] [] (fL_paint x0 x1 x2 x3 x4 x5) := by
  unfold fL_paint
  refine J_aload (pc := 0) hc dL_paint_0 rfl ?_
  refine J_iconst (pc := 2) (v := 0) hc dL_paint_2 (by decide) ?_
  refine J_aload_n (pc := 3) hc dL_paint_3 rfl rfl ?_
  refine J_iload_n (pc := 4) hc dL_paint_4 rfl rfl ?_
  refine J_iload_n (pc := 5) hc dL_paint_5 rfl rfl ?_
  refine J_iload_n (pc := 6) hc dL_paint_6 rfl rfl ?_
  refine J_iload (pc := 7) hc dL_paint_7 rfl ?_
  refine J_callVCi (pc := 9) hc he (hs := [(2, 1), (0, 2)]) (fun k v h => by
      rcases List.mem_cons.mp (hCt_in h) with e | e
      · cases e; exact Hd_1 hc ht rfl (by decide) tw829 (Or.inl ⟨dL_paint_17, rfl⟩) (i := 6) (Nat.le_of_ble_eq_true rfl) dL_paint_19 rfl dL_paint_20
      · rcases List.mem_cons.mp e with e | e
        · cases e; exact Hd_2 hc hN (k0 := 2) (fun _ h => h.1) ht (by decide) tw829 rfl (by decide) tw785 (Or.inl ⟨dL_paint_21, rfl⟩) (i := 6) (Nat.le_of_ble_eq_true rfl) dL_paint_23 rfl dL_paint_24
        · cases e) clX7 (As := [((0, .int x1) : TV), ((0, .int x2) : TV), ((0, .int x3) : TV), ((0, .int x4) : TV)]) (KX7_paint x0 x1 x2 x3 x4) dL_paint_9 moX7_paint rfl tw1000 tw1001 tw1002 tw1 tw1003 rfl (Nat.le_of_ble_eq_true rfl) (Nat.le_of_ble_eq_true rfl) (Nat.le_of_ble_eq_true rfl) (Nat.le_of_ble_eq_true rfl) (Nat.le_of_ble_eq_true rfl) rfl (fun v1 => ?_)
  refine J_i2l (pc := 12) hc dL_paint_12 ?_
  refine J_last (pc := 13) hc dL_paint_13 ?_
  refine J_goto (pc := 14) (tgt := 25) hc dL_paint_14 (by decide) ?_
  refine J_iconst (pc := 25) (v := 0) hc dL_paint_25 (by decide) ?_
  exact J_iret (pc := 26) he dL_paint_26
theorem moL_paint : MOk yL_paint 6 := ⟨by decide +kernel, by decide +kernel, by decide +kernel⟩
set_option maxRecDepth 100000 in
set_option maxHeartbeats 4000000 in
theorem KL_paint (x0 : Nat) (x1 : Int32) (x2 : Int32) (x3 : Int32) (x4 : Int32) (x5 : Nat) : CtW wI yL_paint cL_paint 7 (some .int) [(0, 14, 17, 27), (0, 14, 21, 18)] 8 7 69 150 [((7, .ref x0) : TV), ((0, .int x1) : TV), ((0, .int x2) : TV), ((0, .int x3) : TV), ((0, .int x4) : TV), ((12, .ref x5) : TV)] (fL_paint x0 x1 x2 x3 x4 x5) :=
  CtW_I (j := 1) (by decide +kernel) rfl rfl (Nat.le_of_ble_eq_true rfl) (fun κ fin hc he hN ht => jL_paint hc he hN ht x0 x1 x2 x3 x4 x5)
def fL_shift (x0 : Nat) (x1 : Int32) (x2 : Int32) (x3 : Nat) : Mm → Option (Int32 × Mm) :=
  bndC (fX7_shift x0 x1 x2) [(2, 1), (0, 2)] fun v1 =>
  bnd (aJ x3 0 ((v1).toInt64)) fun _ =>
  rtn 0
set_option maxRecDepth 100000 in
set_option maxHeartbeats 4000000 in
theorem jL_shift {κ : Cx} {fin : Int32 → Mm → Prop} (hc : Jc κ RL cL_shift 5 8 5 57 145) (he : Ed κ cL_shift 5 57 wI .ireturn fin) (hN : NcK κ) (ht : κ.1.2.2.2.2.2.2.2.2.2.exceptionTable.toList = tableOf [(0, 10, 13, 27), (0, 10, 17, 18)]) (x0 : Nat) (x1 : Int32) (x2 : Int32) (x3 : Nat) : Jg κ (wM κ) 5 fin 0 0 0 [some ((7, .ref x0) : TV), some ((0, .int x1) : TV), some ((0, .int x2) : TV), some ((12, .ref x3) : TV), none] [] (fL_shift x0 x1 x2 x3) := by
  unfold fL_shift
  refine J_aload_n (pc := 0) hc dL_shift_0 rfl rfl ?_
  refine J_iconst (pc := 1) (v := 0) hc dL_shift_1 (by decide) ?_
  refine J_aload_n (pc := 2) hc dL_shift_2 rfl rfl ?_
  refine J_iload_n (pc := 3) hc dL_shift_3 rfl rfl ?_
  refine J_iload_n (pc := 4) hc dL_shift_4 rfl rfl ?_
  refine J_callVCi (pc := 5) hc he (hs := [(2, 1), (0, 2)]) (fun k v h => by
      rcases List.mem_cons.mp (hCt_in h) with e | e
      · cases e; exact Hd_1 hc ht rfl (by decide) tw829 (Or.inl ⟨dL_shift_13, rfl⟩) (i := 4) (Nat.le_of_ble_eq_true rfl) dL_shift_15 rfl dL_shift_16
      · rcases List.mem_cons.mp e with e | e
        · cases e; exact Hd_2 hc hN (k0 := 2) (fun _ h => h.1) ht (by decide) tw829 rfl (by decide) tw785 (Or.inl ⟨dL_shift_17, rfl⟩) (i := 4) (Nat.le_of_ble_eq_true rfl) dL_shift_19 rfl dL_shift_20
        · cases e) clX7 (As := [((0, .int x1) : TV), ((0, .int x2) : TV)]) (KX7_shift x0 x1 x2) dL_shift_5 moX7_shift rfl tw1008 tw1009 tw1010 tw1 tw1011 rfl (Nat.le_of_ble_eq_true rfl) (Nat.le_of_ble_eq_true rfl) (Nat.le_of_ble_eq_true rfl) (Nat.le_of_ble_eq_true rfl) (Nat.le_of_ble_eq_true rfl) rfl (fun v1 => ?_)
  refine J_i2l (pc := 8) hc dL_shift_8 ?_
  refine J_last (pc := 9) hc dL_shift_9 ?_
  refine J_goto (pc := 10) (tgt := 21) hc dL_shift_10 (by decide) ?_
  refine J_iconst (pc := 21) (v := 0) hc dL_shift_21 (by decide) ?_
  exact J_iret (pc := 22) he dL_shift_22
theorem moL_shift : MOk yL_shift 4 := ⟨by decide +kernel, by decide +kernel, by decide +kernel⟩
set_option maxRecDepth 100000 in
set_option maxHeartbeats 4000000 in
theorem KL_shift (x0 : Nat) (x1 : Int32) (x2 : Int32) (x3 : Nat) : CtW wI yL_shift cL_shift 5 (some .int) [(0, 10, 13, 27), (0, 10, 17, 18)] 8 5 57 145 [((7, .ref x0) : TV), ((0, .int x1) : TV), ((0, .int x2) : TV), ((12, .ref x3) : TV)] (fL_shift x0 x1 x2 x3) :=
  CtW_I (j := 1) (by decide +kernel) rfl rfl (Nat.le_of_ble_eq_true rfl) (fun κ fin hc he hN ht => jL_shift hc he hN ht x0 x1 x2 x3)
def fL_copyLine (x0 : Nat) (x1 : Int32) (x2 : Int32) (x3 : Nat) : Mm → Option (Int32 × Mm) :=
  bndC (fX7_copyLine x0 x1 x2) [(2, 1), (1, 2)] fun v1 =>
  bnd (aJ x3 0 ((v1).toInt64)) fun _ =>
  rtn 0
set_option maxRecDepth 100000 in
set_option maxHeartbeats 4000000 in
theorem jL_copyLine {κ : Cx} {fin : Int32 → Mm → Prop} (hc : Jc κ RL cL_copyLine 5 8 6 63 143) (he : Ed κ cL_copyLine 6 63 wI .ireturn fin) (hN : NcK κ) (ht : κ.1.2.2.2.2.2.2.2.2.2.exceptionTable.toList = tableOf [(0, 10, 13, 27), (0, 10, 17, 13)]) (x0 : Nat) (x1 : Int32) (x2 : Int32) (x3 : Nat) : Jg κ (wM κ) 5 fin 0 0 0 [some ((7, .ref x0) : TV), some ((0, .int x1) : TV), some ((0, .int x2) : TV), some ((12, .ref x3) : TV), none] [] (fL_copyLine x0 x1 x2 x3) := by
  unfold fL_copyLine
  refine J_aload_n (pc := 0) hc dL_copyLine_0 rfl rfl ?_
  refine J_iconst (pc := 1) (v := 0) hc dL_copyLine_1 (by decide) ?_
  refine J_aload_n (pc := 2) hc dL_copyLine_2 rfl rfl ?_
  refine J_iload_n (pc := 3) hc dL_copyLine_3 rfl rfl ?_
  refine J_iload_n (pc := 4) hc dL_copyLine_4 rfl rfl ?_
  refine J_callVCi (pc := 5) hc he (hs := [(2, 1), (1, 2)]) (fun k v h => by
      rcases List.mem_cons.mp (hCt_in h) with e | e
      · cases e; exact Hd_1 hc ht rfl (by decide) tw829 (Or.inl ⟨dL_copyLine_13, rfl⟩) (i := 4) (Nat.le_of_ble_eq_true rfl) dL_copyLine_15 rfl dL_copyLine_16
      · rcases List.mem_cons.mp e with e | e
        · cases e; exact Hd_2 hc hN (k0 := 2) (fun _ h => h.2.2) ht (by decide) tw829 rfl (by decide) tw706 (Or.inl ⟨dL_copyLine_17, rfl⟩) (i := 4) (Nat.le_of_ble_eq_true rfl) dL_copyLine_19 rfl dL_copyLine_20
        · cases e) clX7 (As := [((0, .int x1) : TV), ((0, .int x2) : TV)]) (KX7_copyLine x0 x1 x2) dL_copyLine_5 moX7_copyLine rfl tw1016 tw1017 tw1018 tw1 tw1019 rfl (Nat.le_of_ble_eq_true rfl) (Nat.le_of_ble_eq_true rfl) (Nat.le_of_ble_eq_true rfl) (Nat.le_of_ble_eq_true rfl) (Nat.le_of_ble_eq_true rfl) rfl (fun v1 => ?_)
  refine J_i2l (pc := 8) hc dL_copyLine_8 ?_
  refine J_last (pc := 9) hc dL_copyLine_9 ?_
  refine J_goto (pc := 10) (tgt := 21) hc dL_copyLine_10 (by decide) ?_
  refine J_iconst (pc := 21) (v := 0) hc dL_copyLine_21 (by decide) ?_
  exact J_iret (pc := 22) he dL_copyLine_22
theorem moL_copyLine : MOk yL_copyLine 4 := ⟨by decide +kernel, by decide +kernel, by decide +kernel⟩
set_option maxRecDepth 100000 in
set_option maxHeartbeats 4000000 in
theorem KL_copyLine (x0 : Nat) (x1 : Int32) (x2 : Int32) (x3 : Nat) : CtW wI yL_copyLine cL_copyLine 5 (some .int) [(0, 10, 13, 27), (0, 10, 17, 13)] 8 6 63 143 [((7, .ref x0) : TV), ((0, .int x1) : TV), ((0, .int x2) : TV), ((12, .ref x3) : TV)] (fL_copyLine x0 x1 x2 x3) :=
  CtW_I (j := 1) (by decide +kernel) rfl rfl (Nat.le_of_ble_eq_true rfl) (fun κ fin hc he hN ht => jL_copyLine hc he hN ht x0 x1 x2 x3)
def fL_removeLine (x0 : Nat) (x1 : Int32) (x2 : Nat) : Mm → Option (Int32 × Mm) :=
  bndC (fX7_removeLine x0 x1) [(2, 1)] fun v1 =>
  bnd (aJ x2 0 ((v1).toInt64)) fun _ =>
  rtn 0
set_option maxRecDepth 100000 in
set_option maxHeartbeats 4000000 in
theorem jL_removeLine {κ : Cx} {fin : Int32 → Mm → Prop} (hc : Jc κ RL cL_removeLine 4 8 5 57 142) (he : Ed κ cL_removeLine 5 57 wI .ireturn fin) (hN : NcK κ) (ht : κ.1.2.2.2.2.2.2.2.2.2.exceptionTable.toList = tableOf [(0, 9, 12, 27)]) (x0 : Nat) (x1 : Int32) (x2 : Nat) : Jg κ (wM κ) 4 fin 0 0 0 [some ((7, .ref x0) : TV), some ((0, .int x1) : TV), some ((12, .ref x2) : TV), none] [] (fL_removeLine x0 x1 x2) := by
  unfold fL_removeLine
  refine J_aload_n (pc := 0) hc dL_removeLine_0 rfl rfl ?_
  refine J_iconst (pc := 1) (v := 0) hc dL_removeLine_1 (by decide) ?_
  refine J_aload_n (pc := 2) hc dL_removeLine_2 rfl rfl ?_
  refine J_iload_n (pc := 3) hc dL_removeLine_3 rfl rfl ?_
  refine J_callVCi (pc := 4) hc he (hs := [(2, 1)]) (fun k v h => by
      rcases List.mem_cons.mp (hCt_in h) with e | e
      · cases e; exact Hd_1 hc ht rfl (by decide) tw829 (Or.inr ⟨_, dL_removeLine_12, rfl, rfl⟩) (i := 3) (Nat.le_of_ble_eq_true rfl) dL_removeLine_13 rfl dL_removeLine_14
      · cases e) clX7 (As := [((0, .int x1) : TV)]) (KX7_removeLine x0 x1) dL_removeLine_4 moX7_removeLine rfl tw1024 tw1025 tw1026 tw1 tw1027 rfl (Nat.le_of_ble_eq_true rfl) (Nat.le_of_ble_eq_true rfl) (Nat.le_of_ble_eq_true rfl) (Nat.le_of_ble_eq_true rfl) (Nat.le_of_ble_eq_true rfl) rfl (fun v1 => ?_)
  refine J_i2l (pc := 7) hc dL_removeLine_7 ?_
  refine J_last (pc := 8) hc dL_removeLine_8 ?_
  refine J_goto (pc := 9) (tgt := 15) hc dL_removeLine_9 (by decide) ?_
  refine J_iconst (pc := 15) (v := 0) hc dL_removeLine_15 (by decide) ?_
  exact J_iret (pc := 16) he dL_removeLine_16
theorem moL_removeLine : MOk yL_removeLine 3 := ⟨by decide +kernel, by decide +kernel, by decide +kernel⟩
set_option maxRecDepth 100000 in
set_option maxHeartbeats 4000000 in
theorem KL_removeLine (x0 : Nat) (x1 : Int32) (x2 : Nat) : CtW wI yL_removeLine cL_removeLine 4 (some .int) [(0, 9, 12, 27)] 8 5 57 142 [((7, .ref x0) : TV), ((0, .int x1) : TV), ((12, .ref x2) : TV)] (fL_removeLine x0 x1 x2) :=
  CtW_I (j := 1) (by decide +kernel) rfl rfl (Nat.le_of_ble_eq_true rfl) (fun κ fin hc he hN ht => jL_removeLine hc he hN ht x0 x1 x2)
def fL_invert (x0 : Nat) (x1 : Int32) (x2 : Nat) : Mm → Option (Int32 × Mm) :=
  bndC (fX7_invert x0 x1) [(2, 1)] fun v1 =>
  bnd (aJ x2 0 ((v1).toInt64)) fun _ =>
  rtn 0
set_option maxRecDepth 100000 in
set_option maxHeartbeats 4000000 in
theorem jL_invert {κ : Cx} {fin : Int32 → Mm → Prop} (hc : Jc κ RL cL_invert 4 8 5 57 142) (he : Ed κ cL_invert 5 57 wI .ireturn fin) (hN : NcK κ) (ht : κ.1.2.2.2.2.2.2.2.2.2.exceptionTable.toList = tableOf [(0, 9, 12, 27)]) (x0 : Nat) (x1 : Int32) (x2 : Nat) : Jg κ (wM κ) 4 fin 0 0 0 [some ((7, .ref x0) : TV), some ((0, .int x1) : TV), some ((12, .ref x2) : TV), none] [] (fL_invert x0 x1 x2) := by
  unfold fL_invert
  refine J_aload_n (pc := 0) hc dL_invert_0 rfl rfl ?_
  refine J_iconst (pc := 1) (v := 0) hc dL_invert_1 (by decide) ?_
  refine J_aload_n (pc := 2) hc dL_invert_2 rfl rfl ?_
  refine J_iload_n (pc := 3) hc dL_invert_3 rfl rfl ?_
  refine J_callVCi (pc := 4) hc he (hs := [(2, 1)]) (fun k v h => by
      rcases List.mem_cons.mp (hCt_in h) with e | e
      · cases e; exact Hd_1 hc ht rfl (by decide) tw829 (Or.inr ⟨_, dL_invert_12, rfl, rfl⟩) (i := 3) (Nat.le_of_ble_eq_true rfl) dL_invert_13 rfl dL_invert_14
      · cases e) clX7 (As := [((0, .int x1) : TV)]) (KX7_invert x0 x1) dL_invert_4 moX7_invert rfl tw1035 tw1036 tw1037 tw1 tw1038 rfl (Nat.le_of_ble_eq_true rfl) (Nat.le_of_ble_eq_true rfl) (Nat.le_of_ble_eq_true rfl) (Nat.le_of_ble_eq_true rfl) (Nat.le_of_ble_eq_true rfl) rfl (fun v1 => ?_)
  refine J_i2l (pc := 7) hc dL_invert_7 ?_
  refine J_last (pc := 8) hc dL_invert_8 ?_
  refine J_goto (pc := 9) (tgt := 15) hc dL_invert_9 (by decide) ?_
  refine J_iconst (pc := 15) (v := 0) hc dL_invert_15 (by decide) ?_
  exact J_iret (pc := 16) he dL_invert_16
theorem moL_invert : MOk yL_invert 3 := ⟨by decide +kernel, by decide +kernel, by decide +kernel⟩
set_option maxRecDepth 100000 in
set_option maxHeartbeats 4000000 in
theorem KL_invert (x0 : Nat) (x1 : Int32) (x2 : Nat) : CtW wI yL_invert cL_invert 4 (some .int) [(0, 9, 12, 27)] 8 5 57 142 [((7, .ref x0) : TV), ((0, .int x1) : TV), ((12, .ref x2) : TV)] (fL_invert x0 x1 x2) :=
  CtW_I (j := 1) (by decide +kernel) rfl rfl (Nat.le_of_ble_eq_true rfl) (fun κ fin hc he hN ht => jL_invert hc he hN ht x0 x1 x2)
def fL_swap (x0 : Nat) (x1 : Int32) (x2 : Int32) (x3 : Nat) : Mm → Option (Int32 × Mm) :=
  bndC (fX7_swap x0 x1 x2) [(2, 1)] fun v1 =>
  bnd (aJ x3 0 ((v1).toInt64)) fun _ =>
  rtn 0
set_option maxRecDepth 100000 in
set_option maxHeartbeats 4000000 in
theorem jL_swap {κ : Cx} {fin : Int32 → Mm → Prop} (hc : Jc κ RL cL_swap 5 8 6 63 147) (he : Ed κ cL_swap 6 63 wI .ireturn fin) (hN : NcK κ) (ht : κ.1.2.2.2.2.2.2.2.2.2.exceptionTable.toList = tableOf [(0, 10, 13, 27)]) (x0 : Nat) (x1 : Int32) (x2 : Int32) (x3 : Nat) : Jg κ (wM κ) 5 fin 0 0 0 [some ((7, .ref x0) : TV), some ((0, .int x1) : TV), some ((0, .int x2) : TV), some ((12, .ref x3) : TV), none] [] (fL_swap x0 x1 x2 x3) := by
  unfold fL_swap
  refine J_aload_n (pc := 0) hc dL_swap_0 rfl rfl ?_
  refine J_iconst (pc := 1) (v := 0) hc dL_swap_1 (by decide) ?_
  refine J_aload_n (pc := 2) hc dL_swap_2 rfl rfl ?_
  refine J_iload_n (pc := 3) hc dL_swap_3 rfl rfl ?_
  refine J_iload_n (pc := 4) hc dL_swap_4 rfl rfl ?_
  refine J_callVCi (pc := 5) hc he (hs := [(2, 1)]) (fun k v h => by
      rcases List.mem_cons.mp (hCt_in h) with e | e
      · cases e; exact Hd_1 hc ht rfl (by decide) tw829 (Or.inl ⟨dL_swap_13, rfl⟩) (i := 4) (Nat.le_of_ble_eq_true rfl) dL_swap_15 rfl dL_swap_16
      · cases e) clX7 (As := [((0, .int x1) : TV), ((0, .int x2) : TV)]) (KX7_swap x0 x1 x2) dL_swap_5 moX7_swap rfl tw1042 tw1043 tw1044 tw1 tw1045 rfl (Nat.le_of_ble_eq_true rfl) (Nat.le_of_ble_eq_true rfl) (Nat.le_of_ble_eq_true rfl) (Nat.le_of_ble_eq_true rfl) (Nat.le_of_ble_eq_true rfl) rfl (fun v1 => ?_)
  refine J_i2l (pc := 8) hc dL_swap_8 ?_
  refine J_last (pc := 9) hc dL_swap_9 ?_
  refine J_goto (pc := 10) (tgt := 17) hc dL_swap_10 (by decide) ?_
  refine J_iconst (pc := 17) (v := 0) hc dL_swap_17 (by decide) ?_
  exact J_iret (pc := 18) he dL_swap_18
theorem moL_swap : MOk yL_swap 4 := ⟨by decide +kernel, by decide +kernel, by decide +kernel⟩
set_option maxRecDepth 100000 in
set_option maxHeartbeats 4000000 in
theorem KL_swap (x0 : Nat) (x1 : Int32) (x2 : Int32) (x3 : Nat) : CtW wI yL_swap cL_swap 5 (some .int) [(0, 10, 13, 27)] 8 6 63 147 [((7, .ref x0) : TV), ((0, .int x1) : TV), ((0, .int x2) : TV), ((12, .ref x3) : TV)] (fL_swap x0 x1 x2 x3) :=
  CtW_I (j := 1) (by decide +kernel) rfl rfl (Nat.le_of_ble_eq_true rfl) (fun κ fin hc he hN ht => jL_swap hc he hN ht x0 x1 x2 x3)
def fL_sent (x0 : Nat) (x1 : Int32) (x2 : Nat) : Mm → Option (Int32 × Mm) :=
  bndC (fX7_sent x0 x1) [(0, 1)] fun v1 =>
  bnd (aJ x2 0 ((v1).toInt64)) fun _ =>
  rtn 0
set_option maxRecDepth 100000 in
set_option maxHeartbeats 4000000 in
theorem jL_sent {κ : Cx} {fin : Int32 → Mm → Prop} (hc : Jc κ RL cL_sent 4 8 1 6 196) (he : Ed κ cL_sent 1 6 wI .ireturn fin) (hN : NcK κ) (ht : κ.1.2.2.2.2.2.2.2.2.2.exceptionTable.toList = tableOf [(0, 9, 12, 18)]) (x0 : Nat) (x1 : Int32) (x2 : Nat) : Jg κ (wM κ) 4 fin 0 0 0 [some ((7, .ref x0) : TV), some ((0, .int x1) : TV), some ((12, .ref x2) : TV), none] [] (fL_sent x0 x1 x2) := by
  unfold fL_sent
  refine J_aload_n (pc := 0) hc dL_sent_0 rfl rfl ?_
  refine J_iconst (pc := 1) (v := 0) hc dL_sent_1 (by decide) ?_
  refine J_aload_n (pc := 2) hc dL_sent_2 rfl rfl ?_
  refine J_iload_n (pc := 3) hc dL_sent_3 rfl rfl ?_
  refine J_callVCi (pc := 4) hc he (hs := [(0, 1)]) (fun k v h => by
      rcases List.mem_cons.mp (hCt_in h) with e | e
      · cases e; exact Hd_1 hc ht rfl (by decide) tw785 (Or.inr ⟨_, dL_sent_12, rfl, rfl⟩) (i := 3) (Nat.le_of_ble_eq_true rfl) dL_sent_13 rfl dL_sent_14
      · cases e) clX7 (As := [((0, .int x1) : TV)]) (KX7_sent x0 x1) dL_sent_4 moX7_sent rfl tw1049 tw1050 tw1051 tw1 tw1052 rfl (Nat.le_of_ble_eq_true rfl) (Nat.le_of_ble_eq_true rfl) (Nat.le_of_ble_eq_true rfl) (Nat.le_of_ble_eq_true rfl) (Nat.le_of_ble_eq_true rfl) rfl (fun v1 => ?_)
  refine J_i2l (pc := 7) hc dL_sent_7 ?_
  refine J_last (pc := 8) hc dL_sent_8 ?_
  refine J_goto (pc := 9) (tgt := 15) hc dL_sent_9 (by decide) ?_
  refine J_iconst (pc := 15) (v := 0) hc dL_sent_15 (by decide) ?_
  exact J_iret (pc := 16) he dL_sent_16
theorem moL_sent : MOk yL_sent 3 := ⟨by decide +kernel, by decide +kernel, by decide +kernel⟩
set_option maxRecDepth 100000 in
set_option maxHeartbeats 4000000 in
theorem KL_sent (x0 : Nat) (x1 : Int32) (x2 : Nat) : CtW wI yL_sent cL_sent 4 (some .int) [(0, 9, 12, 18)] 8 1 6 196 [((7, .ref x0) : TV), ((0, .int x1) : TV), ((12, .ref x2) : TV)] (fL_sent x0 x1 x2) :=
  CtW_I (j := 1) (by decide +kernel) rfl rfl (Nat.le_of_ble_eq_true rfl) (fun κ fin hc he hN ht => jL_sent hc he hN ht x0 x1 x2)
def fL_sentLine (x0 : Nat) (x1 : Int32) (x2 : Int32) (x3 : Nat) : Mm → Option (Int32 × Mm) :=
  bndC (fX7_sentLine x0 x1 x2) [(2, 1), (0, 2)] fun v1 =>
  bnd (aJ x3 0 ((v1).toInt64)) fun _ =>
  rtn 0
set_option maxRecDepth 100000 in
set_option maxHeartbeats 4000000 in
theorem jL_sentLine {κ : Cx} {fin : Int32 → Mm → Prop} (hc : Jc κ RL cL_sentLine 5 8 2 12 197) (he : Ed κ cL_sentLine 2 12 wI .ireturn fin) (hN : NcK κ) (ht : κ.1.2.2.2.2.2.2.2.2.2.exceptionTable.toList = tableOf [(0, 10, 13, 27), (0, 10, 17, 18)]) (x0 : Nat) (x1 : Int32) (x2 : Int32) (x3 : Nat) : Jg κ (wM κ) 5 fin 0 0 0 [some ((7, .ref x0) : TV), some ((0, .int x1) : TV), some ((0, .int x2) : TV), some ((12, .ref x3) : TV), none] [] (fL_sentLine x0 x1 x2 x3) := by
  unfold fL_sentLine
  refine J_aload_n (pc := 0) hc dL_sentLine_0 rfl rfl ?_
  refine J_iconst (pc := 1) (v := 0) hc dL_sentLine_1 (by decide) ?_
  refine J_aload_n (pc := 2) hc dL_sentLine_2 rfl rfl ?_
  refine J_iload_n (pc := 3) hc dL_sentLine_3 rfl rfl ?_
  refine J_iload_n (pc := 4) hc dL_sentLine_4 rfl rfl ?_
  refine J_callVCi (pc := 5) hc he (hs := [(2, 1), (0, 2)]) (fun k v h => by
      rcases List.mem_cons.mp (hCt_in h) with e | e
      · cases e; exact Hd_1 hc ht rfl (by decide) tw829 (Or.inl ⟨dL_sentLine_13, rfl⟩) (i := 4) (Nat.le_of_ble_eq_true rfl) dL_sentLine_15 rfl dL_sentLine_16
      · rcases List.mem_cons.mp e with e | e
        · cases e; exact Hd_2 hc hN (k0 := 2) (fun _ h => h.1) ht (by decide) tw829 rfl (by decide) tw785 (Or.inl ⟨dL_sentLine_17, rfl⟩) (i := 4) (Nat.le_of_ble_eq_true rfl) dL_sentLine_19 rfl dL_sentLine_20
        · cases e) clX7 (As := [((0, .int x1) : TV), ((0, .int x2) : TV)]) (KX7_sentLine x0 x1 x2) dL_sentLine_5 moX7_sentLine rfl tw1060 tw1061 tw1062 tw1 tw1063 rfl (Nat.le_of_ble_eq_true rfl) (Nat.le_of_ble_eq_true rfl) (Nat.le_of_ble_eq_true rfl) (Nat.le_of_ble_eq_true rfl) (Nat.le_of_ble_eq_true rfl) rfl (fun v1 => ?_)
  refine J_i2l (pc := 8) hc dL_sentLine_8 ?_
  refine J_last (pc := 9) hc dL_sentLine_9 ?_
  refine J_goto (pc := 10) (tgt := 21) hc dL_sentLine_10 (by decide) ?_
  refine J_iconst (pc := 21) (v := 0) hc dL_sentLine_21 (by decide) ?_
  exact J_iret (pc := 22) he dL_sentLine_22
theorem moL_sentLine : MOk yL_sentLine 4 := ⟨by decide +kernel, by decide +kernel, by decide +kernel⟩
set_option maxRecDepth 100000 in
set_option maxHeartbeats 4000000 in
theorem KL_sentLine (x0 : Nat) (x1 : Int32) (x2 : Int32) (x3 : Nat) : CtW wI yL_sentLine cL_sentLine 5 (some .int) [(0, 10, 13, 27), (0, 10, 17, 18)] 8 2 12 197 [((7, .ref x0) : TV), ((0, .int x1) : TV), ((0, .int x2) : TV), ((12, .ref x3) : TV)] (fL_sentLine x0 x1 x2 x3) :=
  CtW_I (j := 1) (by decide +kernel) rfl rfl (Nat.le_of_ble_eq_true rfl) (fun κ fin hc he hN ht => jL_sentLine hc he hN ht x0 x1 x2 x3)
def fL_received (x0 : Nat) (x1 : Int32) (x2 : Int32) (x3 : Nat) : Mm → Option (Int32 × Mm) :=
  bndC (fX7_received x0 x1 x2) [(2, 1)] fun v1 =>
  bnd (aJ x3 0 ((v1).toInt64)) fun _ =>
  rtn 0
set_option maxRecDepth 100000 in
set_option maxHeartbeats 4000000 in
theorem jL_received {κ : Cx} {fin : Int32 → Mm → Prop} (hc : Jc κ RL cL_received 5 8 1 6 197) (he : Ed κ cL_received 1 6 wI .ireturn fin) (hN : NcK κ) (ht : κ.1.2.2.2.2.2.2.2.2.2.exceptionTable.toList = tableOf [(0, 10, 13, 27)]) (x0 : Nat) (x1 : Int32) (x2 : Int32) (x3 : Nat) : Jg κ (wM κ) 5 fin 0 0 0 [some ((7, .ref x0) : TV), some ((0, .int x1) : TV), some ((0, .int x2) : TV), some ((12, .ref x3) : TV), none] [] (fL_received x0 x1 x2 x3) := by
  unfold fL_received
  refine J_aload_n (pc := 0) hc dL_received_0 rfl rfl ?_
  refine J_iconst (pc := 1) (v := 0) hc dL_received_1 (by decide) ?_
  refine J_aload_n (pc := 2) hc dL_received_2 rfl rfl ?_
  refine J_iload_n (pc := 3) hc dL_received_3 rfl rfl ?_
  refine J_iload_n (pc := 4) hc dL_received_4 rfl rfl ?_
  refine J_callVCi (pc := 5) hc he (hs := [(2, 1)]) (fun k v h => by
      rcases List.mem_cons.mp (hCt_in h) with e | e
      · cases e; exact Hd_1 hc ht rfl (by decide) tw829 (Or.inl ⟨dL_received_13, rfl⟩) (i := 4) (Nat.le_of_ble_eq_true rfl) dL_received_15 rfl dL_received_16
      · cases e) clX7 (As := [((0, .int x1) : TV), ((0, .int x2) : TV)]) (KX7_received x0 x1 x2) dL_received_5 moX7_received rfl tw1068 tw1069 tw1070 tw1 tw1071 rfl (Nat.le_of_ble_eq_true rfl) (Nat.le_of_ble_eq_true rfl) (Nat.le_of_ble_eq_true rfl) (Nat.le_of_ble_eq_true rfl) (Nat.le_of_ble_eq_true rfl) rfl (fun v1 => ?_)
  refine J_i2l (pc := 8) hc dL_received_8 ?_
  refine J_last (pc := 9) hc dL_received_9 ?_
  refine J_goto (pc := 10) (tgt := 17) hc dL_received_10 (by decide) ?_
  refine J_iconst (pc := 17) (v := 0) hc dL_received_17 (by decide) ?_
  exact J_iret (pc := 18) he dL_received_18
theorem moL_received : MOk yL_received 4 := ⟨by decide +kernel, by decide +kernel, by decide +kernel⟩
set_option maxRecDepth 100000 in
set_option maxHeartbeats 4000000 in
theorem KL_received (x0 : Nat) (x1 : Int32) (x2 : Int32) (x3 : Nat) : CtW wI yL_received cL_received 5 (some .int) [(0, 10, 13, 27)] 8 1 6 197 [((7, .ref x0) : TV), ((0, .int x1) : TV), ((0, .int x2) : TV), ((12, .ref x3) : TV)] (fL_received x0 x1 x2 x3) :=
  CtW_I (j := 1) (by decide +kernel) rfl rfl (Nat.le_of_ble_eq_true rfl) (fun κ fin hc he hN ht => jL_received hc he hN ht x0 x1 x2 x3)
def fL_harm (x0 : Nat) (x1 : Int32) (x2 : Int32) (x3 : Nat) : Mm → Option (Int32 × Mm) :=
  bndC (fX7_harm x0 x1 x2) [(2, 1), (0, 2)] fun v1 =>
  bnd (aJ x3 0 ((v1).toInt64)) fun _ =>
  rtn 0
set_option maxRecDepth 100000 in
set_option maxHeartbeats 4000000 in
theorem jL_harm {κ : Cx} {fin : Int32 → Mm → Prop} (hc : Jc κ RL cL_harm 5 8 2 12 197) (he : Ed κ cL_harm 2 12 wI .ireturn fin) (hN : NcK κ) (ht : κ.1.2.2.2.2.2.2.2.2.2.exceptionTable.toList = tableOf [(0, 10, 13, 27), (0, 10, 17, 18)]) (x0 : Nat) (x1 : Int32) (x2 : Int32) (x3 : Nat) : Jg κ (wM κ) 5 fin 0 0 0 [some ((7, .ref x0) : TV), some ((0, .int x1) : TV), some ((0, .int x2) : TV), some ((12, .ref x3) : TV), none] [] (fL_harm x0 x1 x2 x3) := by
  unfold fL_harm
  refine J_aload_n (pc := 0) hc dL_harm_0 rfl rfl ?_
  refine J_iconst (pc := 1) (v := 0) hc dL_harm_1 (by decide) ?_
  refine J_aload_n (pc := 2) hc dL_harm_2 rfl rfl ?_
  refine J_iload_n (pc := 3) hc dL_harm_3 rfl rfl ?_
  refine J_iload_n (pc := 4) hc dL_harm_4 rfl rfl ?_
  refine J_callVCi (pc := 5) hc he (hs := [(2, 1), (0, 2)]) (fun k v h => by
      rcases List.mem_cons.mp (hCt_in h) with e | e
      · cases e; exact Hd_1 hc ht rfl (by decide) tw829 (Or.inl ⟨dL_harm_13, rfl⟩) (i := 4) (Nat.le_of_ble_eq_true rfl) dL_harm_15 rfl dL_harm_16
      · rcases List.mem_cons.mp e with e | e
        · cases e; exact Hd_2 hc hN (k0 := 2) (fun _ h => h.1) ht (by decide) tw829 rfl (by decide) tw785 (Or.inl ⟨dL_harm_17, rfl⟩) (i := 4) (Nat.le_of_ble_eq_true rfl) dL_harm_19 rfl dL_harm_20
        · cases e) clX7 (As := [((0, .int x1) : TV), ((0, .int x2) : TV)]) (KX7_harm x0 x1 x2) dL_harm_5 moX7_harm rfl tw1075 tw1076 tw1077 tw1 tw1078 rfl (Nat.le_of_ble_eq_true rfl) (Nat.le_of_ble_eq_true rfl) (Nat.le_of_ble_eq_true rfl) (Nat.le_of_ble_eq_true rfl) (Nat.le_of_ble_eq_true rfl) rfl (fun v1 => ?_)
  refine J_i2l (pc := 8) hc dL_harm_8 ?_
  refine J_last (pc := 9) hc dL_harm_9 ?_
  refine J_goto (pc := 10) (tgt := 21) hc dL_harm_10 (by decide) ?_
  refine J_iconst (pc := 21) (v := 0) hc dL_harm_21 (by decide) ?_
  exact J_iret (pc := 22) he dL_harm_22
theorem moL_harm : MOk yL_harm 4 := ⟨by decide +kernel, by decide +kernel, by decide +kernel⟩
set_option maxRecDepth 100000 in
set_option maxHeartbeats 4000000 in
theorem KL_harm (x0 : Nat) (x1 : Int32) (x2 : Int32) (x3 : Nat) : CtW wI yL_harm cL_harm 5 (some .int) [(0, 10, 13, 27), (0, 10, 17, 18)] 8 2 12 197 [((7, .ref x0) : TV), ((0, .int x1) : TV), ((0, .int x2) : TV), ((12, .ref x3) : TV)] (fL_harm x0 x1 x2 x3) :=
  CtW_I (j := 1) (by decide +kernel) rfl rfl (Nat.le_of_ble_eq_true rfl) (fun κ fin hc he hN ht => jL_harm hc he hN ht x0 x1 x2 x3)
def fL_write (x0 : Nat) (x1 : Int32) (x2 : Nat) : Mm → Option (Int32 × Mm) :=
  bndC (fX7_write x0 x1) [(2, 1)] fun v1 =>
  bnd (aJ x2 0 ((v1).toInt64)) fun _ =>
  rtn 0
set_option maxRecDepth 100000 in
set_option maxHeartbeats 4000000 in
theorem jL_write {κ : Cx} {fin : Int32 → Mm → Prop} (hc : Jc κ RL cL_write 4 8 1 6 166) (he : Ed κ cL_write 1 6 wI .ireturn fin) (hN : NcK κ) (ht : κ.1.2.2.2.2.2.2.2.2.2.exceptionTable.toList = tableOf [(0, 9, 12, 27)]) (x0 : Nat) (x1 : Int32) (x2 : Nat) : Jg κ (wM κ) 4 fin 0 0 0 [some ((7, .ref x0) : TV), some ((0, .int x1) : TV), some ((12, .ref x2) : TV), none] [] (fL_write x0 x1 x2) := by
  unfold fL_write
  refine J_aload_n (pc := 0) hc dL_write_0 rfl rfl ?_
  refine J_iconst (pc := 1) (v := 0) hc dL_write_1 (by decide) ?_
  refine J_aload_n (pc := 2) hc dL_write_2 rfl rfl ?_
  refine J_iload_n (pc := 3) hc dL_write_3 rfl rfl ?_
  refine J_callVCi (pc := 4) hc he (hs := [(2, 1)]) (fun k v h => by
      rcases List.mem_cons.mp (hCt_in h) with e | e
      · cases e; exact Hd_1 hc ht rfl (by decide) tw829 (Or.inr ⟨_, dL_write_12, rfl, rfl⟩) (i := 3) (Nat.le_of_ble_eq_true rfl) dL_write_13 rfl dL_write_14
      · cases e) clX7 (As := [((0, .int x1) : TV)]) (KX7_write x0 x1) dL_write_4 moX7_write rfl tw1090 tw1091 tw1092 tw1 tw1093 rfl (Nat.le_of_ble_eq_true rfl) (Nat.le_of_ble_eq_true rfl) (Nat.le_of_ble_eq_true rfl) (Nat.le_of_ble_eq_true rfl) (Nat.le_of_ble_eq_true rfl) rfl (fun v1 => ?_)
  refine J_i2l (pc := 7) hc dL_write_7 ?_
  refine J_last (pc := 8) hc dL_write_8 ?_
  refine J_goto (pc := 9) (tgt := 15) hc dL_write_9 (by decide) ?_
  refine J_iconst (pc := 15) (v := 0) hc dL_write_15 (by decide) ?_
  exact J_iret (pc := 16) he dL_write_16
theorem moL_write : MOk yL_write 3 := ⟨by decide +kernel, by decide +kernel, by decide +kernel⟩
set_option maxRecDepth 100000 in
set_option maxHeartbeats 4000000 in
theorem KL_write (x0 : Nat) (x1 : Int32) (x2 : Nat) : CtW wI yL_write cL_write 4 (some .int) [(0, 9, 12, 27)] 8 1 6 166 [((7, .ref x0) : TV), ((0, .int x1) : TV), ((12, .ref x2) : TV)] (fL_write x0 x1 x2) :=
  CtW_I (j := 1) (by decide +kernel) rfl rfl (Nat.le_of_ble_eq_true rfl) (fun κ fin hc he hN ht => jL_write hc he hN ht x0 x1 x2)
def fL_show (x0 : Nat) (x1 : Int32) (x2 : Nat) : Mm → Option (Int32 × Mm) :=
  bndC (fX7_show x0 x1) [(2, 1)] fun v1 =>
  bnd (aJ x2 0 ((v1).toInt64)) fun _ =>
  rtn 0
set_option maxRecDepth 100000 in
set_option maxHeartbeats 4000000 in
theorem jL_show {κ : Cx} {fin : Int32 → Mm → Prop} (hc : Jc κ RL cL_show 4 8 1 6 197) (he : Ed κ cL_show 1 6 wI .ireturn fin) (hN : NcK κ) (ht : κ.1.2.2.2.2.2.2.2.2.2.exceptionTable.toList = tableOf [(0, 9, 12, 27)]) (x0 : Nat) (x1 : Int32) (x2 : Nat) : Jg κ (wM κ) 4 fin 0 0 0 [some ((7, .ref x0) : TV), some ((0, .int x1) : TV), some ((12, .ref x2) : TV), none] [] (fL_show x0 x1 x2) := by
  unfold fL_show
  refine J_aload_n (pc := 0) hc dL_show_0 rfl rfl ?_
  refine J_iconst (pc := 1) (v := 0) hc dL_show_1 (by decide) ?_
  refine J_aload_n (pc := 2) hc dL_show_2 rfl rfl ?_
  refine J_iload_n (pc := 3) hc dL_show_3 rfl rfl ?_
  refine J_callVCi (pc := 4) hc he (hs := [(2, 1)]) (fun k v h => by
      rcases List.mem_cons.mp (hCt_in h) with e | e
      · cases e; exact Hd_1 hc ht rfl (by decide) tw829 (Or.inr ⟨_, dL_show_12, rfl, rfl⟩) (i := 3) (Nat.le_of_ble_eq_true rfl) dL_show_13 rfl dL_show_14
      · cases e) clX7 (As := [((0, .int x1) : TV)]) (KX7_show x0 x1) dL_show_4 moX7_show rfl tw1126 tw1127 tw1128 tw1 tw1129 rfl (Nat.le_of_ble_eq_true rfl) (Nat.le_of_ble_eq_true rfl) (Nat.le_of_ble_eq_true rfl) (Nat.le_of_ble_eq_true rfl) (Nat.le_of_ble_eq_true rfl) rfl (fun v1 => ?_)
  refine J_i2l (pc := 7) hc dL_show_7 ?_
  refine J_last (pc := 8) hc dL_show_8 ?_
  refine J_goto (pc := 9) (tgt := 15) hc dL_show_9 (by decide) ?_
  refine J_iconst (pc := 15) (v := 0) hc dL_show_15 (by decide) ?_
  exact J_iret (pc := 16) he dL_show_16
theorem moL_show : MOk yL_show 3 := ⟨by decide +kernel, by decide +kernel, by decide +kernel⟩
set_option maxRecDepth 100000 in
set_option maxHeartbeats 4000000 in
theorem KL_show (x0 : Nat) (x1 : Int32) (x2 : Nat) : CtW wI yL_show cL_show 4 (some .int) [(0, 9, 12, 27)] 8 1 6 197 [((7, .ref x0) : TV), ((0, .int x1) : TV), ((12, .ref x2) : TV)] (fL_show x0 x1 x2) :=
  CtW_I (j := 1) (by decide +kernel) rfl rfl (Nat.le_of_ble_eq_true rfl) (fun κ fin hc he hN ht => jL_show hc he hN ht x0 x1 x2)
def fL_save (x0 : Nat) (x1 : Int32) : Mm → Option (Int32 × Mm) :=
  bndC (fX7_save x0 x1) [(0, 1)] fun _ =>
  rtn 0
set_option maxRecDepth 100000 in
set_option maxHeartbeats 4000000 in
theorem jL_save {κ : Cx} {fin : Int32 → Mm → Prop} (hc : Jc κ RL cL_save 3 8 5 57 141) (he : Ed κ cL_save 5 57 wI .ireturn fin) (hN : NcK κ) (ht : κ.1.2.2.2.2.2.2.2.2.2.exceptionTable.toList = tableOf [(0, 5, 8, 18)]) (x0 : Nat) (x1 : Int32) : Jg κ (wM κ) 3 fin 0 0 0 [some ((7, .ref x0) : TV), some ((0, .int x1) : TV), none] [] (fL_save x0 x1) := by
  unfold fL_save
  refine J_aload_n (pc := 0) hc dL_save_0 rfl rfl ?_
  refine J_iload_n (pc := 1) hc dL_save_1 rfl rfl ?_
  refine J_callVCv (pc := 2) hc he (hs := [(0, 1)]) (fun k v h => by
      rcases List.mem_cons.mp (hCt_in h) with e | e
      · cases e; exact Hd_1 hc ht rfl (by decide) tw785 (Or.inr ⟨_, dL_save_8, rfl, rfl⟩) (i := 2) (Nat.le_of_ble_eq_true rfl) dL_save_9 rfl dL_save_10
      · cases e) clX7 (As := [((0, .int x1) : TV)]) (KX7_save x0 x1) dL_save_2 moX7_save rfl tw1133 tw1134 tw1135 tw1 tw1136 rfl (Nat.le_of_ble_eq_true rfl) (Nat.le_of_ble_eq_true rfl) (Nat.le_of_ble_eq_true rfl) (Nat.le_of_ble_eq_true rfl) (Nat.le_of_ble_eq_true rfl) rfl (fun _ => ?_)
  refine J_goto (pc := 5) (tgt := 11) hc dL_save_5 (by decide) ?_
  refine J_iconst (pc := 11) (v := 0) hc dL_save_11 (by decide) ?_
  exact J_iret (pc := 12) he dL_save_12
theorem moL_save : MOk yL_save 2 := ⟨by decide +kernel, by decide +kernel, by decide +kernel⟩
set_option maxRecDepth 100000 in
set_option maxHeartbeats 4000000 in
theorem KL_save (x0 : Nat) (x1 : Int32) : CtW wI yL_save cL_save 3 (some .int) [(0, 5, 8, 18)] 8 5 57 141 [((7, .ref x0) : TV), ((0, .int x1) : TV)] (fL_save x0 x1) :=
  CtW_I (j := 1) (by decide +kernel) rfl rfl (Nat.le_of_ble_eq_true rfl) (fun κ fin hc he hN ht => jL_save hc he hN ht x0 x1)
def fL_restore (x0 : Nat) (x1 : Int32) : Mm → Option (Int32 × Mm) :=
  bndC (fX7_restore x0 x1) [(0, 1), (1, 2)] fun _ =>
  rtn 0
set_option maxRecDepth 100000 in
set_option maxHeartbeats 4000000 in
theorem jL_restore {κ : Cx} {fin : Int32 → Mm → Prop} (hc : Jc κ RL cL_restore 3 8 2 12 141) (he : Ed κ cL_restore 2 12 wI .ireturn fin) (hN : NcK κ) (ht : κ.1.2.2.2.2.2.2.2.2.2.exceptionTable.toList = tableOf [(0, 5, 8, 18), (0, 5, 11, 13)]) (x0 : Nat) (x1 : Int32) : Jg κ (wM κ) 3 fin 0 0 0 [some ((7, .ref x0) : TV), some ((0, .int x1) : TV), none] [] (fL_restore x0 x1) := by
  unfold fL_restore
  refine J_aload_n (pc := 0) hc dL_restore_0 rfl rfl ?_
  refine J_iload_n (pc := 1) hc dL_restore_1 rfl rfl ?_
  refine J_callVCv (pc := 2) hc he (hs := [(0, 1), (1, 2)]) (fun k v h => by
      rcases List.mem_cons.mp (hCt_in h) with e | e
      · cases e; exact Hd_1 hc ht rfl (by decide) tw785 (Or.inr ⟨_, dL_restore_8, rfl, rfl⟩) (i := 2) (Nat.le_of_ble_eq_true rfl) dL_restore_9 rfl dL_restore_10
      · rcases List.mem_cons.mp e with e | e
        · cases e; exact Hd_2 hc hN (k0 := 0) (fun _ h => h.2.1) ht (by decide) tw785 rfl (by decide) tw706 (Or.inr ⟨_, dL_restore_11, rfl, rfl⟩) (i := 2) (Nat.le_of_ble_eq_true rfl) dL_restore_12 rfl dL_restore_13
        · cases e) clX7 (As := [((0, .int x1) : TV)]) (KX7_restore x0 x1) dL_restore_2 moX7_restore rfl tw1144 tw1145 tw1146 tw1 tw1147 rfl (Nat.le_of_ble_eq_true rfl) (Nat.le_of_ble_eq_true rfl) (Nat.le_of_ble_eq_true rfl) (Nat.le_of_ble_eq_true rfl) (Nat.le_of_ble_eq_true rfl) rfl (fun _ => ?_)
  refine J_goto (pc := 5) (tgt := 14) hc dL_restore_5 (by decide) ?_
  refine J_iconst (pc := 14) (v := 0) hc dL_restore_14 (by decide) ?_
  exact J_iret (pc := 15) he dL_restore_15
theorem moL_restore : MOk yL_restore 2 := ⟨by decide +kernel, by decide +kernel, by decide +kernel⟩
set_option maxRecDepth 100000 in
set_option maxHeartbeats 4000000 in
theorem KL_restore (x0 : Nat) (x1 : Int32) : CtW wI yL_restore cL_restore 3 (some .int) [(0, 5, 8, 18), (0, 5, 11, 13)] 8 2 12 141 [((7, .ref x0) : TV), ((0, .int x1) : TV)] (fL_restore x0 x1) :=
  CtW_I (j := 1) (by decide +kernel) rfl rfl (Nat.le_of_ble_eq_true rfl) (fun κ fin hc he hN ht => jL_restore hc he hN ht x0 x1)
