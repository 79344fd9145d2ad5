section ST9
/-- all that the statement gives of the start -/
abbrev stF : List Cond := flatC (Jvm.Cond.and given_1 narrow_1)
def stm (i : Nat) : Term := if i = 17 then .string RX5 280 else .string RX3 (([79, 81, 83, 85, 87, 89, 91, 46, 55, 60, 65, 103, 105, 114, 116, 124, 126] : List Nat).getD i 0)
def stV (i : Nat) : Term := .field (stm i) "java/lang/String" "value" "[B"
def stC (i : Nat) : List Cond := .exactly (stm i) "java/lang/String" :: .eq (.field (stm i) "java/lang/String" "coder" "B") (.int 0) :: .arrayOf (stV i) .byte :: .eq (.length (stV i)) (.int (Int32.ofNat (stL.getD i 0))) :: (List.range (stL.getD i 0)).map (fun j => .eq (.elem (stV i) (.int (Int32.ofNat j))) (.int ((stB.getD i []).getD j 0)))
theorem stC_0 : ∀ w ∈ stC 0, w ∈ stF := in_r [19, 20, 21, 22, 23, 24, 25, 26] (by decide +kernel)
theorem stC_1 : ∀ w ∈ stC 1, w ∈ stF := in_r [27, 28, 29, 30, 31, 32, 33, 34, 35, 36] (by decide +kernel)
theorem stC_2 : ∀ w ∈ stC 2, w ∈ stF := in_r [37, 38, 39, 40, 41, 42, 43, 44, 45, 46] (by decide +kernel)
theorem stC_3 : ∀ w ∈ stC 3, w ∈ stF := in_r [47, 48, 49, 50, 51, 52, 53, 54] (by decide +kernel)
theorem stC_4 : ∀ w ∈ stC 4, w ∈ stF := in_r [55, 56, 57, 58, 59, 60, 61, 62, 63, 64, 65] (by decide +kernel)
theorem stC_5 : ∀ w ∈ stC 5, w ∈ stF := in_r [66, 67, 68, 69, 70, 71, 72, 73, 74, 75] (by decide +kernel)
theorem stC_6 : ∀ w ∈ stC 6, w ∈ stF := in_r [76, 77, 78, 79, 80, 81, 82, 83, 84] (by decide +kernel)
theorem stC_7 : ∀ w ∈ stC 7, w ∈ stF := in_r [98, 99, 100, 101, 102, 103, 104, 105, 106, 107, 108] (by decide +kernel)
theorem stC_8 : ∀ w ∈ stC 8, w ∈ stF := in_r [125, 126, 127, 128, 129, 130, 131] (by decide +kernel)
theorem stC_9 : ∀ w ∈ stC 9, w ∈ stF := in_r [132, 133, 134, 135, 136, 137, 138, 139, 140, 141] (by decide +kernel)
theorem stC_10 : ∀ w ∈ stC 10, w ∈ stF := in_r [158, 159, 160, 161, 162, 163, 164, 165, 166, 167] (by decide +kernel)
theorem stC_11 : ∀ w ∈ stC 11, w ∈ stF := in_r [85, 86, 87, 88, 89, 90, 91] (by decide +kernel)
theorem stC_12 : ∀ w ∈ stC 12, w ∈ stF := in_r [92, 93, 94, 95, 96, 97] (by decide +kernel)
theorem stC_13 : ∀ w ∈ stC 13, w ∈ stF := in_r [109, 110, 111, 112, 113, 114, 115, 116] (by decide +kernel)
theorem stC_14 : ∀ w ∈ stC 14, w ∈ stF := in_r [117, 118, 119, 120, 121, 122, 123, 124] (by decide +kernel)
theorem stC_15 : ∀ w ∈ stC 15, w ∈ stF := in_r [142, 143, 144, 145, 146, 147, 148, 149] (by decide +kernel)
theorem stC_16 : ∀ w ∈ stC 16, w ∈ stF := in_r [150, 151, 152, 153, 154, 155, 156, 157] (by decide +kernel)
theorem stC_17 : ∀ w ∈ stC 17, w ∈ stF := in_r [334, 335, 336, 337, 338] (by decide +kernel)
theorem stC_in (i : Nat) (hi : i < 18) : ∀ w ∈ stC i, w ∈ stF := by
  rcases (show i = 0 ∨ i = 1 ∨ i = 2 ∨ i = 3 ∨ i = 4 ∨ i = 5 ∨ i = 6 ∨ i = 7 ∨ i = 8 ∨ i = 9 ∨ i = 10 ∨ i = 11 ∨ i = 12 ∨ i = 13 ∨ i = 14 ∨ i = 15 ∨ i = 16 ∨ i = 17 by omega) with rfl | rfl | rfl | rfl | rfl | rfl | rfl | rfl | rfl | rfl | rfl | rfl | rfl | rfl | rfl | rfl | rfl | rfl
  · exact stC_0
  · exact stC_1
  · exact stC_2
  · exact stC_3
  · exact stC_4
  · exact stC_5
  · exact stC_6
  · exact stC_7
  · exact stC_8
  · exact stC_9
  · exact stC_10
  · exact stC_11
  · exact stC_12
  · exact stC_13
  · exact stC_14
  · exact stC_15
  · exact stC_16
  · exact stC_17
theorem st_apart : ∀ i : Nat, i < 18 → ∀ j : Nat, j < 18 → i = j ∨ Int32.ofNat (stL.getD i 0) ≠ Int32.ofNat (stL.getD j 0) ∨ (List.range 8).any (fun k => decide (k < stL.getD i 0 ∧ k < stL.getD j 0 ∧ (stB.getD i []).getD k 0 ≠ (stB.getD j []).getD k 0)) = true := by decide +kernel
theorem st_S {s : State} {b : Nat} (hgv : (Jvm.Cond.and given_1 narrow_1).before #[Value.ref b] s = true) : ∃ kp vp : Nat → Nat, vk_S 18 stL stB kp vp (fun q => s.heap.size ≤ q) s s.heap ∧ ∀ i : Nat, i < 18 → (stm i).eval #[Value.ref b] s none [] s = some (.ref (kp i)) := by
  have F := flat_of_before _ hgv
  have hin : ∀ i : Nat, i < 18 → ∀ w ∈ stC i, w.before #[Value.ref b] s = true := fun i hi w hw => F w (stC_in i hi w hw)
  have h0 : ∀ i : Nat, ∃ q : Nat × Nat, i < 18 → (stm i).eval #[Value.ref b] s none [] s = some (.ref q.1) ∧ va_O "java/lang/String" q.1 (fun q => s.heap.size ≤ q) s s.heap ∧ va_OF "java/lang/String" "coder" "B" (.int 0) q.1 (fun q => s.heap.size ≤ q) s s.heap ∧ va_OF "java/lang/String" "value" "[B" (.ref q.2) q.1 (fun q => s.heap.size ≤ q) s s.heap ∧ va_T .byte q.2 (stL.getD i 0) (fun j => .int ((stB.getD i []).getD j 0)) (fun q => s.heap.size ≤ q) s s.heap := by
    intro i
    by_cases hi : i < 18
    · have h := hin i hi
      have hL : stL.getD i 0 < 2 ^ 31 := by
        rcases (show i = 0 ∨ i = 1 ∨ i = 2 ∨ i = 3 ∨ i = 4 ∨ i = 5 ∨ i = 6 ∨ i = 7 ∨ i = 8 ∨ i = 9 ∨ i = 10 ∨ i = 11 ∨ i = 12 ∨ i = 13 ∨ i = 14 ∨ i = 15 ∨ i = 16 ∨ i = 17 by omega) with rfl | rfl | rfl | rfl | rfl | rfl | rfl | rfl | rfl | rfl | rfl | rfl | rfl | rfl | rfl | rfl | rfl | rfl <;> decide
      obtain ⟨aK, aV, h1, h2⟩ := vk_Sof (args := #[Value.ref b]) (s := s) (N := 1) (tm := fun _ => stm i) (len := [stL.getD i 0]) (byt := [stB.getD i []]) (A := fun q => s.heap.size ≤ q)
        (fun k hk => by obtain rfl : k = 0 := by omega
                        exact hL)
        (fun k hk => h _ (List.mem_of_getElem? (i := 0) rfl)) (fun k hk => h _ (List.mem_of_getElem? (i := 1) rfl)) (fun k hk => h _ (List.mem_of_getElem? (i := 2) rfl))
        (fun k hk => by obtain rfl : k = 0 := by omega
                        exact h _ (List.mem_of_getElem? (i := 3) rfl))
        (fun k hk j hj => by obtain rfl : k = 0 := by omega
                             exact h _ (List.mem_cons_of_mem _ (List.mem_cons_of_mem _ (List.mem_cons_of_mem _ (List.mem_cons_of_mem _ (List.mem_map.mpr ⟨j, List.mem_range.mpr hj, rfl⟩))))))
        (fun k j hk hj hne => absurd (show k = j by omega) hne) (fun a ha => Nat.not_le.mpr ha)
      exact ⟨(aK 0, aV 0), fun _ => ⟨h2 0 (by decide), h1.1 0 (by decide)⟩⟩
    · exact ⟨(0, 0), fun h => absurd h hi⟩
  obtain ⟨ad, had⟩ := Classical.axiomOfChoice h0
  refine ⟨fun i => (ad i).1, fun i => (ad i).2, ⟨fun i hi => (had i hi).2, fun i j hi hj e => ?_⟩, fun i hi => (had i hi).1⟩
  have e : (ad i).1 = (ad j).1 := e
  obtain ⟨-, -, -, ⟨cf, k, fi, f, cell, g1, g2, g3, g4, g5, g6⟩, ⟨c1, t1, t2, t3, t4, t5, t6, t7⟩⟩ := had i hi
  obtain ⟨-, -, -, ⟨cf', k', fi', f', cell', g1', g2', g3', g4', g5', g6'⟩, ⟨c1', t1', t2', t3', t4', t5', t6', t7'⟩⟩ := had j hj
  have q1 := Option.some.inj (g1.symm.trans g1')
  simp only [Prod.mk.injEq] at q1
  obtain ⟨-, -, -, q4⟩ := q1
  subst q4
  rw [e] at g3
  have q2 := Option.some.inj (g3.symm.trans g3')
  subst q2
  have q3 : (ad i).2 = (ad j).2 := by
    have := Option.some.inj (g5.symm.trans g5')
    exact Value.ref.inj this
  rw [q3] at t1
  have q5 := Option.some.inj (t1.symm.trans t1')
  subst q5
  rcases st_apart i hi j hj with h | h | h
  · exact h
  · exact absurd (t5.symm.trans t5') h
  · obtain ⟨x, -, hx⟩ := List.any_eq_true.mp h
    obtain ⟨x1, x2, x3⟩ := of_decide_eq_true hx
    have q6 := Option.some.inj ((t6 x x1).symm.trans (t6' x x2))
    exact absurd (Value.int.inj q6) x3
theorem st_Rf : ∀ r ∈ stR, Cond.stringRef r.1 r.2.1 r.2.2.1 ∈ lw_tbl ∧ r.2.2.2 < 18 ∧ (stm r.2.2.2 = .string r.1 r.2.1 ∨ Cond.eq (stm r.2.2.2) (.string r.1 r.2.1) ∈ stF) :=
  List.forall_mem_cons.mpr ⟨⟨List.mem_of_getElem? (i := 698) (by decide +kernel), by decide, Or.inl rfl⟩, List.forall_mem_cons.mpr ⟨⟨List.mem_of_getElem? (i := 703) (by decide +kernel), by decide, Or.inl rfl⟩, List.forall_mem_cons.mpr ⟨⟨List.mem_of_getElem? (i := 710) (by decide +kernel), by decide, Or.inl rfl⟩, List.forall_mem_cons.mpr ⟨⟨List.mem_of_getElem? (i := 711) (by decide +kernel), by decide, Or.inl rfl⟩, List.forall_mem_cons.mpr ⟨⟨List.mem_of_getElem? (i := 723) (by decide +kernel), by decide, Or.inl rfl⟩, List.forall_mem_cons.mpr ⟨⟨List.mem_of_getElem? (i := 724) (by decide +kernel), by decide, Or.inl rfl⟩, List.forall_mem_cons.mpr ⟨⟨List.mem_of_getElem? (i := 705) (by decide +kernel), by decide, Or.inl rfl⟩, List.forall_mem_cons.mpr ⟨⟨List.mem_of_getElem? (i := 713) (by decide +kernel), by decide, Or.inl rfl⟩, List.forall_mem_cons.mpr ⟨⟨List.mem_of_getElem? (i := 718) (by decide +kernel), by decide, Or.inl rfl⟩, List.forall_mem_cons.mpr ⟨⟨List.mem_of_getElem? (i := 726) (by decide +kernel), by decide, Or.inl rfl⟩, List.forall_mem_cons.mpr ⟨⟨List.mem_of_getElem? (i := 629) (by decide +kernel), by decide, Or.inl rfl⟩, List.forall_mem_cons.mpr ⟨⟨List.mem_of_getElem? (i := 630) (by decide +kernel), by decide, Or.inl rfl⟩, List.forall_mem_cons.mpr ⟨⟨List.mem_of_getElem? (i := 631) (by decide +kernel), by decide, Or.inl rfl⟩, List.forall_mem_cons.mpr ⟨⟨List.mem_of_getElem? (i := 632) (by decide +kernel), by decide, Or.inl rfl⟩, List.forall_mem_cons.mpr ⟨⟨List.mem_of_getElem? (i := 633) (by decide +kernel), by decide, Or.inl rfl⟩, List.forall_mem_cons.mpr ⟨⟨List.mem_of_getElem? (i := 634) (by decide +kernel), by decide, Or.inl rfl⟩, List.forall_mem_cons.mpr ⟨⟨List.mem_of_getElem? (i := 635) (by decide +kernel), by decide, Or.inl rfl⟩, List.forall_mem_cons.mpr ⟨⟨List.mem_of_getElem? (i := 1160) (by decide +kernel), by decide, Or.inr (List.mem_of_getElem? (i := 176) (by decide +kernel))⟩, List.forall_mem_cons.mpr ⟨⟨List.mem_of_getElem? (i := 1161) (by decide +kernel), by decide, Or.inr (List.mem_of_getElem? (i := 187) (by decide +kernel))⟩, List.forall_mem_cons.mpr ⟨⟨List.mem_of_getElem? (i := 1162) (by decide +kernel), by decide, Or.inr (List.mem_of_getElem? (i := 198) (by decide +kernel))⟩, List.forall_mem_cons.mpr ⟨⟨List.mem_of_getElem? (i := 1163) (by decide +kernel), by decide, Or.inr (List.mem_of_getElem? (i := 207) (by decide +kernel))⟩, List.forall_mem_cons.mpr ⟨⟨List.mem_of_getElem? (i := 1164) (by decide +kernel), by decide, Or.inr (List.mem_of_getElem? (i := 219) (by decide +kernel))⟩, List.forall_mem_cons.mpr ⟨⟨List.mem_of_getElem? (i := 1165) (by decide +kernel), by decide, Or.inr (List.mem_of_getElem? (i := 230) (by decide +kernel))⟩, List.forall_mem_cons.mpr ⟨⟨List.mem_of_getElem? (i := 1166) (by decide +kernel), by decide, Or.inr (List.mem_of_getElem? (i := 240) (by decide +kernel))⟩, List.forall_mem_cons.mpr ⟨⟨List.mem_of_getElem? (i := 1189) (by decide +kernel), by decide, Or.inr (List.mem_of_getElem? (i := 248) (by decide +kernel))⟩, List.forall_mem_cons.mpr ⟨⟨List.mem_of_getElem? (i := 1194) (by decide +kernel), by decide, Or.inr (List.mem_of_getElem? (i := 255) (by decide +kernel))⟩, List.forall_mem_cons.mpr ⟨⟨List.mem_of_getElem? (i := 1200) (by decide +kernel), by decide, Or.inr (List.mem_of_getElem? (i := 276) (by decide +kernel))⟩, List.forall_mem_cons.mpr ⟨⟨List.mem_of_getElem? (i := 1201) (by decide +kernel), by decide, Or.inr (List.mem_of_getElem? (i := 285) (by decide +kernel))⟩, List.forall_mem_cons.mpr ⟨⟨List.mem_of_getElem? (i := 1210) (by decide +kernel), by decide, Or.inr (List.mem_of_getElem? (i := 294) (by decide +kernel))⟩, List.forall_mem_cons.mpr ⟨⟨List.mem_of_getElem? (i := 1211) (by decide +kernel), by decide, Or.inr (List.mem_of_getElem? (i := 303) (by decide +kernel))⟩, List.forall_mem_cons.mpr ⟨⟨List.mem_of_getElem? (i := 1195) (by decide +kernel), by decide, Or.inr (List.mem_of_getElem? (i := 267) (by decide +kernel))⟩, List.forall_mem_cons.mpr ⟨⟨List.mem_of_getElem? (i := 1212) (by decide +kernel), by decide, Or.inr (List.mem_of_getElem? (i := 311) (by decide +kernel))⟩, List.forall_mem_cons.mpr ⟨⟨List.mem_of_getElem? (i := 1213) (by decide +kernel), by decide, Or.inr (List.mem_of_getElem? (i := 322) (by decide +kernel))⟩, List.forall_mem_cons.mpr ⟨⟨List.mem_of_getElem? (i := 1214) (by decide +kernel), by decide, Or.inr (List.mem_of_getElem? (i := 333) (by decide +kernel))⟩, List.forall_mem_cons.mpr ⟨⟨List.mem_of_getElem? (i := 1215) (by decide +kernel), by decide, Or.inl rfl⟩, fun _ h => absurd h List.not_mem_nil⟩⟩⟩⟩⟩⟩⟩⟩⟩⟩⟩⟩⟩⟩⟩⟩⟩⟩⟩⟩⟩⟩⟩⟩⟩⟩⟩⟩⟩⟩⟩⟩⟩⟩⟩
theorem st_sF {s : State} {b : Nat} (hts : ∀ w ∈ lw_tbl, w.before #[Value.ref b] s = true) (hgv : (Jvm.Cond.and given_1 narrow_1).before #[Value.ref b] s = true) : ∃ (kp vp : Nat → Nat) (tp : Nat), ∀ G : gT, gK G = kp → gV G = vp → gt G = tp → (∀ q, wA G q → s.heap.size ≤ q) → sF G s := by
  have F := flat_of_before _ hgv
  obtain ⟨kp, vp, h1, h2⟩ := st_S hgv
  have hA : ∀ a : Nat, a < s.heap.size → ¬ (fun q => s.heap.size ≤ q) a := fun a ha => Nat.not_le.mpr ha
  obtain ⟨t, ht, hT⟩ := va_Tof (args := #[Value.ref b]) (s := s) (tm := .static RX1 "ABOVE" "[I") (ty := .int) (N := 7) (f := fun j => .int (kTab.getD j 0)) (A := fun q => s.heap.size ≤ q) (by decide) (F (.arrayOf (.static RX1 "ABOVE" "[I") .int) (List.mem_of_getElem? (i := 10) (by decide +kernel))) (va_eqt (z := 7) (F (.eq (.length (.static RX1 "ABOVE" "[I")) (.int 7)) (List.mem_of_getElem? (i := 11) (by decide +kernel)))) (fun j hj => by
    rcases (show j = 0 ∨ j = 1 ∨ j = 2 ∨ j = 3 ∨ j = 4 ∨ j = 5 ∨ j = 6 by omega) with rfl | rfl | rfl | rfl | rfl | rfl | rfl
    · exact va_eqt (z := (-1)) (F (.eq (.elem (.static RX1 "ABOVE" "[I") (.int 0)) (.int (-1))) (List.mem_of_getElem? (i := 12) (by decide +kernel)))
    · exact va_eqt (z := 0) (F (.eq (.elem (.static RX1 "ABOVE" "[I") (.int 1)) (.int 0)) (List.mem_of_getElem? (i := 13) (by decide +kernel)))
    · exact va_eqt (z := 0) (F (.eq (.elem (.static RX1 "ABOVE" "[I") (.int 2)) (.int 0)) (List.mem_of_getElem? (i := 14) (by decide +kernel)))
    · exact va_eqt (z := 2) (F (.eq (.elem (.static RX1 "ABOVE" "[I") (.int 3)) (.int 2)) (List.mem_of_getElem? (i := 15) (by decide +kernel)))
    · exact va_eqt (z := 1) (F (.eq (.elem (.static RX1 "ABOVE" "[I") (.int 4)) (.int 1)) (List.mem_of_getElem? (i := 16) (by decide +kernel)))
    · exact va_eqt (z := 0) (F (.eq (.elem (.static RX1 "ABOVE" "[I") (.int 5)) (.int 0)) (List.mem_of_getElem? (i := 17) (by decide +kernel)))
    · exact va_eqt (z := 5) (F (.eq (.elem (.static RX1 "ABOVE" "[I") (.int 6)) (.int 5)) (List.mem_of_getElem? (i := 18) (by decide +kernel)))) hA
  refine ⟨kp, vp, t, fun G e1 e2 e3 hG => ?_⟩
  subst e1 e2 e3
  refine ⟨h1.narrow hG, fun r hr => ?_, (va_Zref (hts (.laysStatic RX1 "ABOVE" "[I") (List.mem_of_getElem? (i := 746) (by decide +kernel))) (hts (.initialized RX1) (List.mem_of_getElem? (i := 65) (by decide +kernel))) ht hA).narrow hG, hT.narrow hG, (va_Zof (hts (.laysStatic "java/lang/String" "COMPACT_STRINGS" "Z") (List.mem_of_getElem? (i := 649) (by decide +kernel))) (hts (.initialized "java/lang/String") (List.mem_of_getElem? (i := 69) (by decide +kernel))) (va_eqt (z := 1) (F (.eq (.static "java/lang/String" "COMPACT_STRINGS" "Z") (.int 1)) (List.mem_of_getElem? (i := 4) (by decide +kernel)))) hA).narrow hG, (va_Zqof (hts (.laysStatic "jdk/internal/util/Preconditions" "SIOOBE_FORMATTER" "Ljava/util/function/BiFunction;") (List.mem_of_getElem? (i := 665) (by decide +kernel))) (hts (.initialized "jdk/internal/util/Preconditions") (List.mem_of_getElem? (i := 71) (by decide +kernel))) (F (.isRef (.static "jdk/internal/util/Preconditions" "SIOOBE_FORMATTER" "Ljava/util/function/BiFunction;")) (List.mem_of_getElem? (i := 5) (by decide +kernel))) hA).narrow hG⟩
  obtain ⟨r1, r2, r3⟩ := st_Rf r hr
  refine vk_R.of (A := #[Value.ref b]) (hts _ r1) ?_
  rcases r3 with r3 | r3
  · rw [← r3]; exact h2 _ r2
  · exact va_eqR (F _ r3) (h2 _ r2)
theorem st_nS {s : State} {b : Nat} (hts : ∀ w ∈ lw_tbl, w.before #[Value.ref b] s = true) : nS s := ⟨va_Nw.of (A := #[Value.ref b]) rfl (hts (.methodLinkNest RX0 64 yX4_isWithin RX4) (List.mem_of_getElem? (i := 256) (by decide +kernel))), va_Nw.of (A := #[Value.ref b]) rfl (hts (.methodLinkNest RX0 72 yX4_with RX4) (List.mem_of_getElem? (i := 295) (by decide +kernel))), va_Nw.of (A := #[Value.ref b]) rfl (hts (.methodLinkNest RX0 76 yX4_without RX4) (List.mem_of_getElem? (i := 324) (by decide +kernel))), va_Nw.of (A := #[Value.ref b]) rfl (hts (.methodLinkNest RX0 95 yX4_has RX4) (List.mem_of_getElem? (i := 261) (by decide +kernel))), va_Nw.of (A := #[Value.ref b]) rfl (hts (.methodLinkNest RX1 9 yX4_isWithin RX4) (List.mem_of_getElem? (i := 226) (by decide +kernel))), va_Nw.of (A := #[Value.ref b]) rfl (hts (.methodLinkNest RX3 133 yX4_isWithin RX4) (List.mem_of_getElem? (i := 697) (by decide +kernel)))⟩
theorem st_N3 {s : State} {b : Nat} (hts : ∀ w ∈ lw_tbl, w.before #[Value.ref b] s = true) : va_Nw (.methodLinkNest RX4 28 yX3_init RX4) s ∧ va_Nw (.methodLinkNest RX4 43 yX2_init RX4) s ∧ va_AO RX2 s := ⟨va_Nw.of (A := #[Value.ref b]) rfl (hts (.methodLinkNest RX4 28 yX3_init RX4) (List.mem_of_getElem? (i := 153) (by decide +kernel))), va_Nw.of (A := #[Value.ref b]) rfl (hts (.methodLinkNest RX4 43 yX2_init RX4) (List.mem_of_getElem? (i := 180) (by decide +kernel))), va_AO.of (A := #[Value.ref b]) (hts (.arrayOver (.object RX2)) (List.mem_of_getElem? (i := 178) (by decide +kernel)))⟩
theorem st_K {s : State} {b : Nat} (hts : ∀ w ∈ lw_tbl, w.before #[Value.ref b] s = true) : ∃ (dC : Nat → ClassId) (dI : Nat → Nat → Nat) (cI : ClassId), va_K (dC, dI) vwCl [(cI, .int)] s := by
  obtain ⟨c0, i0, h0⟩ := u_known (C := RX0) (T := TX0) (N := 15) (n := 15) hts wsL_f0 (hts (.instantiable RX0 15) (List.mem_of_getElem? (i := 82) (by decide +kernel)))
  obtain ⟨c1, i1, h1⟩ := u_known (C := RX2) (T := TX2) (N := 3) (n := 3) hts wsL_f2 (hts (.instantiable RX2 3) (List.mem_of_getElem? (i := 179) (by decide +kernel)))
  obtain ⟨c2, i2, h2⟩ := u_known (C := RX3) (T := TX3) (N := 6) (n := 6) hts wsL_f3 (hts (.instantiable RX3 6) (List.mem_of_getElem? (i := 152) (by decide +kernel)))
  obtain ⟨c3, i3, h3⟩ := u_known (C := RX4) (T := TX4) (N := 7) (n := 7) hts wsL_f4 (hts (.instantiable RX4 7) (List.mem_of_getElem? (i := 74) (by decide +kernel)))
  obtain ⟨c4, i4, h4⟩ := u_known (C := RX5) (T := TX5) (N := 17) (n := 17) hts wsL_f5 (hts (.instantiable RX5 17) (List.mem_of_getElem? (i := 818) (by decide +kernel)))
  obtain ⟨cA, kA, comp, f1, f2, f3⟩ := Cond.arrayClass_spec (hts (.arrayClass .int) (List.mem_of_getElem? (i := 150) (by decide +kernel)))
  refine ⟨fun c => if c = 0 then c0 else if c = 1 then c1 else if c = 2 then c2 else if c = 3 then c3 else c4, fun c => if c = 0 then i0 else if c = 1 then i1 else if c = 2 then i2 else if c = 3 then i3 else i4, cA, fun c q hq => ?_, fun k q hq => ?_⟩
  · have hc : c < 5 := (List.getElem?_eq_some_iff.mp hq).1
    rcases (show c = 0 ∨ c = 1 ∨ c = 2 ∨ c = 3 ∨ c = 4 by omega) with rfl | rfl | rfl | rfl | rfl
    · obtain rfl := Option.some.inj (vw_0.symm.trans hq)
      exact h0
    · obtain rfl := Option.some.inj (vw_1.symm.trans hq)
      exact h1
    · obtain rfl := Option.some.inj (vw_2.symm.trans hq)
      exact h2
    · obtain rfl := Option.some.inj (vw_3.symm.trans hq)
      exact h3
    · obtain rfl := Option.some.inj (vw_4.symm.trans hq)
      exact h4
  · have hk : k < 1 := (List.getElem?_eq_some_iff.mp hq).1
    obtain rfl : k = 0 := by omega
    obtain rfl := Option.some.inj ((show [((cA, .int) : ClassId × FieldType)][0]? = some (cA, .int) from rfl).symm.trans hq)
    exact ⟨fun n z => ⟨fun k h => (by cases h), kA, f2, comp, f3⟩, f1⟩
end ST9
