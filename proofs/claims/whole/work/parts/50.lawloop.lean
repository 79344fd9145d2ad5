/-! THE CLAIM OUT OF ONE WALK OF THE LAW'S BODY. Your part is whole_start (and what it stands on); all else here is the same for every law, but numbers. -/
def R_law : String := "WaxTreatiesLaw"
def lw_P (b : Addr) (xs : List Int32) (args : Array Value) (s : State) : Prop := args = #[.ref b] ∧ s.IntsAt b xs ∧ xs.length ≤ 3072 ∧ (Jvm.Cond.and given_1 narrow_1).before args s = true
def lw_Q (_ : Array Value) (s : State) (o : Outcome) (t : State) : Prop := o = .returned (some (.int 1)) ∧ Framed s o t [] 600000 7302250
def lw_Z (below : List Frame) (a : Array Value) (s : State) : State → Prop := fun t => ∃ o, t.status = .running ∧ Ended t below o ∧ lw_Q a s o t
/-- the law's own end, with 1 on the stack, nothing written that was there before, its room as the claim has it -/
theorem lw_ret {p : Program} {l : Launch} {e : Env} {s : State} {m : MethodId} {below : List Frame} {meth : Method} {c : Code} {b : Nat} (hx : p.tables.exec = Jvm.exec) (hb : c.code = code) (hr : meth.sig.returnType = ret) (hlocks : meth.locks = false) {pc : Nat} {H : Heap} {ls : Array Slot} (hdg : decode code pc = .ok (.ireturn, 1)) : W p l e room_1 s m #[Value.ref b] below meth c H [] 600000 7302250 (lw_Z below #[Value.ref b] s) (F0 m pc ls [.int 1]) := by
  intro T hT X
  obtain ⟨fs, hret, hrun, hended, hW, hframe⟩ := X.leave (v := some (.int 1)) (hlocks := hlocks) (fun h => by rw [hr] at h; cases h)
  have hmeth' : T.vm.method? m = some meth := X.method'
  refine ⟨T.setFrames fs, ?_, .returned (some (.int 1)), hrun, hended, rfl, ⟨_, rfl⟩, hW, hframe⟩
  jvm_step X.here [X.here.top, hx, hb, hdg, hmeth', hr, ret, narrow_b1]
  (try refine ⟨rfl, ?_⟩); (try refine ⟨rfl, ?_⟩)
  first | (intro acts; rw [hret _ acts rfl rfl rfl]) | rw [hret _ _ rfl rfl rfl]
  exact Steps.refl _
/-- what holds at the law's entry: the machine, the code, the tables' words (any of lw_tbl by 'hts w (by decide +kernel)'), the script of L ints xs at the cell b, what the Statement gives of the start (any of its parts by flat_of_before) -/
def lw_At (p : Program) (s : State) (m : MethodId) (meth : Method) (c : Code) (b L : Nat) (xs : Nat → Int32) : Prop :=
  p.tables.exec = Jvm.exec ∧ c.code = code ∧ meth.sig.returnType = ret ∧ c.maxLocals = 4 ∧ s.vm.findClass R_law = some m.cls ∧ (∀ w ∈ lw_tbl, w.before #[Value.ref b] s = true) ∧ va_X b L xs s s.heap ∧ b < s.heap.size ∧ meth.locks = false ∧ (Jvm.Cond.and given_1 narrow_1).before #[Value.ref b] s = true
section LO
variable {p : Program} {l : Launch} {e : Env} {s : State} {m : MethodId} {below : List Frame} {meth : Method} {c : Code} {b L : Nat} {xs : Nat → Int32} {GD GM : gT} {i : Int32} {σ τ : sg}
theorem law_end (K : LK p s m c b L xs GD GM) (hr : meth.sig.returnType = ret) (hlocks : meth.locks = false) : LW p l e s m below meth c (lw_Z below #[Value.ref b] s) b GD GM i 1530 [] σ τ :=
  fun H locs ls hP hM hS hl => lv_iconst K.1 K.2.1 dL_law_1530 (v := 1) (by decide) (va_forget hS.2.2 (lw_ret K.1 K.2.1 hr hlocks dL_law_1531))
theorem law_next (K : LK p s m c b L xs GD GM) (h0 : LW p l e s m below meth c (lw_Z below #[Value.ref b] s) b GD GM (i + Int32.ofInt 6) 18 [] σ τ) : LW p l e s m below meth c (lw_Z below #[Value.ref b] s) b GD GM i 1524 [] σ τ :=
  fun H locs ls hP hM hS hl => lv_iinc (v := i + Int32.ofInt 6) (lv' := lvL b GD GM (i + Int32.ofInt 6)) K.1 K.2.1 dL_law_1524 hl (k := 0) rfl rfl (by decide) rfl (fun ls2 hl2 => lv_goto (tgt := 18) K.1 K.2.1 dL_law_1527 (by decide) (h0 H locs ls2 hP hM hS hl2))
set_option maxRecDepth 20000 in
theorem law_step (K : LK p s m c b L xs GD GM) (hL : L ≤ 3072) (h0 : ∀ σ9 τ9 : sg, RG σ9 τ9 → WD σ9 → WM τ9 → LW p l e s m below meth c (lw_Z below #[Value.ref b] s) b GD GM (i + Int32.ofInt 6) 18 [] σ9 τ9) (h1 : 0 ≤ i.toInt) (h2 : i.toInt + 6 ≤ L) (hR : RG σ τ) (hD : WD σ) (hMM : WM τ) : LW p l e s m below meth c (lw_Z below #[Value.ref b] s) b GD GM i 27 [] σ τ := by
  have hnx : ∀ σ9 τ9 : sg, RG σ9 τ9 → WD σ9 → WM τ9 → LW p l e s m below meth c (lw_Z below #[Value.ref b] s) b GD GM i 1524 [] σ9 τ9 := fun σ9 τ9 a1 a2 a3 => law_next K (h0 σ9 τ9 a1 a2 a3)
  have hin : ∀ v : Int32, 0 ≤ v.toInt → v.toInt ≤ 5 → vp_in (i + v) L := fun v a1 a2 => by
    have e9 := addI (x := i) (y := v) (by omega) (by omega)
    exact vinM (by omega) (by omega)
  intro H locs ls hP hM hS hl
  refine lv_aload_n K.1 K.2.1 dL_law_27 rfl (lv_at hl 3 rfl) ?_
  refine lv_iload_n K.1 K.2.1 dL_law_28 rfl (lv_at hl 0 rfl) ?_
  refine va_sld K.1 K.2.1 K.2.2.2.2.2.2.2.2.2.2.2.2 K.2.2.2.2.2.2.2.2.2.2.2.1 (lk_hbA K.2.2.2.2.2.2.2.2.2.2.2.1) hS (vinM h1 (by omega)) dL_law_29 ?_
  refine lv_bipush K.1 K.2.1 dL_law_30 (v := 63) (by decide) ?_
  refine lv_iand K.1 K.2.1 dL_law_32 ?_
  generalize xs i.toNatClampNeg &&& 63 = x
  by_cases hx : 0 ≤ x.toInt ∧ x.toInt ≤ 47
  · have h3 : ¬ x.toInt < 0 := by omega
    have h4 : ¬ 47 < x.toInt := by omega
    rcases (show x.toInt = 0 ∨ x.toInt = 1 ∨ x.toInt = 2 ∨ x.toInt = 3 ∨ x.toInt = 4 ∨ x.toInt = 5 ∨ x.toInt = 6 ∨ x.toInt = 7 ∨ x.toInt = 8 ∨ x.toInt = 9 ∨ x.toInt = 10 ∨ x.toInt = 11 ∨ x.toInt = 12 ∨ x.toInt = 13 ∨ x.toInt = 14 ∨ x.toInt = 15 ∨ x.toInt = 16 ∨ x.toInt = 17 ∨ x.toInt = 18 ∨ x.toInt = 19 ∨ x.toInt = 20 ∨ x.toInt = 21 ∨ x.toInt = 22 ∨ x.toInt = 23 ∨ x.toInt = 24 ∨ x.toInt = 25 ∨ x.toInt = 26 ∨ x.toInt = 27 ∨ x.toInt = 28 ∨ x.toInt = 29 ∨ x.toInt = 30 ∨ x.toInt = 31 ∨ x.toInt = 32 ∨ x.toInt = 33 ∨ x.toInt = 34 ∨ x.toInt = 35 ∨ x.toInt = 36 ∨ x.toInt = 37 ∨ x.toInt = 38 ∨ x.toInt = 39 ∨ x.toInt = 40 ∨ x.toInt = 41 ∨ x.toInt = 42 ∨ x.toInt = 43 ∨ x.toInt = 44 ∨ x.toInt = 45 ∨ x.toInt = 46 ∨ x.toInt = 47 by omega) with hk | hk | hk | hk | hk | hk | hk | hk | hk | hk | hk | hk | hk | hk | hk | hk | hk | hk | hk | hk | hk | hk | hk | hk | hk | hk | hk | hk | hk | hk | hk | hk | hk | hk | hk | hk | hk | hk | hk | hk | hk | hk | hk | hk | hk | hk | hk | hk
    · exact lv_tableIn K.1 K.2.1 dL_law_33 h3 h4 (off := 207) (by rw [hk]; rfl) (tgt := 240) (by decide) (law_c0 K hnx hR hD hMM hin H locs ls hP hM hS hl)
    · exact lv_tableIn K.1 K.2.1 dL_law_33 h3 h4 (off := 240) (by rw [hk]; rfl) (tgt := 273) (by decide) (law_c1 K hnx hR hD hMM hin H locs ls hP hM hS hl)
    · exact lv_tableIn K.1 K.2.1 dL_law_33 h3 h4 (off := 273) (by rw [hk]; rfl) (tgt := 306) (by decide) (law_c2 K hnx hR hD hMM hin H locs ls hP hM hS hl)
    · exact lv_tableIn K.1 K.2.1 dL_law_33 h3 h4 (off := 316) (by rw [hk]; rfl) (tgt := 349) (by decide) (law_c3 K hnx hR hD hMM hin H locs ls hP hM hS hl)
    · exact lv_tableIn K.1 K.2.1 dL_law_33 h3 h4 (off := 339) (by rw [hk]; rfl) (tgt := 372) (by decide) (law_c4 K hnx hR hD hMM hin H locs ls hP hM hS hl)
    · exact lv_tableIn K.1 K.2.1 dL_law_33 h3 h4 (off := 382) (by rw [hk]; rfl) (tgt := 415) (by decide) (law_c5 K hnx hR hD hMM hin H locs ls hP hM hS hl)
    · exact lv_tableIn K.1 K.2.1 dL_law_33 h3 h4 (off := 405) (by rw [hk]; rfl) (tgt := 438) (by decide) (law_c6 K hnx hR hD hMM hin H locs ls hP hM hS hl)
    · exact lv_tableIn K.1 K.2.1 dL_law_33 h3 h4 (off := 428) (by rw [hk]; rfl) (tgt := 461) (by decide) (law_c7 K hnx hR hD hMM hin H locs ls hP hM hS hl)
    · exact lv_tableIn K.1 K.2.1 dL_law_33 h3 h4 (off := 461) (by rw [hk]; rfl) (tgt := 494) (by decide) (law_c8 K hnx hR hD hMM hin H locs ls hP hM hS hl)
    · exact lv_tableIn K.1 K.2.1 dL_law_33 h3 h4 (off := 484) (by rw [hk]; rfl) (tgt := 517) (by decide) (law_c9 K hnx hR hD hMM hin H locs ls hP hM hS hl)
    · exact lv_tableIn K.1 K.2.1 dL_law_33 h3 h4 (off := 507) (by rw [hk]; rfl) (tgt := 540) (by decide) (law_c10 K hnx hR hD hMM hin H locs ls hP hM hS hl)
    · exact lv_tableIn K.1 K.2.1 dL_law_33 h3 h4 (off := 530) (by rw [hk]; rfl) (tgt := 563) (by decide) (law_c11 K hnx hR hD hMM hin H locs ls hP hM hS hl)
    · exact lv_tableIn K.1 K.2.1 dL_law_33 h3 h4 (off := 563) (by rw [hk]; rfl) (tgt := 596) (by decide) (law_c12 K hnx hR hD hMM hin H locs ls hP hM hS hl)
    · exact lv_tableIn K.1 K.2.1 dL_law_33 h3 h4 (off := 586) (by rw [hk]; rfl) (tgt := 619) (by decide) (law_c13 K hnx hR hD hMM hin H locs ls hP hM hS hl)
    · exact lv_tableIn K.1 K.2.1 dL_law_33 h3 h4 (off := 599) (by rw [hk]; rfl) (tgt := 632) (by decide) (law_c14 K hnx hR hD hMM hin H locs ls hP hM hS hl)
    · exact lv_tableIn K.1 K.2.1 dL_law_33 h3 h4 (off := 622) (by rw [hk]; rfl) (tgt := 655) (by decide) (law_c15 K hnx hR hD hMM hin H locs ls hP hM hS hl)
    · exact lv_tableIn K.1 K.2.1 dL_law_33 h3 h4 (off := 645) (by rw [hk]; rfl) (tgt := 678) (by decide) (law_c16 K hnx hR hD hMM hin H locs ls hP hM hS hl)
    · exact lv_tableIn K.1 K.2.1 dL_law_33 h3 h4 (off := 678) (by rw [hk]; rfl) (tgt := 711) (by decide) (law_c17 K hnx hR hD hMM hin H locs ls hP hM hS hl)
    · exact lv_tableIn K.1 K.2.1 dL_law_33 h3 h4 (off := 711) (by rw [hk]; rfl) (tgt := 744) (by decide) (law_c18 K hnx hR hD hMM hin H locs ls hP hM hS hl)
    · exact lv_tableIn K.1 K.2.1 dL_law_33 h3 h4 (off := 744) (by rw [hk]; rfl) (tgt := 777) (by decide) (law_c19 K hnx hR hD hMM hin H locs ls hP hM hS hl)
    · exact lv_tableIn K.1 K.2.1 dL_law_33 h3 h4 (off := 767) (by rw [hk]; rfl) (tgt := 800) (by decide) (law_c20 K hnx hR hD hMM hin H locs ls hP hM hS hl)
    · exact lv_tableIn K.1 K.2.1 dL_law_33 h3 h4 (off := 790) (by rw [hk]; rfl) (tgt := 823) (by decide) (law_c21 K hnx hR hD hMM hin H locs ls hP hM hS hl)
    · exact lv_tableIn K.1 K.2.1 dL_law_33 h3 h4 (off := 823) (by rw [hk]; rfl) (tgt := 856) (by decide) (law_c22 K hnx hR hD hMM hin H locs ls hP hM hS hl)
    · exact lv_tableIn K.1 K.2.1 dL_law_33 h3 h4 (off := 856) (by rw [hk]; rfl) (tgt := 889) (by decide) (law_c23 K hnx hR hD hMM hin H locs ls hP hM hS hl)
    · exact lv_tableIn K.1 K.2.1 dL_law_33 h3 h4 (off := 889) (by rw [hk]; rfl) (tgt := 922) (by decide) (law_c24 K hnx hR hD hMM hin H locs ls hP hM hS hl)
    · exact lv_tableIn K.1 K.2.1 dL_law_33 h3 h4 (off := 912) (by rw [hk]; rfl) (tgt := 945) (by decide) (law_c25 K hnx hR hD hMM hin H locs ls hP hM hS hl)
    · exact lv_tableIn K.1 K.2.1 dL_law_33 h3 h4 (off := 935) (by rw [hk]; rfl) (tgt := 968) (by decide) (law_c26 K hnx hR hD hMM hin H locs ls hP hM hS hl)
    · exact lv_tableIn K.1 K.2.1 dL_law_33 h3 h4 (off := 958) (by rw [hk]; rfl) (tgt := 991) (by decide) (law_c27 K hnx hR hD hMM hin H locs ls hP hM hS hl)
    · exact lv_tableIn K.1 K.2.1 dL_law_33 h3 h4 (off := 971) (by rw [hk]; rfl) (tgt := 1004) (by decide) (law_c28 K hnx hR hD hMM hin H locs ls hP hM hS hl)
    · exact lv_tableIn K.1 K.2.1 dL_law_33 h3 h4 (off := 984) (by rw [hk]; rfl) (tgt := 1017) (by decide) (law_c29 K hnx hR hD hMM hin H locs ls hP hM hS hl)
    · exact lv_tableIn K.1 K.2.1 dL_law_33 h3 h4 (off := 997) (by rw [hk]; rfl) (tgt := 1030) (by decide) (law_c30 K hnx hR hD hMM hin H locs ls hP hM hS hl)
    · exact lv_tableIn K.1 K.2.1 dL_law_33 h3 h4 (off := 1030) (by rw [hk]; rfl) (tgt := 1063) (by decide) (law_c31 K hnx hR hD hMM hin H locs ls hP hM hS hl)
    · exact lv_tableIn K.1 K.2.1 dL_law_33 h3 h4 (off := 1053) (by rw [hk]; rfl) (tgt := 1086) (by decide) (law_c32 K hnx hR hD hMM hin H locs ls hP hM hS hl)
    · exact lv_tableIn K.1 K.2.1 dL_law_33 h3 h4 (off := 1076) (by rw [hk]; rfl) (tgt := 1109) (by decide) (law_c33 K hnx hR hD hMM hin H locs ls hP hM hS hl)
    · exact lv_tableIn K.1 K.2.1 dL_law_33 h3 h4 (off := 1109) (by rw [hk]; rfl) (tgt := 1142) (by decide) (law_c34 K hnx hR hD hMM hin H locs ls hP hM hS hl)
    · exact lv_tableIn K.1 K.2.1 dL_law_33 h3 h4 (off := 1122) (by rw [hk]; rfl) (tgt := 1155) (by decide) (law_c35 K hnx hR hD hMM hin H locs ls hP hM hS hl)
    · exact lv_tableIn K.1 K.2.1 dL_law_33 h3 h4 (off := 1135) (by rw [hk]; rfl) (tgt := 1168) (by decide) (law_c36 K hnx hR hD hMM hin H locs ls hP hM hS hl)
    · exact lv_tableIn K.1 K.2.1 dL_law_33 h3 h4 (off := 1168) (by rw [hk]; rfl) (tgt := 1201) (by decide) (law_c37 K hnx hR hD hMM hin H locs ls hP hM hS hl)
    · exact lv_tableIn K.1 K.2.1 dL_law_33 h3 h4 (off := 1201) (by rw [hk]; rfl) (tgt := 1234) (by decide) (law_c38 K hnx hR hD hMM hin H locs ls hP hM hS hl)
    · exact lv_tableIn K.1 K.2.1 dL_law_33 h3 h4 (off := 1244) (by rw [hk]; rfl) (tgt := 1277) (by decide) (law_c39 K hnx hR hD hMM hin H locs ls hP hM hS hl)
    · exact lv_tableIn K.1 K.2.1 dL_law_33 h3 h4 (off := 1287) (by rw [hk]; rfl) (tgt := 1320) (by decide) (law_c40 K hnx hR hD hMM hin H locs ls hP hM hS hl)
    · exact lv_tableIn K.1 K.2.1 dL_law_33 h3 h4 (off := 1350) (by rw [hk]; rfl) (tgt := 1383) (by decide) (law_c41 K hnx hR hD hMM hin H locs ls hP hM hS hl)
    · exact lv_tableIn K.1 K.2.1 dL_law_33 h3 h4 (off := 1373) (by rw [hk]; rfl) (tgt := 1406) (by decide) (law_c42 K hnx hR hD hMM hin H locs ls hP hM hS hl)
    · exact lv_tableIn K.1 K.2.1 dL_law_33 h3 h4 (off := 1406) (by rw [hk]; rfl) (tgt := 1439) (by decide) (law_c43 K hnx hR hD hMM hin H locs ls hP hM hS hl)
    · exact lv_tableIn K.1 K.2.1 dL_law_33 h3 h4 (off := 1419) (by rw [hk]; rfl) (tgt := 1452) (by decide) (law_c44 K hnx hR hD hMM hin H locs ls hP hM hS hl)
    · exact lv_tableIn K.1 K.2.1 dL_law_33 h3 h4 (off := 1432) (by rw [hk]; rfl) (tgt := 1465) (by decide) (law_c45 K hnx hR hD hMM hin H locs ls hP hM hS hl)
    · exact lv_tableIn K.1 K.2.1 dL_law_33 h3 h4 (off := 1445) (by rw [hk]; rfl) (tgt := 1478) (by decide) (law_c46 K hnx hR hD hMM hin H locs ls hP hM hS hl)
    · exact lv_tableIn K.1 K.2.1 dL_law_33 h3 h4 (off := 1468) (by rw [hk]; rfl) (tgt := 1501) (by decide) (law_c47 K hnx hR hD hMM hin H locs ls hP hM hS hl)
  · exact lv_tableOut K.1 K.2.1 dL_law_33 (by omega) (tgt := 1524) (by decide) (hnx σ τ hR hD hMM H locs ls hP hM hS hl)
/-- the loop's head: to the end, or on -/
theorem law_head (K : LK p s m c b L xs GD GM) (hL : L ≤ 3072) (hr : meth.sig.returnType = ret) (hlocks : meth.locks = false) (h1 : 0 ≤ i.toInt) (h2 : i.toInt ≤ 3078) (h0 : i.toInt + 6 ≤ L → LW p l e s m below meth c (lw_Z below #[Value.ref b] s) b GD GM i 27 [] σ τ) : LW p l e s m below meth c (lw_Z below #[Value.ref b] s) b GD GM i 18 [] σ τ := by
  intro H locs ls hP hM hS hl
  refine lv_iload_n K.1 K.2.1 dL_law_18 rfl (lv_at hl 0 rfl) ?_
  refine lv_aload_n K.1 K.2.1 dL_law_19 rfl (lv_at hl 3 rfl) ?_
  refine va_slen K.1 K.2.1 K.2.2.2.2.2.2.2.2.2.2.2.2 K.2.2.2.2.2.2.2.2.2.2.2.1 (lk_hbA K.2.2.2.2.2.2.2.2.2.2.2.1) hS dL_law_20 ?_
  refine lv_bipush K.1 K.2.1 dL_law_21 (v := 6) (by decide) ?_
  refine lv_isub K.1 K.2.1 dL_law_23 ?_
  have e1 : (Int32.ofNat L).toInt = L := nI_toInt (by omega)
  have e6 : (6 : Int32).toInt = 6 := by decide
  have e2 := subI (x := Int32.ofNat L) (y := 6) (by omega) (by omega)
  refine lv_icmp_gt K.1 K.2.1 dL_law_24 (tgt := 1530) (by decide) (fun _ => law_end K hr hlocks H locs ls hP hM hS hl) (fun h => ?_)
  have h3 := nltI h
  exact h0 (by omega) H locs ls hP hM hS hl
/-- the law's loop -/
theorem law_loop (K : LK p s m c b L xs GD GM) (hL : L ≤ 3072) (hr : meth.sig.returnType = ret) (hlocks : meth.locks = false) (n : Nat) : ∀ (i : Int32) (σ τ : sg), 0 ≤ i.toInt → i.toInt ≤ 3078 → 3078 ≤ i.toInt + n → RG σ τ → WD σ → WM τ → LW p l e s m below meth c (lw_Z below #[Value.ref b] s) b GD GM i 18 [] σ τ := by
  induction n with
  | zero => exact fun i σ τ h1 h2 h3 hR hD hMM => law_head K hL hr hlocks h1 h2 (fun h => by omega)
  | succ n ih => exact fun i σ τ h1 h2 h3 hR hD hMM => law_head K hL hr hlocks h1 h2 (fun h => law_step K hL (fun σ9 τ9 a1 a2 a3 => by
      have e6 : (Int32.ofInt 6).toInt = 6 := by decide
      have e9 := addI (x := i) (y := Int32.ofInt 6) (by omega) (by omega)
      exact ih _ σ9 τ9 (by omega) (by omega) (by omega) a1 a2 a3) h1 h hR hD hMM)
end LO
