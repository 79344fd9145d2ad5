section LA
/-- the law's fixed facts -/
def LK (p : Program) (s : State) (m : MethodId) (c : Code) (b L : Nat) (xs : Nat → Int32) (GD GM : gT) : Prop :=
  p.tables.exec = Jvm.exec ∧ c.code = cL_law ∧ c.maxLocals = 4 ∧ s.vm.findClass RL = some m.cls ∧ (∀ w ∈ wsL_law, w.before #[Value.ref b] s = true) ∧
  (va_K (gD GD) vwCl (gty GD) s ∧ va_K (gD GM) vwCl (gty GM) s) ∧ nS s ∧ (sF GD s ∧ sF GM s) ∧ (wN GD ∧ wN GM) ∧ (gfl GD = true ∧ gfl GM = false) ∧
  ((∀ q, wA GD q → s.heap.size ≤ q) ∧ (∀ q, wA GM q → s.heap.size ≤ q) ∧ ∀ q, wA GD q → ¬ wA GM q) ∧ b < s.heap.size ∧ va_X b L xs s s.heap
/-- the law's locals -/
def lvL (b : Nat) (GD GM : gT) (i : Int32) : List (Nat × Value) := [(3, .int i), (2, .ref (gob GM 0)), (1, .ref (gob GD 3)), (0, .ref b)]
/-- a place in the law's loop, both worlds in one heap -/
def LW (p : Program) (l : Launch) (e : Env) (s : State) (m : MethodId) (below : List Frame) (meth : Method) (c : Code) (Q : State → Prop) (b : Nat) (GD GM : gT) (i : Int32) (pc : Nat) (st : List Value) (σ τ : sg) : Prop :=
  ∀ (H : Heap) (locs : List Loc) (ls : Array Slot), va_P (gD GD) vwCl (wl GD σ) H → va_P (gD GM) vwCl (wl GM τ) H → va_S (fun q => s.heap.size ≤ q) s.heap H locs → lv_has ls 4 (lvL b GD GM i) → W p l e room_1 s m #[Value.ref b] below meth c H locs 600000 7302250 Q (F0 m pc ls st)
variable {p : Program} {l : Launch} {e : Env} {s : State} {m : MethodId} {below : List Frame} {meth : Method} {c : Code} {Q : State → Prop} {b L : Nat} {xs : Nat → Int32} {GD GM : gT} {i : Int32} {pc : Nat} {st : List Value} {σ τ : sg}
theorem lk_hbA {s : State} {b : Nat} (h : b < s.heap.size) : ¬ (fun q => s.heap.size ≤ q) b := Nat.not_le.mpr h
theorem l_x (K : LK p s m c b L xs GD GM) (d : decode cL_law pc = .ok (.aload_n 1, 1)) (k : LW p l e s m below meth c Q b GD GM i (pc + 1) (.ref (gob GD 3) :: st) σ τ) : LW p l e s m below meth c Q b GD GM i pc st σ τ :=
  fun H locs ls hP hM hS hl => lv_aload_n K.1 K.2.1 d rfl (lv_at hl 2 rfl) (k H locs ls hP hM hS hl)
theorem l_m (K : LK p s m c b L xs GD GM) (d : decode cL_law pc = .ok (.aload_n 2, 1)) (k : LW p l e s m below meth c Q b GD GM i (pc + 1) (.ref (gob GM 0) :: st) σ τ) : LW p l e s m below meth c Q b GD GM i pc st σ τ :=
  fun H locs ls hP hM hS hl => lv_aload_n K.1 K.2.1 d rfl (lv_at hl 1 rfl) (k H locs ls hP hM hS hl)
/-- the word at i + v of the script is pushed -/
theorem l_arg (K : LK p s m c b L xs GD GM) (n : Int) (v : Int32) (hv : Int32.ofInt n = v) (hin : vp_in (i + v) L) (d1 : decode cL_law pc = .ok (.aload_n 0, 1)) (d2 : decode cL_law (pc + 1) = .ok (.iload_n 3, 1)) (d3 : decode cL_law (pc + 2) = .ok (.iconst n, 1)) (d4 : decode cL_law (pc + 3) = .ok (.iadd, 1)) (d5 : decode cL_law (pc + 4) = .ok (.iaload, 1)) (k : LW p l e s m below meth c Q b GD GM i (pc + 5) (.int (xs (i + v).toNatClampNeg) :: st) σ τ) : LW p l e s m below meth c Q b GD GM i pc st σ τ := by
  intro H locs ls hP hM hS hl
  refine lv_aload_n K.1 K.2.1 d1 rfl (lv_at hl 3 rfl) ?_
  refine lv_iload_n K.1 K.2.1 d2 rfl (lv_at hl 0 rfl) ?_
  refine lv_iconst K.1 K.2.1 d3 hv ?_
  refine lv_iadd K.1 K.2.1 d4 ?_
  obtain ⟨k1, k2, k3, k4, k5, k6, k7, k8, k9, k10, k11, k12, k13⟩ := K
  exact va_sld k1 k2 k13 k12 (lk_hbA k12) hS hin d5 (k H locs ls hP hM hS hl)
/-- the two answers are alike -/
theorem l_cmp (K : LK p s m c b L xs GD GM) {off : Int} {r1 r2 : Int32} (h : r1 = r2) (d : decode cL_law pc = .ok (.if_icmp .eq off, 3)) (ht : (pc : Int) + off = ((1524 : Nat) : Int)) (k : LW p l e s m below meth c Q b GD GM i 1524 st σ τ) : LW p l e s m below meth c Q b GD GM i pc (.int r2 :: .int r1 :: st) σ τ :=
  fun H locs ls hP hM hS hl => lv_icmp_eq K.1 K.2.1 d ht (fun _ => k H locs ls hP hM hS hl) (fun h9 => absurd h h9)
theorem wB_of {G : gT} {s U : State} {σ : sg} {H : Heap} {locs : List Loc} (hK : va_K (gD G) vwCl (gty G) s) (hn : nS s) (hF : sF G s) (hA : ∀ q, wA G q → s.heap.size ≤ q) (hP : va_P (gD G) vwCl (wl G σ) H) (hS : va_S (fun q => s.heap.size ≤ q) s.heap H locs) (hU : U.heap = H) (hW : s.WarmedH U.vm) : wB G σ U :=
  ⟨by rw [hU]; exact hP, va_K.moved hW.alike hK, nS_warm hW hn, sF_move hW (fun q h1 _ => by rw [hU]; exact hS.2.1 q h1 (Nat.not_le.mpr h1)) hF⟩
theorem wl_kept {G G' : gT} {σ : sg} {H H1 : Heap} (hd : ∀ q, wA G q → ¬ wA G' q) (hP : va_P (gD G) vwCl (wl G σ) H) (hk : ∀ q : Nat, q < H.size → ¬ wA G' q → H1[q]? = H[q]?) : va_P (gD G) vwCl (wl G σ) H1 :=
  hP.kept (fun k q hq => hk q.1 ((hP k q hq).lt) (hd q.1 (by
    have h1 : q.1 ∈ (wl G σ).map Prod.fst := List.mem_map.mpr ⟨q, List.mem_of_getElem? hq, rfl⟩
    rw [wl_adr] at h1
    exact h1)))
/-- a call on the class -/
theorem l_callX (K : LK p s m c b L xs GD GM) {idx n maxL : Nat} {y : MethodName} {bytes : ByteArray} {ret : Option FieldType} {ws ws' : List Cond} {rm : Room} {As st0 : List Value} {r9 : Int32} {σ' : sg} (hM : cM l y ws rm GD (.ref (gob GD 3) :: As) σ (some (.int r9)) σ') (hG : GoodIn wsL_law (wsV RL idx RX4 y ws)) (hw : ws = Cond.code y bytes maxL ret :: ws') (hd : y.cls = RX4 ∧ y.cls ≠ "java/lang/invoke/MethodHandle" ∧ y.cls ≠ "java/lang/invoke/VarHandle" ∧ (parseMethodDescriptor y.desc).map (fun d => d.parameters.length) = some n) (hR : rm.frames + 1 ≤ 13 ∧ 8 + (maxL + 11) + rm.locals ≤ 482) (hrc : rm.cells = 0) (hrs : rm.slots = 0) (hn : As.length = n) (hst : st0 = As.reverse ++ .ref (gob GD 3) :: st) (hW : (st.map fun v => v.category).sum ≤ 8) (d : decode cL_law pc = .ok (.invokevirtual idx, 3)) (k : LW p l e s m below meth c Q b GD GM i (pc + 3) (.int r9 :: st) σ' τ) : LW p l e s m below meth c Q b GD GM i pc st0 σ τ := by
  intro H locs ls hP hPM hS hl
  subst hst
  obtain ⟨k1, k2, k3, k4, k5, ⟨k6, k6'⟩, k7, ⟨k8, k8'⟩, ⟨k9, k9'⟩, ⟨k10, k10'⟩, ⟨k11, k11', k11''⟩, k12, k13⟩ := K
  have hr := va_runV (R := room_1) (p := p) (l := l) (e := e) (below := below) (meth := meth) (H := H) (locs := locs) (cells := 600000) (slots := 7302250) (g := F0 m pc ls (As.reverse ++ .ref (gob GD 3) :: st)) (As := As) (rest := st) ⟨k1, k2, k3, k4, k5⟩ hM (cwV n k5 hG hw hrc hrs hd hR) ⟨fun a U g mk h => ⟨h.1, wB_call g mk a h.2⟩, va_recv k6 hP vw_3 (wl_o (wO_x k10)), fun U hU hW => ⟨rfl, wB_of k6 k7 k8 k11 hP hS hU hW⟩⟩ rfl hn hl.1 rfl (lv_room hW) d ⟨Nat.le_of_ble_eq_true rfl, Nat.le_of_ble_eq_true rfl⟩
  intro T hT X
  obtain ⟨v1, st₀, t, T', Ll, h0, X', hL, e1, e2, ⟨hv, hw, hz, hk⟩, go⟩ := hr T hT X
  cases hv
  rw [h0] at hz hk
  have e1' : t.heap = T'.heap := e1.symm
  obtain ⟨t2, a1, b1⟩ := k T'.heap (locs ++ Ll) ls (by rw [e1]; exact hw.1) (by rw [e1]; exact wl_kept (fun q h1 h2 => k11'' q h2 h1) hPM hk) ⟨Nat.le_trans hS.1 (by rw [e1]; exact hz), fun q h1 h2 => by rw [e1, hk q (Nat.lt_of_lt_of_le h1 hS.1) (fun z => h2 (k11 q z))]; exact hS.2.1 q h1 h2, fun q hq => by
      rcases List.mem_append.mp hq with h | h
      · exact hS.2.2 q h
      · exact k11 _ (hL q h)⟩ hl T' rfl X'
  exact ⟨t2, go t2 a1, b1⟩
/-- a call on the reference -/
theorem l_callM (K : LK p s m c b L xs GD GM) {idx n maxL : Nat} {y : MethodName} {bytes : ByteArray} {ret : Option FieldType} {ws ws' : List Cond} {rm : Room} {As st0 : List Value} {r9 : Int32} {τ' : sg} (hM : cM l y ws rm GM (.ref (gob GM 0) :: As) τ (some (.int r9)) τ') (hG : GoodIn wsL_law (wsV RL idx RX5 y ws)) (hw : ws = Cond.code y bytes maxL ret :: ws') (hd : y.cls = RX5 ∧ y.cls ≠ "java/lang/invoke/MethodHandle" ∧ y.cls ≠ "java/lang/invoke/VarHandle" ∧ (parseMethodDescriptor y.desc).map (fun d => d.parameters.length) = some n) (hR : rm.frames + 1 ≤ 13 ∧ 8 + (maxL + 11) + rm.locals ≤ 482) (hrc : rm.cells = 0) (hrs : rm.slots = 0) (hn : As.length = n) (hst : st0 = As.reverse ++ .ref (gob GM 0) :: st) (hW : (st.map fun v => v.category).sum ≤ 8) (d : decode cL_law pc = .ok (.invokevirtual idx, 3)) (k : LW p l e s m below meth c Q b GD GM i (pc + 3) (.int r9 :: st) σ τ') : LW p l e s m below meth c Q b GD GM i pc st0 σ τ := by
  intro H locs ls hP hPM hS hl
  subst hst
  obtain ⟨k1, k2, k3, k4, k5, ⟨k6, k6'⟩, k7, ⟨k8, k8'⟩, ⟨k9, k9'⟩, ⟨k10, k10'⟩, ⟨k11, k11', k11''⟩, k12, k13⟩ := K
  have hr := va_runV (R := room_1) (p := p) (l := l) (e := e) (below := below) (meth := meth) (H := H) (locs := locs) (cells := 600000) (slots := 7302250) (g := F0 m pc ls (As.reverse ++ .ref (gob GM 0) :: st)) (As := As) (rest := st) ⟨k1, k2, k3, k4, k5⟩ hM (cwV n k5 hG hw hrc hrs hd hR) ⟨fun a U g mk h => ⟨h.1, wB_call g mk a h.2⟩, va_recv k6' hPM vw_4 (wl_o (wO_m k10')), fun U hU hW => ⟨rfl, wB_of k6' k7 k8' k11' hPM hS hU hW⟩⟩ rfl hn hl.1 rfl (lv_room hW) d ⟨Nat.le_of_ble_eq_true rfl, Nat.le_of_ble_eq_true rfl⟩
  intro T hT X
  obtain ⟨v1, st₀, t, T', Ll, h0, X', hL, e1, e2, ⟨hv, hw, hz, hk⟩, go⟩ := hr T hT X
  cases hv
  rw [h0] at hz hk
  have e1' : t.heap = T'.heap := e1.symm
  obtain ⟨t2, a1, b1⟩ := k T'.heap (locs ++ Ll) ls (by rw [e1]; exact wl_kept k11'' hP hk) (by rw [e1]; exact hw.1) ⟨Nat.le_trans hS.1 (by rw [e1]; exact hz), fun q h1 h2 => by rw [e1, hk q (Nat.lt_of_lt_of_le h1 hS.1) (fun z => h2 (k11' q z))]; exact hS.2.1 q h1 h2, fun q hq => by
      rcases List.mem_append.mp hq with h | h
      · exact hS.2.2 q h
      · exact k11' _ (hL q h)⟩ hl T' rfl X'
  exact ⟨t2, go t2 a1, b1⟩
end LA
