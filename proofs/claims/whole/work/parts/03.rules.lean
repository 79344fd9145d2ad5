section QR
variable {p : Program} {l : Launch} {e : Env} {R : Room} {s : State} {m : MethodId} {args : Array Value} {below : List Frame} {meth : Method} {c : Code} {Q : State → Prop}
variable {ρ : Type} {E : ρ → Prop} {T : ρ}
variable {cc : ByteArray} {nL : Nat} {own : String} {Ts : List Cond} {G : gT} {pc : Nat} {lv : List (Option Value)} {st : List Value} {σ : sg}
/-- at frame pc, with locals lv, stack st, state σ: the machine comes to Q -/
def qq {ρ : Type} (p : Program) (l : Launch) (e : Env) (R : Room) (s : State) (m : MethodId) (args : Array Value) (below : List Frame) (meth : Method) (c : Code) (Q : State → Prop) (nL : Nat) (G : gT) (E : ρ → Prop) (T : ρ) (pc : Nat) (lv : List (Option Value)) (st : List Value) (σ : sg) : Prop :=
  E T → ∀ (H : Heap) (locs : List Loc) (ls : Array Slot), va_P (gD G) vwCl (wl G σ) H → va_S (wA G) s.heap H locs → lq ls nL lv → W p l e R s m args below meth c H locs 0 0 Q (F0 m pc ls st)
/-- what a method's walk rests on -/
def qK (p : Program) (s : State) (m : MethodId) (args : Array Value) (meth : Method) (c : Code) (cc : ByteArray) (nL : Nat) (own : String) (Ts : List Cond) (G : gT) : Prop :=
  p.tables.exec = Jvm.exec ∧ c.code = cc ∧ c.maxLocals = nL ∧ s.vm.findClass own = some m.cls ∧ (∀ w ∈ Ts, w.before args s = true) ∧ va_K (gD G) vwCl (gty G) s ∧ wN G ∧ meth.locks = false ∧ nS s ∧ sF G s
theorem qq_st {lv lv' : List (Option Value)} {st st' : List Value} {σ σ' : sg} (h1 : lv = lv') (h2 : st = st') (h3 : σ = σ') (k : qq p l e R s m args below meth c Q nL G E T pc lv' st' σ') : qq p l e R s m args below meth c Q nL G E T pc lv st σ := by subst h1; subst h2; subst h3; exact k
theorem qq_lv {lv' : List (Option Value)} (h : ∀ (i : Nat) (v : Value), lv'[i]? = some (some v) → lv[i]? = some (some v)) (k : qq p l e R s m args below meth c Q nL G E T pc lv' st σ) : qq p l e R s m args below meth c Q nL G E T pc lv st σ :=
  fun hE H locs ls hP hS hl => k hE H locs ls hP hS (lq_to hl h)
theorem q_iconst (K : qK p s m args meth c cc nL own Ts G) {n : Int} {v : Int32} (d : decode cc pc = .ok (.iconst n, 1)) (hv : Int32.ofInt n = v) (k : qq p l e R s m args below meth c Q nL G E T (pc + 1) lv (.int v :: st) σ) : qq p l e R s m args below meth c Q nL G E T pc lv st σ :=
  fun hE H locs ls hP hS hl => lv_iconst K.1 K.2.1 d hv (k hE H locs ls hP hS hl)
theorem q_bipush (K : qK p s m args meth c cc nL own Ts G) {n : Int} {v : Int32} (d : decode cc pc = .ok (.bipush n, 2)) (hv : (Int8.ofInt n).toInt32 = v) (k : qq p l e R s m args below meth c Q nL G E T (pc + 2) lv (.int v :: st) σ) : qq p l e R s m args below meth c Q nL G E T pc lv st σ :=
  fun hE H locs ls hP hS hl => lv_bipush K.1 K.2.1 d hv (k hE H locs ls hP hS hl)
theorem q_sipush (K : qK p s m args meth c cc nL own Ts G) {n : Int} {v : Int32} (d : decode cc pc = .ok (.sipush n, 3)) (hv : (Int16.ofInt n).toInt32 = v) (k : qq p l e R s m args below meth c Q nL G E T (pc + 3) lv (.int v :: st) σ) : qq p l e R s m args below meth c Q nL G E T pc lv st σ :=
  fun hE H locs ls hP hS hl => lv_sipush K.1 K.2.1 d hv (k hE H locs ls hP hS hl)
theorem q_iload_n (K : qK p s m args meth c cc nL own Ts G) {j : Fin 4} {i : Nat} {x : Int32} (d : decode cc pc = .ok (.iload_n j, 1)) (hi : (j : Nat) = i) (hx : lv[i]? = some (some (.int x))) (k : qq p l e R s m args below meth c Q nL G E T (pc + 1) lv (.int x :: st) σ) : qq p l e R s m args below meth c Q nL G E T pc lv st σ :=
  fun hE H locs ls hP hS hl => lv_iload_n K.1 K.2.1 d hi (hl.2 i _ hx).1 (k hE H locs ls hP hS hl)
theorem q_iload (K : qK p s m args meth c cc nL own Ts G) {i : Nat} {x : Int32} (d : decode cc pc = .ok (.iload i, 2)) (hx : lv[i]? = some (some (.int x))) (k : qq p l e R s m args below meth c Q nL G E T (pc + 2) lv (.int x :: st) σ) : qq p l e R s m args below meth c Q nL G E T pc lv st σ :=
  fun hE H locs ls hP hS hl => lv_iload K.1 K.2.1 d (hl.2 i _ hx).1 (k hE H locs ls hP hS hl)
theorem q_aload_n (K : qK p s m args meth c cc nL own Ts G) {j : Fin 4} {i : Nat} {x : Nat} (d : decode cc pc = .ok (.aload_n j, 1)) (hi : (j : Nat) = i) (hx : lv[i]? = some (some (.ref x))) (k : qq p l e R s m args below meth c Q nL G E T (pc + 1) lv (.ref x :: st) σ) : qq p l e R s m args below meth c Q nL G E T pc lv st σ :=
  fun hE H locs ls hP hS hl => lv_aload_n K.1 K.2.1 d hi (hl.2 i _ hx).1 (k hE H locs ls hP hS hl)
theorem q_aload (K : qK p s m args meth c cc nL own Ts G) {i : Nat} {x : Nat} (d : decode cc pc = .ok (.aload i, 2)) (hx : lv[i]? = some (some (.ref x))) (k : qq p l e R s m args below meth c Q nL G E T (pc + 2) lv (.ref x :: st) σ) : qq p l e R s m args below meth c Q nL G E T pc lv st σ :=
  fun hE H locs ls hP hS hl => lv_aload K.1 K.2.1 d (hl.2 i _ hx).1 (k hE H locs ls hP hS hl)
theorem q_iadd (K : qK p s m args meth c cc nL own Ts G) {x y : Int32} (d : decode cc pc = .ok (.iadd, 1))  (k : qq p l e R s m args below meth c Q nL G E T (pc + 1) lv (.int (x + y) :: st) σ) : qq p l e R s m args below meth c Q nL G E T pc lv (.int y :: .int x :: st) σ :=
  fun hE H locs ls hP hS hl => lv_iadd K.1 K.2.1 d (k hE H locs ls hP hS hl)
theorem q_isub (K : qK p s m args meth c cc nL own Ts G) {x y : Int32} (d : decode cc pc = .ok (.isub, 1))  (k : qq p l e R s m args below meth c Q nL G E T (pc + 1) lv (.int (x - y) :: st) σ) : qq p l e R s m args below meth c Q nL G E T pc lv (.int y :: .int x :: st) σ :=
  fun hE H locs ls hP hS hl => lv_isub K.1 K.2.1 d (k hE H locs ls hP hS hl)
theorem q_imul (K : qK p s m args meth c cc nL own Ts G) {x y : Int32} (d : decode cc pc = .ok (.imul, 1))  (k : qq p l e R s m args below meth c Q nL G E T (pc + 1) lv (.int (x * y) :: st) σ) : qq p l e R s m args below meth c Q nL G E T pc lv (.int y :: .int x :: st) σ :=
  fun hE H locs ls hP hS hl => lv_imul K.1 K.2.1 d (k hE H locs ls hP hS hl)
theorem q_iand (K : qK p s m args meth c cc nL own Ts G) {x y : Int32} (d : decode cc pc = .ok (.iand, 1))  (k : qq p l e R s m args below meth c Q nL G E T (pc + 1) lv (.int (x &&& y) :: st) σ) : qq p l e R s m args below meth c Q nL G E T pc lv (.int y :: .int x :: st) σ :=
  fun hE H locs ls hP hS hl => lv_iand K.1 K.2.1 d (k hE H locs ls hP hS hl)
theorem q_ior (K : qK p s m args meth c cc nL own Ts G) {x y : Int32} (d : decode cc pc = .ok (.ior, 1))  (k : qq p l e R s m args below meth c Q nL G E T (pc + 1) lv (.int (x ||| y) :: st) σ) : qq p l e R s m args below meth c Q nL G E T pc lv (.int y :: .int x :: st) σ :=
  fun hE H locs ls hP hS hl => lv_ior K.1 K.2.1 d (k hE H locs ls hP hS hl)
theorem q_ixor (K : qK p s m args meth c cc nL own Ts G) {x y : Int32} (d : decode cc pc = .ok (.ixor, 1))  (k : qq p l e R s m args below meth c Q nL G E T (pc + 1) lv (.int (x ^^^ y) :: st) σ) : qq p l e R s m args below meth c Q nL G E T pc lv (.int y :: .int x :: st) σ :=
  fun hE H locs ls hP hS hl => lv_ixor K.1 K.2.1 d (k hE H locs ls hP hS hl)
/-- a row's int, a field; written -/
def rA (σ : sg) (a : Nat) (i : Int32) : Int32 := σ.1 a i.toNatClampNeg
def rF (σ : sg) (i : Nat) : Int32 := σ.2 i
def sA (σ : sg) (a : Nat) (i x : Int32) : sg := (va_up σ.1 a (upd (σ.1 a) i.toNatClampNeg x), σ.2)
def sF9 (σ : sg) (i : Nat) (x : Int32) : sg := (σ.1, va_up σ.2 i x)
def sC (σ : sg) (a : Nat) (sp : Int32) (b : Nat) (dp n : Int32) : sg := (va_up σ.1 b (va_cpy (σ.1 a) (σ.1 b) sp.toNatClampNeg dp.toNatClampNeg n.toNatClampNeg), σ.2)
def jmin (x y : Int32) : Int32 := if y < x then y else x
def jmax (x y : Int32) : Int32 := if x < y then y else x
def jabs (x : Int32) : Int32 := if 0 ≤ x then x else 0 - x
def bnd {α : Type} {β : Type} (x : α) (f : α → β) : β := f x
theorem qq_bnd {α : Type} {x : α} {f : α → ρ} (k : qq p l e R s m args below meth c Q nL G E (f x) pc lv st σ) : qq p l e R s m args below meth c Q nL G E (bnd x f) pc lv st σ := k
theorem qq_in {α : Type} {x : α} {f : α → ρ} (k : qq p l e R s m args below meth c Q nL G (fun y => E (f y)) x pc lv st σ) : qq p l e R s m args below meth c Q nL G E (bnd x f) pc lv st σ := k
theorem qq_out {α : Type} {x : α} {f : α → ρ} (k : qq p l e R s m args below meth c Q nL G E (bnd x f) pc lv st σ) : qq p l e R s m args below meth c Q nL G (fun y => E (f y)) x pc lv st σ := k
theorem qq_leaf {α : Type} {x : α} {f : α → ρ} (k : qq p l e R s m args below meth c Q nL G E (f x) pc lv st σ) : qq p l e R s m args below meth c Q nL G (fun y => E (f y)) x pc lv st σ := k
/-- a shift, a rest, as the machine has them -/
def jshl (x y : Int32) : Int32 := x <<< (y &&& 31)
def jshr (x y : Int32) : Int32 := x >>> (y &&& 31)
def jushr (x y : Int32) : Int32 := (x.toUInt32 >>> (y.toUInt32 &&& Int32.toUInt32 31)).toInt32
def jrem (x y : Int32) : Int32 := x - x / y * y
def jch (x : Int32) : Int32 := (x.toUInt32 % 65536).toInt32
theorem q_idiv (K : qK p s m args meth c cc nL own Ts G) {x y : Int32} (d : decode cc pc = .ok (.idiv, 1)) (hne : ¬ y = 0) (k : qq p l e R s m args below meth c Q nL G E T (pc + 1) lv (.int (x / y) :: st) σ) : qq p l e R s m args below meth c Q nL G E T pc lv (.int y :: .int x :: st) σ :=
  fun hE H locs ls hP hS hl => lv_idiv K.1 K.2.1 d hne (k hE H locs ls hP hS hl)
theorem q_irem (K : qK p s m args meth c cc nL own Ts G) {x y : Int32} (d : decode cc pc = .ok (.irem, 1)) (hne : ¬ y = 0) (k : qq p l e R s m args below meth c Q nL G E T (pc + 1) lv (.int (jrem x y) :: st) σ) : qq p l e R s m args below meth c Q nL G E T pc lv (.int y :: .int x :: st) σ :=
  fun hE H locs ls hP hS hl => lv_irem K.1 K.2.1 d hne (k hE H locs ls hP hS hl)
theorem q_ineg (K : qK p s m args meth c cc nL own Ts G) {x : Int32} (d : decode cc pc = .ok (.ineg, 1))  (k : qq p l e R s m args below meth c Q nL G E T (pc + 1) lv (.int (-x) :: st) σ) : qq p l e R s m args below meth c Q nL G E T pc lv (.int x :: st) σ :=
  fun hE H locs ls hP hS hl => lv_ineg K.1 K.2.1 d (k hE H locs ls hP hS hl)
theorem q_ishl (K : qK p s m args meth c cc nL own Ts G) {x y : Int32} (d : decode cc pc = .ok (.ishl, 1))  (k : qq p l e R s m args below meth c Q nL G E T (pc + 1) lv (.int (jshl x y) :: st) σ) : qq p l e R s m args below meth c Q nL G E T pc lv (.int y :: .int x :: st) σ :=
  fun hE H locs ls hP hS hl => lv_ishl K.1 K.2.1 d (k hE H locs ls hP hS hl)
theorem q_ishr (K : qK p s m args meth c cc nL own Ts G) {x y : Int32} (d : decode cc pc = .ok (.ishr, 1))  (k : qq p l e R s m args below meth c Q nL G E T (pc + 1) lv (.int (jshr x y) :: st) σ) : qq p l e R s m args below meth c Q nL G E T pc lv (.int y :: .int x :: st) σ :=
  fun hE H locs ls hP hS hl => lv_ishr K.1 K.2.1 d (k hE H locs ls hP hS hl)
theorem q_iushr (K : qK p s m args meth c cc nL own Ts G) {x y : Int32} (d : decode cc pc = .ok (.iushr, 1))  (k : qq p l e R s m args below meth c Q nL G E T (pc + 1) lv (.int (jushr x y) :: st) σ) : qq p l e R s m args below meth c Q nL G E T pc lv (.int y :: .int x :: st) σ :=
  fun hE H locs ls hP hS hl => lv_iushr (v := jushr x y) K.1 K.2.1 d rfl (k hE H locs ls hP hS hl)
theorem q_i2b (K : qK p s m args meth c cc nL own Ts G) {x : Int32} (d : decode cc pc = .ok (.i2b, 1))  (k : qq p l e R s m args below meth c Q nL G E T (pc + 1) lv (.int x.toInt8.toInt32 :: st) σ) : qq p l e R s m args below meth c Q nL G E T pc lv (.int x :: st) σ :=
  fun hE H locs ls hP hS hl => lv_i2b K.1 K.2.1 d rfl (k hE H locs ls hP hS hl)
theorem q_i2s (K : qK p s m args meth c cc nL own Ts G) {x : Int32} (d : decode cc pc = .ok (.i2s, 1))  (k : qq p l e R s m args below meth c Q nL G E T (pc + 1) lv (.int x.toInt16.toInt32 :: st) σ) : qq p l e R s m args below meth c Q nL G E T pc lv (.int x :: st) σ :=
  fun hE H locs ls hP hS hl => lv_i2s K.1 K.2.1 d rfl (k hE H locs ls hP hS hl)
theorem q_i2c (K : qK p s m args meth c cc nL own Ts G) {x : Int32} (d : decode cc pc = .ok (.i2c, 1))  (k : qq p l e R s m args below meth c Q nL G E T (pc + 1) lv (.int (jch x) :: st) σ) : qq p l e R s m args below meth c Q nL G E T pc lv (.int x :: st) σ :=
  fun hE H locs ls hP hS hl => lv_i2c (v := jch x) K.1 K.2.1 d rfl (k hE H locs ls hP hS hl)
theorem q_i2l (K : qK p s m args meth c cc nL own Ts G) {x : Int32} (d : decode cc pc = .ok (.i2l, 1))  (k : qq p l e R s m args below meth c Q nL G E T (pc + 1) lv (.long x.toInt64 :: st) σ) : qq p l e R s m args below meth c Q nL G E T pc lv (.int x :: st) σ :=
  fun hE H locs ls hP hS hl => lv_i2l K.1 K.2.1 d rfl (k hE H locs ls hP hS hl)
theorem q_ladd (K : qK p s m args meth c cc nL own Ts G) {x y : Int64} (d : decode cc pc = .ok (.ladd, 1))  (k : qq p l e R s m args below meth c Q nL G E T (pc + 1) lv (.long (x + y) :: st) σ) : qq p l e R s m args below meth c Q nL G E T pc lv (.long y :: .long x :: st) σ :=
  fun hE H locs ls hP hS hl => lv_ladd K.1 K.2.1 d (k hE H locs ls hP hS hl)
theorem q_lcmp (K : qK p s m args meth c cc nL own Ts G) {x y : Int64} (d : decode cc pc = .ok (.lcmp, 1))  (k : qq p l e R s m args below meth c Q nL G E T (pc + 1) lv (.int (lg_cmp x y) :: st) σ) : qq p l e R s m args below meth c Q nL G E T pc lv (.long y :: .long x :: st) σ :=
  fun hE H locs ls hP hS hl => W.lcmp K.1 K.2.1 d (k hE H locs ls hP hS hl)
theorem q_dup (K : qK p s m args meth c cc nL own Ts G) {v : Value} (d : decode cc pc = .ok (.dup, 1)) (hv : v.category = 1) (k : qq p l e R s m args below meth c Q nL G E T (pc + 1) lv (v :: v :: st) σ) : qq p l e R s m args below meth c Q nL G E T pc lv (v :: st) σ :=
  fun hE H locs ls hP hS hl => lv_dup K.1 K.2.1 d hv (k hE H locs ls hP hS hl)
theorem q_dup2 (K : qK p s m args meth c cc nL own Ts G) {v u : Value} (d : decode cc pc = .ok (.dup2, 1)) (hv : v.category = 1) (hu : u.category = 1) (k : qq p l e R s m args below meth c Q nL G E T (pc + 1) lv (v :: u :: v :: u :: st) σ) : qq p l e R s m args below meth c Q nL G E T pc lv (v :: u :: st) σ :=
  fun hE H locs ls hP hS hl => lv_dup2_11 K.1 K.2.1 d hv hu (k hE H locs ls hP hS hl)
theorem q_pop (K : qK p s m args meth c cc nL own Ts G) {v : Value} (d : decode cc pc = .ok (.pop, 1)) (hv : v.category = 1) (k : qq p l e R s m args below meth c Q nL G E T (pc + 1) lv st σ) : qq p l e R s m args below meth c Q nL G E T pc lv (v :: st) σ :=
  fun hE H locs ls hP hS hl => lv_pop K.1 K.2.1 d hv (k hE H locs ls hP hS hl)
theorem q_ldc (K : qK p s m args meth c cc nL own Ts G) {index : Nat} {v : Int32} (d : decode cc pc = .ok (.ldc index, 2)) (hc : Cond.constant own index v ∈ Ts) (k : qq p l e R s m args below meth c Q nL G E T (pc + 2) lv (.int v :: st) σ) : qq p l e R s m args below meth c Q nL G E T pc lv st σ :=
  fun hE H locs ls hP hS hl => lv_ldc K.1 K.2.1 K.2.2.2.1 (K.2.2.2.2.1 _ hc) d (k hE H locs ls hP hS hl)
theorem q_ldcw (K : qK p s m args meth c cc nL own Ts G) {index : Nat} {v : Int32} (d : decode cc pc = .ok (.ldc_w index, 3)) (hc : Cond.constant own index v ∈ Ts) (k : qq p l e R s m args below meth c Q nL G E T (pc + 3) lv (.int v :: st) σ) : qq p l e R s m args below meth c Q nL G E T pc lv st σ :=
  fun hE H locs ls hP hS hl => lv_ldcw K.1 K.2.1 K.2.2.2.1 (K.2.2.2.2.1 _ hc) d (k hE H locs ls hP hS hl)
theorem q_istore_n (K : qK p s m args meth c cc nL own Ts G) {j : Fin 4} {i : Nat} {x : Int32} {lv' : List (Option Value)} (d : decode cc pc = .ok (.istore_n j, 1)) (hi : (j : Nat) = i) (hn : i < nL) (hlen : i < lv.length) (hlv : lv.set i (some (.int x)) = lv') (k : qq p l e R s m args below meth c Q nL G E T (pc + 1) lv' st σ) : qq p l e R s m args below meth c Q nL G E T pc lv (.int x :: st) σ := by
  intro hE H locs ls hP hS hl
  refine lv_istore_n K.1 K.2.1 d hi (lq_has hl) hn rfl (fun ls' h9 => ?_)
  exact k hE H locs ls' hP hS (by rw [← hlv]; exact lq_store (fun j z hz => (hl.2 j z hz).2) rfl hlen rfl h9)
theorem q_istore (K : qK p s m args meth c cc nL own Ts G) {i : Nat} {x : Int32} {lv' : List (Option Value)} (d : decode cc pc = .ok (.istore i, 2)) (hn : i < nL) (hlen : i < lv.length) (hlv : lv.set i (some (.int x)) = lv') (k : qq p l e R s m args below meth c Q nL G E T (pc + 2) lv' st σ) : qq p l e R s m args below meth c Q nL G E T pc lv (.int x :: st) σ := by
  intro hE H locs ls hP hS hl
  refine lv_istore K.1 K.2.1 d (lq_has hl) hn rfl (fun ls' h9 => ?_)
  exact k hE H locs ls' hP hS (by rw [← hlv]; exact lq_store (fun j z hz => (hl.2 j z hz).2) rfl hlen rfl h9)
theorem q_astore_n (K : qK p s m args meth c cc nL own Ts G) {j : Fin 4} {i : Nat} {x : Nat} {lv' : List (Option Value)} (d : decode cc pc = .ok (.astore_n j, 1)) (hi : (j : Nat) = i) (hn : i < nL) (hlen : i < lv.length) (hlv : lv.set i (some (.ref x)) = lv') (k : qq p l e R s m args below meth c Q nL G E T (pc + 1) lv' st σ) : qq p l e R s m args below meth c Q nL G E T pc lv (.ref x :: st) σ := by
  intro hE H locs ls hP hS hl
  refine lv_astore_n K.1 K.2.1 d hi (lq_has hl) hn rfl (fun ls' h9 => ?_)
  exact k hE H locs ls' hP hS (by rw [← hlv]; exact lq_store (fun j z hz => (hl.2 j z hz).2) rfl hlen rfl h9)
theorem q_astore (K : qK p s m args meth c cc nL own Ts G) {i : Nat} {x : Nat} {lv' : List (Option Value)} (d : decode cc pc = .ok (.astore i, 2)) (hn : i < nL) (hlen : i < lv.length) (hlv : lv.set i (some (.ref x)) = lv') (k : qq p l e R s m args below meth c Q nL G E T (pc + 2) lv' st σ) : qq p l e R s m args below meth c Q nL G E T pc lv (.ref x :: st) σ := by
  intro hE H locs ls hP hS hl
  refine lv_astore K.1 K.2.1 d (lq_has hl) hn rfl (fun ls' h9 => ?_)
  exact k hE H locs ls' hP hS (by rw [← hlv]; exact lq_store (fun j z hz => (hl.2 j z hz).2) rfl hlen rfl h9)
theorem q_iinc (K : qK p s m args meth c cc nL own Ts G) {i : Nat} {n : Int} {x v : Int32} {lv' : List (Option Value)} (d : decode cc pc = .ok (.iinc i n, 3)) (hx : lv[i]? = some (some (.int x))) (hv : x + Int32.ofInt n = v) (hn : i < nL) (hlv : lv.set i (some (.int v)) = lv') (k : qq p l e R s m args below meth c Q nL G E T (pc + 3) lv' st σ) : qq p l e R s m args below meth c Q nL G E T pc lv st σ := by
  intro hE H locs ls hP hS hl
  obtain ⟨a, ha⟩ := List.getElem?_of_mem (lqA_mem.mpr hx)
  refine lv_iinc K.1 K.2.1 d (lq_has hl) (k := a) ha hv hn rfl (fun ls' h9 => ?_)
  exact k hE H locs ls' hP hS (by rw [← hlv]; exact lq_store (fun j z hz => (hl.2 j z hz).2) rfl (List.getElem?_eq_some_iff.mp hx).1 rfl h9)
theorem q_goto (K : qK p s m args meth c cc nL own Ts G) {off : Int} {tgt : Nat} (d : decode cc pc = .ok (.goto off, 3)) (ht : (pc : Int) + off = (tgt : Int)) (k : qq p l e R s m args below meth c Q nL G E T tgt lv st σ) : qq p l e R s m args below meth c Q nL G E T pc lv st σ :=
  fun hE H locs ls hP hS hl => lv_goto K.1 K.2.1 d ht (k hE H locs ls hP hS hl)
theorem q_if_eq (K : qK p s m args meth c cc nL own Ts G) {x : Int32} {off : Int} {tgt : Nat} {T1 T2 : ρ} {hdec : Decidable (x = 0)} (d : decode cc pc = .ok (.ifCond .eq off, 3)) (ht : (pc : Int) + off = (tgt : Int)) (kt : x = 0 → qq p l e R s m args below meth c Q nL G E T1 tgt lv st σ) (kf : ¬ (x = 0) → qq p l e R s m args below meth c Q nL G E T2 (pc + 3) lv st σ) : qq p l e R s m args below meth c Q nL G E (@ite ρ (x = 0) hdec T1 T2) pc lv (.int x :: st) σ :=
  fun hE H locs ls hP hS hl => lv_if_eq K.1 K.2.1 d ht (fun h => kt h (by rwa [if_pos h] at hE) H locs ls hP hS hl) (fun h => kf h (by rwa [if_neg h] at hE) H locs ls hP hS hl)
theorem q_if_eq_t (K : qK p s m args meth c cc nL own Ts G) {x : Int32} {off : Int} {tgt : Nat} (h0 : x = 0) (d : decode cc pc = .ok (.ifCond .eq off, 3)) (ht : (pc : Int) + off = (tgt : Int)) (k : qq p l e R s m args below meth c Q nL G E T tgt lv st σ) : qq p l e R s m args below meth c Q nL G E T pc lv (.int x :: st) σ :=
  fun hE H locs ls hP hS hl => lv_if_eq K.1 K.2.1 d ht (fun _ => k hE H locs ls hP hS hl) (fun h => absurd h0 h)
theorem q_if_eq_f (K : qK p s m args meth c cc nL own Ts G) {x : Int32} {off : Int} {tgt : Nat} (h0 : ¬ (x = 0)) (d : decode cc pc = .ok (.ifCond .eq off, 3)) (ht : (pc : Int) + off = (tgt : Int)) (k : qq p l e R s m args below meth c Q nL G E T (pc + 3) lv st σ) : qq p l e R s m args below meth c Q nL G E T pc lv (.int x :: st) σ :=
  fun hE H locs ls hP hS hl => lv_if_eq K.1 K.2.1 d ht (fun h => absurd h h0) (fun _ => k hE H locs ls hP hS hl)
theorem q_icmp_eq (K : qK p s m args meth c cc nL own Ts G) {x y : Int32} {off : Int} {tgt : Nat} {T1 T2 : ρ} {hdec : Decidable (x = y)} (d : decode cc pc = .ok (.if_icmp .eq off, 3)) (ht : (pc : Int) + off = (tgt : Int)) (kt : x = y → qq p l e R s m args below meth c Q nL G E T1 tgt lv st σ) (kf : ¬ (x = y) → qq p l e R s m args below meth c Q nL G E T2 (pc + 3) lv st σ) : qq p l e R s m args below meth c Q nL G E (@ite ρ (x = y) hdec T1 T2) pc lv (.int y :: .int x :: st) σ :=
  fun hE H locs ls hP hS hl => lv_icmp_eq K.1 K.2.1 d ht (fun h => kt h (by rwa [if_pos h] at hE) H locs ls hP hS hl) (fun h => kf h (by rwa [if_neg h] at hE) H locs ls hP hS hl)
theorem q_icmp_eq_t (K : qK p s m args meth c cc nL own Ts G) {x y : Int32} {off : Int} {tgt : Nat} (h0 : x = y) (d : decode cc pc = .ok (.if_icmp .eq off, 3)) (ht : (pc : Int) + off = (tgt : Int)) (k : qq p l e R s m args below meth c Q nL G E T tgt lv st σ) : qq p l e R s m args below meth c Q nL G E T pc lv (.int y :: .int x :: st) σ :=
  fun hE H locs ls hP hS hl => lv_icmp_eq K.1 K.2.1 d ht (fun _ => k hE H locs ls hP hS hl) (fun h => absurd h0 h)
theorem q_icmp_eq_f (K : qK p s m args meth c cc nL own Ts G) {x y : Int32} {off : Int} {tgt : Nat} (h0 : ¬ (x = y)) (d : decode cc pc = .ok (.if_icmp .eq off, 3)) (ht : (pc : Int) + off = (tgt : Int)) (k : qq p l e R s m args below meth c Q nL G E T (pc + 3) lv st σ) : qq p l e R s m args below meth c Q nL G E T pc lv (.int y :: .int x :: st) σ :=
  fun hE H locs ls hP hS hl => lv_icmp_eq K.1 K.2.1 d ht (fun h => absurd h h0) (fun _ => k hE H locs ls hP hS hl)
theorem q_if_ne (K : qK p s m args meth c cc nL own Ts G) {x : Int32} {off : Int} {tgt : Nat} {T1 T2 : ρ} {hdec : Decidable (x = 0)} (d : decode cc pc = .ok (.ifCond .ne off, 3)) (ht : (pc : Int) + off = (tgt : Int)) (kt : ¬ (x = 0) → qq p l e R s m args below meth c Q nL G E T2 tgt lv st σ) (kf : x = 0 → qq p l e R s m args below meth c Q nL G E T1 (pc + 3) lv st σ) : qq p l e R s m args below meth c Q nL G E (@ite ρ (x = 0) hdec T1 T2) pc lv (.int x :: st) σ :=
  fun hE H locs ls hP hS hl => lv_if_ne K.1 K.2.1 d ht (fun h => kt h (by rwa [if_neg h] at hE) H locs ls hP hS hl) (fun h => kf h (by rwa [if_pos h] at hE) H locs ls hP hS hl)
theorem q_if_ne_t (K : qK p s m args meth c cc nL own Ts G) {x : Int32} {off : Int} {tgt : Nat} (h0 : ¬ x = 0) (d : decode cc pc = .ok (.ifCond .ne off, 3)) (ht : (pc : Int) + off = (tgt : Int)) (k : qq p l e R s m args below meth c Q nL G E T tgt lv st σ) : qq p l e R s m args below meth c Q nL G E T pc lv (.int x :: st) σ :=
  fun hE H locs ls hP hS hl => lv_if_ne K.1 K.2.1 d ht (fun _ => k hE H locs ls hP hS hl) (fun h => absurd h h0)
theorem q_if_ne_f (K : qK p s m args meth c cc nL own Ts G) {x : Int32} {off : Int} {tgt : Nat} (h0 : x = 0) (d : decode cc pc = .ok (.ifCond .ne off, 3)) (ht : (pc : Int) + off = (tgt : Int)) (k : qq p l e R s m args below meth c Q nL G E T (pc + 3) lv st σ) : qq p l e R s m args below meth c Q nL G E T pc lv (.int x :: st) σ :=
  fun hE H locs ls hP hS hl => lv_if_ne K.1 K.2.1 d ht (fun h => absurd h0 h) (fun _ => k hE H locs ls hP hS hl)
theorem q_icmp_ne (K : qK p s m args meth c cc nL own Ts G) {x y : Int32} {off : Int} {tgt : Nat} {T1 T2 : ρ} {hdec : Decidable (x = y)} (d : decode cc pc = .ok (.if_icmp .ne off, 3)) (ht : (pc : Int) + off = (tgt : Int)) (kt : ¬ (x = y) → qq p l e R s m args below meth c Q nL G E T2 tgt lv st σ) (kf : x = y → qq p l e R s m args below meth c Q nL G E T1 (pc + 3) lv st σ) : qq p l e R s m args below meth c Q nL G E (@ite ρ (x = y) hdec T1 T2) pc lv (.int y :: .int x :: st) σ :=
  fun hE H locs ls hP hS hl => lv_icmp_ne K.1 K.2.1 d ht (fun h => kt h (by rwa [if_neg h] at hE) H locs ls hP hS hl) (fun h => kf h (by rwa [if_pos h] at hE) H locs ls hP hS hl)
theorem q_icmp_ne_t (K : qK p s m args meth c cc nL own Ts G) {x y : Int32} {off : Int} {tgt : Nat} (h0 : ¬ x = y) (d : decode cc pc = .ok (.if_icmp .ne off, 3)) (ht : (pc : Int) + off = (tgt : Int)) (k : qq p l e R s m args below meth c Q nL G E T tgt lv st σ) : qq p l e R s m args below meth c Q nL G E T pc lv (.int y :: .int x :: st) σ :=
  fun hE H locs ls hP hS hl => lv_icmp_ne K.1 K.2.1 d ht (fun _ => k hE H locs ls hP hS hl) (fun h => absurd h h0)
theorem q_icmp_ne_f (K : qK p s m args meth c cc nL own Ts G) {x y : Int32} {off : Int} {tgt : Nat} (h0 : x = y) (d : decode cc pc = .ok (.if_icmp .ne off, 3)) (ht : (pc : Int) + off = (tgt : Int)) (k : qq p l e R s m args below meth c Q nL G E T (pc + 3) lv st σ) : qq p l e R s m args below meth c Q nL G E T pc lv (.int y :: .int x :: st) σ :=
  fun hE H locs ls hP hS hl => lv_icmp_ne K.1 K.2.1 d ht (fun h => absurd h0 h) (fun _ => k hE H locs ls hP hS hl)
theorem q_if_lt (K : qK p s m args meth c cc nL own Ts G) {x : Int32} {off : Int} {tgt : Nat} {T1 T2 : ρ} {hdec : Decidable (x < 0)} (d : decode cc pc = .ok (.ifCond .lt off, 3)) (ht : (pc : Int) + off = (tgt : Int)) (kt : x < 0 → qq p l e R s m args below meth c Q nL G E T1 tgt lv st σ) (kf : ¬ (x < 0) → qq p l e R s m args below meth c Q nL G E T2 (pc + 3) lv st σ) : qq p l e R s m args below meth c Q nL G E (@ite ρ (x < 0) hdec T1 T2) pc lv (.int x :: st) σ :=
  fun hE H locs ls hP hS hl => lv_if_lt K.1 K.2.1 d ht (fun h => kt h (by rwa [if_pos h] at hE) H locs ls hP hS hl) (fun h => kf h (by rwa [if_neg h] at hE) H locs ls hP hS hl)
theorem q_if_lt_t (K : qK p s m args meth c cc nL own Ts G) {x : Int32} {off : Int} {tgt : Nat} (h0 : x < 0) (d : decode cc pc = .ok (.ifCond .lt off, 3)) (ht : (pc : Int) + off = (tgt : Int)) (k : qq p l e R s m args below meth c Q nL G E T tgt lv st σ) : qq p l e R s m args below meth c Q nL G E T pc lv (.int x :: st) σ :=
  fun hE H locs ls hP hS hl => lv_if_lt K.1 K.2.1 d ht (fun _ => k hE H locs ls hP hS hl) (fun h => absurd h0 h)
theorem q_if_lt_f (K : qK p s m args meth c cc nL own Ts G) {x : Int32} {off : Int} {tgt : Nat} (h0 : ¬ (x < 0)) (d : decode cc pc = .ok (.ifCond .lt off, 3)) (ht : (pc : Int) + off = (tgt : Int)) (k : qq p l e R s m args below meth c Q nL G E T (pc + 3) lv st σ) : qq p l e R s m args below meth c Q nL G E T pc lv (.int x :: st) σ :=
  fun hE H locs ls hP hS hl => lv_if_lt K.1 K.2.1 d ht (fun h => absurd h h0) (fun _ => k hE H locs ls hP hS hl)
theorem q_icmp_lt (K : qK p s m args meth c cc nL own Ts G) {x y : Int32} {off : Int} {tgt : Nat} {T1 T2 : ρ} {hdec : Decidable (x < y)} (d : decode cc pc = .ok (.if_icmp .lt off, 3)) (ht : (pc : Int) + off = (tgt : Int)) (kt : x < y → qq p l e R s m args below meth c Q nL G E T1 tgt lv st σ) (kf : ¬ (x < y) → qq p l e R s m args below meth c Q nL G E T2 (pc + 3) lv st σ) : qq p l e R s m args below meth c Q nL G E (@ite ρ (x < y) hdec T1 T2) pc lv (.int y :: .int x :: st) σ :=
  fun hE H locs ls hP hS hl => lv_icmp_lt K.1 K.2.1 d ht (fun h => kt h (by rwa [if_pos h] at hE) H locs ls hP hS hl) (fun h => kf h (by rwa [if_neg h] at hE) H locs ls hP hS hl)
theorem q_icmp_lt_t (K : qK p s m args meth c cc nL own Ts G) {x y : Int32} {off : Int} {tgt : Nat} (h0 : x < y) (d : decode cc pc = .ok (.if_icmp .lt off, 3)) (ht : (pc : Int) + off = (tgt : Int)) (k : qq p l e R s m args below meth c Q nL G E T tgt lv st σ) : qq p l e R s m args below meth c Q nL G E T pc lv (.int y :: .int x :: st) σ :=
  fun hE H locs ls hP hS hl => lv_icmp_lt K.1 K.2.1 d ht (fun _ => k hE H locs ls hP hS hl) (fun h => absurd h0 h)
theorem q_icmp_lt_f (K : qK p s m args meth c cc nL own Ts G) {x y : Int32} {off : Int} {tgt : Nat} (h0 : ¬ (x < y)) (d : decode cc pc = .ok (.if_icmp .lt off, 3)) (ht : (pc : Int) + off = (tgt : Int)) (k : qq p l e R s m args below meth c Q nL G E T (pc + 3) lv st σ) : qq p l e R s m args below meth c Q nL G E T pc lv (.int y :: .int x :: st) σ :=
  fun hE H locs ls hP hS hl => lv_icmp_lt K.1 K.2.1 d ht (fun h => absurd h h0) (fun _ => k hE H locs ls hP hS hl)
theorem q_if_ge (K : qK p s m args meth c cc nL own Ts G) {x : Int32} {off : Int} {tgt : Nat} {T1 T2 : ρ} {hdec : Decidable (0 ≤ x)} (d : decode cc pc = .ok (.ifCond .ge off, 3)) (ht : (pc : Int) + off = (tgt : Int)) (kt : 0 ≤ x → qq p l e R s m args below meth c Q nL G E T1 tgt lv st σ) (kf : ¬ (0 ≤ x) → qq p l e R s m args below meth c Q nL G E T2 (pc + 3) lv st σ) : qq p l e R s m args below meth c Q nL G E (@ite ρ (0 ≤ x) hdec T1 T2) pc lv (.int x :: st) σ :=
  fun hE H locs ls hP hS hl => lv_if_ge K.1 K.2.1 d ht (fun h => kt h (by rwa [if_pos h] at hE) H locs ls hP hS hl) (fun h => kf h (by rwa [if_neg h] at hE) H locs ls hP hS hl)
theorem q_if_ge_t (K : qK p s m args meth c cc nL own Ts G) {x : Int32} {off : Int} {tgt : Nat} (h0 : 0 ≤ x) (d : decode cc pc = .ok (.ifCond .ge off, 3)) (ht : (pc : Int) + off = (tgt : Int)) (k : qq p l e R s m args below meth c Q nL G E T tgt lv st σ) : qq p l e R s m args below meth c Q nL G E T pc lv (.int x :: st) σ :=
  fun hE H locs ls hP hS hl => lv_if_ge K.1 K.2.1 d ht (fun _ => k hE H locs ls hP hS hl) (fun h => absurd h0 h)
theorem q_if_ge_f (K : qK p s m args meth c cc nL own Ts G) {x : Int32} {off : Int} {tgt : Nat} (h0 : ¬ (0 ≤ x)) (d : decode cc pc = .ok (.ifCond .ge off, 3)) (ht : (pc : Int) + off = (tgt : Int)) (k : qq p l e R s m args below meth c Q nL G E T (pc + 3) lv st σ) : qq p l e R s m args below meth c Q nL G E T pc lv (.int x :: st) σ :=
  fun hE H locs ls hP hS hl => lv_if_ge K.1 K.2.1 d ht (fun h => absurd h h0) (fun _ => k hE H locs ls hP hS hl)
theorem q_icmp_ge (K : qK p s m args meth c cc nL own Ts G) {x y : Int32} {off : Int} {tgt : Nat} {T1 T2 : ρ} {hdec : Decidable (y ≤ x)} (d : decode cc pc = .ok (.if_icmp .ge off, 3)) (ht : (pc : Int) + off = (tgt : Int)) (kt : y ≤ x → qq p l e R s m args below meth c Q nL G E T1 tgt lv st σ) (kf : ¬ (y ≤ x) → qq p l e R s m args below meth c Q nL G E T2 (pc + 3) lv st σ) : qq p l e R s m args below meth c Q nL G E (@ite ρ (y ≤ x) hdec T1 T2) pc lv (.int y :: .int x :: st) σ :=
  fun hE H locs ls hP hS hl => lv_icmp_ge K.1 K.2.1 d ht (fun h => kt h (by rwa [if_pos h] at hE) H locs ls hP hS hl) (fun h => kf h (by rwa [if_neg h] at hE) H locs ls hP hS hl)
theorem q_icmp_ge_t (K : qK p s m args meth c cc nL own Ts G) {x y : Int32} {off : Int} {tgt : Nat} (h0 : y ≤ x) (d : decode cc pc = .ok (.if_icmp .ge off, 3)) (ht : (pc : Int) + off = (tgt : Int)) (k : qq p l e R s m args below meth c Q nL G E T tgt lv st σ) : qq p l e R s m args below meth c Q nL G E T pc lv (.int y :: .int x :: st) σ :=
  fun hE H locs ls hP hS hl => lv_icmp_ge K.1 K.2.1 d ht (fun _ => k hE H locs ls hP hS hl) (fun h => absurd h0 h)
theorem q_icmp_ge_f (K : qK p s m args meth c cc nL own Ts G) {x y : Int32} {off : Int} {tgt : Nat} (h0 : ¬ (y ≤ x)) (d : decode cc pc = .ok (.if_icmp .ge off, 3)) (ht : (pc : Int) + off = (tgt : Int)) (k : qq p l e R s m args below meth c Q nL G E T (pc + 3) lv st σ) : qq p l e R s m args below meth c Q nL G E T pc lv (.int y :: .int x :: st) σ :=
  fun hE H locs ls hP hS hl => lv_icmp_ge K.1 K.2.1 d ht (fun h => absurd h h0) (fun _ => k hE H locs ls hP hS hl)
theorem q_if_gt (K : qK p s m args meth c cc nL own Ts G) {x : Int32} {off : Int} {tgt : Nat} {T1 T2 : ρ} {hdec : Decidable (0 < x)} (d : decode cc pc = .ok (.ifCond .gt off, 3)) (ht : (pc : Int) + off = (tgt : Int)) (kt : 0 < x → qq p l e R s m args below meth c Q nL G E T1 tgt lv st σ) (kf : ¬ (0 < x) → qq p l e R s m args below meth c Q nL G E T2 (pc + 3) lv st σ) : qq p l e R s m args below meth c Q nL G E (@ite ρ (0 < x) hdec T1 T2) pc lv (.int x :: st) σ :=
  fun hE H locs ls hP hS hl => lv_if_gt K.1 K.2.1 d ht (fun h => kt h (by rwa [if_pos h] at hE) H locs ls hP hS hl) (fun h => kf h (by rwa [if_neg h] at hE) H locs ls hP hS hl)
theorem q_if_gt_t (K : qK p s m args meth c cc nL own Ts G) {x : Int32} {off : Int} {tgt : Nat} (h0 : 0 < x) (d : decode cc pc = .ok (.ifCond .gt off, 3)) (ht : (pc : Int) + off = (tgt : Int)) (k : qq p l e R s m args below meth c Q nL G E T tgt lv st σ) : qq p l e R s m args below meth c Q nL G E T pc lv (.int x :: st) σ :=
  fun hE H locs ls hP hS hl => lv_if_gt K.1 K.2.1 d ht (fun _ => k hE H locs ls hP hS hl) (fun h => absurd h0 h)
theorem q_if_gt_f (K : qK p s m args meth c cc nL own Ts G) {x : Int32} {off : Int} {tgt : Nat} (h0 : ¬ (0 < x)) (d : decode cc pc = .ok (.ifCond .gt off, 3)) (ht : (pc : Int) + off = (tgt : Int)) (k : qq p l e R s m args below meth c Q nL G E T (pc + 3) lv st σ) : qq p l e R s m args below meth c Q nL G E T pc lv (.int x :: st) σ :=
  fun hE H locs ls hP hS hl => lv_if_gt K.1 K.2.1 d ht (fun h => absurd h h0) (fun _ => k hE H locs ls hP hS hl)
theorem q_icmp_gt (K : qK p s m args meth c cc nL own Ts G) {x y : Int32} {off : Int} {tgt : Nat} {T1 T2 : ρ} {hdec : Decidable (y < x)} (d : decode cc pc = .ok (.if_icmp .gt off, 3)) (ht : (pc : Int) + off = (tgt : Int)) (kt : y < x → qq p l e R s m args below meth c Q nL G E T1 tgt lv st σ) (kf : ¬ (y < x) → qq p l e R s m args below meth c Q nL G E T2 (pc + 3) lv st σ) : qq p l e R s m args below meth c Q nL G E (@ite ρ (y < x) hdec T1 T2) pc lv (.int y :: .int x :: st) σ :=
  fun hE H locs ls hP hS hl => lv_icmp_gt K.1 K.2.1 d ht (fun h => kt h (by rwa [if_pos h] at hE) H locs ls hP hS hl) (fun h => kf h (by rwa [if_neg h] at hE) H locs ls hP hS hl)
theorem q_icmp_gt_t (K : qK p s m args meth c cc nL own Ts G) {x y : Int32} {off : Int} {tgt : Nat} (h0 : y < x) (d : decode cc pc = .ok (.if_icmp .gt off, 3)) (ht : (pc : Int) + off = (tgt : Int)) (k : qq p l e R s m args below meth c Q nL G E T tgt lv st σ) : qq p l e R s m args below meth c Q nL G E T pc lv (.int y :: .int x :: st) σ :=
  fun hE H locs ls hP hS hl => lv_icmp_gt K.1 K.2.1 d ht (fun _ => k hE H locs ls hP hS hl) (fun h => absurd h0 h)
theorem q_icmp_gt_f (K : qK p s m args meth c cc nL own Ts G) {x y : Int32} {off : Int} {tgt : Nat} (h0 : ¬ (y < x)) (d : decode cc pc = .ok (.if_icmp .gt off, 3)) (ht : (pc : Int) + off = (tgt : Int)) (k : qq p l e R s m args below meth c Q nL G E T (pc + 3) lv st σ) : qq p l e R s m args below meth c Q nL G E T pc lv (.int y :: .int x :: st) σ :=
  fun hE H locs ls hP hS hl => lv_icmp_gt K.1 K.2.1 d ht (fun h => absurd h h0) (fun _ => k hE H locs ls hP hS hl)
theorem q_if_le (K : qK p s m args meth c cc nL own Ts G) {x : Int32} {off : Int} {tgt : Nat} {T1 T2 : ρ} {hdec : Decidable (x ≤ 0)} (d : decode cc pc = .ok (.ifCond .le off, 3)) (ht : (pc : Int) + off = (tgt : Int)) (kt : x ≤ 0 → qq p l e R s m args below meth c Q nL G E T1 tgt lv st σ) (kf : ¬ (x ≤ 0) → qq p l e R s m args below meth c Q nL G E T2 (pc + 3) lv st σ) : qq p l e R s m args below meth c Q nL G E (@ite ρ (x ≤ 0) hdec T1 T2) pc lv (.int x :: st) σ :=
  fun hE H locs ls hP hS hl => lv_if_le K.1 K.2.1 d ht (fun h => kt h (by rwa [if_pos h] at hE) H locs ls hP hS hl) (fun h => kf h (by rwa [if_neg h] at hE) H locs ls hP hS hl)
theorem q_if_le_t (K : qK p s m args meth c cc nL own Ts G) {x : Int32} {off : Int} {tgt : Nat} (h0 : x ≤ 0) (d : decode cc pc = .ok (.ifCond .le off, 3)) (ht : (pc : Int) + off = (tgt : Int)) (k : qq p l e R s m args below meth c Q nL G E T tgt lv st σ) : qq p l e R s m args below meth c Q nL G E T pc lv (.int x :: st) σ :=
  fun hE H locs ls hP hS hl => lv_if_le K.1 K.2.1 d ht (fun _ => k hE H locs ls hP hS hl) (fun h => absurd h0 h)
theorem q_if_le_f (K : qK p s m args meth c cc nL own Ts G) {x : Int32} {off : Int} {tgt : Nat} (h0 : ¬ (x ≤ 0)) (d : decode cc pc = .ok (.ifCond .le off, 3)) (ht : (pc : Int) + off = (tgt : Int)) (k : qq p l e R s m args below meth c Q nL G E T (pc + 3) lv st σ) : qq p l e R s m args below meth c Q nL G E T pc lv (.int x :: st) σ :=
  fun hE H locs ls hP hS hl => lv_if_le K.1 K.2.1 d ht (fun h => absurd h h0) (fun _ => k hE H locs ls hP hS hl)
theorem q_icmp_le (K : qK p s m args meth c cc nL own Ts G) {x y : Int32} {off : Int} {tgt : Nat} {T1 T2 : ρ} {hdec : Decidable (x ≤ y)} (d : decode cc pc = .ok (.if_icmp .le off, 3)) (ht : (pc : Int) + off = (tgt : Int)) (kt : x ≤ y → qq p l e R s m args below meth c Q nL G E T1 tgt lv st σ) (kf : ¬ (x ≤ y) → qq p l e R s m args below meth c Q nL G E T2 (pc + 3) lv st σ) : qq p l e R s m args below meth c Q nL G E (@ite ρ (x ≤ y) hdec T1 T2) pc lv (.int y :: .int x :: st) σ :=
  fun hE H locs ls hP hS hl => lv_icmp_le K.1 K.2.1 d ht (fun h => kt h (by rwa [if_pos h] at hE) H locs ls hP hS hl) (fun h => kf h (by rwa [if_neg h] at hE) H locs ls hP hS hl)
theorem q_icmp_le_t (K : qK p s m args meth c cc nL own Ts G) {x y : Int32} {off : Int} {tgt : Nat} (h0 : x ≤ y) (d : decode cc pc = .ok (.if_icmp .le off, 3)) (ht : (pc : Int) + off = (tgt : Int)) (k : qq p l e R s m args below meth c Q nL G E T tgt lv st σ) : qq p l e R s m args below meth c Q nL G E T pc lv (.int y :: .int x :: st) σ :=
  fun hE H locs ls hP hS hl => lv_icmp_le K.1 K.2.1 d ht (fun _ => k hE H locs ls hP hS hl) (fun h => absurd h0 h)
theorem q_icmp_le_f (K : qK p s m args meth c cc nL own Ts G) {x y : Int32} {off : Int} {tgt : Nat} (h0 : ¬ (x ≤ y)) (d : decode cc pc = .ok (.if_icmp .le off, 3)) (ht : (pc : Int) + off = (tgt : Int)) (k : qq p l e R s m args below meth c Q nL G E T (pc + 3) lv st σ) : qq p l e R s m args below meth c Q nL G E T pc lv (.int y :: .int x :: st) σ :=
  fun hE H locs ls hP hS hl => lv_icmp_le K.1 K.2.1 d ht (fun h => absurd h h0) (fun _ => k hE H locs ls hP hS hl)
theorem q_case {x v : Int32} {T1 T2 : ρ} {hdec : Decidable (x = v)} (kt : x = v → qq p l e R s m args below meth c Q nL G E T1 pc lv st σ) (kf : ¬ x = v → qq p l e R s m args below meth c Q nL G E T2 pc lv st σ) : qq p l e R s m args below meth c Q nL G E (@ite ρ (x = v) hdec T1 T2) pc lv st σ := by
  by_cases h : x = v
  · rw [if_pos h]; exact kt h
  · rw [if_neg h]; exact kf h
theorem q_tableOut (K : qK p s m args meth c cc nL own Ts G) {dflt lo hi : Int} {offs : Array Int} {len : Nat} {x : Int32} {tgt : Nat} (d : decode cc pc = .ok (.tableswitch dflt lo hi offs, len)) (h : x.toInt < lo ∨ hi < x.toInt) (ht : (pc : Int) + dflt = (tgt : Int)) (k : qq p l e R s m args below meth c Q nL G E T tgt lv st σ) : qq p l e R s m args below meth c Q nL G E T pc lv (.int x :: st) σ :=
  fun hE H locs ls hP hS hl => lv_tableOut K.1 K.2.1 d h ht (k hE H locs ls hP hS hl)
theorem q_tableIn (K : qK p s m args meth c cc nL own Ts G) {dflt lo hi : Int} {offs : Array Int} {len : Nat} {x v : Int32} {off : Int} {tgt : Nat} (d : decode cc pc = .ok (.tableswitch dflt lo hi offs, len)) (hx : x = v) (h1 : ¬ v.toInt < lo) (h2 : ¬ hi < v.toInt) (ho : offs[(v.toInt - lo).toNat]? = some off) (ht : (pc : Int) + off = (tgt : Int)) (k : qq p l e R s m args below meth c Q nL G E T tgt lv st σ) : qq p l e R s m args below meth c Q nL G E T pc lv (.int x :: st) σ := by
  subst hx
  exact fun hE H locs ls hP hS hl => lv_tableIn K.1 K.2.1 d h1 h2 ho ht (k hE H locs ls hP hS hl)
theorem q_lookup (K : qK p s m args meth c cc nL own Ts G) {dflt : Int} {ps : Array (Int × Int)} {len : Nat} {x : Int32} {off : Int} {tgt : Nat} (d : decode cc pc = .ok (.lookupswitch dflt ps, len)) (hp : (ps.toList.zip (ps.toList.drop 1)).all (fun (a, next) => a.1 < next.1) = true) (ho : Op.lookupswitch.offset ps.toList dflt x.toInt = off) (ht : (pc : Int) + off = (tgt : Int)) (k : qq p l e R s m args below meth c Q nL G E T tgt lv st σ) : qq p l e R s m args below meth c Q nL G E T pc lv (.int x :: st) σ :=
  fun hE H locs ls hP hS hl => lv_lookup K.1 K.2.1 d hp ho ht (k hE H locs ls hP hS hl)
/-- a field is read: object o of the world, its field number f -/
theorem q_get (K : qK p s m args meth c cc nL own Ts G) {C : String} {TT : u_T} {N ci index a o f : Nat} {fs : List Value} {v : Value} (he : (wO G σ.2)[o]? = some (a, .inr (ci, fs))) (hc : vwCl[ci]? = some (C, TT, N)) (hin : ∀ w ∈ u_ws C TT N, w ∈ Ts) (hf : f < N) (hlink : Cond.fieldLink own index (TT f).1 (TT f).2.1 (TT f).2.2.1 ∈ Ts) (hv : fs[f]? = some v) (d : decode cc pc = .ok (.getfield index, 3)) (k : qq p l e R s m args below meth c Q nL G E T (pc + 3) lv (v :: st) σ) : qq p l e R s m args below meth c Q nL G E T pc lv (.ref a :: st) σ :=
  fun hE H locs ls hP hS hl => va_get (ref := (TT f).1) K.1 K.2.1 K.2.2.2.2.1 hin K.2.2.2.1 K.2.2.2.2.2.1 hP o (wl_o he) hc f hf (K.2.2.2.2.1 _ hlink) (fun _ h9 => h9) hv d (k hE H locs ls hP hS hl)
/-- an int field is written: its number in the state is i -/
theorem q_put (K : qK p s m args meth c cc nL own Ts G) {C : String} {TT : u_T} {N ci index a o f i : Nat} {fs : List Value} {x : Int32} {ty : FieldType} (ty0 : Nat → FieldType) (hty : ∀ k, k < N → parseFieldDescriptor (TT k).2.2.1 = some (ty0 k)) (hnm : ∀ a, a < N → ∀ b, b < N → a ≠ b → (TT a).2.1 ≠ (TT b).2.1) (he : (wO G σ.2)[o]? = some (a, .inr (ci, fs))) (hc : vwCl[ci]? = some (C, TT, N)) (hin : ∀ w ∈ u_ws C TT N, w ∈ Ts) (hf : f < N) (hlink : Cond.fieldLink own index (TT f).1 (TT f).2.1 (TT f).2.2.1 ∈ Ts) (hfin : (TT f).2.2.2 = false) (hd : parseFieldDescriptor (TT f).2.2.1 = some ty) (hn : narrow ty (.int x) = .int x) (hfit : fits ty (.int x) = true) (hl0 : f < fs.length) (hset : (wO G σ.2).set o (a, .inr (ci, fs.set f (.int x))) = wO G (va_up σ.2 i x)) (d : decode cc pc = .ok (.putfield index, 3)) {f9 : sg → ρ} (k : ∀ s1 : sg, s1 = sF9 σ i x → qq p l e R s m args below meth c Q nL G E (f9 s1) (pc + 3) lv st s1) : qq p l e R s m args below meth c Q nL G E (bnd (sF9 σ i x) f9) pc lv (.int x :: .ref a :: st) σ := by
  intro hE H locs ls hP hS hl
  refine va_put (ref := (TT f).1) (v := .int x) K.1 K.2.1 K.2.2.2.2.1 hin ty0 hty hnm K.2.2.2.1 K.2.2.2.2.2.1 hP (wl_D K.2.2.2.2.2.2.1 σ) hS o (wl_o he) hc f hf (K.2.2.2.2.1 _ hlink) (fun _ h9 => h9) hfin hd hn hfit hl0 d (fun H1 locs1 hP1 _ hS1 => ?_)
  rw [wl_so he hset] at hP1
  exact k _ rfl hE H1 locs1 ls hP1 hS1 hl
/-- row a is read at place i -/
theorem q_iald (K : qK p s m args meth c cc nL own Ts G) {a : Nat} {i : Int32} (ha : a < wna G) (hin : vp_in i (wln (gfl G) a)) (d : decode cc pc = .ok (.iaload, 1)) (k : qq p l e R s m args below meth c Q nL G E T (pc + 1) lv (.int (rA σ a i) :: st) σ) : qq p l e R s m args below meth c Q nL G E T pc lv (.int i :: .ref (gad G a) :: st) σ :=
  fun hE H locs ls hP hS hl => va_iald K.1 K.2.1 K.2.2.2.2.2.1 hP (wnO G + a) 0 (wl_a ha) rfl hin d (k hE H locs ls hP hS hl)
theorem q_iast (K : qK p s m args meth c cc nL own Ts G) {a : Nat} {i x : Int32} (ha : a < wna G) (hin : vp_in i (wln (gfl G) a)) (d : decode cc pc = .ok (.iastore, 1)) {f9 : sg → ρ} (k : ∀ s1 : sg, s1 = sA σ a i x → qq p l e R s m args below meth c Q nL G E (f9 s1) (pc + 1) lv st s1) : qq p l e R s m args below meth c Q nL G E (bnd (sA σ a i x) f9) pc lv (.int x :: .int i :: .ref (gad G a) :: st) σ := by
  intro hE H locs ls hP hS hl
  refine va_iast K.1 K.2.1 K.2.2.2.2.2.1 hP (wl_D K.2.2.2.2.2.2.1 σ) hS (wnO G + a) 0 (wl_a ha) rfl hin d (fun H1 locs1 hP1 _ hS1 => ?_)
  rw [wl_sa ha] at hP1
  exact k _ rfl hE H1 locs1 ls hP1 hS1 hl
/-- a sheet out of the row of sheets -/
theorem q_aald (K : qK p s m args meth c cc nL own Ts G) (hG : gfl G = true) {i : Int32} (hin : vp_in i 4) (d : decode cc pc = .ok (.aaload, 1)) (k : qq p l e R s m args below meth c Q nL G E T (pc + 1) lv (.ref (gob G (5 + i.toNatClampNeg)) :: st) σ) : qq p l e R s m args below meth c Q nL G E T pc lv (.int i :: .ref (gsa G) :: st) σ :=
  fun hE H locs ls hP hS hl => va_aldq K.1 K.2.1 K.2.2.2.2.2.1 hP 9 1 (cA := gcS G) (C := RX2) (f := fun i => some (gob G (5 + i))) (wl_o (wO_sr hG)) rfl hin d (k hE H locs ls hP hS hl)
theorem qK_wB (K : qK p s m args meth c cc nL own Ts G) {H : Heap} {locs : List Loc} {t : State} (hP : va_P (gD G) vwCl (wl G σ) H) (hS : va_S (wA G) s.heap H locs) (ht : t.heap = H) (hW : s.WarmedH t.vm) : wB G σ t :=
  ⟨by rw [ht]; exact hP, va_K.moved hW.alike K.2.2.2.2.2.1, nS_warm hW K.2.2.2.2.2.2.2.2.1, sF_move hW (fun q h1 h2 => by rw [ht]; exact hS.2.1 q h1 h2) K.2.2.2.2.2.2.2.2.2⟩
/-- the post of a contract -/
def cQ (G : gT) (v : Option Value) (σ' : sg) : Array Value → State → Outcome → State → Prop := fun _ st oc t => oc = .returned v ∧ wB G σ' t ∧ va_F (wA G) st t
theorem q_iret (K : qK p s m args meth c cc nL own Ts G) {r : Int32} {T0 : Int32 × sg} (hr : meth.sig.returnType = some .int) (d : decode cc pc = .ok (.ireturn, 1)) : qq p l e R s m args below meth c (MQ below (cQ G (some (.int T0.1)) T0.2) args s 0 0 (wA G)) nL G (fun T => T = T0) (r, σ) pc lv [.int r] σ := by
  intro hE
  subst hE
  exact fun H locs ls hP hS hl => W.iret K.1 K.2.1 hr (fun t ht hW => ⟨rfl, qK_wB K hP hS ht hW, hS.F ht⟩) hS.2.2 d K.2.2.2.2.2.2.2.1
theorem q_zret (K : qK p s m args meth c cc nL own Ts G) {r : Int32} {T0 : Int32 × sg} (hr : meth.sig.returnType = some .boolean) (h01 : r = 0 ∨ r = 1) (d : decode cc pc = .ok (.ireturn, 1)) : qq p l e R s m args below meth c (MQ below (cQ G (some (.int T0.1)) T0.2) args s 0 0 (wA G)) nL G (fun T => T = T0) (r, σ) pc lv [.int r] σ := by
  intro hE
  subst hE
  have hn : narrow .boolean (.int r) = .int r := by rcases h01 with h | h <;> subst h <;> decide
  exact fun H locs ls hP hS hl => W.zret K.1 K.2.1 hr hn (fun t ht hW => ⟨rfl, qK_wB K hP hS ht hW, hS.F ht⟩) hS.2.2 d K.2.2.2.2.2.2.2.1
theorem q_vret (K : qK p s m args meth c cc nL own Ts G) {T0 : Int32 × sg} (hr : meth.sig.returnType = none) (d : decode cc pc = .ok (.return_, 1)) : qq p l e R s m args below meth c (MQ below (cQ G none T0.2) args s 0 0 (wA G)) nL G (fun T => T = T0) ((0 : Int32), σ) pc lv [] σ := by
  intro hE
  subst hE
  exact fun H locs ls hP hS hl => W.vret K.1 K.2.1 hr (fun t ht hW => ⟨rfl, qK_wB K hP hS ht hW, hS.F ht⟩) hS.2.2 d K.2.2.2.2.2.2.2.1
theorem q_iretP (K : qK p s m args meth c cc nL own Ts G) {r T0 : Int32} (hr : meth.sig.returnType = some .int) (d : decode cc pc = .ok (.ireturn, 1)) : qq p l e R s m args below meth c (MQ below (cQ G (some (.int T0)) σ) args s 0 0 (wA G)) nL G (fun T => T = T0) r pc lv [.int r] σ := by
  intro hE
  subst hE
  exact fun H locs ls hP hS hl => W.iret K.1 K.2.1 hr (fun t ht hW => ⟨rfl, qK_wB K hP hS ht hW, hS.F ht⟩) hS.2.2 d K.2.2.2.2.2.2.2.1
theorem q_zretP (K : qK p s m args meth c cc nL own Ts G) {r T0 : Int32} (hr : meth.sig.returnType = some .boolean) (h01 : r = 0 ∨ r = 1) (d : decode cc pc = .ok (.ireturn, 1)) : qq p l e R s m args below meth c (MQ below (cQ G (some (.int T0)) σ) args s 0 0 (wA G)) nL G (fun T => T = T0) r pc lv [.int r] σ := by
  intro hE
  subst hE
  have hn : narrow .boolean (.int r) = .int r := by rcases h01 with h | h <;> subst h <;> decide
  exact fun H locs ls hP hS hl => W.zret K.1 K.2.1 hr hn (fun t ht hW => ⟨rfl, qK_wB K hP hS ht hW, hS.F ht⟩) hS.2.2 d K.2.2.2.2.2.2.2.1
theorem q_vretW (K : qK p s m args meth c cc nL own Ts G) {T0 : sg} (hr : meth.sig.returnType = none) (d : decode cc pc = .ok (.return_, 1)) : qq p l e R s m args below meth c (MQ below (cQ G none T0) args s 0 0 (wA G)) nL G (fun T => T = T0) σ pc lv [] σ := by
  intro hE
  subst hE
  exact fun H locs ls hP hS hl => W.vret K.1 K.2.1 hr (fun t ht hW => ⟨rfl, qK_wB K hP hS ht hW, hS.F ht⟩) hS.2.2 d K.2.2.2.2.2.2.2.1
theorem q_aretP (K : qK p s m args meth c cc nL own Ts G) {r T0 : Nat} (hr : meth.sig.returnType = some (.object "java/lang/String")) (d : decode cc pc = .ok (.areturn, 1)) : qq p l e R s m args below meth c (MQ below (cQ G (some (.ref (gK G T0))) σ) args s 0 0 (wA G)) nL G (fun T => T = T0) r pc lv [.ref (gK G r)] σ := by
  intro hE
  subst hE
  exact fun H locs ls hP hS hl => W.aret K.1 K.2.1 hr (Or.inl ⟨_, rfl⟩) (Or.inr ⟨_, rfl⟩) (fun t ht hW => ⟨rfl, qK_wB K hP hS ht hW, hS.F ht⟩) hS.2.2 d K.2.2.2.2.2.2.2.1
theorem qq_T {T' : ρ} (h : T = T') (k : qq p l e R s m args below meth c Q nL G E T' pc lv st σ) : qq p l e R s m args below meth c Q nL G E T pc lv st σ := by subst h; exact k
/-- of a String constant: its number -/
theorem q_aret (K : qK p s m args meth c cc nL own Ts G) {r : Nat} {T0 : Nat × sg} (hr : meth.sig.returnType = some (.object "java/lang/String")) (d : decode cc pc = .ok (.areturn, 1)) : qq p l e R s m args below meth c (MQ below (cQ G (some (.ref (gK G T0.1))) T0.2) args s 0 0 (wA G)) nL G (fun T => T = T0) (r, σ) pc lv [.ref (gK G r)] σ := by
  intro hE
  subst hE
  exact fun H locs ls hP hS hl => W.aret K.1 K.2.1 hr (Or.inl ⟨_, rfl⟩) (Or.inr ⟨_, rfl⟩) (fun t ht hW => ⟨rfl, qK_wB K hP hS ht hW, hS.F ht⟩) hS.2.2 d K.2.2.2.2.2.2.2.1
/-- behind a call -/
theorem q_back (K : qK p s m args meth c cc nL own Ts G) (hE : E T) {a : Array Value} {rest st0 : List Value} {v : Option Value} {σ' : sg} {H : Heap} {locs : List Loc} {ls : Array Slot} (hS : va_S (wA G) s.heap H locs) (hl : lq ls nL lv) (hr : va_Run p l e R s m args below meth c H locs 0 0 0 0 (F0 m pc ls st0) rest (cQ G v σ' a) (wA G)) (k : qq p l e R s m args below meth c Q nL G E T (pc + 3) lv (v.toList ++ rest) σ') : W p l e R s m args below meth c H locs 0 0 Q (F0 m pc ls st0) := by
  intro T hT X
  obtain ⟨v1, st₀, t, T', L, h0, X', hL, e1, e2, ⟨hv, hw, hz, hk⟩, go⟩ := hr T hT X
  cases hv
  rw [h0] at hz hk
  obtain ⟨t2, a1, b1⟩ := k hE T'.heap (locs ++ L) ls (by rw [e1]; exact hw.1) ⟨Nat.le_trans hS.1 (by rw [e1]; exact hz), fun q h1 h2 => by rw [e1, hk q (Nat.lt_of_lt_of_le h1 hS.1) h2]; exact hS.2.1 q h1 h2, fun q hq => by
      rcases List.mem_append.mp hq with h | h
      · exact hS.2.2 q h
      · exact hL q h⟩ hl T' rfl X'
  exact ⟨t2, go t2 a1, b1⟩
theorem q_mmin (K : qK p s m args meth c cc nL own Ts G) {idx : Nat} {x y : Int32} (hlink : Cond.methodLink own idx Lib.Math.min.name ∈ Ts) (hsta : Cond.static Lib.Math.min.name ∈ Ts) (hini : Cond.initialized "java/lang/Math" ∈ Ts) (hcode : Cond.code Lib.Math.min.name Lib.Math.min.code 2 (some .int) ∈ Ts) (hf : 1 ≤ R.frames) (hl0 : (st.map fun v => v.category).sum + 13 ≤ R.locals) (d : decode cc pc = .ok (.invokestatic idx, 3)) (k : qq p l e R s m args below meth c Q nL G E T (pc + 3) lv (.int (jmin x y) :: st) σ) : qq p l e R s m args below meth c Q nL G E T pc lv (.int y :: .int x :: st) σ :=
  fun hE H locs ls hP hS hl => va_mmin K.1 K.2.1 (K.2.2.1.trans hl.1.1.symm) K.2.2.2.1 (K.2.2.2.2.1 _ hlink) (K.2.2.2.2.1 _ hsta) (K.2.2.2.2.1 _ hini) (K.2.2.2.2.1 _ hcode) hf hl0 (Nat.zero_le _) (Nat.zero_le _) d (k hE H locs ls hP hS hl)
theorem q_mmax (K : qK p s m args meth c cc nL own Ts G) {idx : Nat} {x y : Int32} (hlink : Cond.methodLink own idx Lib.Math.max.name ∈ Ts) (hsta : Cond.static Lib.Math.max.name ∈ Ts) (hini : Cond.initialized "java/lang/Math" ∈ Ts) (hcode : Cond.code Lib.Math.max.name Lib.Math.max.code 2 (some .int) ∈ Ts) (hf : 1 ≤ R.frames) (hl0 : (st.map fun v => v.category).sum + 13 ≤ R.locals) (d : decode cc pc = .ok (.invokestatic idx, 3)) (k : qq p l e R s m args below meth c Q nL G E T (pc + 3) lv (.int (jmax x y) :: st) σ) : qq p l e R s m args below meth c Q nL G E T pc lv (.int y :: .int x :: st) σ :=
  fun hE H locs ls hP hS hl => va_mmax K.1 K.2.1 (K.2.2.1.trans hl.1.1.symm) K.2.2.2.1 (K.2.2.2.2.1 _ hlink) (K.2.2.2.2.1 _ hsta) (K.2.2.2.2.1 _ hini) (K.2.2.2.2.1 _ hcode) hf hl0 (Nat.zero_le _) (Nat.zero_le _) d (k hE H locs ls hP hS hl)
theorem q_mabs (K : qK p s m args meth c cc nL own Ts G) {idx : Nat} {x : Int32} (hlink : Cond.methodLink own idx Lib.Math.abs.name ∈ Ts) (hsta : Cond.static Lib.Math.abs.name ∈ Ts) (hini : Cond.initialized "java/lang/Math" ∈ Ts) (hcode : Cond.code Lib.Math.abs.name Lib.Math.abs.code 1 (some .int) ∈ Ts) (hf : 1 ≤ R.frames) (hl0 : (st.map fun v => v.category).sum + 13 ≤ R.locals) (d : decode cc pc = .ok (.invokestatic idx, 3)) (k : qq p l e R s m args below meth c Q nL G E T (pc + 3) lv (.int (jabs x) :: st) σ) : qq p l e R s m args below meth c Q nL G E T pc lv (.int x :: st) σ :=
  fun hE H locs ls hP hS hl => va_mabs K.1 K.2.1 (K.2.2.1.trans hl.1.1.symm) K.2.2.2.1 (K.2.2.2.2.1 _ hlink) (K.2.2.2.2.1 _ hsta) (K.2.2.2.2.1 _ hini) (K.2.2.2.2.1 _ hcode) hf hl0 (Nat.zero_le _) (Nat.zero_le _) d (k hE H locs ls hP hS hl)
/-- System.arraycopy between rows a and b of the world -/
theorem q_copyi (K : qK p s m args meth c cc nL own Ts G) {idx a b : Nat} {sp dp n : Int32} (hlink : Cond.methodLink own idx arraycopyName ∈ Ts) (hnat : Cond.native arraycopyName ∈ Ts) (hsta : Cond.static arraycopyName ∈ Ts) (hini : Cond.initialized "java/lang/System" ∈ Ts) (ha : a < wna G) (hb : b < wna G) (h1 : ¬ sp < 0) (h2 : ¬ dp < 0) (h3 : ¬ n < 0) (h4 : sp.toNatClampNeg + n.toNatClampNeg ≤ wln (gfl G) a) (h5 : dp.toNatClampNeg + n.toNatClampNeg ≤ wln (gfl G) b) (hf : 1 ≤ R.frames) (hl0 : (st.map fun v => v.category).sum + (nativeFrameWords "java/lang/System" "arraycopy" 5 + 11) ≤ R.locals) (d : decode cc pc = .ok (.invokestatic idx, 3)) {f9 : sg → ρ} (k : ∀ s1 : sg, s1 = sC σ a sp b dp n → qq p l e R s m args below meth c Q nL G E (f9 s1) (pc + 3) lv st s1) : qq p l e R s m args below meth c Q nL G E (bnd (sC σ a sp b dp n) f9) pc lv (.int n :: .int dp :: .ref (gad G b) :: .int sp :: .ref (gad G a) :: st) σ := by
  intro hE H locs ls hP hS hl
  refine va_copyi K.1 K.2.1 (K.2.2.1.trans hl.1.1.symm) K.2.2.2.1 (K.2.2.2.2.1 _ hlink) (K.2.2.2.2.1 _ hnat) (K.2.2.2.2.1 _ hsta) (K.2.2.2.2.1 _ hini) K.2.2.2.2.2.1 hP (wl_D K.2.2.2.2.2.2.1 σ) hS (wnO G + a) (wnO G + b) 0 0 (wl_a ha) (wl_a hb) rfl rfl rfl h1 h2 h3 h4 h5 (fun i _ => rfl) hf hl0 d (fun H1 locs1 hP1 _ hS1 => ?_)
  rw [wl_sa hb] at hP1
  exact k _ rfl hE H1 locs1 ls hP1 hS1 hl
/-- a virtual call on object o of the world -/
theorem q_callVi (K : qK p s m args meth c cc nL own Ts G) {idx n maxL : Nat} {y : MethodName} {bytes : ByteArray} {ret : Option FieldType} {ws ws' : List Cond} {rm : Room} {C : String} {TT : u_T} {N o ci b : Nat} {fs As st0 : List Value} {r9 : Int32} {σ' : sg} (hM : cM l y ws rm G (.ref b :: As) σ (some (.int r9)) σ') (hG : GoodIn Ts (wsV own idx C y ws)) (hw : ws = Cond.code y bytes maxL ret :: ws') (hd : y.cls = C ∧ y.cls ≠ "java/lang/invoke/MethodHandle" ∧ y.cls ≠ "java/lang/invoke/VarHandle" ∧ (parseMethodDescriptor y.desc).map (fun d => d.parameters.length) = some n) (hR : rm.frames + 1 ≤ R.frames ∧ 8 + (maxL + 11) + rm.locals ≤ R.locals) (hrc : rm.cells = 0) (hrs : rm.slots = 0) (hR0 : 0 ≤ R.cells ∧ 0 ≤ R.slots) (he : (wO G σ.2)[o]? = some (b, .inr (ci, fs))) (hc : vwCl[ci]? = some (C, TT, N)) (hn : As.length = n) (hst : st0 = As.reverse ++ .ref b :: st) (hW : (st.map fun v => v.category).sum ≤ 8) (d : decode cc pc = .ok (.invokevirtual idx, 3)) (k : qq p l e R s m args below meth c Q nL G E T (pc + 3) lv (.int r9 :: st) σ') : qq p l e R s m args below meth c Q nL G E T pc lv st0 σ := by
  intro hE H locs ls hP hS hl
  subst hst
  refine q_back K hE hS hl (va_runV (As := As) (rest := st) ⟨K.1, K.2.1, K.2.2.1, K.2.2.2.1, K.2.2.2.2.1⟩ hM (cwV n K.2.2.2.2.1 hG hw hrc hrs hd hR) ⟨fun a U g mk h => ⟨h.1, wB_call g mk a h.2⟩, va_recv K.2.2.2.2.2.1 hP hc (wl_o he), fun U hU hW => ⟨rfl, qK_wB K hP hS hU hW⟩⟩ rfl hn hl.1.1 rfl (lv_room hW) d hR0) k
/-- a virtual call on object o of the world -/
theorem q_callVv (K : qK p s m args meth c cc nL own Ts G) {idx n maxL : Nat} {y : MethodName} {bytes : ByteArray} {ret : Option FieldType} {ws ws' : List Cond} {rm : Room} {C : String} {TT : u_T} {N o ci b : Nat} {fs As st0 : List Value} {σ' : sg} (hM : cM l y ws rm G (.ref b :: As) σ none σ') (hG : GoodIn Ts (wsV own idx C y ws)) (hw : ws = Cond.code y bytes maxL ret :: ws') (hd : y.cls = C ∧ y.cls ≠ "java/lang/invoke/MethodHandle" ∧ y.cls ≠ "java/lang/invoke/VarHandle" ∧ (parseMethodDescriptor y.desc).map (fun d => d.parameters.length) = some n) (hR : rm.frames + 1 ≤ R.frames ∧ 8 + (maxL + 11) + rm.locals ≤ R.locals) (hrc : rm.cells = 0) (hrs : rm.slots = 0) (hR0 : 0 ≤ R.cells ∧ 0 ≤ R.slots) (he : (wO G σ.2)[o]? = some (b, .inr (ci, fs))) (hc : vwCl[ci]? = some (C, TT, N)) (hn : As.length = n) (hst : st0 = As.reverse ++ .ref b :: st) (hW : (st.map fun v => v.category).sum ≤ 8) (d : decode cc pc = .ok (.invokevirtual idx, 3)) (k : qq p l e R s m args below meth c Q nL G E T (pc + 3) lv st σ') : qq p l e R s m args below meth c Q nL G E T pc lv st0 σ := by
  intro hE H locs ls hP hS hl
  subst hst
  refine q_back K hE hS hl (va_runV (As := As) (rest := st) ⟨K.1, K.2.1, K.2.2.1, K.2.2.2.1, K.2.2.2.2.1⟩ hM (cwV n K.2.2.2.2.1 hG hw hrc hrs hd hR) ⟨fun a U g mk h => ⟨h.1, wB_call g mk a h.2⟩, va_recv K.2.2.2.2.2.1 hP hc (wl_o he), fun U hU hW => ⟨rfl, qK_wB K hP hS hU hW⟩⟩ rfl hn hl.1.1 rfl (lv_room hW) d hR0) k
/-- a virtual call on object o of the world -/
theorem q_callVa (K : qK p s m args meth c cc nL own Ts G) {idx n maxL : Nat} {y : MethodName} {bytes : ByteArray} {ret : Option FieldType} {ws ws' : List Cond} {rm : Room} {C : String} {TT : u_T} {N o ci b : Nat} {fs As st0 : List Value} {r9 : Nat} {σ' : sg} (hM : cM l y ws rm G (.ref b :: As) σ (some (.ref r9)) σ') (hG : GoodIn Ts (wsV own idx C y ws)) (hw : ws = Cond.code y bytes maxL ret :: ws') (hd : y.cls = C ∧ y.cls ≠ "java/lang/invoke/MethodHandle" ∧ y.cls ≠ "java/lang/invoke/VarHandle" ∧ (parseMethodDescriptor y.desc).map (fun d => d.parameters.length) = some n) (hR : rm.frames + 1 ≤ R.frames ∧ 8 + (maxL + 11) + rm.locals ≤ R.locals) (hrc : rm.cells = 0) (hrs : rm.slots = 0) (hR0 : 0 ≤ R.cells ∧ 0 ≤ R.slots) (he : (wO G σ.2)[o]? = some (b, .inr (ci, fs))) (hc : vwCl[ci]? = some (C, TT, N)) (hn : As.length = n) (hst : st0 = As.reverse ++ .ref b :: st) (hW : (st.map fun v => v.category).sum ≤ 8) (d : decode cc pc = .ok (.invokevirtual idx, 3)) (k : qq p l e R s m args below meth c Q nL G E T (pc + 3) lv (.ref r9 :: st) σ') : qq p l e R s m args below meth c Q nL G E T pc lv st0 σ := by
  intro hE H locs ls hP hS hl
  subst hst
  refine q_back K hE hS hl (va_runV (As := As) (rest := st) ⟨K.1, K.2.1, K.2.2.1, K.2.2.2.1, K.2.2.2.2.1⟩ hM (cwV n K.2.2.2.2.1 hG hw hrc hrs hd hR) ⟨fun a U g mk h => ⟨h.1, wB_call g mk a h.2⟩, va_recv K.2.2.2.2.2.1 hP hc (wl_o he), fun U hU hW => ⟨rfl, qK_wB K hP hS hU hW⟩⟩ rfl hn hl.1.1 rfl (lv_room hW) d hR0) k
/-- a call of a static method -/
theorem q_callSi (K : qK p s m args meth c cc nL own Ts G) {idx n maxL : Nat} {y : MethodName} {bytes : ByteArray} {ret : Option FieldType} {ws ws' : List Cond} {rm : Room} {As st0 : List Value} {r9 : Int32} {σ' : sg} (hM : cM l y ws rm G As σ (some (.int r9)) σ') (hG : GoodIn Ts (va_wsS own idx y ws)) (hw : ws = Cond.code y bytes maxL ret :: ws') (hd : y.cls ≠ "java/lang/invoke/MethodHandle" ∧ y.cls ≠ "java/lang/invoke/VarHandle" ∧ (parseMethodDescriptor y.desc).map (fun d => d.parameters.length) = some n) (hR : rm.frames + 1 ≤ R.frames ∧ 8 + (maxL + 11) + rm.locals ≤ R.locals) (hrc : rm.cells = 0) (hrs : rm.slots = 0) (hR0 : 0 ≤ R.cells ∧ 0 ≤ R.slots) (hn : As.length = n) (hst : st0 = As.reverse ++ st) (hW : (st.map fun v => v.category).sum ≤ 8) (d : decode cc pc = .ok (.invokestatic idx, 3)) (k : qq p l e R s m args below meth c Q nL G E T (pc + 3) lv (.int r9 :: st) σ') : qq p l e R s m args below meth c Q nL G E T pc lv st0 σ := by
  intro hE H locs ls hP hS hl
  subst hst
  refine q_back K hE hS hl (va_runS (As := As) (rest := st) ⟨K.1, K.2.1, K.2.2.1, K.2.2.2.1, K.2.2.2.2.1⟩ hM (va_cwS n K.2.2.2.2.1 hG hw hrc hrs hd hR) ⟨fun a U g mk h => ⟨h.1, wB_call g mk a h.2⟩, fun U hU hW => ⟨rfl, qK_wB K hP hS hU hW⟩⟩ rfl hn hl.1.1 rfl (lv_room hW) d hR0) k
/-- a call of a static method -/
theorem q_callSv (K : qK p s m args meth c cc nL own Ts G) {idx n maxL : Nat} {y : MethodName} {bytes : ByteArray} {ret : Option FieldType} {ws ws' : List Cond} {rm : Room} {As st0 : List Value} {σ' : sg} (hM : cM l y ws rm G As σ none σ') (hG : GoodIn Ts (va_wsS own idx y ws)) (hw : ws = Cond.code y bytes maxL ret :: ws') (hd : y.cls ≠ "java/lang/invoke/MethodHandle" ∧ y.cls ≠ "java/lang/invoke/VarHandle" ∧ (parseMethodDescriptor y.desc).map (fun d => d.parameters.length) = some n) (hR : rm.frames + 1 ≤ R.frames ∧ 8 + (maxL + 11) + rm.locals ≤ R.locals) (hrc : rm.cells = 0) (hrs : rm.slots = 0) (hR0 : 0 ≤ R.cells ∧ 0 ≤ R.slots) (hn : As.length = n) (hst : st0 = As.reverse ++ st) (hW : (st.map fun v => v.category).sum ≤ 8) (d : decode cc pc = .ok (.invokestatic idx, 3)) (k : qq p l e R s m args below meth c Q nL G E T (pc + 3) lv st σ') : qq p l e R s m args below meth c Q nL G E T pc lv st0 σ := by
  intro hE H locs ls hP hS hl
  subst hst
  refine q_back K hE hS hl (va_runS (As := As) (rest := st) ⟨K.1, K.2.1, K.2.2.1, K.2.2.2.1, K.2.2.2.2.1⟩ hM (va_cwS n K.2.2.2.2.1 hG hw hrc hrs hd hR) ⟨fun a U g mk h => ⟨h.1, wB_call g mk a h.2⟩, fun U hU hW => ⟨rfl, qK_wB K hP hS hU hW⟩⟩ rfl hn hl.1.1 rfl (lv_room hW) d hR0) k
/-- a call of a static method -/
theorem q_callSa (K : qK p s m args meth c cc nL own Ts G) {idx n maxL : Nat} {y : MethodName} {bytes : ByteArray} {ret : Option FieldType} {ws ws' : List Cond} {rm : Room} {As st0 : List Value} {r9 : Nat} {σ' : sg} (hM : cM l y ws rm G As σ (some (.ref r9)) σ') (hG : GoodIn Ts (va_wsS own idx y ws)) (hw : ws = Cond.code y bytes maxL ret :: ws') (hd : y.cls ≠ "java/lang/invoke/MethodHandle" ∧ y.cls ≠ "java/lang/invoke/VarHandle" ∧ (parseMethodDescriptor y.desc).map (fun d => d.parameters.length) = some n) (hR : rm.frames + 1 ≤ R.frames ∧ 8 + (maxL + 11) + rm.locals ≤ R.locals) (hrc : rm.cells = 0) (hrs : rm.slots = 0) (hR0 : 0 ≤ R.cells ∧ 0 ≤ R.slots) (hn : As.length = n) (hst : st0 = As.reverse ++ st) (hW : (st.map fun v => v.category).sum ≤ 8) (d : decode cc pc = .ok (.invokestatic idx, 3)) (k : qq p l e R s m args below meth c Q nL G E T (pc + 3) lv (.ref r9 :: st) σ') : qq p l e R s m args below meth c Q nL G E T pc lv st0 σ := by
  intro hE H locs ls hP hS hl
  subst hst
  refine q_back K hE hS hl (va_runS (As := As) (rest := st) ⟨K.1, K.2.1, K.2.2.1, K.2.2.2.1, K.2.2.2.2.1⟩ hM (va_cwS n K.2.2.2.2.1 hG hw hrc hrs hd hR) ⟨fun a U g mk h => ⟨h.1, wB_call g mk a h.2⟩, fun U hU hW => ⟨rfl, qK_wB K hP hS hU hW⟩⟩ rfl hn hl.1.1 rfl (lv_room hW) d hR0) k
/-- a call of a nest mate's private static method -/
theorem q_callNi (K : qK p s m args meth c cc nL own Ts G) {idx n maxL : Nat} {y : MethodName} {host : String} {bytes : ByteArray} {ret : Option FieldType} {ws ws' : List Cond} {rm : Room} {As st0 : List Value} {r9 : Int32} {σ' : sg} (hM : cM l y ws rm G As σ (some (.int r9)) σ') (hG : GoodIn Ts ws) (hnw : va_Nw (.methodLinkNest own idx y host) s) (hini : Cond.initialized y.cls ∈ Ts) (hsta : Cond.static y ∈ Ts) (hw : ws = Cond.code y bytes maxL ret :: ws') (hd : y.cls ≠ "java/lang/invoke/MethodHandle" ∧ y.cls ≠ "java/lang/invoke/VarHandle" ∧ (parseMethodDescriptor y.desc).map (fun d => d.parameters.length) = some n) (hR : rm.frames + 1 ≤ R.frames ∧ 8 + (maxL + 11) + rm.locals ≤ R.locals) (hrc : rm.cells = 0) (hrs : rm.slots = 0) (hR0 : 0 ≤ R.cells ∧ 0 ≤ R.slots) (hn : As.length = n) (hst : st0 = As.reverse ++ st) (hW : (st.map fun v => v.category).sum ≤ 8) (d : decode cc pc = .ok (.invokestatic idx, 3)) (k : qq p l e R s m args below meth c Q nL G E T (pc + 3) lv (.int r9 :: st) σ') : qq p l e R s m args below meth c Q nL G E T pc lv st0 σ := by
  intro hE H locs ls hP hS hl
  subst hst
  refine q_back K hE hS hl (va_runSN (As := As) (rest := st) ⟨K.1, K.2.1, K.2.2.1, K.2.2.2.1, K.2.2.2.2.1⟩ hM ⟨va_cnB n K.2.2.2.2.1 hG hw hrc hrs hnw (K.2.2.2.2.1 _ hini) hd hR, K.2.2.2.2.1 _ hsta, trivial⟩ ⟨fun a U g mk h => ⟨h.1, wB_call g mk a h.2⟩, fun U hU hW => ⟨rfl, qK_wB K hP hS hU hW⟩⟩ rfl hn hl.1.1 rfl (lv_room hW) d hR0) k
/-- a call of a nest mate's private static method -/
theorem q_callNv (K : qK p s m args meth c cc nL own Ts G) {idx n maxL : Nat} {y : MethodName} {host : String} {bytes : ByteArray} {ret : Option FieldType} {ws ws' : List Cond} {rm : Room} {As st0 : List Value} {σ' : sg} (hM : cM l y ws rm G As σ none σ') (hG : GoodIn Ts ws) (hnw : va_Nw (.methodLinkNest own idx y host) s) (hini : Cond.initialized y.cls ∈ Ts) (hsta : Cond.static y ∈ Ts) (hw : ws = Cond.code y bytes maxL ret :: ws') (hd : y.cls ≠ "java/lang/invoke/MethodHandle" ∧ y.cls ≠ "java/lang/invoke/VarHandle" ∧ (parseMethodDescriptor y.desc).map (fun d => d.parameters.length) = some n) (hR : rm.frames + 1 ≤ R.frames ∧ 8 + (maxL + 11) + rm.locals ≤ R.locals) (hrc : rm.cells = 0) (hrs : rm.slots = 0) (hR0 : 0 ≤ R.cells ∧ 0 ≤ R.slots) (hn : As.length = n) (hst : st0 = As.reverse ++ st) (hW : (st.map fun v => v.category).sum ≤ 8) (d : decode cc pc = .ok (.invokestatic idx, 3)) (k : qq p l e R s m args below meth c Q nL G E T (pc + 3) lv st σ') : qq p l e R s m args below meth c Q nL G E T pc lv st0 σ := by
  intro hE H locs ls hP hS hl
  subst hst
  refine q_back K hE hS hl (va_runSN (As := As) (rest := st) ⟨K.1, K.2.1, K.2.2.1, K.2.2.2.1, K.2.2.2.2.1⟩ hM ⟨va_cnB n K.2.2.2.2.1 hG hw hrc hrs hnw (K.2.2.2.2.1 _ hini) hd hR, K.2.2.2.2.1 _ hsta, trivial⟩ ⟨fun a U g mk h => ⟨h.1, wB_call g mk a h.2⟩, fun U hU hW => ⟨rfl, qK_wB K hP hS hU hW⟩⟩ rfl hn hl.1.1 rfl (lv_room hW) d hR0) k
/-- a call of a nest mate's private static method -/
theorem q_callNa (K : qK p s m args meth c cc nL own Ts G) {idx n maxL : Nat} {y : MethodName} {host : String} {bytes : ByteArray} {ret : Option FieldType} {ws ws' : List Cond} {rm : Room} {As st0 : List Value} {r9 : Nat} {σ' : sg} (hM : cM l y ws rm G As σ (some (.ref r9)) σ') (hG : GoodIn Ts ws) (hnw : va_Nw (.methodLinkNest own idx y host) s) (hini : Cond.initialized y.cls ∈ Ts) (hsta : Cond.static y ∈ Ts) (hw : ws = Cond.code y bytes maxL ret :: ws') (hd : y.cls ≠ "java/lang/invoke/MethodHandle" ∧ y.cls ≠ "java/lang/invoke/VarHandle" ∧ (parseMethodDescriptor y.desc).map (fun d => d.parameters.length) = some n) (hR : rm.frames + 1 ≤ R.frames ∧ 8 + (maxL + 11) + rm.locals ≤ R.locals) (hrc : rm.cells = 0) (hrs : rm.slots = 0) (hR0 : 0 ≤ R.cells ∧ 0 ≤ R.slots) (hn : As.length = n) (hst : st0 = As.reverse ++ st) (hW : (st.map fun v => v.category).sum ≤ 8) (d : decode cc pc = .ok (.invokestatic idx, 3)) (k : qq p l e R s m args below meth c Q nL G E T (pc + 3) lv (.ref r9 :: st) σ') : qq p l e R s m args below meth c Q nL G E T pc lv st0 σ := by
  intro hE H locs ls hP hS hl
  subst hst
  refine q_back K hE hS hl (va_runSN (As := As) (rest := st) ⟨K.1, K.2.1, K.2.2.1, K.2.2.2.1, K.2.2.2.2.1⟩ hM ⟨va_cnB n K.2.2.2.2.1 hG hw hrc hrs hnw (K.2.2.2.2.1 _ hini) hd hR, K.2.2.2.2.1 _ hsta, trivial⟩ ⟨fun a U g mk h => ⟨h.1, wB_call g mk a h.2⟩, fun U hU hW => ⟨rfl, qK_wB K hP hS hU hW⟩⟩ rfl hn hl.1.1 rfl (lv_room hW) d hR0) k
/-- a static that nobody writes; a String constant's field; its bytes -/
theorem q_gets (K : qK p s m args meth c cc nL own Ts G) {C n t : String} {v : Value} {index : Nat} (hZ : va_Z C n t v (wA G) s s.heap) (hlink : Cond.fieldLink own index C n t ∈ Ts) (d : decode cc pc = .ok (.getstatic index, 3)) (k : qq p l e R s m args below meth c Q nL G E T (pc + 3) lv (v :: st) σ) : qq p l e R s m args below meth c Q nL G E T pc lv st σ :=
  fun hE H locs ls hP hS hl => va_gets (ref := C) K.1 K.2.1 hZ hS K.2.2.2.1 (K.2.2.2.2.1 _ hlink) (fun _ h9 => h9) d (k hE H locs ls hP hS hl)
theorem q_sget (K : qK p s m args meth c cc nL own Ts G) {o n t : String} {v : Value} {index q : Nat} (hF : va_OF o n t v q (wA G) s s.heap) (hlink : Cond.fieldLink own index o n t ∈ Ts) (d : decode cc pc = .ok (.getfield index, 3)) (k : qq p l e R s m args below meth c Q nL G E T (pc + 3) lv (v :: st) σ) : qq p l e R s m args below meth c Q nL G E T pc lv (.ref q :: st) σ :=
  fun hE H locs ls hP hS hl => vk_getf (ref := o) K.1 K.2.1 hF hS K.2.2.2.1 (K.2.2.2.2.1 _ hlink) (fun _ h9 => h9) d (k hE H locs ls hP hS hl)
theorem q_tlen (K : qK p s m args meth c cc nL own Ts G) {ty : FieldType} {t N : Nat} {f : Nat → Value} {v : Int32} (hT : va_T ty t N f (wA G) s s.heap) (hv : Int32.ofNat N = v) (d : decode cc pc = .ok (.arraylength, 1)) (k : qq p l e R s m args below meth c Q nL G E T (pc + 1) lv (.int v :: st) σ) : qq p l e R s m args below meth c Q nL G E T pc lv (.ref t :: st) σ :=
  fun hE H locs ls hP hS hl => va_tlen K.1 K.2.1 hT hS hv d (k hE H locs ls hP hS hl)
theorem q_tbald (K : qK p s m args meth c cc nL own Ts G) {t N : Nat} {f : Nat → Value} {i : Int32} {v : Value} (hT : va_T .byte t N f (wA G) s s.heap) (hin : vp_in i N) (hv : f i.toNatClampNeg = v) (d : decode cc pc = .ok (.baload, 1)) (k : qq p l e R s m args below meth c Q nL G E T (pc + 1) lv (v :: st) σ) : qq p l e R s m args below meth c Q nL G E T pc lv (.int i :: .ref t :: st) σ :=
  fun hE H locs ls hP hS hl => va_tb K.1 K.2.1 hT hS hin hv d (k hE H locs ls hP hS hl)
theorem q_tiald (K : qK p s m args meth c cc nL own Ts G) {t N : Nat} {f : Nat → Value} {i : Int32} {v : Value} (hT : va_T .int t N f (wA G) s s.heap) (hin : vp_in i N) (hv : f i.toNatClampNeg = v) (d : decode cc pc = .ok (.iaload, 1)) (k : qq p l e R s m args below meth c Q nL G E T (pc + 1) lv (v :: st) σ) : qq p l e R s m args below meth c Q nL G E T pc lv (.int i :: .ref t :: st) σ :=
  fun hE H locs ls hP hS hl => va_ti K.1 K.2.1 hT hS hin hv d (k hE H locs ls hP hS hl)
theorem q_nretP (K : qK p s m args meth c cc nL own Ts G) {r T0 : Int32} {ty : FieldType} (hr : meth.sig.returnType = some ty) (hn : narrow ty (.int r) = .int r) (d : decode cc pc = .ok (.ireturn, 1)) : qq p l e R s m args below meth c (MQ below (cQ G (some (.int T0)) σ) args s 0 0 (wA G)) nL G (fun T => T = T0) r pc lv [.int r] σ := by
  intro hE
  subst hE
  exact fun H locs ls hP hS hl => W.zret K.1 K.2.1 hr hn (fun t ht hW => ⟨rfl, qK_wB K hP hS ht hW, hS.F ht⟩) hS.2.2 d K.2.2.2.2.2.2.2.1
theorem q_vretP (K : qK p s m args meth c cc nL own Ts G) {T0 : Unit} (hr : meth.sig.returnType = none) (d : decode cc pc = .ok (.return_, 1)) : qq p l e R s m args below meth c (MQ below (cQ G none σ) args s 0 0 (wA G)) nL G (fun T => T = T0) () pc lv [] σ := by
  intro hE
  exact fun H locs ls hP hS hl => W.vret K.1 K.2.1 hr (fun t ht hW => ⟨rfl, qK_wB K hP hS ht hW, hS.F ht⟩) hS.2.2 d K.2.2.2.2.2.2.2.1
/-- a String constant is loaded; a method of it is called -/
theorem q_ldcs (K : qK p s m args meth c cc nL own Ts G) {index i : Nat} {tx : String} (hr : (own, index, tx, i) ∈ stR) (d : decode cc pc = .ok (.ldc index, 2)) (k : qq p l e R s m args below meth c Q nL G E T (pc + 2) lv (.ref (gK G i) :: st) σ) : qq p l e R s m args below meth c Q nL G E T pc lv st σ :=
  fun hE H locs ls hP hS hl => va_ldcS K.1 K.2.1 K.2.2.2.1 (K.2.2.2.2.2.2.2.2.2.2.1 _ hr) d (k hE H locs ls hP hS hl)
theorem q_ldcsw (K : qK p s m args meth c cc nL own Ts G) {index i : Nat} {tx : String} (hr : (own, index, tx, i) ∈ stR) (d : decode cc pc = .ok (.ldc_w index, 3)) (k : qq p l e R s m args below meth c Q nL G E T (pc + 3) lv (.ref (gK G i) :: st) σ) : qq p l e R s m args below meth c Q nL G E T pc lv st σ := by
  intro hE H locs ls hP hS hl T hT X
  obtain ⟨t, a1, b1⟩ := k hE H locs ls hP hS hl T hT X
  have h := K.2.2.2.2.2.2.2.2.2.2.1 _ hr
  exact ⟨t, X.ldcStringW K.1 K.2.2.2.1 (text := tx) (a := gK G i) h.1 h.2 (g := F0 m pc ls st) rfl (by rw [K.2.1]; exact d) t a1, b1⟩
theorem q_callK (K : qK p s m args meth c cc nL own Ts G) {idx n maxL i : Nat} {y : MethodName} {bytes : ByteArray} {ret : Option FieldType} {ws ws' : List Cond} {rm : Room} {As st0 : List Value} {r9 : Int32} {σ' : sg} (hi : i < 18) (hM : cM l y ws rm G (.ref (gK G i) :: As) σ (some (.int r9)) σ') (hG : GoodIn Ts (wsV own idx RJ0 y ws)) (hw : ws = Cond.code y bytes maxL ret :: ws') (hd : y.cls = RJ0 ∧ y.cls ≠ "java/lang/invoke/MethodHandle" ∧ y.cls ≠ "java/lang/invoke/VarHandle" ∧ (parseMethodDescriptor y.desc).map (fun d => d.parameters.length) = some n) (hR : rm.frames + 1 ≤ R.frames ∧ 8 + (maxL + 11) + rm.locals ≤ R.locals) (hrc : rm.cells = 0) (hrs : rm.slots = 0) (hR0 : 0 ≤ R.cells ∧ 0 ≤ R.slots) (hn : As.length = n) (hst : st0 = As.reverse ++ .ref (gK G i) :: st) (hW : (st.map fun v => v.category).sum ≤ 8) (d : decode cc pc = .ok (.invokevirtual idx, 3)) (k : qq p l e R s m args below meth c Q nL G E T (pc + 3) lv (.int r9 :: st) σ') : qq p l e R s m args below meth c Q nL G E T pc lv st0 σ := by
  intro hE H locs ls hP hS hl
  subst hst
  refine q_back K hE hS hl (va_runV (As := As) (rest := st) ⟨K.1, K.2.1, K.2.2.1, K.2.2.2.1, K.2.2.2.2.1⟩ hM (cwV n K.2.2.2.2.1 hG hw hrc hrs hd hR) ⟨fun a U g mk h => ⟨h.1, wB_call g mk a h.2⟩, vk_recv K.2.2.2.2.2.2.2.2.2.1 hi hS, fun U hU hW => ⟨rfl, qK_wB K hP hS hU hW⟩⟩ rfl hn hl.1.1 rfl (lv_room hW) d hR0) k
theorem qq_nmI {f : Int32 × sg → ρ} {x : Int32 × sg} (k : ∀ r9, r9 = x → qq p l e R s m args below meth c Q nL G E (f r9) pc lv (.int r9.1 :: st) r9.2) : qq p l e R s m args below meth c Q nL G E (bnd x f) pc lv (.int x.1 :: st) x.2 := k x rfl
theorem qq_nmV {f : sg → ρ} {x : sg} (k : ∀ r9, r9 = x → qq p l e R s m args below meth c Q nL G E (f r9) pc lv st r9) : qq p l e R s m args below meth c Q nL G E (bnd x f) pc lv st x := k x rfl
theorem qq_drop (i : Nat) {lv' : List (Option Value)} (h : lv.set i none = lv') (k : qq p l e R s m args below meth c Q nL G E T pc lv' st σ) : qq p l e R s m args below meth c Q nL G E T pc lv st σ := by
  subst h
  refine qq_lv (fun a v hv => ?_) k
  rw [List.getElem?_set] at hv
  split at hv
  · split at hv <;> cases hv
  · exact hv
end QR
/-- a contract from the walk of its body -/
theorem cM_of {ρ : Type} {l : Launch} {y : MethodName} {ws ws' : List Cond} {rm : Room} {G : gT} {av : List Value} {σ σ' : sg} {v : Option Value} {cc : ByteArray} {maxL : Nat} {ret : Option FieldType} (T0 : ρ) (own : String) (hN : wN G) (hy : plainName own = true) (ho : y.cls = own) (hw : ws = Cond.code y cc maxL ret :: ws') (hlen : av.length ≤ maxL) (hcat : av.all (fun v => v.category == 1) = true) (body : ∀ (p : Program) (e : Env) (s : State) (m : MethodId) (args : Array Value) (below : List Frame) (meth : Method) (c : Code), qK p s m args meth c cc maxL own ws G → meth.sig.returnType = ret → qq p l e (headSpec ws rm).room s m args below meth c (MQ below (cQ G v σ') args s 0 0 (wA G)) maxL G (fun T => T = T0) T0 0 (av.map some ++ List.replicate (maxL - av.length) none) [] σ) : cM l y ws rm G av σ v σ' := by
  subst ho
  refine Met.ofW (cc := cc) (maxL := maxL) (ret := ret) hy hw ?_
  intro p e s m args below meth c s₁ B hml hv
  obtain ⟨rfl, hP, hK, hn, hF⟩ := hv
  obtain ⟨ls, hls, hl⟩ := lq_entry av maxL m hlen hcat
  rw [hls]
  have hown : s.vm.findClass y.cls = some m.cls := findClass_of_methodNamed B.named
  exact body p e s m _ below meth c ⟨B.exec, B.bytes, hml, hown, atoms_spec (ws := ws) B.pre, hK, hN, B.notSynchronized, hn, hF⟩ B.returns rfl s.heap [] ls hP va_S.rf hl
