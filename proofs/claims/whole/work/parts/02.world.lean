section WD
/-- the whole state of the two systems: rows of ints by number, int fields by number -/
abbrev sg : Type := (Nat → Nat → Int32) × (Nat → Int32)
/-- where all lies: objects, rows, the row of sheets, array classes, the tables' numbers, String constants, a static row -/
abbrev gT : Type := Bool × (Nat → Nat) × (Nat → Nat) × Nat × ClassId × ClassId × va_G × (Nat → Nat) × (Nat → Nat) × Nat
abbrev gfl (G : gT) : Bool := G.1
abbrev gob (G : gT) : Nat → Nat := G.2.1
abbrev gad (G : gT) : Nat → Nat := G.2.2.1
abbrev gsa (G : gT) : Nat := G.2.2.2.1
abbrev gcI (G : gT) : ClassId := G.2.2.2.2.1
abbrev gcS (G : gT) : ClassId := G.2.2.2.2.2.1
abbrev gD (G : gT) : va_G := G.2.2.2.2.2.2.1
abbrev gK (G : gT) : Nat → Nat := G.2.2.2.2.2.2.2.1
abbrev gV (G : gT) : Nat → Nat := G.2.2.2.2.2.2.2.2.1
abbrev gt (G : gT) : Nat := G.2.2.2.2.2.2.2.2.2
/-- how many rows there are; how long a row is (true: the class's own, false: the reference's) -/
def wna (G : gT) : Nat := if gfl G = true then 30 else 11
def wln (b : Bool) (a : Nat) : Nat := if b = true then (if a < 24 then (if a % 8 < 5 then 8 else if a % 8 = 6 then 10 else 6) else ([120, 40, 40, 40, 40, 7] : List Nat).getD (a - 24) 0) else ([80, 80, 80, 80, 120, 7, 6, 4, 4, 160, 40] : List Nat).getD a 0
def chF (G : gT) (F : Nat → Int32) (j : Nat) : List Value := [.ref (gad G (8 * j)), .ref (gad G (8 * j + 1)), .ref (gad G (8 * j + 2)), .ref (gad G (8 * j + 3)), .ref (gad G (8 * j + 4)), .ref (gad G (8 * j + 5)), .ref (gad G (8 * j + 6)), .int (F (7 * j)), .int (F (7 * j + 1)), .int (F (7 * j + 2)), .int (F (7 * j + 3)), .int (F (7 * j + 4)), .int (F (7 * j + 5)), .int (F (7 * j + 6)), .ref (gad G (8 * j + 7))]
def shF (G : gT) (F : Nat → Int32) (j : Nat) : List Value := [.ref (gad G (25 + j)), .int (F (27 + 2 * j)), .int (F (28 + 2 * j))]
def xxF (G : gT) (F : Nat → Int32) : List Value := [.ref (gob G 0), .ref (gob G 1), .ref (gob G 2), .int (F 21), .ref (gob G 4), .ref (gsa G), .ref (gad G 29)]
def tpF (G : gT) (F : Nat → Int32) : List Value := [.ref (gad G 24), .int (F 22), .int (F 23), .int (F 24), .int (F 25), .int (F 26)]
def mdF (G : gT) (F : Nat → Int32) : List Value := [.ref (gad G 0), .ref (gad G 1), .ref (gad G 2), .ref (gad G 3), .int (F 0), .ref (gad G 4), .int (F 1), .ref (gad G 5), .ref (gad G 6), .int (F 2), .int (F 3), .int (F 4), .int (F 5), .ref (gad G 7), .ref (gad G 8), .ref (gad G 9), .ref (gad G 10)]
def wOd (G : gT) (F : Nat → Int32) : va_W := [(gob G 0, .inr (0, chF G F 0)), (gob G 1, .inr (0, chF G F 1)), (gob G 2, .inr (0, chF G F 2)), (gob G 3, .inr (3, xxF G F)), (gob G 4, .inr (2, tpF G F)), (gob G 5, .inr (1, shF G F 0)), (gob G 6, .inr (1, shF G F 1)), (gob G 7, .inr (1, shF G F 2)), (gob G 8, .inr (1, shF G F 3)), (gsa G, .inl (gcS G, 4, .inr (.inr (.inr (.inr (fun i => some (gob G (5 + i))))))))]
def wOm (G : gT) (F : Nat → Int32) : va_W := [(gob G 0, .inr (4, mdF G F))]
def wO (G : gT) (F : Nat → Int32) : va_W := if gfl G = true then wOd G F else wOm G F
def wnO (G : gT) : Nat := if gfl G = true then 10 else 1
def wR (G : gT) (A : Nat → Nat → Int32) : va_W := (List.range (wna G)).map (fun a => (gad G a, .inl (gcI G, wln (gfl G) a, .inl (A a))))
def wl (G : gT) (σ : sg) : va_W := wO G σ.2 ++ wR G σ.1
def wAd (G : gT) : List Nat := (if gfl G = true then [gob G 0, gob G 1, gob G 2, gob G 3, gob G 4, gob G 5, gob G 6, gob G 7, gob G 8, gsa G] else [gob G 0]) ++ (List.range (wna G)).map (gad G)
def wA (G : gT) : Nat → Prop := fun q => q ∈ wAd G
abbrev gty (G : gT) : List (ClassId × FieldType) := [(gcI G, .int), (gcS G, .object RX2)]
theorem wO_t {G : gT} (h : gfl G = true) (F : Nat → Int32) : wO G F = wOd G F := if_pos h
theorem wO_f {G : gT} (h : gfl G = false) (F : Nat → Int32) : wO G F = wOm G F := if_neg (by rw [h]; decide)
theorem wO_len (G : gT) (F : Nat → Int32) : (wO G F).length = wnO G := by
  cases h : gfl G with
  | true => rw [wO_t h, wnO, if_pos h]; rfl
  | false => rw [wO_f h, wnO, if_neg (by rw [h]; decide)]; rfl
theorem wl_adr (G : gT) (σ : sg) : (wl G σ).map Prod.fst = wAd G := by
  unfold wl wR wAd
  rw [List.map_append, List.map_map]
  cases h : gfl G with
  | true => rw [wO_t h, if_pos rfl]; rfl
  | false => rw [wO_f h, if_neg (by decide)]; rfl
/-- the addresses are apart -/
def wN (G : gT) : Prop := ∀ i j : Nat, i < (wAd G).length → (wAd G)[i]? = (wAd G)[j]? → i = j
theorem wl_D {G : gT} (hN : wN G) (σ : sg) : va_D (wA G) (wl G σ) := by
  have e := wl_adr G σ
  refine ⟨fun i j p q hp hq hpq => ?_, fun k q hk => ?_⟩
  · have h1 : (wAd G)[i]? = some p.1 := by rw [← e, List.getElem?_map, hp]; rfl
    have h2 : (wAd G)[j]? = some q.1 := by rw [← e, List.getElem?_map, hq]; rfl
    exact hN i j (List.getElem?_eq_some_iff.mp h1).1 (by rw [h1, h2, hpq])
  · show q.1 ∈ wAd G
    rw [← e]
    exact List.mem_map.mpr ⟨q, List.mem_of_getElem? hk, rfl⟩
theorem wl_o {G : gT} {σ : sg} {o : Nat} {x : Nat × va_E} (h : (wO G σ.2)[o]? = some x) : (wl G σ)[o]? = some x := by
  unfold wl
  rw [List.getElem?_append_left (List.getElem?_eq_some_iff.mp h).1]
  exact h
theorem wl_a {G : gT} {σ : sg} {a : Nat} (h : a < wna G) : (wl G σ)[wnO G + a]? = some (gad G a, .inl (gcI G, wln (gfl G) a, .inl (σ.1 a))) := by
  unfold wl wR
  rw [← wO_len G σ.2, List.getElem?_append_right (Nat.le_add_right _ a), Nat.add_sub_cancel_left, List.getElem?_map, List.getElem?_range h]
  rfl
theorem wl_so {G : gT} {σ : sg} {F' : Nat → Int32} {o : Nat} {x y : Nat × va_E} (ho : (wO G σ.2)[o]? = some y) (h : (wO G σ.2).set o x = wO G F') : (wl G σ).set o x = wl G (σ.1, F') := by
  unfold wl
  rw [List.set_append_left _ _ (List.getElem?_eq_some_iff.mp ho).1, h]
theorem wl_sa {G : gT} {σ : sg} {a : Nat} {f : Nat → Int32} (h : a < wna G) : (wl G σ).set (wnO G + a) (gad G a, .inl (gcI G, wln (gfl G) a, .inl f)) = wl G (va_up σ.1 a f, σ.2) := by
  unfold wl wR
  rw [← wO_len G σ.2, List.set_append_right _ _ (Nat.le_add_right _ a), Nat.add_sub_cancel_left]
  congr 1
  refine List.ext_getElem? fun i => ?_
  rw [List.getElem?_set]
  by_cases hi : a = i
  · subst hi
    simp [h, va_up]
  · rw [if_neg hi, List.getElem?_map, List.getElem?_map]
    rcases Nat.lt_or_ge i (wna G) with h1 | h1
    · rw [List.getElem?_range h1]
      simp [va_up, Ne.symm hi]
    · rw [List.getElem?_eq_none (by simpa using h1)]
      rfl
theorem wna_t {G : gT} (h : gfl G = true) : wna G = 30 := if_pos h
theorem wna_f {G : gT} (h : gfl G = false) : wna G = 11 := if_neg (by rw [h]; decide)
theorem wO_ch {G : gT} (h : gfl G = true) {F : Nat → Int32} {j : Nat} (hj : j < 3) : (wO G F)[j]? = some (gob G j, .inr (0, chF G F j)) := by
  rw [wO_t h]
  rcases (show j = 0 ∨ j = 1 ∨ j = 2 by omega) with rfl | rfl | rfl <;> rfl
theorem wO_sh {G : gT} (h : gfl G = true) {F : Nat → Int32} {j : Nat} (hj : j < 4) : (wO G F)[5 + j]? = some (gob G (5 + j), .inr (1, shF G F j)) := by
  rw [wO_t h]
  rcases (show j = 0 ∨ j = 1 ∨ j = 2 ∨ j = 3 by omega) with rfl | rfl | rfl | rfl <;> rfl
theorem wO_x {G : gT} (h : gfl G = true) {F : Nat → Int32} : (wO G F)[3]? = some (gob G 3, .inr (3, xxF G F)) := by rw [wO_t h]; rfl
theorem wO_tp {G : gT} (h : gfl G = true) {F : Nat → Int32} : (wO G F)[4]? = some (gob G 4, .inr (2, tpF G F)) := by rw [wO_t h]; rfl
theorem wO_sr {G : gT} (h : gfl G = true) {F : Nat → Int32} : (wO G F)[9]? = some (gsa G, .inl (gcS G, 4, .inr (.inr (.inr (.inr (fun i => some (gob G (5 + i)))))))) := by rw [wO_t h]; rfl
theorem wO_m {G : gT} (h : gfl G = false) {F : Nat → Int32} : (wO G F)[0]? = some (gob G 0, .inr (4, mdF G F)) := by rw [wO_f h]; rfl
theorem wP_ch7 {G : gT} (h : gfl G = true) {F : Nat → Int32} {j : Nat} (hj : j < 3) (x : Int32) : (wO G F).set j (gob G j, .inr (0, (chF G F j).set 7 (.int x))) = wO G (va_up F (7 * j) x) := by
  rw [wO_t h, wO_t h]
  rcases (show j = 0 ∨ j = 1 ∨ j = 2 by omega) with rfl | rfl | rfl <;> rfl
theorem wP_ch8 {G : gT} (h : gfl G = true) {F : Nat → Int32} {j : Nat} (hj : j < 3) (x : Int32) : (wO G F).set j (gob G j, .inr (0, (chF G F j).set 8 (.int x))) = wO G (va_up F (7 * j + 1) x) := by
  rw [wO_t h, wO_t h]
  rcases (show j = 0 ∨ j = 1 ∨ j = 2 by omega) with rfl | rfl | rfl <;> rfl
theorem wP_ch9 {G : gT} (h : gfl G = true) {F : Nat → Int32} {j : Nat} (hj : j < 3) (x : Int32) : (wO G F).set j (gob G j, .inr (0, (chF G F j).set 9 (.int x))) = wO G (va_up F (7 * j + 2) x) := by
  rw [wO_t h, wO_t h]
  rcases (show j = 0 ∨ j = 1 ∨ j = 2 by omega) with rfl | rfl | rfl <;> rfl
theorem wP_ch10 {G : gT} (h : gfl G = true) {F : Nat → Int32} {j : Nat} (hj : j < 3) (x : Int32) : (wO G F).set j (gob G j, .inr (0, (chF G F j).set 10 (.int x))) = wO G (va_up F (7 * j + 3) x) := by
  rw [wO_t h, wO_t h]
  rcases (show j = 0 ∨ j = 1 ∨ j = 2 by omega) with rfl | rfl | rfl <;> rfl
theorem wP_ch11 {G : gT} (h : gfl G = true) {F : Nat → Int32} {j : Nat} (hj : j < 3) (x : Int32) : (wO G F).set j (gob G j, .inr (0, (chF G F j).set 11 (.int x))) = wO G (va_up F (7 * j + 4) x) := by
  rw [wO_t h, wO_t h]
  rcases (show j = 0 ∨ j = 1 ∨ j = 2 by omega) with rfl | rfl | rfl <;> rfl
theorem wP_ch12 {G : gT} (h : gfl G = true) {F : Nat → Int32} {j : Nat} (hj : j < 3) (x : Int32) : (wO G F).set j (gob G j, .inr (0, (chF G F j).set 12 (.int x))) = wO G (va_up F (7 * j + 5) x) := by
  rw [wO_t h, wO_t h]
  rcases (show j = 0 ∨ j = 1 ∨ j = 2 by omega) with rfl | rfl | rfl <;> rfl
theorem wP_ch13 {G : gT} (h : gfl G = true) {F : Nat → Int32} {j : Nat} (hj : j < 3) (x : Int32) : (wO G F).set j (gob G j, .inr (0, (chF G F j).set 13 (.int x))) = wO G (va_up F (7 * j + 6) x) := by
  rw [wO_t h, wO_t h]
  rcases (show j = 0 ∨ j = 1 ∨ j = 2 by omega) with rfl | rfl | rfl <;> rfl
theorem wP_sh1 {G : gT} (h : gfl G = true) {F : Nat → Int32} {j : Nat} (hj : j < 4) (x : Int32) : (wO G F).set (5 + j) (gob G (5 + j), .inr (1, (shF G F j).set 1 (.int x))) = wO G (va_up F (27 + 2 * j) x) := by
  rw [wO_t h, wO_t h]
  rcases (show j = 0 ∨ j = 1 ∨ j = 2 ∨ j = 3 by omega) with rfl | rfl | rfl | rfl <;> rfl
theorem wP_sh2 {G : gT} (h : gfl G = true) {F : Nat → Int32} {j : Nat} (hj : j < 4) (x : Int32) : (wO G F).set (5 + j) (gob G (5 + j), .inr (1, (shF G F j).set 2 (.int x))) = wO G (va_up F (28 + 2 * j) x) := by
  rw [wO_t h, wO_t h]
  rcases (show j = 0 ∨ j = 1 ∨ j = 2 ∨ j = 3 by omega) with rfl | rfl | rfl | rfl <;> rfl
theorem wP_x3 {G : gT} (h : gfl G = true) {F : Nat → Int32} (x : Int32) : (wO G F).set 3 (gob G 3, .inr (3, (xxF G F).set 3 (.int x))) = wO G (va_up F 21 x) := by rw [wO_t h, wO_t h]; rfl
theorem wP_tp1 {G : gT} (h : gfl G = true) {F : Nat → Int32} (x : Int32) : (wO G F).set 4 (gob G 4, .inr (2, (tpF G F).set 1 (.int x))) = wO G (va_up F 22 x) := by rw [wO_t h, wO_t h]; rfl
theorem wP_tp2 {G : gT} (h : gfl G = true) {F : Nat → Int32} (x : Int32) : (wO G F).set 4 (gob G 4, .inr (2, (tpF G F).set 2 (.int x))) = wO G (va_up F 23 x) := by rw [wO_t h, wO_t h]; rfl
theorem wP_tp3 {G : gT} (h : gfl G = true) {F : Nat → Int32} (x : Int32) : (wO G F).set 4 (gob G 4, .inr (2, (tpF G F).set 3 (.int x))) = wO G (va_up F 24 x) := by rw [wO_t h, wO_t h]; rfl
theorem wP_tp4 {G : gT} (h : gfl G = true) {F : Nat → Int32} (x : Int32) : (wO G F).set 4 (gob G 4, .inr (2, (tpF G F).set 4 (.int x))) = wO G (va_up F 25 x) := by rw [wO_t h, wO_t h]; rfl
theorem wP_tp5 {G : gT} (h : gfl G = true) {F : Nat → Int32} (x : Int32) : (wO G F).set 4 (gob G 4, .inr (2, (tpF G F).set 5 (.int x))) = wO G (va_up F 26 x) := by rw [wO_t h, wO_t h]; rfl
theorem wP_m4 {G : gT} (h : gfl G = false) {F : Nat → Int32} (x : Int32) : (wO G F).set 0 (gob G 0, .inr (4, (mdF G F).set 4 (.int x))) = wO G (va_up F 0 x) := by rw [wO_f h, wO_f h]; rfl
theorem wP_m6 {G : gT} (h : gfl G = false) {F : Nat → Int32} (x : Int32) : (wO G F).set 0 (gob G 0, .inr (4, (mdF G F).set 6 (.int x))) = wO G (va_up F 1 x) := by rw [wO_f h, wO_f h]; rfl
theorem wP_m9 {G : gT} (h : gfl G = false) {F : Nat → Int32} (x : Int32) : (wO G F).set 0 (gob G 0, .inr (4, (mdF G F).set 9 (.int x))) = wO G (va_up F 2 x) := by rw [wO_f h, wO_f h]; rfl
theorem wP_m10 {G : gT} (h : gfl G = false) {F : Nat → Int32} (x : Int32) : (wO G F).set 0 (gob G 0, .inr (4, (mdF G F).set 10 (.int x))) = wO G (va_up F 3 x) := by rw [wO_f h, wO_f h]; rfl
theorem wP_m11 {G : gT} (h : gfl G = false) {F : Nat → Int32} (x : Int32) : (wO G F).set 0 (gob G 0, .inr (4, (mdF G F).set 11 (.int x))) = wO G (va_up F 4 x) := by rw [wO_f h, wO_f h]; rfl
theorem wP_m12 {G : gT} (h : gfl G = false) {F : Nat → Int32} (x : Int32) : (wO G F).set 0 (gob G 0, .inr (4, (mdF G F).set 12 (.int x))) = wO G (va_up F 5 x) := by rw [wO_f h, wO_f h]; rfl
theorem vw_0 : vwCl[0]? = some (RX0, TX0, 15) := rfl
theorem vw_1 : vwCl[1]? = some (RX2, TX2, 3) := rfl
theorem vw_2 : vwCl[2]? = some (RX3, TX3, 6) := rfl
theorem vw_3 : vwCl[3]? = some (RX4, TX4, 7) := rfl
theorem vw_4 : vwCl[4]? = some (RX5, TX5, 17) := rfl
/-- the private methods that nest mates call -/
def nS (U : State) : Prop := va_Nw (.methodLinkNest RX0 64 yX4_isWithin RX4) U ∧ va_Nw (.methodLinkNest RX0 72 yX4_with RX4) U ∧ va_Nw (.methodLinkNest RX0 76 yX4_without RX4) U ∧ va_Nw (.methodLinkNest RX0 95 yX4_has RX4) U ∧ va_Nw (.methodLinkNest RX1 9 yX4_isWithin RX4) U ∧ va_Nw (.methodLinkNest RX3 133 yX4_isWithin RX4) U
theorem nS_warm {s U : State} (hW : s.WarmedH U.vm) (h : nS s) : nS U := ⟨va_Nw.warmM hW h.1, va_Nw.warmM hW h.2.1, va_Nw.warmM hW h.2.2.1, va_Nw.warmM hW h.2.2.2.1, va_Nw.warmM hW h.2.2.2.2.1, va_Nw.warmM hW h.2.2.2.2.2⟩
theorem nS_same {u U : State} (h9 : u.vm = U.vm) (h : nS u) : nS U := ⟨va_Nw.same rfl h9 h.1, va_Nw.same rfl h9 h.2.1, va_Nw.same rfl h9 h.2.2.1, va_Nw.same rfl h9 h.2.2.2.1, va_Nw.same rfl h9 h.2.2.2.2.1, va_Nw.same rfl h9 h.2.2.2.2.2⟩

/-- the String constants' bytes, by number -/
def stB : List (List Int32) := [[100, 101, 101, 100], [100, 111, 117, 98, 108, 101], [116, 97, 108, 108, 111, 119], [99, 111, 112, 121], [115, 116, 97, 99, 107, 101, 100], [98, 117, 114, 105, 101, 100], [102, 97, 108, 115, 101], [115, 104, 117, 116, 116, 101, 114], [105, 99, 101], [99, 97, 110, 100, 108, 101], [115, 117, 109, 109, 101, 114], [119, 97, 120], [111, 110], [111, 112, 101, 110], [115, 104, 117, 116], [104, 101, 114, 101], [103, 111, 110, 101], [59]]
def stL : List Nat := [4, 6, 6, 4, 7, 6, 5, 7, 3, 6, 6, 3, 2, 4, 4, 4, 4, 1]
/-- where the constants stand: class, entry, text, number -/
def stR : List (String × Nat × String × Nat) := [(RX3, 103, "wax", 11), (RX3, 105, "on", 12), (RX3, 114, "open", 13), (RX3, 116, "shut", 14), (RX3, 124, "here", 15), (RX3, 126, "gone", 16), (RX3, 46, "shutter", 7), (RX3, 55, "ice", 8), (RX3, 60, "candle", 9), (RX3, 65, "summer", 10), (RX3, 79, "deed", 0), (RX3, 81, "double", 1), (RX3, 83, "tallow", 2), (RX3, 85, "copy", 3), (RX3, 87, "stacked", 4), (RX3, 89, "buried", 5), (RX3, 91, "false", 6), (RX5, 214, "deed", 0), (RX5, 216, "double", 1), (RX5, 218, "tallow", 2), (RX5, 220, "copy", 3), (RX5, 222, "stacked", 4), (RX5, 224, "buried", 5), (RX5, 226, "false", 6), (RX5, 237, "wax", 11), (RX5, 242, "on", 12), (RX5, 248, "open", 13), (RX5, 250, "shut", 14), (RX5, 255, "here", 15), (RX5, 257, "gone", 16), (RX5, 266, "shutter", 7), (RX5, 271, "ice", 8), (RX5, 273, "candle", 9), (RX5, 275, "summer", 10), (RX5, 280, ";", 17)]
def kTab : List Int32 := [-1, 0, 0, 2, 1, 0, 5]
/-- what nobody writes: String constants, a static row, two of the JDK's statics -/
def sF (G : gT) (U : State) : Prop := vk_S 18 stL stB (gK G) (gV G) (wA G) U U.heap ∧ (∀ r ∈ stR, vk_R r.1 r.2.1 r.2.2.1 (gK G r.2.2.2) U) ∧ va_Z RX1 "ABOVE" "[I" (.ref (gt G)) (wA G) U U.heap ∧ va_T .int (gt G) 7 (fun j => .int (kTab.getD j 0)) (wA G) U U.heap ∧ va_Z "java/lang/String" "COMPACT_STRINGS" "Z" (.int 1) (wA G) U U.heap ∧ va_Zq "jdk/internal/util/Preconditions" "SIOOBE_FORMATTER" "Ljava/util/function/BiFunction;" (wA G) U U.heap
theorem sF_move {G : gT} {s U : State} (hW : s.WarmedH U.vm) (hH : ∀ q : Nat, q < s.heap.size → ¬ wA G q → U.heap[q]? = s.heap[q]?) (h : sF G s) : sF G U := by
  obtain ⟨h1, h2, h3, h4, h5, h6⟩ := h
  exact ⟨(h1.kept hH).moved hW.alike, fun r hr => (h2 r hr).warm hW, va_Z.moved hW.alike (h3.kept hH), (h4.kept hH).moved hW.alike, va_Z.moved hW.alike (h5.kept hH), (h6.kept hH).moved hW.alike⟩
theorem sF_same {G : gT} {u U : State} (h9 : u.vm = U.vm) (h10 : U.heap = u.heap) (h : sF G u) : sF G U := by
  obtain ⟨h1, h2, h3, h4, h5, h6⟩ := h
  have hA : u.vm.Alike U.vm := by rw [h9]; exact Vm.Alike.refl _
  unfold sF
  rw [h10]
  exact ⟨h1.moved hA, fun r hr => (h2 r hr).same h9.symm, va_Z.moved hA h3, h4.moved hA, va_Z.moved hA h5, h6.moved hA⟩
/-- the world of a state -/
def wB (G : gT) (σ : sg) (U : State) : Prop := va_P (gD G) vwCl (wl G σ) U.heap ∧ va_K (gD G) vwCl (gty G) U ∧ nS U ∧ sF G U
theorem wB_call {G : gT} {σ : sg} {U : State} (g : JFrame) (mk : MethodId) (a : Array Value) (h : wB G σ U) : wB G σ (U.calling g mk a) := ⟨h.1, va_K.moved (u := U) (U := U.calling g mk a) (Vm.Alike.refl U.vm) h.2.1, nS_same (U := U.calling g mk a) rfl h.2.2.1, sF_same (U := U.calling g mk a) rfl rfl h.2.2.2⟩
/-- a contract: from a state with the world σ, on the arguments av, the answer is v, the world then σ'; nothing else changes, nothing is made -/
def cM (l : Launch) (y : MethodName) (ws : List Cond) (rm : Room) (G : gT) (av : List Value) (σ : sg) (v : Option Value) (σ' : sg) : Prop := Met l y ws rm (va_Pc av (fun U => wB G σ U)) (fun _ st oc t => oc = .returned v ∧ wB G σ' t ∧ va_F (wA G) st t) 0 0 (wA G)
/-- the locals -/
def lq (ls : Array Slot) (nL : Nat) (lv : List (Option Value)) : Prop := lv_has ls nL [] ∧ ∀ (i : Nat) (v : Value), lv[i]? = some (some v) → ls[i]? = some (.val v) ∧ v.category = 1
def lqA (lv : List (Option Value)) : List (Nat × Value) := (List.range lv.length).filterMap (fun i => (lv[i]?.join).map (fun v => (i, v)))
theorem lqA_mem {lv : List (Option Value)} {i : Nat} {v : Value} : (i, v) ∈ lqA lv ↔ lv[i]? = some (some v) := by
  unfold lqA
  rw [List.mem_filterMap]
  constructor
  · rintro ⟨k, hk, h⟩
    cases h1 : lv[k]? with
    | none => rw [h1] at h; cases h
    | some y =>
      rw [h1] at h
      cases y with
      | none => cases h
      | some y => cases h; exact h1
  · intro h
    refine ⟨i, ?_, ?_⟩
    · rw [List.mem_range]
      exact (List.getElem?_eq_some_iff.mp h).1
    · rw [h]; rfl
theorem lq_has {ls : Array Slot} {nL : Nat} {lv : List (Option Value)} (h : lq ls nL lv) : lv_has ls nL (lqA lv) := by
  refine ⟨h.1.1, h.1.2.1, fun q hq => ?_⟩
  obtain ⟨i, v⟩ := q
  exact (h.2 i v (lqA_mem.mp hq)).1
theorem lq_store {ls' : Array Slot} {nL i : Nat} {lv : List (Option Value)} {v : Value} {L : List (Nat × Value)} (hc : ∀ (j : Nat) (z : Value), lv[j]? = some (some z) → z.category = 1) (hv : v.category = 1) (hi : i < lv.length) (hL : (i, v) :: (lqA lv).filter (fun q => !(q.1 == i) && !(q.1 + 1 == i && q.2.category == 2)) = L) (h : lv_has ls' nL L) : lq ls' nL (lv.set i (some v)) := by
  refine ⟨⟨h.1, h.2.1, fun q hq => by cases hq⟩, fun j z hz => ?_⟩
  rw [List.getElem?_set] at hz
  by_cases hj : i = j
  · subst hj
    rw [if_pos rfl, if_pos hi] at hz
    cases hz
    exact ⟨h.2.2 (i, v) (by rw [← hL]; exact List.mem_cons_self), hv⟩
  · rw [if_neg hj] at hz
    refine ⟨h.2.2 (j, z) ?_, hc j z hz⟩
    rw [← hL]
    refine List.mem_cons_of_mem _ (List.mem_filter.mpr ⟨lqA_mem.mpr hz, ?_⟩)
    have h1 : (j == i) = false := by simpa using Ne.symm hj
    have h2 : (z.category == 2) = false := by rw [hc j z hz]; rfl
    show (!(j == i) && !(j + 1 == i && z.category == 2)) = true
    rw [h1, h2]; simp
theorem lq_to {ls : Array Slot} {nL : Nat} {lv lv' : List (Option Value)} (h : lq ls nL lv) (hs : ∀ (i : Nat) (v : Value), lv'[i]? = some (some v) → lv[i]? = some (some v)) : lq ls nL lv' := ⟨h.1, fun i v hv => h.2 i v (hs i v hv)⟩
theorem lq_entry (av : List Value) (nL : Nat) (m : MethodId) (h1 : av.length ≤ nL) (hc : av.all (fun v => v.category == 1) = true) : ∃ ls : Array Slot, entryFrame m av.toArray nL = F0 m 0 ls [] ∧ lq ls nL (av.map some ++ List.replicate (nL - av.length) none) := by
  have hs : ∀ (l : List Value), l.all (fun v => v.category == 1) = true → lg_sl l = l.map Slot.val := by
    intro l
    induction l with
    | nil => intro _; rfl
    | cons a t ih =>
      intro h
      rw [List.all_cons, Bool.and_eq_true] at h
      have ha : a.category = 1 := by simpa using h.1
      show (if a.category = 2 then [Slot.val a, Slot.second] else [Slot.val a]) ++ lg_sl t = _
      rw [if_neg (by rw [ha]; decide), ih h.2]
      rfl
  have hlen : (lg_sl av).length ≤ nL := by rw [hs av hc, List.length_map]; exact h1
  refine ⟨_, lg_entry_eq .., ?_⟩
  have hl := lv_entry av (n := nL) hlen
  refine ⟨⟨hl.1, hl.2.1, fun q hq => by cases hq⟩, fun i v hv => ?_⟩
  rw [List.getElem?_append] at hv
  split at hv
  · rename_i hi
    rw [List.length_map] at hi
    rw [List.getElem?_map] at hv
    cases hz : av[i]? with
    | none => rw [hz] at hv; cases hv
    | some z =>
      rw [hz] at hv
      cases hv
      refine ⟨?_, ?_⟩
      · rw [hs av hc, List.getElem?_toArray, List.getElem?_append_left (by rw [List.length_map]; exact hi), List.getElem?_map, hz]
        rfl
      · have := List.all_eq_true.mp hc v (List.mem_of_getElem? hz)
        simpa using this
  · rw [List.getElem?_replicate] at hv
    split at hv <;> cases hv
end WD
