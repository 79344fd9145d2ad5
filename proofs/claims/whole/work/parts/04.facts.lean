section FC
theorem ltI {x y : Int32} (h : x < y) : x.toInt < y.toInt := Int32.lt_iff_toInt_lt.mp h
theorem leI {x y : Int32} (h : x ≤ y) : x.toInt ≤ y.toInt := Int32.le_iff_toInt_le.mp h
theorem nltI {x y : Int32} (h : ¬ x < y) : y.toInt ≤ x.toInt := Int.not_lt.mp (fun q => h (Int32.lt_iff_toInt_lt.mpr q))
theorem nleI {x y : Int32} (h : ¬ x ≤ y) : y.toInt < x.toInt := Int.not_le.mp (fun q => h (Int32.le_iff_toInt_le.mpr q))
theorem eqI {x y : Int32} (h : x = y) : x.toInt = y.toInt := by rw [h]
theorem neI {x y : Int32} (h : ¬ x = y) : x.toInt ≠ y.toInt := fun q => h (Int32.toInt.inj q)
theorem bmI {a : Int} (h1 : -2147483648 ≤ a) (h2 : a < 2147483648) : a.bmod (2 ^ 32) = a := by
  rw [Int.bmod_def]
  split <;> omega
theorem addI {x y : Int32} (h1 : -2147483648 ≤ x.toInt + y.toInt) (h2 : x.toInt + y.toInt < 2147483648) : (x + y).toInt = x.toInt + y.toInt := by rw [Int32.toInt_add]; exact bmI h1 h2
theorem subI {x y : Int32} (h1 : -2147483648 ≤ x.toInt - y.toInt) (h2 : x.toInt - y.toInt < 2147483648) : (x - y).toInt = x.toInt - y.toInt := by rw [Int32.toInt_sub]; exact bmI h1 h2
theorem mulI {x y : Int32} (h1 : -2147483648 ≤ x.toInt * y.toInt) (h2 : x.toInt * y.toInt < 2147483648) : (x * y).toInt = x.toInt * y.toInt := by rw [Int32.toInt_mul]; exact bmI h1 h2
theorem vinM {i : Int32} {n : Nat} (h1 : 0 ≤ i.toInt) (h2 : i.toInt < n) : vp_in i n := vp_in_iff.mpr ⟨h1, h2⟩
theorem vinN {i : Int32} {m n : Nat} (h : m = n) (h1 : 0 ≤ i.toInt) (h2 : i.toInt < n) : vp_in i m := by rw [h]; exact vinM h1 h2
theorem clLt {i : Int32} {n : Nat} (h1 : 0 ≤ i.toInt) (h2 : i.toInt < n) : i.toNatClampNeg < n := by
  have e : i.toNatClampNeg = i.toInt.toNat := rfl
  rw [e]; omega
theorem clI {i : Int32} (h1 : 0 ≤ i.toInt) : (i.toNatClampNeg : Int) = i.toInt := by
  have e : i.toNatClampNeg = i.toInt.toNat := rfl
  rw [e]; omega
theorem wlc0 {G : gT} (h : gfl G = true) {j : Nat} (hj : j < 3) : wln (gfl G) (8 * j) = 8 := by
  rw [h]; rcases (show j = 0 ∨ j = 1 ∨ j = 2 by omega) with rfl | rfl | rfl <;> rfl
theorem wlc1 {G : gT} (h : gfl G = true) {j : Nat} (hj : j < 3) : wln (gfl G) (8 * j + 1) = 8 := by
  rw [h]; rcases (show j = 0 ∨ j = 1 ∨ j = 2 by omega) with rfl | rfl | rfl <;> rfl
theorem wlc2 {G : gT} (h : gfl G = true) {j : Nat} (hj : j < 3) : wln (gfl G) (8 * j + 2) = 8 := by
  rw [h]; rcases (show j = 0 ∨ j = 1 ∨ j = 2 by omega) with rfl | rfl | rfl <;> rfl
theorem wlc3 {G : gT} (h : gfl G = true) {j : Nat} (hj : j < 3) : wln (gfl G) (8 * j + 3) = 8 := by
  rw [h]; rcases (show j = 0 ∨ j = 1 ∨ j = 2 by omega) with rfl | rfl | rfl <;> rfl
theorem wlc4 {G : gT} (h : gfl G = true) {j : Nat} (hj : j < 3) : wln (gfl G) (8 * j + 4) = 8 := by
  rw [h]; rcases (show j = 0 ∨ j = 1 ∨ j = 2 by omega) with rfl | rfl | rfl <;> rfl
theorem wlc5 {G : gT} (h : gfl G = true) {j : Nat} (hj : j < 3) : wln (gfl G) (8 * j + 5) = 6 := by
  rw [h]; rcases (show j = 0 ∨ j = 1 ∨ j = 2 by omega) with rfl | rfl | rfl <;> rfl
theorem wlc6 {G : gT} (h : gfl G = true) {j : Nat} (hj : j < 3) : wln (gfl G) (8 * j + 6) = 10 := by
  rw [h]; rcases (show j = 0 ∨ j = 1 ∨ j = 2 by omega) with rfl | rfl | rfl <;> rfl
theorem wlc7 {G : gT} (h : gfl G = true) {j : Nat} (hj : j < 3) : wln (gfl G) (8 * j + 7) = 6 := by
  rw [h]; rcases (show j = 0 ∨ j = 1 ∨ j = 2 by omega) with rfl | rfl | rfl <;> rfl
theorem wls {G : gT} (h : gfl G = true) {j : Nat} (hj : j < 4) : wln (gfl G) (25 + j) = 40 := by
  rw [h]; rcases (show j = 0 ∨ j = 1 ∨ j = 2 ∨ j = 3 by omega) with rfl | rfl | rfl | rfl <;> rfl
theorem wld {G : gT} (h : gfl G = true) (a : Nat) {n : Nat} (e : wln true a = n) : wln (gfl G) a = n := by rw [h]; exact e
theorem wlm {G : gT} (h : gfl G = false) (a : Nat) {n : Nat} (e : wln false a = n) : wln (gfl G) a = n := by rw [h]; exact e
theorem wlm_r {G : gT} (h : gfl G = false) {a : Nat} (ha : a < 4) : wln (gfl G) a = 80 := by
  rw [h]; rcases (show a = 0 ∨ a = 1 ∨ a = 2 ∨ a = 3 by omega) with rfl | rfl | rfl | rfl <;> rfl
theorem nS_0 {s : State} (h : nS s) : va_Nw (.methodLinkNest RX0 64 yX4_isWithin RX4) s := h.1
theorem nS_1 {s : State} (h : nS s) : va_Nw (.methodLinkNest RX0 72 yX4_with RX4) s := h.2.1
theorem nS_2 {s : State} (h : nS s) : va_Nw (.methodLinkNest RX0 76 yX4_without RX4) s := h.2.2.1
theorem nS_3 {s : State} (h : nS s) : va_Nw (.methodLinkNest RX0 95 yX4_has RX4) s := h.2.2.2.1
theorem nS_4 {s : State} (h : nS s) : va_Nw (.methodLinkNest RX1 9 yX4_isWithin RX4) s := h.2.2.2.2.1
theorem nS_5 {s : State} (h : nS s) : va_Nw (.methodLinkNest RX3 133 yX4_isWithin RX4) s := h.2.2.2.2.2
theorem nar01 {x : Int32} (h : x = 0 ∨ x = 1) : narrow .boolean (.int x) = .int x := by rcases h with h | h <;> subst h <;> decide
theorem fit01 {x : Int32} (h : x = 0 ∨ x = 1) : fits .boolean (.int x) = true := by rcases h with h | h <;> subst h <;> decide
theorem wf_ite {τ : Type} {P : τ → Prop} {c : Prop} {hd : Decidable c} {a b : τ} (h1 : c → P a) (h2 : ¬ c → P b) : P (@ite τ c hd a b) := by
  by_cases h : c
  · rw [if_pos h]; exact h1 h
  · rw [if_neg h]; exact h2 h
theorem wf_bnd {τ α : Type} {P : τ → Prop} {x : α} {f : α → τ} (h : ∀ r, r = x → P (f r)) : P (bnd x f) := h x rfl
/-- the class's state is well formed: how many deeds, on which shelves, how long the tape and the sheets are -/
def WD (σ : sg) : Prop := (∀ j : Nat, j < 3 → 0 ≤ (rF σ (7 * j + 1)).toInt ∧ (rF σ (7 * j + 1)).toInt ≤ 8) ∧ (∀ j : Nat, j < 3 → ∀ i : Nat, 0 ≤ (σ.1 (8 * j + 1) i).toInt ∧ (σ.1 (8 * j + 1) i).toInt < 6) ∧ (0 ≤ (rF σ 22).toInt ∧ (rF σ 22).toInt ≤ 120) ∧ (∀ k : Nat, k < 4 → 0 ≤ (rF σ (28 + 2 * k)).toInt ∧ (rF σ (28 + 2 * k)).toInt ≤ 40) ∧ (0 ≤ (rF σ 24).toInt ∧ (rF σ 24).toInt ≤ 120)
def WDi (T : Int32 × sg) : Prop := WD T.2
theorem wd_deeds {σ : sg} (h : WD σ) {j : Nat} (hj : j < 3) : 0 ≤ (rF σ (7 * j + 1)).toInt ∧ (rF σ (7 * j + 1)).toInt ≤ 8 := h.1 j hj
theorem wd_shelf {σ : sg} (h : WD σ) {j : Nat} (hj : j < 3) (i : Int32) : 0 ≤ (rA σ (8 * j + 1) i).toInt ∧ (rA σ (8 * j + 1) i).toInt < 6 := h.2.1 j hj _
theorem wd_len {σ : sg} (h : WD σ) : 0 ≤ (rF σ 22).toInt ∧ (rF σ 22).toInt ≤ 120 := h.2.2.1
theorem wd_size {σ : sg} (h : WD σ) {k : Nat} (hk : k < 4) : 0 ≤ (rF σ (28 + 2 * k)).toInt ∧ (rF σ (28 + 2 * k)).toInt ≤ 40 := h.2.2.2.1 k hk
theorem wd_next {σ : sg} (h : WD σ) : 0 ≤ (rF σ 24).toInt ∧ (rF σ 24).toInt ≤ 120 := h.2.2.2.2
theorem sA_other {σ : sg} {a b : Nat} {i x : Int32} (h : b ≠ a) : (sA σ a i x).1 b = σ.1 b := by
  show va_up σ.1 a _ b = _
  simp [va_up, h]
theorem sA_F {σ : sg} {a : Nat} {i x : Int32} {k : Nat} : rF (sA σ a i x) k = rF σ k := rfl
theorem sF_other {σ : sg} {i k : Nat} {x : Int32} (h : k ≠ i) : rF (sF9 σ i x) k = rF σ k := by
  show va_up σ.2 i x k = _
  simp [va_up, h, rF]
theorem sF_same9 {σ : sg} {i : Nat} {x : Int32} : rF (sF9 σ i x) i = x := by
  show va_up σ.2 i x i = _
  simp [va_up]
theorem wdA {σ : sg} (h : WD σ) {a : Nat} {i x : Int32} (ha : a ≠ 1 ∧ a ≠ 9 ∧ a ≠ 17) : WD (sA σ a i x) := by
  refine ⟨h.1, fun j hj k => ?_, h.2.2.1, h.2.2.2⟩
  rw [sA_other (by omega)]
  exact h.2.1 j hj k
theorem wdAs {σ : sg} (h : WD σ) {j0 : Nat} {i x : Int32} (h1 : 0 ≤ x.toInt) (h2 : x.toInt < 6) : WD (sA σ (8 * j0 + 1) i x) := by
  refine ⟨h.1, fun j hj k => ?_, h.2.2.1, h.2.2.2⟩
  by_cases e : j = j0
  · subst e
    show 0 ≤ (va_up σ.1 (8 * j + 1) (upd (σ.1 (8 * j + 1)) i.toNatClampNeg x) (8 * j + 1) k).toInt ∧ _
    have e1 : va_up σ.1 (8 * j + 1) (upd (σ.1 (8 * j + 1)) i.toNatClampNeg x) (8 * j + 1) k = upd (σ.1 (8 * j + 1)) i.toNatClampNeg x k := by simp [va_up]
    have e2 : (sA σ (8 * j + 1) i x).1 (8 * j + 1) k = upd (σ.1 (8 * j + 1)) i.toNatClampNeg x k := e1
    rw [e1, e2]
    by_cases hk : k = i.toNatClampNeg
    · subst hk; rw [pk_us]; exact ⟨h1, h2⟩
    · rw [pk_un hk]; exact h.2.1 j hj k
  · rw [sA_other (by omega)]
    exact h.2.1 j hj k
theorem wdF {σ : sg} (h : WD σ) {i : Nat} {x : Int32} (ha : i ≠ 1 ∧ i ≠ 8 ∧ i ≠ 15 ∧ i ≠ 22 ∧ i ≠ 24 ∧ i ≠ 28 ∧ i ≠ 30 ∧ i ≠ 32 ∧ i ≠ 34) : WD (sF9 σ i x) := by
  refine ⟨fun j hj => ?_, h.2.1, ?_, fun k hk => ?_, ?_⟩
  · rw [sF_other (by omega)]; exact h.1 j hj
  · rw [sF_other (by omega)]; exact h.2.2.1
  · rw [sF_other (by omega)]; exact h.2.2.2.1 k hk
  · rw [sF_other (by omega)]; exact h.2.2.2.2
theorem wdFd {σ : sg} (h : WD σ) {j0 : Nat} (hj0 : j0 < 3) {x : Int32} (h1 : 0 ≤ x.toInt) (h2 : x.toInt ≤ 8) : WD (sF9 σ (7 * j0 + 1) x) := by
  refine ⟨fun j hj => ?_, h.2.1, ?_, fun k hk => ?_, ?_⟩
  · by_cases e : j = j0
    · subst e; rw [sF_same9]; exact ⟨h1, h2⟩
    · rw [sF_other (by omega)]; exact h.1 j hj
  · rw [sF_other (by omega)]; exact h.2.2.1
  · rw [sF_other (by omega)]; exact h.2.2.2.1 k hk
  · rw [sF_other (by omega)]; exact h.2.2.2.2
theorem wdFl {σ : sg} (h : WD σ) {x : Int32} (h1 : 0 ≤ x.toInt) (h2 : x.toInt ≤ 120) : WD (sF9 σ 22 x) := by
  refine ⟨fun j hj => ?_, h.2.1, ?_, fun k hk => ?_, ?_⟩
  · rw [sF_other (by omega)]; exact h.1 j hj
  · rw [sF_same9]; exact ⟨h1, h2⟩
  · rw [sF_other (by omega)]; exact h.2.2.2.1 k hk
  · rw [sF_other (by omega)]; exact h.2.2.2.2
theorem wdFs {σ : sg} (h : WD σ) {k0 : Nat} (hk0 : k0 < 4) {x : Int32} (h1 : 0 ≤ x.toInt) (h2 : x.toInt ≤ 40) : WD (sF9 σ (28 + 2 * k0) x) := by
  refine ⟨fun j hj => ?_, h.2.1, ?_, fun k hk => ?_, ?_⟩
  · rw [sF_other (by omega)]; exact h.1 j hj
  · rw [sF_other (by omega)]; exact h.2.2.1
  · by_cases e : k = k0
    · subst e; rw [sF_same9]; exact ⟨h1, h2⟩
    · rw [sF_other (by omega)]; exact h.2.2.2.1 k hk
  · rw [sF_other (by omega)]; exact h.2.2.2.2
theorem wdC {σ : sg} (h : WD σ) {a b : Nat} {sp dp n : Int32} (hb : b ≠ 1 ∧ b ≠ 9 ∧ b ≠ 17) : WD (sC σ a sp b dp n) := by
  refine ⟨h.1, fun j hj k => ?_, h.2.2.1, h.2.2.2⟩
  have e : (sC σ a sp b dp n).1 (8 * j + 1) = σ.1 (8 * j + 1) := by
    show va_up σ.1 b _ _ = _
    have : 8 * j + 1 ≠ b := by omega
    simp [va_up, this]
  rw [e]
  exact h.2.1 j hj k
theorem wdCs {σ : sg} (h : WD σ) {i j0 : Nat} (hi : i < 3) (_hj0 : j0 < 3) {sp dp n : Int32} : WD (sC σ (8 * i + 1) sp (8 * j0 + 1) dp n) := by
  refine ⟨h.1, fun j hj k => ?_, h.2.2.1, h.2.2.2⟩
  by_cases e : j = j0
  · subst e
    have e1 : (sC σ (8 * i + 1) sp (8 * j + 1) dp n).1 (8 * j + 1) k = va_cpy (σ.1 (8 * i + 1)) (σ.1 (8 * j + 1)) sp.toNatClampNeg dp.toNatClampNeg n.toNatClampNeg k := by
      show va_up σ.1 (8 * j + 1) _ (8 * j + 1) k = _
      simp [va_up]
    rw [e1]
    unfold va_cpy
    split
    · exact h.2.1 i hi _
    · exact h.2.1 j hj _
  · have e1 : (sC σ (8 * i + 1) sp (8 * j0 + 1) dp n).1 (8 * j + 1) = σ.1 (8 * j + 1) := by
      show va_up σ.1 (8 * j0 + 1) _ (8 * j + 1) = _
      unfold va_up
      rw [if_neg (by omega)]
    rw [e1]
    exact h.2.1 j hj k
/-- a row of the reference: how many deeds, on which shelves, what they hang on -/
def RW (r : Nat → Int32) : Prop := (0 ≤ (r 0).toInt ∧ (r 0).toInt ≤ 8) ∧ (∀ d : Nat, d < 8 → 0 ≤ (r (40 + d)).toInt ∧ (r (40 + d)).toInt < 6) ∧ (∀ d : Nat, (d : Int) < (r 0).toInt → -1 ≤ (r (72 + d)).toInt ∧ (r (72 + d)).toInt < d) ∧ (∀ k : Nat, k < 10 → -1 ≤ (r (22 + k)).toInt ∧ (r (22 + k)).toInt ≤ 7)
def WM (σ : sg) : Prop := (∀ a : Nat, a < 4 → RW (σ.1 a)) ∧ (0 ≤ (rF σ 1).toInt ∧ (rF σ 1).toInt ≤ 120) ∧ (∀ k : Nat, 0 ≤ (σ.1 8 k).toInt ∧ (σ.1 8 k).toInt ≤ 40) ∧ (0 ≤ (rF σ 3).toInt ∧ (rF σ 3).toInt ≤ 120) ∧ (0 ≤ (rF σ 4).toInt ∧ (rF σ 4).toInt ≤ 120)
def WMi (T : Int32 × sg) : Prop := WM T.2
theorem wm_many {σ : sg} (h : WM σ) {a : Nat} (ha : a < 4) : 0 ≤ (rA σ a 0).toInt ∧ (rA σ a 0).toInt ≤ 8 := (h.1 a ha).1
theorem wm_taped {σ : sg} (h : WM σ) : 0 ≤ (rF σ 1).toInt ∧ (rF σ 1).toInt ≤ 120 := h.2.1
theorem wm_size {σ : sg} (h : WM σ) (i : Int32) : 0 ≤ (rA σ 8 i).toInt ∧ (rA σ 8 i).toInt ≤ 40 := h.2.2.1 _
theorem wm_from {σ : sg} (h : WM σ) : 0 ≤ (rF σ 3).toInt ∧ (rF σ 3).toInt ≤ 120 := h.2.2.2.1
theorem wm_to {σ : sg} (h : WM σ) : 0 ≤ (rF σ 4).toInt ∧ (rF σ 4).toInt ≤ 120 := h.2.2.2.2
theorem i32n {i : Int32} (h1 : 0 ≤ i.toInt) (k : Nat) (hk : (k : Int) + i.toInt < 2147483648) {c : Int32} (hc : c.toInt = k) : (c + i).toNatClampNeg = k + i.toNatClampNeg := by
  have e : (c + i).toInt = c.toInt + i.toInt := addI (by omega) (by omega)
  have e1 : (c + i).toNatClampNeg = (c + i).toInt.toNat := rfl
  have e2 : i.toNatClampNeg = i.toInt.toNat := rfl
  rw [e1, e2, e]; omega
theorem wm_shelf {σ : sg} (h : WM σ) {a : Nat} (ha : a < 4) (d : Int32) (h1 : 0 ≤ d.toInt) (h2 : d.toInt < 8) : 0 ≤ (rA σ a (40 + d)).toInt ∧ (rA σ a (40 + d)).toInt < 6 := by
  have e := i32n h1 40 (by omega) (c := 40) rfl
  unfold rA
  rw [e]
  exact (h.1 a ha).2.1 _ (clLt (n := 8) h1 (by omega))
theorem wm_on {σ : sg} (h : WM σ) {a : Nat} (ha : a < 4) (d : Int32) (h1 : 0 ≤ d.toInt) (h2 : d.toInt < (rA σ a 0).toInt) : -1 ≤ (rA σ a (72 + d)).toInt ∧ (rA σ a (72 + d)).toInt < d.toInt := by
  have hm := (h.1 a ha).1
  have h2' : d.toInt < (σ.1 a 0).toInt := h2
  have e := i32n h1 72 (by omega) (c := 72) rfl
  have hc := clI h1
  have h3 := (h.1 a ha).2.2.1 d.toNatClampNeg (by omega)
  unfold rA
  rw [e]
  omega
/-- a row of the reference is written where nothing hangs on it -/
theorem wmA {σ : sg} (h : WM σ) {a : Nat} {i x : Int32} (ha : 4 ≤ a ∧ a ≠ 8) : WM (sA σ a i x) := by
  refine ⟨fun b hb => ?_, h.2.1, fun k => ?_, h.2.2.2⟩
  · rw [sA_other (by omega)]; exact h.1 b hb
  · rw [sA_other (by omega)]; exact h.2.2.1 k
theorem wmF {σ : sg} (h : WM σ) {i : Nat} {x : Int32} (ha : i ≠ 1 ∧ i ≠ 3 ∧ i ≠ 4) : WM (sF9 σ i x) := by
  refine ⟨h.1, ?_, h.2.2.1, ?_, ?_⟩
  · rw [sF_other (by omega)]; exact h.2.1
  · rw [sF_other (by omega)]; exact h.2.2.2.1
  · rw [sF_other (by omega)]; exact h.2.2.2.2
theorem wmFt {σ : sg} (h : WM σ) {x : Int32} (h1 : 0 ≤ x.toInt) (h2 : x.toInt ≤ 120) : WM (sF9 σ 1 x) := by
  refine ⟨h.1, ?_, h.2.2.1, ?_, ?_⟩
  · rw [sF_same9]; exact ⟨h1, h2⟩
  · rw [sF_other (by omega)]; exact h.2.2.2.1
  · rw [sF_other (by omega)]; exact h.2.2.2.2
theorem wmFf {σ : sg} (h : WM σ) {x : Int32} (h1 : 0 ≤ x.toInt) (h2 : x.toInt ≤ 120) : WM (sF9 σ 3 x) := by
  refine ⟨h.1, ?_, h.2.2.1, ?_, ?_⟩
  · rw [sF_other (by omega)]; exact h.2.1
  · rw [sF_same9]; exact ⟨h1, h2⟩
  · rw [sF_other (by omega)]; exact h.2.2.2.2
theorem wmFo {σ : sg} (h : WM σ) {x : Int32} (h1 : 0 ≤ x.toInt) (h2 : x.toInt ≤ 120) : WM (sF9 σ 4 x) := by
  refine ⟨h.1, ?_, h.2.2.1, ?_, ?_⟩
  · rw [sF_other (by omega)]; exact h.2.1
  · rw [sF_other (by omega)]; exact h.2.2.2.1
  · rw [sF_same9]; exact ⟨h1, h2⟩
theorem wmS {σ : sg} (h : WM σ) {i x : Int32} (h1 : 0 ≤ x.toInt) (h2 : x.toInt ≤ 40) : WM (sA σ 8 i x) := by
  refine ⟨fun b hb => ?_, h.2.1, fun k => ?_, h.2.2.2⟩
  · rw [sA_other (by omega)]; exact h.1 b hb
  · have e1 : (sA σ 8 i x).1 8 k = upd (σ.1 8) i.toNatClampNeg x k := by unfold sA va_up; simp
    rw [e1]
    by_cases hk : k = i.toNatClampNeg
    · subst hk; rw [pk_us]; exact ⟨h1, h2⟩
    · rw [pk_un hk]; exact h.2.2.1 k
theorem sA_same {σ : sg} {a : Nat} {i x : Int32} : (sA σ a i x).1 a = upd (σ.1 a) i.toNatClampNeg x := by
  show va_up σ.1 a _ a = _
  simp [va_up]
/-- a row of the reference's rows is written: what must hold of the new one -/
theorem wmR {σ : sg} (h : WM σ) {a : Nat} {i x : Int32} (_ha : a < 4) (hr : RW (upd (σ.1 a) i.toNatClampNeg x)) : WM (sA σ a i x) := by
  refine ⟨fun b hb => ?_, h.2.1, fun k => ?_, h.2.2.2⟩
  · by_cases e : b = a
    · subst e; rw [sA_same]; exact hr
    · rw [sA_other e]; exact h.1 b hb
  · rw [sA_other (by omega)]; exact h.2.2.1 k
theorem rwN {r : Nat → Int32} (h : RW r) {k : Nat} {x : Int32} (hk : k ≠ 0 ∧ (k < 22 ∨ 32 ≤ k) ∧ (k < 40 ∨ 48 ≤ k) ∧ (k < 72 ∨ 80 ≤ k)) : RW (upd r k x) := by
  have e0 : upd r k x 0 = r 0 := pk_un (by omega)
  refine ⟨by rw [e0]; exact h.1, fun d hd => ?_, fun d hd => ?_, fun d hd => ?_⟩
  · rw [pk_un (by omega)]; exact h.2.1 d hd
  · rw [e0] at hd
    have := h.1
    rw [pk_un (by omega)]; exact h.2.2.1 d hd
  · rw [pk_un (by omega)]; exact h.2.2.2 d hd
/-- where nothing hangs on: a place by its number -/
theorem wmRn {σ : sg} (h : WM σ) {a : Nat} {i x : Int32} (ha : a < 4) (h0 : 0 < i.toInt) (h1 : i.toInt < 40 ∨ 48 ≤ i.toInt) (h2 : i.toInt < 72 ∨ 80 ≤ i.toInt) (h3 : i.toInt < 22 ∨ 32 ≤ i.toInt) : WM (sA σ a i x) := by
  have hc := clI (i := i) (by omega)
  exact wmR h ha (rwN (h.1 a ha) (by omega))
theorem wmRs {σ : sg} (h : WM σ) {a : Nat} {i x : Int32} (ha : a < 4) (h0 : 40 ≤ i.toInt) (h1 : i.toInt < 48) (hx1 : 0 ≤ x.toInt) (hx2 : x.toInt < 6) : WM (sA σ a i x) := by
  have hc := clI (i := i) (by omega)
  refine wmR h ha ?_
  have hr := h.1 a ha
  have e0 : upd (σ.1 a) i.toNatClampNeg x 0 = σ.1 a 0 := pk_un (by omega)
  refine ⟨by rw [e0]; exact hr.1, fun d hd => ?_, fun d hd => ?_, fun d hd => ?_⟩
  · by_cases e : 40 + d = i.toNatClampNeg
    · rw [← e, pk_us]; exact ⟨hx1, hx2⟩
    · rw [pk_un e]; exact hr.2.1 d hd
  · rw [e0] at hd
    have := hr.1
    rw [pk_un (by omega)]; exact hr.2.2.1 d hd
  · rw [pk_un (by omega)]; exact hr.2.2.2 d hd
theorem wmRo {σ : sg} (h : WM σ) {a : Nat} {i x : Int32} (ha : a < 4) (h0 : 72 ≤ i.toInt) (h1 : i.toInt < 80) (hx1 : -1 ≤ x.toInt) (hx2 : x.toInt < i.toInt - 72) : WM (sA σ a i x) := by
  have hc := clI (i := i) (by omega)
  refine wmR h ha ?_
  have hr := h.1 a ha
  have e0 : upd (σ.1 a) i.toNatClampNeg x 0 = σ.1 a 0 := pk_un (by omega)
  refine ⟨by rw [e0]; exact hr.1, fun d hd => ?_, fun d hd => ?_, fun d hd => ?_⟩
  · rw [pk_un (by omega)]; exact hr.2.1 d hd
  · rw [e0] at hd
    by_cases e : 72 + d = i.toNatClampNeg
    · rw [← e, pk_us]; omega
    · rw [pk_un e]; exact hr.2.2.1 d hd
  · rw [pk_un (by omega)]; exact hr.2.2.2 d hd
theorem wmRm {σ : sg} (h : WM σ) {a : Nat} {x : Int32} (ha : a < 4) (h0 : 0 ≤ x.toInt) (h1 : x.toInt ≤ 8) (hon : ∀ d : Nat, (d : Int) < x.toInt → (σ.1 a 0).toInt ≤ d → -1 ≤ (σ.1 a (72 + d)).toInt ∧ (σ.1 a (72 + d)).toInt < d) : WM (sA σ a 0 x) := by
  refine wmR h ha ?_
  have hr := h.1 a ha
  have e0 : upd (σ.1 a) (0 : Int32).toNatClampNeg x 0 = x := pk_us
  refine ⟨by rw [e0]; exact ⟨h0, h1⟩, fun d hd => ?_, fun d hd => ?_, fun d hd => ?_⟩
  · rw [pk_un (by show 40 + d ≠ 0; omega)]; exact hr.2.1 d hd
  · rw [e0] at hd
    rw [pk_un (by show 72 + d ≠ 0; omega)]
    by_cases q : (d : Int) < (σ.1 a 0).toInt
    · exact hr.2.2.1 d q
    · exact hon d hd (by omega)
  · rw [pk_un (by show 22 + d ≠ 0; omega)]; exact hr.2.2.2 d hd
theorem mKeep {σ s1 : sg} {a : Nat} {i x : Int32} (e : s1 = sA σ a i x) (hi : 0 < i.toInt) : (rA s1 a 0).toInt = (rA σ a 0).toInt := by
  subst e
  have hc := clI (i := i) (by omega)
  have : rA (sA σ a i x) a 0 = rA σ a 0 := by
    show (sA σ a i x).1 a 0 = σ.1 a 0
    rw [sA_same]
    exact pk_un (by omega)
  rw [this]
/-- a new deed of the reference: behind the row that says on what it hangs, one deed more -/
theorem wmLay {σ s6 : sg} {d : Int32} (h : WM s6) (e : s6 = sA σ 0 (72 + d) (-1)) (hd0 : 0 ≤ d.toInt) (hd : d.toInt < 8) (hm : (rA s6 0 0).toInt = d.toInt) : WM (sA s6 0 0 (rA s6 0 0 + 1)) := by
  have k1 : (1 : Int32).toInt = 1 := rfl
  have a1 := addI (x := rA s6 0 0) (y := 1) (by omega) (by omega)
  refine wmRm h (by decide) (by omega) (by omega) (fun k hk1 hk2 => ?_)
  have hm' : (s6.1 0 0).toInt = d.toInt := hm
  have hc := clI hd0
  have e1 := i32n hd0 72 (by omega) (c := 72) rfl
  have hk : k = d.toNatClampNeg := by omega
  have e2 : s6.1 0 (72 + k) = -1 := by
    rw [e, sA_same, e1, ← hk]; exact pk_us
  rw [e2]
  have k2 : (-1 : Int32).toInt = -1 := rfl
  omega
theorem wmRp {σ : sg} (h : WM σ) {a : Nat} {i x : Int32} (ha : a < 4) (h0 : 22 ≤ i.toInt) (h1 : i.toInt < 32) (hx1 : -1 ≤ x.toInt) (hx2 : x.toInt ≤ 7) : WM (sA σ a i x) := by
  have hc := clI (i := i) (by omega)
  refine wmR h ha ?_
  have hr := h.1 a ha
  have e0 : upd (σ.1 a) i.toNatClampNeg x 0 = σ.1 a 0 := pk_un (by omega)
  refine ⟨by rw [e0]; exact hr.1, fun d hd => ?_, fun d hd => ?_, fun d hd => ?_⟩
  · rw [pk_un (by omega)]; exact hr.2.1 d hd
  · rw [e0] at hd
    rw [pk_un (by omega)]; exact hr.2.2.1 d hd
  · by_cases e : 22 + d = i.toNatClampNeg
    · rw [← e, pk_us]; exact ⟨hx1, hx2⟩
    · rw [pk_un e]; exact hr.2.2.2 d hd
theorem wm_spot {σ : sg} (h : WM σ) {a : Nat} (ha : a < 4) (d : Int32) (h1 : 0 ≤ d.toInt) (h2 : d.toInt < 10) : -1 ≤ (rA σ a (22 + d)).toInt ∧ (rA σ a (22 + d)).toInt ≤ 7 := by
  have e := i32n h1 22 (by omega) (c := 22) rfl
  unfold rA
  rw [e]
  exact (h.1 a ha).2.2.2 _ (clLt (n := 10) h1 (by omega))
theorem wmLg {σ : sg} (h : WM σ) {a : Nat} {i x : Int32} (ha : a < 4) (hi : (40 ≤ i.toInt ∧ i.toInt < 48 ∧ 0 ≤ x.toInt ∧ x.toInt < 6) ∨ (32 ≤ i.toInt ∧ i.toInt < 40)) : WM (sA σ a i x) := by
  rcases hi with ⟨h1, h2, h3, h4⟩ | ⟨h1, h2⟩
  · exact wmRs h ha h1 h2 h3 h4
  · exact wmRn h ha (by omega) (by omega) (by omega) (by omega)
theorem rA0 {σ : sg} {a b : Nat} {i x : Int32} (h : 0 < i.toInt) : rA (sA σ a i x) b 0 = rA σ b 0 := by
  have hc := clI (i := i) (by omega)
  show (sA σ a i x).1 b 0 = σ.1 b 0
  by_cases e : b = a
  · subst e; rw [sA_same]; exact pk_un (by omega)
  · rw [sA_other e]
theorem rA6 {σ : sg} {a b : Nat} {i x : Int32} (h : b ≠ a) : rA (sA σ a i x) b 0 = rA σ b 0 := by
  show (sA σ a i x).1 b 0 = σ.1 b 0
  rw [sA_other h]
theorem andLe {x y : Int32} (h : 0 ≤ x.toInt) : 0 ≤ (x &&& y).toInt ∧ (x &&& y).toInt ≤ x.toInt := by
  have h1 : (x &&& y).toBitVec.toNat ≤ x.toBitVec.toNat := by
    rw [Int32.toBitVec_and, BitVec.toNat_and]; exact Nat.and_le_left
  have e1 : x.toInt = x.toBitVec.toInt := rfl
  have e2 : (x &&& y).toInt = (x &&& y).toBitVec.toInt := rfl
  have l1 := x.toBitVec.isLt
  rw [BitVec.toInt_eq_toNat_cond] at e1 e2
  rw [e2]
  split at e1 <;> split <;> omega
theorem jrem6 {x : Int32} (h : 0 ≤ x.toInt) {m : Nat} (hm : 0 < m) (hm2 : m < 1000) : 0 ≤ (jrem x (nI m)).toInt ∧ (jrem x (nI m)).toInt < m := by
  obtain ⟨n, hn, rfl⟩ := nI_of (x := x) (fun q => by have := ltI q; have k0 : (0 : Int32).toInt = 0 := rfl; omega)
  unfold jrem
  rw [pk_rem hn hm (by omega), nI_toInt (by have := Nat.mod_lt n hm; omega)]
  have := Nat.mod_lt n hm
  omega
theorem jushr8 (x : Int32) : 0 ≤ (jushr x 8).toInt ∧ (jushr x 8).toInt < 16777216 := by
  have h := pk_ushr x 8 8 (by decide)
  have l1 := x.toBitVec.isLt
  have e : (jushr x 8).toInt = (jushr x 8).toBitVec.toInt := rfl
  rw [BitVec.toInt_eq_toNat_cond] at e
  have h' : (jushr x 8).toBitVec.toNat = x.toBitVec.toNat / 2 ^ 8 := h
  rw [e, h']
  split <;> omega
end FC
