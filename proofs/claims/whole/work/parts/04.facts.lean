section FC
theorem ltI {x y : Int32} (h : x < y) : x.toInt < y.toInt := Int32.lt_iff_toInt_lt.mp h
theorem leI {x y : Int32} (h : x ≤ y) : x.toInt ≤ y.toInt := Int32.le_iff_toInt_le.mp h
theorem nltI {x y : Int32} (h : ¬ x < y) : y.toInt ≤ x.toInt := Int.not_lt.mp (fun q => h (Int32.lt_iff_toInt_lt.mpr q))
theorem nleI {x y : Int32} (h : ¬ x ≤ y) : y.toInt < x.toInt := Int.not_le.mp (fun q => h (Int32.le_iff_toInt_le.mpr q))
theorem eqI {x y : Int32} (h : x = y) : x.toInt = y.toInt := by rw [h]
theorem neI {x y : Int32} (h : ¬ x = y) : x.toInt ≠ y.toInt := fun q => h (Int32.toInt.inj q)
theorem bmI {a : Int} (h1 : -2147483648 ≤ a) (h2 : a < 2147483648) : a.bmod (2 ^ 32) = a := by
  rw [Int.bmod_def]
  split <;> omega
theorem addI {x y : Int32} (h1 : -2147483648 ≤ x.toInt + y.toInt) (h2 : x.toInt + y.toInt < 2147483648) : (x + y).toInt = x.toInt + y.toInt := by rw [Int32.toInt_add]; exact bmI h1 h2
theorem subI {x y : Int32} (h1 : -2147483648 ≤ x.toInt - y.toInt) (h2 : x.toInt - y.toInt < 2147483648) : (x - y).toInt = x.toInt - y.toInt := by rw [Int32.toInt_sub]; exact bmI h1 h2
theorem mulI {x y : Int32} (h1 : -2147483648 ≤ x.toInt * y.toInt) (h2 : x.toInt * y.toInt < 2147483648) : (x * y).toInt = x.toInt * y.toInt := by rw [Int32.toInt_mul]; exact bmI h1 h2
theorem vinM {i : Int32} {n : Nat} (h1 : 0 ≤ i.toInt) (h2 : i.toInt < n) : vp_in i n := vp_in_iff.mpr ⟨h1, h2⟩
theorem vinN {i : Int32} {m n : Nat} (h : m = n) (h1 : 0 ≤ i.toInt) (h2 : i.toInt < n) : vp_in i m := by rw [h]; exact vinM h1 h2
theorem clLt {i : Int32} {n : Nat} (h1 : 0 ≤ i.toInt) (h2 : i.toInt < n) : i.toNatClampNeg < n := by
  have e : i.toNatClampNeg = i.toInt.toNat := rfl
  rw [e]; omega
theorem clI {i : Int32} (h1 : 0 ≤ i.toInt) : (i.toNatClampNeg : Int) = i.toInt := by
  have e : i.toNatClampNeg = i.toInt.toNat := rfl
  rw [e]; omega
theorem wlc0 {G : gT} (h : gfl G = true) {j : Nat} (hj : j < 3) : wln (gfl G) (8 * j) = 8 := by
  rw [h]; rcases (show j = 0 ∨ j = 1 ∨ j = 2 by omega) with rfl | rfl | rfl <;> rfl
theorem wlc1 {G : gT} (h : gfl G = true) {j : Nat} (hj : j < 3) : wln (gfl G) (8 * j + 1) = 8 := by
  rw [h]; rcases (show j = 0 ∨ j = 1 ∨ j = 2 by omega) with rfl | rfl | rfl <;> rfl
theorem wlc2 {G : gT} (h : gfl G = true) {j : Nat} (hj : j < 3) : wln (gfl G) (8 * j + 2) = 8 := by
  rw [h]; rcases (show j = 0 ∨ j = 1 ∨ j = 2 by omega) with rfl | rfl | rfl <;> rfl
theorem wlc3 {G : gT} (h : gfl G = true) {j : Nat} (hj : j < 3) : wln (gfl G) (8 * j + 3) = 8 := by
  rw [h]; rcases (show j = 0 ∨ j = 1 ∨ j = 2 by omega) with rfl | rfl | rfl <;> rfl
theorem wlc4 {G : gT} (h : gfl G = true) {j : Nat} (hj : j < 3) : wln (gfl G) (8 * j + 4) = 8 := by
  rw [h]; rcases (show j = 0 ∨ j = 1 ∨ j = 2 by omega) with rfl | rfl | rfl <;> rfl
theorem wlc5 {G : gT} (h : gfl G = true) {j : Nat} (hj : j < 3) : wln (gfl G) (8 * j + 5) = 6 := by
  rw [h]; rcases (show j = 0 ∨ j = 1 ∨ j = 2 by omega) with rfl | rfl | rfl <;> rfl
theorem wlc6 {G : gT} (h : gfl G = true) {j : Nat} (hj : j < 3) : wln (gfl G) (8 * j + 6) = 10 := by
  rw [h]; rcases (show j = 0 ∨ j = 1 ∨ j = 2 by omega) with rfl | rfl | rfl <;> rfl
theorem wlc7 {G : gT} (h : gfl G = true) {j : Nat} (hj : j < 3) : wln (gfl G) (8 * j + 7) = 6 := by
  rw [h]; rcases (show j = 0 ∨ j = 1 ∨ j = 2 by omega) with rfl | rfl | rfl <;> rfl
theorem wls {G : gT} (h : gfl G = true) {j : Nat} (hj : j < 4) : wln (gfl G) (25 + j) = 40 := by
  rw [h]; rcases (show j = 0 ∨ j = 1 ∨ j = 2 ∨ j = 3 by omega) with rfl | rfl | rfl | rfl <;> rfl
theorem wld {G : gT} (h : gfl G = true) (a : Nat) {n : Nat} (e : wln true a = n) : wln (gfl G) a = n := by rw [h]; exact e
theorem wlm {G : gT} (h : gfl G = false) (a : Nat) {n : Nat} (e : wln false a = n) : wln (gfl G) a = n := by rw [h]; exact e
theorem wlm_r {G : gT} (h : gfl G = false) {a : Nat} (ha : a < 4) : wln (gfl G) a = 80 := by
  rw [h]; rcases (show a = 0 ∨ a = 1 ∨ a = 2 ∨ a = 3 by omega) with rfl | rfl | rfl | rfl <;> rfl
theorem nS_0 {s : State} (h : nS s) : va_Nw (.methodLinkNest RX0 64 yX4_isWithin RX4) s := h.1
theorem nS_1 {s : State} (h : nS s) : va_Nw (.methodLinkNest RX0 72 yX4_with RX4) s := h.2.1
theorem nS_2 {s : State} (h : nS s) : va_Nw (.methodLinkNest RX0 76 yX4_without RX4) s := h.2.2.1
theorem nS_3 {s : State} (h : nS s) : va_Nw (.methodLinkNest RX0 95 yX4_has RX4) s := h.2.2.2.1
theorem nS_4 {s : State} (h : nS s) : va_Nw (.methodLinkNest RX1 9 yX4_isWithin RX4) s := h.2.2.2.2.1
theorem nS_5 {s : State} (h : nS s) : va_Nw (.methodLinkNest RX3 133 yX4_isWithin RX4) s := h.2.2.2.2.2
theorem nar01 {x : Int32} (h : x = 0 ∨ x = 1) : narrow .boolean (.int x) = .int x := by rcases h with h | h <;> subst h <;> decide
theorem fit01 {x : Int32} (h : x = 0 ∨ x = 1) : fits .boolean (.int x) = true := by rcases h with h | h <;> subst h <;> decide
theorem wf_ite {τ : Type} {P : τ → Prop} {c : Prop} {hd : Decidable c} {a b : τ} (h1 : c → P a) (h2 : ¬ c → P b) : P (@ite τ c hd a b) := by
  by_cases h : c
  · rw [if_pos h]; exact h1 h
  · rw [if_neg h]; exact h2 h
theorem wf_bnd {τ α : Type} {P : τ → Prop} {x : α} {f : α → τ} (h : ∀ r, r = x → P (f r)) : P (bnd x f) := h x rfl
/-- the class's state is well formed: how many deeds, on which shelves, how long the tape and the sheets are -/
def WD (σ : sg) : Prop := (∀ j : Nat, j < 3 → 0 ≤ (rF σ (7 * j + 1)).toInt ∧ (rF σ (7 * j + 1)).toInt ≤ 8) ∧ (∀ j : Nat, j < 3 → ∀ i : Nat, 0 ≤ (σ.1 (8 * j + 1) i).toInt ∧ (σ.1 (8 * j + 1) i).toInt < 6) ∧ (0 ≤ (rF σ 22).toInt ∧ (rF σ 22).toInt ≤ 120) ∧ (∀ k : Nat, k < 4 → 0 ≤ (rF σ (28 + 2 * k)).toInt ∧ (rF σ (28 + 2 * k)).toInt ≤ 40)
def WDi (T : Int32 × sg) : Prop := WD T.2
theorem wd_deeds {σ : sg} (h : WD σ) {j : Nat} (hj : j < 3) : 0 ≤ (rF σ (7 * j + 1)).toInt ∧ (rF σ (7 * j + 1)).toInt ≤ 8 := h.1 j hj
theorem wd_shelf {σ : sg} (h : WD σ) {j : Nat} (hj : j < 3) (i : Int32) : 0 ≤ (rA σ (8 * j + 1) i).toInt ∧ (rA σ (8 * j + 1) i).toInt < 6 := h.2.1 j hj _
theorem wd_len {σ : sg} (h : WD σ) : 0 ≤ (rF σ 22).toInt ∧ (rF σ 22).toInt ≤ 120 := h.2.2.1
theorem wd_size {σ : sg} (h : WD σ) {k : Nat} (hk : k < 4) : 0 ≤ (rF σ (28 + 2 * k)).toInt ∧ (rF σ (28 + 2 * k)).toInt ≤ 40 := h.2.2.2 k hk
theorem sA_other {σ : sg} {a b : Nat} {i x : Int32} (h : b ≠ a) : (sA σ a i x).1 b = σ.1 b := by
  show va_up σ.1 a _ b = _
  simp [va_up, h]
theorem sA_F {σ : sg} {a : Nat} {i x : Int32} {k : Nat} : rF (sA σ a i x) k = rF σ k := rfl
theorem sF_other {σ : sg} {i k : Nat} {x : Int32} (h : k ≠ i) : rF (sF9 σ i x) k = rF σ k := by
  show va_up σ.2 i x k = _
  simp [va_up, h, rF]
theorem sF_same9 {σ : sg} {i : Nat} {x : Int32} : rF (sF9 σ i x) i = x := by
  show va_up σ.2 i x i = _
  simp [va_up]
theorem wdA {σ : sg} (h : WD σ) {a : Nat} {i x : Int32} (ha : a ≠ 1 ∧ a ≠ 9 ∧ a ≠ 17) : WD (sA σ a i x) := by
  refine ⟨h.1, fun j hj k => ?_, h.2.2.1, h.2.2.2⟩
  rw [sA_other (by omega)]
  exact h.2.1 j hj k
theorem wdAs {σ : sg} (h : WD σ) {j0 : Nat} {i x : Int32} (h1 : 0 ≤ x.toInt) (h2 : x.toInt < 6) : WD (sA σ (8 * j0 + 1) i x) := by
  refine ⟨h.1, fun j hj k => ?_, h.2.2.1, h.2.2.2⟩
  by_cases e : j = j0
  · subst e
    show 0 ≤ (va_up σ.1 (8 * j + 1) (upd (σ.1 (8 * j + 1)) i.toNatClampNeg x) (8 * j + 1) k).toInt ∧ _
    have e1 : va_up σ.1 (8 * j + 1) (upd (σ.1 (8 * j + 1)) i.toNatClampNeg x) (8 * j + 1) k = upd (σ.1 (8 * j + 1)) i.toNatClampNeg x k := by simp [va_up]
    have e2 : (sA σ (8 * j + 1) i x).1 (8 * j + 1) k = upd (σ.1 (8 * j + 1)) i.toNatClampNeg x k := e1
    rw [e1, e2]
    by_cases hk : k = i.toNatClampNeg
    · subst hk; rw [pk_us]; exact ⟨h1, h2⟩
    · rw [pk_un hk]; exact h.2.1 j hj k
  · rw [sA_other (by omega)]
    exact h.2.1 j hj k
theorem wdF {σ : sg} (h : WD σ) {i : Nat} {x : Int32} (ha : i ≠ 1 ∧ i ≠ 8 ∧ i ≠ 15 ∧ i ≠ 22 ∧ i ≠ 28 ∧ i ≠ 30 ∧ i ≠ 32 ∧ i ≠ 34) : WD (sF9 σ i x) := by
  refine ⟨fun j hj => ?_, h.2.1, ?_, fun k hk => ?_⟩
  · rw [sF_other (by omega)]; exact h.1 j hj
  · rw [sF_other (by omega)]; exact h.2.2.1
  · rw [sF_other (by omega)]; exact h.2.2.2 k hk
theorem wdFd {σ : sg} (h : WD σ) {j0 : Nat} (hj0 : j0 < 3) {x : Int32} (h1 : 0 ≤ x.toInt) (h2 : x.toInt ≤ 8) : WD (sF9 σ (7 * j0 + 1) x) := by
  refine ⟨fun j hj => ?_, h.2.1, ?_, fun k hk => ?_⟩
  · by_cases e : j = j0
    · subst e; rw [sF_same9]; exact ⟨h1, h2⟩
    · rw [sF_other (by omega)]; exact h.1 j hj
  · rw [sF_other (by omega)]; exact h.2.2.1
  · rw [sF_other (by omega)]; exact h.2.2.2 k hk
theorem wdFl {σ : sg} (h : WD σ) {x : Int32} (h1 : 0 ≤ x.toInt) (h2 : x.toInt ≤ 120) : WD (sF9 σ 22 x) := by
  refine ⟨fun j hj => ?_, h.2.1, ?_, fun k hk => ?_⟩
  · rw [sF_other (by omega)]; exact h.1 j hj
  · rw [sF_same9]; exact ⟨h1, h2⟩
  · rw [sF_other (by omega)]; exact h.2.2.2 k hk
theorem wdFs {σ : sg} (h : WD σ) {k0 : Nat} (hk0 : k0 < 4) {x : Int32} (h1 : 0 ≤ x.toInt) (h2 : x.toInt ≤ 40) : WD (sF9 σ (28 + 2 * k0) x) := by
  refine ⟨fun j hj => ?_, h.2.1, ?_, fun k hk => ?_⟩
  · rw [sF_other (by omega)]; exact h.1 j hj
  · rw [sF_other (by omega)]; exact h.2.2.1
  · by_cases e : k = k0
    · subst e; rw [sF_same9]; exact ⟨h1, h2⟩
    · rw [sF_other (by omega)]; exact h.2.2.2 k hk
theorem wdC {σ : sg} (h : WD σ) {a b : Nat} {sp dp n : Int32} (hb : b ≠ 1 ∧ b ≠ 9 ∧ b ≠ 17) : WD (sC σ a sp b dp n) := by
  refine ⟨h.1, fun j hj k => ?_, h.2.2.1, h.2.2.2⟩
  have e : (sC σ a sp b dp n).1 (8 * j + 1) = σ.1 (8 * j + 1) := by
    show va_up σ.1 b _ _ = _
    have : 8 * j + 1 ≠ b := by omega
    simp [va_up, this]
  rw [e]
  exact h.2.1 j hj k
theorem wdCs {σ : sg} (h : WD σ) {i j0 : Nat} (hi : i < 3) (_hj0 : j0 < 3) {sp dp n : Int32} : WD (sC σ (8 * i + 1) sp (8 * j0 + 1) dp n) := by
  refine ⟨h.1, fun j hj k => ?_, h.2.2.1, h.2.2.2⟩
  by_cases e : j = j0
  · subst e
    have e1 : (sC σ (8 * i + 1) sp (8 * j + 1) dp n).1 (8 * j + 1) k = va_cpy (σ.1 (8 * i + 1)) (σ.1 (8 * j + 1)) sp.toNatClampNeg dp.toNatClampNeg n.toNatClampNeg k := by
      show va_up σ.1 (8 * j + 1) _ (8 * j + 1) k = _
      simp [va_up]
    rw [e1]
    unfold va_cpy
    split
    · exact h.2.1 i hi _
    · exact h.2.1 j hj _
  · have e1 : (sC σ (8 * i + 1) sp (8 * j0 + 1) dp n).1 (8 * j + 1) = σ.1 (8 * j + 1) := by
      show va_up σ.1 (8 * j0 + 1) _ (8 * j + 1) = _
      unfold va_up
      rw [if_neg (by omega)]
    rw [e1]
    exact h.2.1 j hj k
/-- a row of the reference: how many deeds, on which shelves, what they hang on -/
def RW (r : Nat → Int32) : Prop := (0 ≤ (r 0).toInt ∧ (r 0).toInt ≤ 8) ∧ (∀ d : Nat, d < 8 → 0 ≤ (r (40 + d)).toInt ∧ (r (40 + d)).toInt < 6) ∧ (∀ d : Nat, (d : Int) < (r 0).toInt → -1 ≤ (r (72 + d)).toInt ∧ (r (72 + d)).toInt < d)
def WM (σ : sg) : Prop := (∀ a : Nat, a < 4 → RW (σ.1 a)) ∧ (0 ≤ (rF σ 1).toInt ∧ (rF σ 1).toInt ≤ 120) ∧ (∀ k : Nat, 0 ≤ (σ.1 8 k).toInt ∧ (σ.1 8 k).toInt ≤ 40)
def WMi (T : Int32 × sg) : Prop := WM T.2
theorem wm_many {σ : sg} (h : WM σ) {a : Nat} (ha : a < 4) : 0 ≤ (rA σ a 0).toInt ∧ (rA σ a 0).toInt ≤ 8 := (h.1 a ha).1
theorem wm_taped {σ : sg} (h : WM σ) : 0 ≤ (rF σ 1).toInt ∧ (rF σ 1).toInt ≤ 120 := h.2.1
theorem wm_size {σ : sg} (h : WM σ) (i : Int32) : 0 ≤ (rA σ 8 i).toInt ∧ (rA σ 8 i).toInt ≤ 40 := h.2.2 _
end FC
