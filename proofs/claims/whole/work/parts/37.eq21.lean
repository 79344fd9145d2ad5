section EQ21
/-- the tapes say the same -/
def TB (σ τ : sg) : Prop := rF σ 22 = rF τ 1 ∧ 0 ≤ (rF τ 1).toInt ∧ (rF τ 1).toInt ≤ 120 ∧ ∀ k : Nat, k < 120 → σ.1 24 k = τ.1 4 k ∧ 0 ≤ (τ.1 4 k).toInt ∧ (τ.1 4 k).toInt ≤ 255
theorem tb_cong {σ τ σ' τ' : sg} (h : TB σ τ) (h1 : σ'.1 24 = σ.1 24) (h2 : τ'.1 4 = τ.1 4) (h3 : rF σ' 22 = rF σ 22) (h4 : rF τ' 1 = rF τ 1) : TB σ' τ' := by
  unfold TB
  rw [h1, h2, h3, h4]
  exact h
theorem sortD9 : ∀ c : Nat, c < 256 → (fX3_sortOf (nI c) = 1 ↔ (97 ≤ c ∧ c ≤ 122)) ∧ (fX3_sortOf (nI c) = 2 ↔ (48 ≤ c ∧ c ≤ 57)) ∧ (fX3_sortOf (nI c) = 3 ↔ c = 59) ∧ ¬ fX3_sortOf (nI c) = 0 ∧ (fX3_sortOf (nI c) = 1 ∨ fX3_sortOf (nI c) = 2 ∨ fX3_sortOf (nI c) = 3 ∨ fX3_sortOf (nI c) = 4) := by decide +kernel
theorem sort_eq {c : Int32} (hc : 0 ≤ c.toInt ∧ c.toInt ≤ 255) : (fX3_sortOf c = 1 ↔ (97 ≤ c.toInt ∧ c.toInt ≤ 122)) ∧ (fX3_sortOf c = 2 ↔ (48 ≤ c.toInt ∧ c.toInt ≤ 57)) ∧ (fX3_sortOf c = 3 ↔ c.toInt = 59) ∧ ¬ fX3_sortOf c = 0 ∧ (fX3_sortOf c = 1 ∨ fX3_sortOf c = 2 ∨ fX3_sortOf c = 3 ∨ fX3_sortOf c = 4) := by
  have e : c = nI c.toInt.toNat := vnI (by omega) (by omega)
  have z := sortD9 c.toInt.toNat (by omega)
  rw [← e] at z
  refine ⟨z.1.trans ⟨fun q => by omega, fun q => by omega⟩, z.2.1.trans ⟨fun q => by omega, fun q => by omega⟩, z.2.2.1.trans ⟨fun q => by omega, fun q => by omega⟩, z.2.2.2⟩
theorem byte_at {σ τ : sg} (h : TB σ τ) {v : Int32} {d : Nat} (hv : v.toInt = d) (hd : (d : Int) < (rF τ 1).toInt) : fX3_byteAt v σ = τ.1 4 d ∧ rA τ 4 v = τ.1 4 d ∧ 0 ≤ (τ.1 4 d).toInt ∧ (τ.1 4 d).toInt ≤ 255 := by
  have k120 : (120 : Int32).toInt = 120 := rfl
  have z := h.2.2.2 d (by have := h.2.2.1; omega)
  unfold fX3_byteAt
  rw [if_neg (geM0 (w := v) (by omega)), h.1, if_neg (fun q => by have := leI q; omega), if_neg (fun q => by have := leI q; have := h.2.2.1; omega), rAd hv, rAd hv]
  exact ⟨z.1, rfl, z.2⟩
theorem byte_out {σ τ : sg} (h : TB σ τ) {v : Int32} (hd : (rF τ 1).toInt ≤ v.toInt) : fX3_byteAt v σ = -1 := by
  have h0 := h.2.1
  unfold fX3_byteAt
  rw [if_neg (geM0 (w := v) (by omega)), h.1, if_pos (Int32.le_iff_toInt_le.mpr hd)]
theorem isb_in {τ : sg} {v a b : Int32} {d : Nat} (hv : v.toInt = d) (hd : (d : Int) < (rF τ 1).toInt) : fX5_isByte v a b τ = fX5_within (τ.1 4 d) a b := by
  unfold fX5_isByte
  rw [if_neg (fun q => by have := leI q; omega), rAd hv]
  rcases within01 (v := τ.1 4 d) (a := a) (b := b) with q | q
  · rw [if_pos q.1, q.1]
  · rw [if_neg (by rw [q.1]; decide), q.1]
theorem isb_out {τ : sg} {v a b : Int32} (hd : (rF τ 1).toInt ≤ v.toInt) : fX5_isByte v a b τ = 0 := by
  unfold fX5_isByte
  rw [if_pos (Int32.le_iff_toInt_le.mpr hd)]
/-- blanks are passed over -/
theorem eqSkip : ∀ (k d : Nat) (σ τ : sg), TB σ τ → rF σ 24 = rF τ 3 → (rF τ 3).toInt = d → (d : Int) ≤ (rF τ 1).toInt → (LX3_step_0 k σ).1 = σ.1 ∧ (LX5_next_8 k τ).1 = τ.1 ∧ (∀ i : Nat, i ≠ 24 → rF (LX3_step_0 k σ) i = rF σ i) ∧ (∀ i : Nat, i ≠ 3 → rF (LX5_next_8 k τ) i = rF τ i) ∧ rF (LX3_step_0 k σ) 24 = rF (LX5_next_8 k τ) 3 ∧ (d : Int) ≤ (rF (LX5_next_8 k τ) 3).toInt ∧ (rF (LX5_next_8 k τ) 3).toInt ≤ (rF τ 1).toInt := by
  intro k
  induction k with
  | zero => intro d σ τ h e hv hd; exact ⟨rfl, rfl, fun _ _ => rfl, fun _ _ => rfl, e, by show (d : Int) ≤ (rF τ 3).toInt; omega, by show (rF τ 3).toInt ≤ _; omega⟩
  | succ k ih =>
    intro d σ τ h e hv hd
    have k1 : (1 : Int32).toInt = 1 := rfl
    have k32 : (32 : Int32).toInt = 32 := rfl
    have stop : (σ : sg).1 = σ.1 ∧ τ.1 = τ.1 ∧ (∀ i : Nat, i ≠ 24 → rF σ i = rF σ i) ∧ (∀ i : Nat, i ≠ 3 → rF τ i = rF τ i) ∧ rF σ 24 = rF τ 3 ∧ (d : Int) ≤ (rF τ 3).toInt ∧ (rF τ 3).toInt ≤ (rF τ 1).toInt := ⟨rfl, rfl, fun _ _ => rfl, fun _ _ => rfl, e, by omega, by omega⟩
    rw [LX3_step_0, LX5_next_8, e, h.1]
    by_cases c : (d : Int) < (rF τ 1).toInt
    · obtain ⟨b1, b2, b3, b4⟩ := byte_at h hv c
      rw [if_neg (show ¬ rF τ 1 ≤ rF τ 3 from fun q => by have := leI q; omega), b1, isb_in hv c]
      rcases within01 (v := τ.1 4 d) (a := 32) (b := 32) with ⟨w1, w2⟩ | ⟨w1, w2, w3⟩
      · rw [if_pos w1, if_neg (fun q => by have := eqI q; omega)]
        exact stop
      · rw [if_neg (show ¬ fX5_within (τ.1 4 d) 32 32 = 0 by rw [w1]; decide), if_pos (show τ.1 4 d = 32 from Int32.toInt.inj (by omega))]
        have hL := h.2.2.1
        have e1 := addI (x := rF τ 3) (y := 1) (by omega) (by omega)
        refine bnd2 (P := fun S U : sg => S.1 = σ.1 ∧ U.1 = τ.1 ∧ (∀ i : Nat, i ≠ 24 → rF S i = rF σ i) ∧ (∀ i : Nat, i ≠ 3 → rF U i = rF τ i) ∧ rF S 24 = rF U 3 ∧ (d : Int) ≤ (rF U 3).toInt ∧ (rF U 3).toInt ≤ (rF τ 1).toInt) (fun r s er es => ?_)
        have r1 : r.1 = σ.1 := by rw [er]; rfl
        have s1 : s.1 = τ.1 := by rw [es]; rfl
        have r2 : ∀ i : Nat, i ≠ 24 → rF r i = rF σ i := fun i hi => by rw [er]; exact sF_other hi
        have s2 : ∀ i : Nat, i ≠ 3 → rF s i = rF τ i := fun i hi => by rw [es]; exact sF_other hi
        have s3 : rF s 3 = rF τ 3 + 1 := by rw [es, sF_same9]
        have r3 : rF r 24 = rF s 3 := by rw [s3, er, sF_same9]
        have g := ih (d + 1) r s (tb_cong h (by rw [r1]) (by rw [s1]) (r2 22 (by decide)) (s2 1 (by decide))) r3 (by rw [s3]; omega) (by rw [s2 1 (by decide)]; omega)
        rw [s2 1 (by decide)] at g
        obtain ⟨g1, g2, g3, g4, g5, g6, g7⟩ := g
        exact ⟨g1.trans r1, g2.trans s1, fun i hi => (g3 i hi).trans (r2 i hi), fun i hi => (g4 i hi).trans (s2 i hi), g5, by omega, g7⟩
    · rw [if_pos (show rF τ 1 ≤ rF τ 3 from Int32.le_iff_toInt_le.mpr (by omega)), isb_out (by omega), if_pos (show (0 : Int32) = 0 from rfl)]
      exact stop
/-- what both runs of bytes leave -/
def RU (σ τ : sg) (d : Nat) (S U : sg) : Prop := S.1 = σ.1 ∧ U.1 = τ.1 ∧ (∀ i : Nat, i ≠ 24 → i ≠ 26 → rF S i = rF σ i) ∧ (∀ i : Nat, i ≠ 4 → rF U i = rF τ i) ∧ rF S 24 = rF U 4 ∧ (d : Int) ≤ (rF U 4).toInt ∧ (rF U 4).toInt ≤ (rF τ 1).toInt
theorem eqRunL : ∀ (k d : Nat) (σ τ : sg), TB σ τ → rF σ 25 = 1 → rF σ 24 = rF τ 4 → (rF τ 4).toInt = d → (d : Int) ≤ (rF τ 1).toInt → RU σ τ d (LX3_step_91 k σ) (LX5_next_70 k 1 0 τ) := by
  intro k
  induction k with
  | zero => intro d σ τ h h1 e hv hd; exact ⟨rfl, rfl, fun _ _ _ => rfl, fun _ _ => rfl, e, by show (d : Int) ≤ (rF τ 4).toInt; omega, by show (rF τ 4).toInt ≤ _; omega⟩
  | succ k ih =>
    intro d σ τ h h1 e hv hd
    have k1 : (1 : Int32).toInt = 1 := rfl
    have k97 : (97 : Int32).toInt = 97 := rfl
    have k122 : (122 : Int32).toInt = 122 := rfl
    have stop : RU σ τ d σ τ := ⟨rfl, rfl, fun _ _ _ => rfl, fun _ _ => rfl, e, by omega, by omega⟩
    rw [LX3_step_91, LX5_next_70, if_pos h1, if_neg z10, e, h.1, h1, if_pos (show (0 : Int32) = 0 from rfl)]
    by_cases c : (d : Int) < (rF τ 1).toInt
    · obtain ⟨b1, b2, b3, b4⟩ := byte_at h hv c
      rw [if_neg (show ¬ rF τ 1 ≤ rF τ 4 from fun q => by have := leI q; omega), b1, isb_in hv c]
      have so := (sort_eq ⟨b3, b4⟩).1
      rcases within01 (v := τ.1 4 d) (a := 97) (b := 122) with ⟨w1, w2⟩ | ⟨w1, w2, w3⟩
      · rw [if_pos w1, if_neg (fun q => by have := so.mp q; omega)]
        exact stop
      · rw [if_neg (show ¬ fX5_within (τ.1 4 d) 97 122 = 0 by rw [w1]; decide), if_pos (so.mpr (by omega))]
        have hL := h.2.2.1
        have e1 := addI (x := rF τ 4) (y := 1) (by omega) (by omega)
        refine bndL (P := RU σ τ d) (fun t et => ?_)
        refine bnd2 (P := RU σ τ d) (fun r s er es => ?_)
        have r1 : r.1 = σ.1 := by rw [er, et]; rfl
        have s1 : s.1 = τ.1 := by rw [es]; rfl
        have r2 : ∀ i : Nat, i ≠ 24 → i ≠ 26 → rF r i = rF σ i := fun i hi hj => by rw [er, sF_other hi, et, sF_other hj]
        have s2 : ∀ i : Nat, i ≠ 4 → rF s i = rF τ i := fun i hi => by rw [es]; exact sF_other hi
        have s3 : rF s 4 = rF τ 4 + 1 := by rw [es, sF_same9]
        have r3 : rF r 24 = rF s 4 := by rw [s3, er, sF_same9, et, sF_other (by decide), e]
        have g := ih (d + 1) r s (tb_cong h (by rw [r1]) (by rw [s1]) (r2 22 (by decide) (by decide)) (s2 1 (by decide))) (by rw [r2 25 (by decide) (by decide)]; exact h1) r3 (by rw [s3]; omega) (by rw [s2 1 (by decide)]; omega)
        obtain ⟨g1, g2, g3, g4, g5, g6, g7⟩ := g
        rw [s2 1 (by decide)] at g7
        exact ⟨g1.trans r1, g2.trans s1, fun i hi hj => (g3 i hi hj).trans (r2 i hi hj), fun i hi => (g4 i hi).trans (s2 i hi), g5, by omega, g7⟩
    · rw [if_pos (show rF τ 1 ≤ rF τ 4 from Int32.le_iff_toInt_le.mpr (by omega)), isb_out (by omega), if_pos (show (0 : Int32) = 0 from rfl)]
      exact stop
/-- a number's digits, told as the class does and as the reference does -/
def cf (r : Nat → Int32) (s : Nat) : Nat → Int32
  | 0 => 0
  | j + 1 => jmin 1000 (cf r s j * 10 + r (s + j) - 48)
def vf (r : Nat → Int32) (s : Nat) : Nat → Int32
  | 0 => 0
  | j + 1 => if vf r s j ≤ 999 then 10 * vf r s j + r (s + j) - 48 else vf r s j
def DG (r : Nat → Int32) (s j : Nat) : Prop := ∀ i : Nat, i < j → 48 ≤ (r (s + i)).toInt ∧ (r (s + i)).toInt ≤ 57
def NVV (c v : Int32) : Prop := (c = v ∧ 0 ≤ v.toInt ∧ v.toInt ≤ 999) ∨ (c = 1000 ∧ 1000 ≤ v.toInt ∧ v.toInt ≤ 9999)
theorem nvv {r : Nat → Int32} {s : Nat} : ∀ j : Nat, DG r s j → NVV (cf r s j) (vf r s j) := by
  intro j
  induction j with
  | zero => intro _; exact Or.inl ⟨rfl, (show 0 ≤ (0 : Int32).toInt by decide), (show (0 : Int32).toInt ≤ 999 by decide)⟩
  | succ j ih =>
    intro h
    have k10 : (10 : Int32).toInt = 10 := rfl
    have k48 : (48 : Int32).toInt = 48 := rfl
    have k999 : (999 : Int32).toInt = 999 := rfl
    have k1000 : (1000 : Int32).toInt = 1000 := rfl
    have b := h j (by omega)
    have g := ih (fun i hi => h i (by omega))
    show NVV (jmin 1000 (cf r s j * 10 + r (s + j) - 48)) (if vf r s j ≤ 999 then 10 * vf r s j + r (s + j) - 48 else vf r s j)
    rcases g with ⟨g1, g2, g3⟩ | ⟨g1, g2, g3⟩
    · rw [g1, if_pos (Int32.le_iff_toInt_le.mpr (by omega))]
      have m1 := mulI (x := 10) (y := vf r s j) (by rw [k10]; omega) (by rw [k10]; omega)
      rw [k10] at m1
      have m2 := addI (x := 10 * vf r s j) (y := r (s + j)) (by omega) (by omega)
      have m3 := subI (x := 10 * vf r s j + r (s + j)) (y := 48) (by omega) (by omega)
      rw [Int32.mul_comm (vf r s j) 10]
      rcases jmC (a := 1000) (b := 10 * vf r s j + r (s + j) - 48) with ⟨q1, q2, q3⟩ | ⟨q1, q2, q3⟩
      · exact Or.inl ⟨q2, by omega, by omega⟩
      · exact Or.inr ⟨q2, by omega, by omega⟩
    · rw [g1, if_neg (fun q => by have := leI q; omega)]
      refine Or.inr ⟨?_, g2, g3⟩
      have m0 : (1000 * 10 : Int32) = 10000 := by decide
      have k10000 : (10000 : Int32).toInt = 10000 := rfl
      have m2 := addI (x := 10000) (y := r (s + j)) (by omega) (by omega)
      have m3 := subI (x := 10000 + r (s + j)) (y := 48) (by omega) (by omega)
      rw [m0]
      rcases jmC (a := 1000) (b := 10000 + r (s + j) - 48) with ⟨q1, q2, q3⟩ | ⟨q1, q2, q3⟩
      · omega
      · exact q2
theorem eqRunD {s : Nat} : ∀ (k d j : Nat) (σ τ : sg), TB σ τ → rF σ 25 = 2 → rF σ 24 = rF τ 4 → (rF τ 4).toInt = d → (d : Int) ≤ (rF τ 1).toInt → d = s + j → rF σ 26 = cf (τ.1 4) s j → DG (τ.1 4) s j → RU σ τ d (LX3_step_91 k σ) (LX5_next_70 k 0 1 τ) ∧ (∃ i : Nat, (rF (LX5_next_70 k 0 1 τ) 4).toInt = (s + i : Nat) ∧ rF (LX3_step_91 k σ) 26 = cf (τ.1 4) s i ∧ DG (τ.1 4) s i) := by
  intro k
  induction k with
  | zero => intro d j σ τ h h1 e hv hd hj hc hg; exact ⟨⟨rfl, rfl, fun _ _ _ => rfl, fun _ _ => rfl, e, by show (d : Int) ≤ (rF τ 4).toInt; omega, by show (rF τ 4).toInt ≤ _; omega⟩, j, by show (rF τ 4).toInt = _; omega, hc, hg⟩
  | succ k ih =>
    intro d j σ τ h h1 e hv hd hj hc hg
    have k1 : (1 : Int32).toInt = 1 := rfl
    have k48 : (48 : Int32).toInt = 48 := rfl
    have k57 : (57 : Int32).toInt = 57 := rfl
    have stop : RU σ τ d σ τ ∧ (∃ i : Nat, (rF τ 4).toInt = (s + i : Nat) ∧ rF σ 26 = cf (τ.1 4) s i ∧ DG (τ.1 4) s i) := ⟨⟨rfl, rfl, fun _ _ _ => rfl, fun _ _ => rfl, e, by omega, by omega⟩, j, by omega, hc, hg⟩
    rw [LX3_step_91, LX5_next_70, h1, if_neg (show ¬ (2 : Int32) = 1 by decide), if_pos (show (2 : Int32) = 2 from rfl), if_pos (show (0 : Int32) = 0 from rfl), if_neg z10, e, h.1]
    by_cases c : (d : Int) < (rF τ 1).toInt
    · obtain ⟨b1, b2, b3, b4⟩ := byte_at h hv c
      rw [if_neg (show ¬ rF τ 1 ≤ rF τ 4 from fun q => by have := leI q; omega), b1, isb_in hv c]
      have so := (sort_eq ⟨b3, b4⟩).2.1
      rcases within01 (v := τ.1 4 d) (a := 48) (b := 57) with ⟨w1, w2⟩ | ⟨w1, w2, w3⟩
      · rw [if_pos w1, if_neg (fun q => by have := so.mp q; omega)]
        exact stop
      · rw [if_neg (show ¬ fX5_within (τ.1 4 d) 48 57 = 0 by rw [w1]; decide), if_pos (so.mpr (by omega))]
        have hL := h.2.2.1
        have e1 := addI (x := rF τ 4) (y := 1) (by omega) (by omega)
        refine bndL (P := fun S U : sg => RU σ τ d S U ∧ (∃ i : Nat, (rF U 4).toInt = (s + i : Nat) ∧ rF S 26 = cf (τ.1 4) s i ∧ DG (τ.1 4) s i)) (fun t et => ?_)
        refine bnd2 (P := fun S U : sg => RU σ τ d S U ∧ (∃ i : Nat, (rF U 4).toInt = (s + i : Nat) ∧ rF S 26 = cf (τ.1 4) s i ∧ DG (τ.1 4) s i)) (fun r x er ex => ?_)
        have r1 : r.1 = σ.1 := by rw [er, et]; rfl
        have s1 : x.1 = τ.1 := by rw [ex]; rfl
        have r2 : ∀ i : Nat, i ≠ 24 → i ≠ 26 → rF r i = rF σ i := fun i hi hj => by rw [er, sF_other hi, et, sF_other hj]
        have s2 : ∀ i : Nat, i ≠ 4 → rF x i = rF τ i := fun i hi => by rw [ex]; exact sF_other hi
        have s3 : rF x 4 = rF τ 4 + 1 := by rw [ex, sF_same9]
        have r3 : rF r 24 = rF x 4 := by rw [s3, er, sF_same9, et, sF_other (by decide), e]
        have r4 : rF r 26 = cf (x.1 4) s (j + 1) := by
          rw [er, sF_other (by decide), et, sF_same9, s1, hc, hj]
          rfl
        have g := ih (d + 1) (j + 1) r x (tb_cong h (by rw [r1]) (by rw [s1]) (r2 22 (by decide) (by decide)) (s2 1 (by decide))) (by rw [r2 25 (by decide) (by decide)]; exact h1) r3 (by rw [s3]; omega) (by rw [s2 1 (by decide)]; omega) (by omega) r4 (by
          rw [s1]
          intro i hi
          by_cases c : i = j
          · subst c
            rw [← hj]; omega
          · exact hg i (by omega))
        obtain ⟨⟨g1, g2, g3, g4, g5, g6, g7⟩, g8⟩ := g
        rw [s2 1 (by decide)] at g7
        rw [s1] at g8
        exact ⟨⟨g1.trans r1, g2.trans s1, fun i hi hj => (g3 i hi hj).trans (r2 i hi hj), fun i hi => (g4 i hi).trans (s2 i hi), g5, by omega, g7⟩, g8⟩
    · rw [if_pos (show rF τ 1 ≤ rF τ 4 from Int32.le_iff_toInt_le.mpr (by omega)), isb_out (by omega), if_pos (show (0 : Int32) = 0 from rfl)]
      exact stop
theorem eqNumH {τ : sg} {s j : Nat} (hto : (rF τ 4).toInt = (s + j : Nat)) (hD : DG (τ.1 4) s j) : ∀ (k i : Nat) (c v : Int32), v.toInt = (s + i : Nat) → i ≤ j → j - i < k → c = vf (τ.1 4) s i → LX5_numberHere_26 k c v τ = vf (τ.1 4) s j := by
  intro k
  induction k with
  | zero => intro i c v _ _ h; exact absurd h (Nat.not_lt_zero _)
  | succ k ih =>
    intro i c v hv hi hk hc
    have k1 : (1 : Int32).toInt = 1 := rfl
    rw [LX5_numberHere_26]
    by_cases cc : rF τ 4 ≤ v
    · have := leI cc
      have e : i = j := by omega
      rw [if_pos cc, hc, e]
    · have q := nleI cc
      have lt := Int32.toInt_lt (rF τ 4)
      have e1 := addI (x := v) (y := 1) (by omega) (by omega)
      have nv := nvv (r := τ.1 4) (s := s) i (fun x hx => hD x (by omega))
      have ge : 0 ≤ c.toInt := by
        rw [hc]
        rcases nv with ⟨n1, n2, n3⟩ | ⟨n1, n2, n3⟩
        · omega
        · omega
      rw [if_neg cc, if_neg (geM0 ge), rAd hv]
      have nx := ih (i + 1) (vf (τ.1 4) s (i + 1)) (v + 1) (by omega) (by omega) (by omega) rfl
      by_cases c9 : c ≤ 999
      · rw [if_pos c9]
        have e2 : vf (τ.1 4) s (i + 1) = 10 * c + τ.1 4 (s + i) - 48 := by
          show (if vf (τ.1 4) s i ≤ 999 then 10 * vf (τ.1 4) s i + τ.1 4 (s + i) - 48 else vf (τ.1 4) s i) = _
          rw [← hc, if_pos c9]
        rw [← e2]; exact nx
      · rw [if_neg c9]
        have e2 : vf (τ.1 4) s (i + 1) = c := by
          show (if vf (τ.1 4) s i ≤ 999 then 10 * vf (τ.1 4) s i + τ.1 4 (s + i) - 48 else vf (τ.1 4) s i) = _
          rw [← hc, if_neg c9]
        rw [e2] at nx
        exact nx
/-- the token at hand: where it stands, what it is -/
def TK (σ τ : sg) : Prop := TB σ τ ∧ rF σ 23 = rF τ 3 ∧ rF σ 24 = rF τ 4 ∧ (0 ≤ (rF τ 3).toInt ∧ (rF τ 3).toInt ≤ (rF τ 4).toInt ∧ (rF τ 4).toInt ≤ (rF τ 1).toInt) ∧ rF σ 25 = fX3_sortOf (fX3_byteAt (rF σ 23) σ) ∧ (rF σ 25 = 3 → (rF τ 4).toInt = (rF τ 3).toInt + 1) ∧ (rF σ 25 = 2 → NVV (rF σ 26) (fX5_numberHere τ)) ∧ (¬ rF σ 25 = 2 → fX5_numberHere τ = -1)
/-- what a step of the reader leaves alone, here and there -/
def CF (σ ρ : sg) : Prop := ρ.1 = σ.1 ∧ ∀ i : Nat, i < 23 ∨ 27 ≤ i → rF ρ i = rF σ i
def RF (τ ρ : sg) : Prop := ρ.1 = τ.1 ∧ ∀ i : Nat, i < 3 ∨ 5 ≤ i → rF ρ i = rF τ i
theorem st91 {k : Nat} {s : sg} (h1 : ¬ rF s 25 = 1) (h2 : ¬ rF s 25 = 2) : LX3_step_91 (k + 1) s = s := by
  rw [LX3_step_91, if_neg h1, if_neg h2]
theorem n70 {k : Nat} {t : sg} : LX5_next_70 (k + 1) 0 0 t = t := by
  rw [LX5_next_70, if_pos rfl, if_pos rfl]
theorem nh_no {τ : sg} (h : fX5_isByte (rF τ 3) 48 57 τ = 0) : fX5_numberHere τ = -1 := by
  unfold fX5_numberHere
  rw [if_pos h, LX5_numberHere_26]
  simp only [bndE]
  by_cases c : rF τ 4 ≤ rF τ 3
  · rw [if_pos c]
  · rw [if_neg c, if_pos (by decide)]
theorem next_eq {σ τ : sg} (h : TB σ τ) (e : rF σ 24 = rF τ 4) (h0 : 0 ≤ (rF τ 4).toInt) (hL : (rF τ 4).toInt ≤ (rF τ 1).toInt) : TK (fX3_step σ) (fX5_next τ) ∧ CF σ (fX3_step σ) ∧ RF τ (fX5_next τ) ∧ (rF τ 4).toInt ≤ (rF (fX5_next τ) 3).toInt := by
  have k1 : (1 : Int32).toInt = 1 := rfl
  have k48 : (48 : Int32).toInt = 48 := rfl
  have k57 : (57 : Int32).toInt = 57 := rfl
  have k97 : (97 : Int32).toInt = 97 := rfl
  have k122 : (122 : Int32).toInt = 122 := rfl
  have lt := h.2.2.1
  rw [fX3_step, fX5_next]
  refine bndR (P := fun S U : sg => TK S U ∧ CF σ S ∧ RF τ U ∧ (rF τ 4).toInt ≤ (rF U 3).toInt) (fun t2 et2 => ?_)
  have a1 : rF t2 3 = rF τ 4 := by rw [et2, sF_same9]
  have a2 : ∀ i : Nat, i ≠ 3 → rF t2 i = rF τ i := fun i hi => by rw [et2]; exact sF_other hi
  have a3 : t2.1 = τ.1 := by rw [et2]; rfl
  refine bnd2 (P := fun S U : sg => TK S U ∧ CF σ S ∧ RF τ U ∧ (rF τ 4).toInt ≤ (rF U 3).toInt) (fun s t es et => ?_)
  have b := eqSkip 121 (rF τ 4).toInt.toNat σ t2 (tb_cong h rfl (by rw [a3]) rfl (a2 1 (by decide))) (e.trans a1.symm) (by rw [a1]; omega) (by rw [a2 1 (by decide)]; omega)
  rw [← es, ← et, a2 1 (by decide)] at b
  obtain ⟨b1, b2, b3, b4, b5, b6, b7⟩ := b
  have hb : TB s t := tb_cong h (by rw [b1]) (by rw [b2, a3]) (b3 22 (by decide)) ((b4 1 (by decide)).trans (a2 1 (by decide)))
  have tL : rF t 1 = rF τ 1 := (b4 1 (by decide)).trans (a2 1 (by decide))
  -- the class: at, sort; the reference: to
  refine bndL (P := fun S U : sg => TK S U ∧ CF σ S ∧ RF τ U ∧ (rF τ 4).toInt ≤ (rF U 3).toInt) (fun s18 e18 => ?_)
  refine bndL (P := fun S U : sg => TK S U ∧ CF σ S ∧ RF τ U ∧ (rF τ 4).toInt ≤ (rF U 3).toInt) (fun s22 e22 => ?_)
  refine bndR (P := fun S U : sg => TK S U ∧ CF σ S ∧ RF τ U ∧ (rF τ 4).toInt ≤ (rF U 3).toInt) (fun t26 e26 => ?_)
  have hf : (rF t 3).toInt = ((rF t 3).toInt.toNat : Nat) := by omega
  have c1 : s22.1 = σ.1 := by rw [e22, e18]; exact b1
  have c23 : rF s22 23 = rF t 3 := by rw [e22, sF_other (by decide), e18, sF_same9, b5]
  have c24 : rF s22 24 = rF t 3 := by rw [e22, sF_other (by decide), e18, sF_other (by decide), b5]
  have co : ∀ i : Nat, i ≠ 23 → i ≠ 24 → i ≠ 25 → rF s22 i = rF σ i := fun i h1 h2 h3 => by rw [e22, sF_other h3, e18, sF_other h1, b3 i h2]
  have d1 : t26.1 = τ.1 := by rw [e26]; exact b2.trans a3
  have d3 : rF t26 3 = rF t 3 := by rw [e26]; exact sF_other (by decide)
  have d4 : rF t26 4 = rF t 3 := by rw [e26, sF_same9]
  have dO : ∀ i : Nat, i ≠ 3 → i ≠ 4 → rF t26 i = rF τ i := fun i h1 h2 => by rw [e26, sF_other h2, b4 i h1, a2 i h1]
  have hB : TB s22 t26 := tb_cong h (by rw [c1]) (by rw [d1]) (co 22 (by decide) (by decide) (by decide)) (dO 1 (by decide) (by decide))
  have L26 : rF t26 1 = rF τ 1 := dO 1 (by decide) (by decide)
  have c25 : rF s22 25 = fX3_sortOf (fX3_byteAt (rF t 3) s22) := by
    rw [e22, sF_same9]
    have x1 : rF s18 23 = rF t 3 := by rw [e18, sF_same9, b5]
    rw [x1]
    rfl
  -- what stays for the end
  have fin : ∀ S U : sg, S.1 = s22.1 → U.1 = t26.1 → (∀ i : Nat, i ≠ 24 → i ≠ 26 → rF S i = rF s22 i) → (∀ i : Nat, i ≠ 4 → rF U i = rF t26 i) → rF S 24 = rF U 4 → (rF t 3).toInt ≤ (rF U 4).toInt → (rF U 4).toInt ≤ (rF τ 1).toInt → (rF s22 25 = 3 → (rF U 4).toInt = (rF t 3).toInt + 1) → (rF s22 25 = 2 → NVV (rF S 26) (fX5_numberHere U)) → (¬ rF s22 25 = 2 → fX5_numberHere U = -1) → TK S U ∧ CF σ S ∧ RF τ U ∧ (rF τ 4).toInt ≤ (rF U 3).toInt := fun S U p1 p2 p3 p4 p5 p6 p7 p8 p9 p10 => by
    have u3 : rF U 3 = rF t 3 := (p4 3 (by decide)).trans d3
    have u1 : rF U 1 = rF τ 1 := (p4 1 (by decide)).trans L26
    have s23 : rF S 23 = rF t 3 := (p3 23 (by decide) (by decide)).trans c23
    have s25 : rF S 25 = rF s22 25 := p3 25 (by decide) (by decide)
    refine ⟨⟨tb_cong hB (by rw [p1]) (by rw [p2]) (p3 22 (by decide) (by decide)) (p4 1 (by decide)), s23.trans u3.symm, p5, ⟨by rw [u3]; omega, by rw [u3]; exact p6, by rw [u1]; exact p7⟩, ?_, ?_, ?_, ?_⟩, ⟨p1.trans c1, fun i hi => (p3 i (by omega) (by omega)).trans (co i (by omega) (by omega) (by omega))⟩, ⟨p2.trans d1, fun i hi => (p4 i (by omega)).trans (dO i (by omega) (by omega))⟩, by rw [u3]; omega⟩
    · rw [s25, s23, c25]
      have x1 : fX3_byteAt (rF t 3) S = fX3_byteAt (rF t 3) s22 := by
        unfold fX3_byteAt
        rw [p3 22 (by decide) (by decide)]
        show (if _ then _ else if _ then _ else if _ then _ else S.1 24 _) = _
        rw [p1]
        rfl
      rw [x1]
    · rw [s25, u3]; exact p8
    · rw [s25]; exact p9
    · rw [s25]; exact p10
  have nh : ∀ U : sg, U.1 = t26.1 → (∀ i : Nat, i ≠ 4 → rF U i = rF t26 i) → fX5_isByte (rF t 3) 48 57 t26 = 0 → fX5_numberHere U = -1 := fun U p2 p4 hz => by
    apply nh_no
    have u3 : rF U 3 = rF t 3 := (p4 3 (by decide)).trans d3
    rw [u3]
    unfold fX5_isByte at hz ⊢
    rw [p4 1 (by decide)]
    show (if _ then _ else if (fX5_within (U.1 4 _) 48 57) = 0 then _ else _) = _
    rw [p2]
    exact hz
  rw [d3]
  by_cases c : (rF t 3).toInt < (rF τ 1).toInt
  · obtain ⟨y1, y2, y3, y4⟩ := byte_at hB hf (by rw [L26]; omega)
    rw [y1] at c25
    obtain ⟨o1, o2, o3, o4, o5⟩ := sort_eq ⟨y3, y4⟩
    rw [← c25] at o1 o2 o3 o4 o5
    have il := isb_in (τ := t26) (a := 97) (b := 122) hf (by rw [L26]; omega)
    have id := isb_in (τ := t26) (a := 48) (b := 57) hf (by rw [L26]; omega)
    have wl := within01 (v := t26.1 4 (rF t 3).toInt.toNat) (a := 97) (b := 122)
    have wd := within01 (v := t26.1 4 (rF t 3).toInt.toNat) (a := 48) (b := 57)
    rw [← il] at wl
    rw [← id] at wd
    rcases o5 with o | o | o | o
    · -- a word
      have l1 : fX5_isByte (rF t 3) 97 122 t26 = 1 := by
        rcases wl with w | w
        · have := o1.mp o; omega
        · exact w.1
      have l2 : fX5_isByte (rF t 3) 48 57 t26 = 0 := by
        rcases wd with w | w
        · exact w.1
        · have := o1.mp o; omega
      rw [o, l1, l2, if_neg (show ¬ (1 : Int32) = 3 by decide), if_neg (show ¬ (1 : Int32) = 4 by decide)]
      refine bndL (P := fun S U : sg => TK S U ∧ CF σ S ∧ RF τ U ∧ (rF τ 4).toInt ≤ (rF U 3).toInt) (fun s83 e83 => ?_)
      have f1 : s83.1 = s22.1 := by rw [e83]; rfl
      have f2 : ∀ i : Nat, i ≠ 26 → rF s83 i = rF s22 i := fun i hi => by rw [e83]; exact sF_other hi
      have g := eqRunL 121 (rF t 3).toInt.toNat s83 t26 (tb_cong hB (by rw [f1]) rfl (f2 22 (by decide)) rfl) (by rw [f2 25 (by decide)]; exact o) (by rw [f2 24 (by decide), c24, d4]) (by rw [d4]; exact hf) (by rw [L26]; omega)
      refine bnd2 (P := fun S U : sg => TK S U ∧ CF σ S ∧ RF τ U ∧ (rF τ 4).toInt ≤ (rF U 3).toInt) (fun r u er eu => ?_)
      rw [← er, ← eu] at g
      obtain ⟨g1, g2, g3, g4, g5, g6, g7⟩ := g
      rw [L26] at g7
      rw [if_neg z10]
      refine bndR (P := fun S U : sg => TK S U ∧ CF σ S ∧ RF τ U ∧ (rF τ 4).toInt ≤ (rF U 3).toInt) (fun x ex => ?_)
      rw [Int32.add_zero] at ex
      have x1 : x.1 = t26.1 := by rw [ex]; exact g2
      have x4 : rF x 4 = rF u 4 := by rw [ex, sF_same9]
      have xO : ∀ i : Nat, i ≠ 4 → rF x i = rF t26 i := fun i hi => by rw [ex, sF_other hi]; exact g4 i hi
      exact fin r x (g1.trans f1) x1 (fun i h1 h2 => (g3 i h1 h2).trans (f2 i h2)) xO (g5.trans x4.symm) (by rw [x4]; omega) (by rw [x4]; exact g7) (fun q => by rw [o] at q; exact absurd q (by decide)) (fun q => by rw [o] at q; exact absurd q (by decide)) (fun _ => nh x x1 xO l2)
    · -- a number
      have l1 : fX5_isByte (rF t 3) 97 122 t26 = 0 := by
        rcases wl with w | w
        · exact w.1
        · have := o2.mp o; omega
      have l2 : fX5_isByte (rF t 3) 48 57 t26 = 1 := by
        rcases wd with w | w
        · have := o2.mp o; omega
        · exact w.1
      rw [o, l1, l2, if_neg (show ¬ (2 : Int32) = 3 by decide), if_neg (show ¬ (2 : Int32) = 4 by decide)]
      refine bndL (P := fun S U : sg => TK S U ∧ CF σ S ∧ RF τ U ∧ (rF τ 4).toInt ≤ (rF U 3).toInt) (fun s83 e83 => ?_)
      have f1 : s83.1 = s22.1 := by rw [e83]; rfl
      have f2 : ∀ i : Nat, i ≠ 26 → rF s83 i = rF s22 i := fun i hi => by rw [e83]; exact sF_other hi
      have g := eqRunD (s := (rF t 3).toInt.toNat) 121 (rF t 3).toInt.toNat 0 s83 t26 (tb_cong hB (by rw [f1]) rfl (f2 22 (by decide)) rfl) (by rw [f2 25 (by decide)]; exact o) (by rw [f2 24 (by decide), c24, d4]) (by rw [d4]; exact hf) (by rw [L26]; omega) rfl (by rw [e83, sF_same9]; rfl) (fun i hi => absurd hi (Nat.not_lt_zero _))
      refine bnd2 (P := fun S U : sg => TK S U ∧ CF σ S ∧ RF τ U ∧ (rF τ 4).toInt ≤ (rF U 3).toInt) (fun r u er eu => ?_)
      rw [← er, ← eu] at g
      obtain ⟨⟨g1, g2, g3, g4, g5, g6, g7⟩, i, g8, g9, g10⟩ := g
      rw [L26] at g7
      rw [if_pos (show (0 : Int32) = 0 from rfl), if_neg z10]
      refine bndR (P := fun S U : sg => TK S U ∧ CF σ S ∧ RF τ U ∧ (rF τ 4).toInt ≤ (rF U 3).toInt) (fun x ex => ?_)
      rw [Int32.add_zero] at ex
      have x1 : x.1 = t26.1 := by rw [ex]; exact g2
      have x4 : rF x 4 = rF u 4 := by rw [ex, sF_same9]
      have xO : ∀ i : Nat, i ≠ 4 → rF x i = rF t26 i := fun i hi => by rw [ex, sF_other hi]; exact g4 i hi
      have num : fX5_numberHere x = vf (t26.1 4) (rF t 3).toInt.toNat i := by
        have x3 : rF x 3 = rF t 3 := (xO 3 (by decide)).trans d3
        have ib : fX5_isByte (rF x 3) 48 57 x = 1 := by
          rw [x3, ← l2]
          unfold fX5_isByte
          rw [xO 1 (by decide)]
          show (if _ then _ else if (fX5_within (x.1 4 _) 48 57) = 0 then _ else _) = _
          rw [x1]
          rfl
        unfold fX5_numberHere
        rw [if_neg (by rw [ib]; decide), ← x1, x3]
        simp only [bndE]
        exact eqNumH (j := i) (by rw [x4]; exact g8) (by rw [x1]; exact g10) 122 0 0 (rF t 3) (by omega) (Nat.zero_le _) (by omega) rfl
      refine fin r x (g1.trans f1) x1 (fun i h1 h2 => (g3 i h1 h2).trans (f2 i h2)) xO (g5.trans x4.symm) (by rw [x4]; omega) (by rw [x4]; exact g7) (fun q => by rw [o] at q; exact absurd q (by decide)) (fun _ => ?_) (fun q => absurd o q)
      rw [num, g9]
      exact nvv i g10
    · have l1 : fX5_isByte (rF t 3) 97 122 t26 = 0 := by
        rcases wl with w | w
        · exact w.1
        · have := o1.mpr (by omega)
          rw [o] at this
          exact absurd this (by decide)
      have l2 : fX5_isByte (rF t 3) 48 57 t26 = 0 := by
        rcases wd with w | w
        · exact w.1
        · have := o2.mpr (by omega)
          rw [o] at this
          exact absurd this (by decide)
      rw [o, l1, l2, if_pos (show (3 : Int32) = 3 from rfl)]
      refine bndL (P := fun S U : sg => TK S U ∧ CF σ S ∧ RF τ U ∧ (rF τ 4).toInt ≤ (rF U 3).toInt) (fun s28 e28 => ?_)
      refine bndL (P := fun S U : sg => TK S U ∧ CF σ S ∧ RF τ U ∧ (rF τ 4).toInt ≤ (rF U 3).toInt) (fun s33 e33 => ?_)
      have g25 : rF s33 25 = 3 := by rw [e33, sF_other (by decide), e28, sF_other (by decide)]; exact o
      have n1 : LX5_next_70 121 0 0 t26 = t26 := n70 (k := 120)
      have n2 : LX3_step_91 121 s33 = s33 := st91 (k := 120) (by rw [g25]; decide) (by rw [g25]; decide)
      rw [n1, n2]
      simp only [bndE, if_true]
      rw [L26, d3, if_neg (show ¬ rF τ 1 ≤ rF t 3 from fun q => by have := leI q; omega)]
      have e1 := addI (x := rF t 3) (y := 1) (by omega) (by omega)
      have s1 : s33.1 = s22.1 := by rw [e33, e28]; rfl
      have s24 : rF s33 24 = rF t 3 + 1 := by rw [e33, sF_other (by decide), e28, sF_same9, c24]
      have u4 : rF (sF9 t26 4 (rF t26 4 + 1)) 4 = rF t 3 + 1 := by rw [sF_same9, d4]
      exact fin s33 (sF9 t26 4 (rF t26 4 + 1)) s1 rfl (fun i h1 h2 => by rw [e33, sF_other h2, e28, sF_other h1]) (fun i hi => sF_other hi) (s24.trans u4.symm) (by rw [u4]; omega) (by rw [u4]; omega) (fun _ => by rw [u4]; omega) (fun q => by rw [o] at q; exact absurd q (by decide)) (fun _ => nh _ rfl (fun i hi => sF_other hi) l2)
    · have l1 : fX5_isByte (rF t 3) 97 122 t26 = 0 := by
        rcases wl with w | w
        · exact w.1
        · have := o1.mpr (by omega)
          rw [o] at this
          exact absurd this (by decide)
      have l2 : fX5_isByte (rF t 3) 48 57 t26 = 0 := by
        rcases wd with w | w
        · exact w.1
        · have := o2.mpr (by omega)
          rw [o] at this
          exact absurd this (by decide)
      rw [o, l1, l2, if_neg (show ¬ (4 : Int32) = 3 by decide), if_pos (show (4 : Int32) = 4 from rfl)]
      refine bndL (P := fun S U : sg => TK S U ∧ CF σ S ∧ RF τ U ∧ (rF τ 4).toInt ≤ (rF U 3).toInt) (fun s28 e28 => ?_)
      refine bndL (P := fun S U : sg => TK S U ∧ CF σ S ∧ RF τ U ∧ (rF τ 4).toInt ≤ (rF U 3).toInt) (fun s33 e33 => ?_)
      have g25 : rF s33 25 = 4 := by rw [e33, sF_other (by decide), e28, sF_other (by decide)]; exact o
      have n1 : LX5_next_70 121 0 0 t26 = t26 := n70 (k := 120)
      have n2 : LX3_step_91 121 s33 = s33 := st91 (k := 120) (by rw [g25]; decide) (by rw [g25]; decide)
      rw [n1, n2]
      simp only [bndE, if_true]
      rw [L26, d3, if_neg (show ¬ rF τ 1 ≤ rF t 3 from fun q => by have := leI q; omega)]
      have e1 := addI (x := rF t 3) (y := 1) (by omega) (by omega)
      have s1 : s33.1 = s22.1 := by rw [e33, e28]; rfl
      have s24 : rF s33 24 = rF t 3 + 1 := by rw [e33, sF_other (by decide), e28, sF_same9, c24]
      have u4 : rF (sF9 t26 4 (rF t26 4 + 1)) 4 = rF t 3 + 1 := by rw [sF_same9, d4]
      exact fin s33 (sF9 t26 4 (rF t26 4 + 1)) s1 rfl (fun i h1 h2 => by rw [e33, sF_other h2, e28, sF_other h1]) (fun i hi => sF_other hi) (s24.trans u4.symm) (by rw [u4]; omega) (by rw [u4]; omega) (fun _ => by rw [u4]; omega) (fun q => by rw [o] at q; exact absurd q (by decide)) (fun _ => nh _ rfl (fun i hi => sF_other hi) l2)
  · have l1 : fX5_isByte (rF t 3) 97 122 t26 = 0 := isb_out (by rw [L26]; omega)
    have l2 : fX5_isByte (rF t 3) 48 57 t26 = 0 := isb_out (by rw [L26]; omega)
    rw [byte_out hB (v := rF t 3) (by rw [L26]; omega)] at c25
    have o : rF s22 25 = 0 := c25.trans (by decide)
    rw [o, l1, l2, if_neg (show ¬ (0 : Int32) = 3 by decide), if_neg (show ¬ (0 : Int32) = 4 by decide)]
    refine bndL (P := fun S U : sg => TK S U ∧ CF σ S ∧ RF τ U ∧ (rF τ 4).toInt ≤ (rF U 3).toInt) (fun s33 e33 => ?_)
    have g25 : rF s33 25 = 0 := by rw [e33, sF_other (by decide)]; exact o
    have n1 : LX5_next_70 121 0 0 t26 = t26 := n70 (k := 120)
    have n2 : LX3_step_91 121 s33 = s33 := st91 (k := 120) (by rw [g25]; decide) (by rw [g25]; decide)
    rw [n1, n2]
    simp only [bndE, if_true]
    rw [L26, d3, if_pos (show rF τ 1 ≤ rF t 3 from Int32.le_iff_toInt_le.mpr (by omega)), Int32.add_zero]
    have s1 : s33.1 = s22.1 := by rw [e33]; rfl
    have s24 : rF s33 24 = rF t 3 := by rw [e33, sF_other (by decide), c24]
    have u4 : rF (sF9 t26 4 (rF t26 4)) 4 = rF t 3 := by rw [sF_same9, d4]
    exact fin s33 (sF9 t26 4 (rF t26 4)) s1 rfl (fun i h1 h2 => by rw [e33, sF_other h2]) (fun i hi => sF_other hi) (s24.trans u4.symm) (by rw [u4]; omega) (by rw [u4]; omega) (fun q => by rw [o] at q; exact absurd q (by decide)) (fun q => by rw [o] at q; exact absurd q (by decide)) (fun _ => nh _ rfl (fun i hi => sF_other hi) l2)
end EQ21
