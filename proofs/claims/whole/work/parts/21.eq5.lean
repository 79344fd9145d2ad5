section EQ5
/-- m hours, one behind the other -/
def h0 (j : Nat) : Nat → Int32 → sg → Int32 × sg
  | 0, c, σ => (c, σ)
  | m + 1, c, σ => h0 j m (c + (fX0_passHour j σ).1) (fX0_passHour j σ).2
def h5 (a : Nat) : Nat → Int32 → sg → Int32 × sg
  | 0, c, σ => (c, σ)
  | m + 1, c, σ => h5 a m (c + (fX5_anHour a σ).1) (fX5_anHour a σ).2
theorem h0c {j : Nat} : ∀ (m : Nat) (c c' : Int32) (σ : sg), (h0 j m c σ).2 = (h0 j m c' σ).2 := by
  intro m
  induction m with
  | zero => intro c c' σ; rfl
  | succ m ih => intro c c' σ; exact ih _ _ _
theorem h5c {a : Nat} : ∀ (m : Nat) (c c' : Int32) (σ : sg), (h5 a m c σ).2 = (h5 a m c' σ).2 := by
  intro m
  induction m with
  | zero => intro c c' σ; rfl
  | succ m ih => intro c c' σ; exact ih _ _ _
theorem h0s {j : Nat} : ∀ (m : Nat) (c : Int32) (σ : sg), (h0 j (m + 1) c σ).2 = (fX0_passHour j (h0 j m c σ).2).2 := by
  intro m
  induction m with
  | zero => intro c σ; rfl
  | succ m ih => intro c σ; exact ih _ _
theorem h5s {a : Nat} : ∀ (m : Nat) (c : Int32) (σ : sg), (h5 a (m + 1) c σ).2 = (fX5_anHour a (h5 a m c σ).2).2 := by
  intro m
  induction m with
  | zero => intro c σ; rfl
  | succ m ih => intro c σ; exact ih _ _
theorem pass_h : ∀ (j k m : Nat) (w c v : Int32) (σ : sg), w.toInt - v.toInt = m → m ≤ k → LX0_pass_4 j k w c v σ = h0 j m c σ := by
  intro j k
  induction k with
  | zero =>
    intro m w c v σ hm hk
    have e : m = 0 := by omega
    subst e; rfl
  | succ k ih =>
    intro m w c v σ hm hk
    have k1 : (1 : Int32).toInt = 1 := rfl
    rw [LX0_pass_4]
    by_cases cc : w ≤ v
    · have := leI cc
      have e : m = 0 := by omega
      subst e
      rw [if_pos cc]; rfl
    · have q := nleI cc
      have r1 := Int32.toInt_lt w
      have r2 := Int32.le_toInt v
      have e1 := addI (x := v) (y := 1) (by omega) (by omega)
      obtain ⟨m', rfl⟩ : ∃ m', m = m' + 1 := ⟨m - 1, by omega⟩
      rw [if_neg cc]
      refine wf_bnd (P := fun T => T = h0 j (m' + 1) c σ) (fun r er => ?_)
      rw [ih m' w _ _ _ (by omega) (by omega), er]
      rfl
theorem hb0_h : ∀ (j k m : Nat) (w v c : Int32) (σ : sg), w.toInt - v.toInt = m → m ≤ k → LX0_holdingBehind_2 j k w v σ = (h0 j m c σ).2 := by
  intro j k
  induction k with
  | zero =>
    intro m w v c σ hm hk
    have e : m = 0 := by omega
    subst e; rfl
  | succ k ih =>
    intro m w v c σ hm hk
    have k1 : (1 : Int32).toInt = 1 := rfl
    rw [LX0_holdingBehind_2]
    by_cases cc : w ≤ v
    · have := leI cc
      have e : m = 0 := by omega
      subst e
      rw [if_pos cc]; rfl
    · have q := nleI cc
      have r1 := Int32.toInt_lt w
      have r2 := Int32.le_toInt v
      have e1 := addI (x := v) (y := 1) (by omega) (by omega)
      obtain ⟨m', rfl⟩ : ∃ m', m = m' + 1 := ⟨m - 1, by omega⟩
      rw [if_neg cc]
      refine wf_bnd (P := fun T => T = (h0 j (m' + 1) c σ).2) (fun r er => ?_)
      rw [ih m' w _ (c + r.1) _ (by omega) (by omega), er]
      rfl
theorem hb5_h : ∀ (k m : Nat) (w v c : Int32) (σ : sg), w.toInt - v.toInt = m → m ≤ k → LX5_holdingBehind_2 k w v σ = (h5 2 m c σ).2 := by
  intro k
  induction k with
  | zero =>
    intro m w v c σ hm hk
    have e : m = 0 := by omega
    subst e; rfl
  | succ k ih =>
    intro m w v c σ hm hk
    have k1 : (1 : Int32).toInt = 1 := rfl
    rw [LX5_holdingBehind_2]
    by_cases cc : w ≤ v
    · have := leI cc
      have e : m = 0 := by omega
      subst e
      rw [if_pos cc]; rfl
    · have q := nleI cc
      have r1 := Int32.toInt_lt w
      have r2 := Int32.le_toInt v
      have e1 := addI (x := v) (y := 1) (by omega) (by omega)
      obtain ⟨m', rfl⟩ : ∃ m', m = m' + 1 := ⟨m - 1, by omega⟩
      rw [if_neg cc]
      refine wf_bnd (P := fun T => T = (h5 2 (m' + 1) c σ).2) (fun r er => ?_)
      rw [ih m' w _ (c + r.1) _ (by omega) (by omega), er]
      rfl
theorem hr5_h : ∀ (k m : Nat) (w c v : Int32) (σ : sg), w.toInt - v.toInt = m → m ≤ k → LX5_hours_34 k w c v σ = h5 0 m c σ := by
  intro k
  induction k with
  | zero =>
    intro m w c v σ hm hk
    have e : m = 0 := by omega
    subst e; rfl
  | succ k ih =>
    intro m w c v σ hm hk
    have k1 : (1 : Int32).toInt = 1 := rfl
    rw [LX5_hours_34]
    by_cases cc : w ≤ v
    · have := leI cc
      have e : m = 0 := by omega
      subst e
      rw [if_pos cc]; rfl
    · have q := nleI cc
      have r1 := Int32.toInt_lt w
      have r2 := Int32.le_toInt v
      have e1 := addI (x := v) (y := 1) (by omega) (by omega)
      obtain ⟨m', rfl⟩ : ∃ m', m = m' + 1 := ⟨m - 1, by omega⟩
      rw [if_neg cc]
      refine wf_bnd (P := fun T => T = h5 0 (m' + 1) c σ) (fun r er => ?_)
      rw [ih m' w _ _ _ (by omega) (by omega), er]
      rfl
theorem dy5_h : ∀ (k m : Nat) (u c t v : Int32) (σ : sg), 24 - v.toInt = m → m ≤ k → LX5_days_87 k u c t v σ = h5 0 m c σ := by
  intro k
  induction k with
  | zero =>
    intro m u c t v σ hm hk
    have e : m = 0 := by omega
    subst e; rfl
  | succ k ih =>
    intro m u c t v σ hm hk
    have k1 : (1 : Int32).toInt = 1 := rfl
    have k24 : (24 : Int32).toInt = 24 := rfl
    rw [LX5_days_87]
    by_cases cc : 24 ≤ v
    · have := leI cc
      have e : m = 0 := by omega
      subst e
      rw [if_pos cc]; rfl
    · have q := nleI cc
      have r2 := Int32.le_toInt v
      have e1 := addI (x := v) (y := 1) (by omega) (by omega)
      obtain ⟨m', rfl⟩ : ∃ m', m = m' + 1 := ⟨m - 1, by omega⟩
      rw [if_neg cc]
      refine wf_bnd (P := fun T => T = h5 0 (m' + 1) c σ) (fun r er => ?_)
      rw [ih m' u _ _ _ _ (by omega) (by omega), er]
      rfl
theorem pass_eq {j m : Nat} {w : Int32} {σ : sg} (hw : w.toInt = m) (hm : m ≤ 100) : fX0_pass j w σ = h0 j m 0 σ := by
  have k0 : (0 : Int32).toInt = 0 := rfl
  rw [fX0_pass]
  refine wf_bnd (P := fun T => T = h0 j m 0 σ) (fun r er => ?_)
  rw [er, pass_h j 101 m w 0 0 σ (by omega) (by omega)]
theorem pass1 {j : Nat} {σ : sg} : (fX0_pass j 1 σ).2 = (fX0_passHour j σ).2 := by
  rw [pass_eq (m := 1) rfl (by decide)]
  rfl
theorem hq0 {j a n : Nat} (ha : a < 4) : ∀ (m : Nat) (c : Int32) (σ τ : sg), RC σ j (τ.1 a) n → HR j a n σ τ (h0 j m c σ) (h5 a m c τ) := by
  intro m
  induction m with
  | zero => intro c σ τ h; exact ⟨rfl, h, fd_rfl, fm_rfl⟩
  | succ m ih =>
    intro c σ τ h
    have g := hour_eq ha h
    show HR j a n σ τ (h0 j m (c + (fX0_passHour j σ).1) (fX0_passHour j σ).2) (h5 a m (c + (fX5_anHour a τ).1) (fX5_anHour a τ).2)
    rw [g.1]
    exact hr_tr g.2.2.1 g.2.2.2 (ih _ _ _ g.2.1)
/-- those that hold behind m hours -/
theorem hb_eq {j a n m : Nat} (hj : j = 1) (ha : a = 2) {w : Int32} (hw : w.toInt = m) (hm : m ≤ 100) {σ τ : sg} (h : RC σ j (τ.1 a) n) : (fX0_holdingBehind 1 w σ).1 = fX5_bits (fX5_holdingBehind w τ).1 ∧ RC (fX0_holdingBehind 1 w σ).2 1 ((fX5_holdingBehind w τ).2.1 2) n ∧ FD 1 σ (fX0_holdingBehind 1 w σ).2 ∧ FM 2 τ (fX5_holdingBehind w τ).2 ∧ (fX5_holdingBehind w τ).2 = (h5 2 m 0 τ).2 ∧ (fX5_holdingBehind w τ).1 = fX5_holding 2 (h5 2 m 0 τ).2 ∧ (fX0_holdingBehind 1 w σ).2 = (h0 1 m 0 σ).2 := by
  subst hj
  subst ha
  have k0 : (0 : Int32).toInt = 0 := rfl
  have g := hq0 (j := 1) (n := n) (show 2 < 4 by decide) m 0 σ τ h
  have e1 : fX0_holdingBehind 1 w σ = (fJ6_bitCount_0f7a4 (fX0_peaces 1 (rF (h0 1 m 0 σ).2 (7 * 1)) (h0 1 m 0 σ).2), (h0 1 m 0 σ).2) := by
    rw [fX0_holdingBehind, hb0_h 1 101 m w 0 0 σ (by omega) (by omega)]
    simp only [bndE]
  have e2 : fX5_holdingBehind w τ = (fX5_holding 2 (h5 2 m 0 τ).2, (h5 2 m 0 τ).2) := by
    rw [fX5_holdingBehind, hb5_h 101 m w 0 0 τ (by omega) (by omega)]
    simp only [bndE]
  rw [e1, e2]
  refine ⟨?_, g.2.1, g.2.2.1, g.2.2.2, rfl, rfl, rfl⟩
  show fJ6_bitCount_0f7a4 (fX0_peaces 1 (rF (h0 1 m 0 σ).2 (7 * 1)) (h0 1 m 0 σ).2) = fX5_bits (fX5_holding 2 (h5 2 m 0 τ).2)
  rw [peaces_eq (rc_pc g.2.1)]
  exact mk_bits (holding_mk g.2.1.1.1 g.2.1.1.2.1)
/-- what is tried is what is -/
theorem rc_r {σ : sg} {j n : Nat} {r r' : Nat → Int32} (h : RC σ j r n) (e : ∀ k : Nat, k < 80 → r' k = r k) : RC σ j r' n := by
  obtain ⟨h1, h2, h3, h4, h5, h6, h7, h8, h9, h10⟩ := h
  have n8 := h1.1
  refine ⟨⟨h1.1, by rw [e 0 (by decide)]; exact h1.2.1, h1.2.2⟩, by rw [e 1 (by decide)]; exact h2, by rw [e 2 (by decide)]; exact h3, by rw [e 3 (by decide)]; exact h4, mk_ext h5 (fun s hs => (e _ (by omega)).symm), mk_ext h6 (fun s hs => (e _ (by omega)).symm), mk_ext h7 (fun s hs => (e _ (by omega)).symm), fun s hs => by rw [e _ (by omega)]; exact h8 s hs, fun k hk => by rw [e _ (by omega)]; exact h9 k hk, fun t d ht hd => ?_⟩
  have : of9 t + d < 80 := by unfold of9; split <;> omega
  rw [e _ this]; exact h10 t d ht hd
theorem sC_own {σ : sg} {a b d : Nat} {n : Int32} (hd : d < n.toNatClampNeg) : (sC σ a 0 b 0 n).1 b d = σ.1 a d := by
  show va_up σ.1 b (va_cpy (σ.1 a) (σ.1 b) 0 0 n.toNatClampNeg) b d = σ.1 a d
  rw [va_up_self]
  unfold va_cpy
  rw [if_pos (by omega), Nat.zero_add, Nat.sub_zero]
theorem sC_oth {σ : sg} {a b c : Nat} {s t n : Int32} (h : c ≠ b) : (sC σ a s b t n).1 c = σ.1 c := va_up_ne _ _ h
theorem sF_1 {σ : sg} {i : Nat} {x : Int32} : (sF9 σ i x).1 = σ.1 := rfl
theorem sC_F {σ : sg} {a b i : Nat} {s t n : Int32} : rF (sC σ a s b t n) i = rF σ i := rfl
theorem take_fd {σ : sg} {i j : Nat} : FD j σ (fX0_take j i σ) := by
  unfold fX0_take
  simp only [bndE]
  refine ⟨fun b hb => ?_, fun b hb => ?_⟩
  · simp only [sF_1]
    rw [sC_oth (by omega), sC_oth (by omega), sC_oth (by omega), sC_oth (by omega), sC_oth (by omega), sC_oth (by omega), sC_oth (by omega)]
  · rw [sF_other (by omega), sF_other (by omega), sF_other (by omega), sF_other (by omega), sF_other (by omega), sF_other (by omega), sF_other (by omega)]
    rfl
/-- the rows and the fields of a chancery that took another one -/
theorem take_row {σ : sg} {i j t d : Nat} (hij : i ≠ j) (ht : t < 7) (hd : d < (if t = 5 then 6 else if t = 6 then 10 else 8)) : (fX0_take j i σ).1 (8 * j + t) d = σ.1 (8 * i + t) d := by
  have k8 : (8 : Int32).toNatClampNeg = 8 := by decide
  have k6 : (6 : Int32).toNatClampNeg = 6 := by decide
  have k10 : (10 : Int32).toNatClampNeg = 10 := by decide
  unfold fX0_take
  simp only [bndE]
  simp only [sF_1]
  rcases (show t = 0 ∨ t = 1 ∨ t = 2 ∨ t = 3 ∨ t = 4 ∨ t = 5 ∨ t = 6 by omega) with rfl | rfl | rfl | rfl | rfl | rfl | rfl
  · rw [if_neg (by decide), if_neg (by decide)] at hd
    rw [sC_oth (by omega), sC_oth (by omega), sC_oth (by omega), sC_oth (by omega), sC_oth (by omega), sC_oth (by omega)]
    exact sC_own (by rw [k8]; exact hd)
  · rw [if_neg (by decide), if_neg (by decide)] at hd
    rw [sC_oth (by omega), sC_oth (by omega), sC_oth (by omega), sC_oth (by omega), sC_oth (by omega), sC_own (by rw [k8]; exact hd), sC_oth (by omega)]
  · rw [if_neg (by decide), if_neg (by decide)] at hd
    rw [sC_oth (by omega), sC_oth (by omega), sC_oth (by omega), sC_oth (by omega), sC_own (by rw [k8]; exact hd), sC_oth (by omega), sC_oth (by omega)]
  · rw [if_neg (by decide), if_neg (by decide)] at hd
    rw [sC_oth (by omega), sC_oth (by omega), sC_oth (by omega), sC_own (by rw [k8]; exact hd), sC_oth (by omega), sC_oth (by omega), sC_oth (by omega)]
  · rw [if_neg (by decide), if_neg (by decide)] at hd
    rw [sC_oth (by omega), sC_oth (by omega), sC_own (by rw [k8]; exact hd), sC_oth (by omega), sC_oth (by omega), sC_oth (by omega), sC_oth (by omega)]
  · rw [if_pos (by decide)] at hd
    rw [sC_oth (by omega), sC_own (by rw [k6]; exact hd), sC_oth (by omega), sC_oth (by omega), sC_oth (by omega), sC_oth (by omega), sC_oth (by omega)]
  · rw [if_neg (by decide), if_pos (by decide)] at hd
    rw [sC_own (by rw [k10]; exact hd), sC_oth (by omega), sC_oth (by omega), sC_oth (by omega), sC_oth (by omega), sC_oth (by omega), sC_oth (by omega)]
theorem take_F {σ : sg} {i j : Nat} (hij : i ≠ j) : rF (fX0_take j i σ) (7 * j) = rF σ (7 * i) ∧ rF (fX0_take j i σ) (7 * j + 1) = rF σ (7 * i + 1) ∧ rF (fX0_take j i σ) (7 * j + 2) = rF σ (7 * i + 2) ∧ rF (fX0_take j i σ) (7 * j + 3) = rF σ (7 * i + 3) ∧ rF (fX0_take j i σ) (7 * j + 4) = rF σ (7 * i + 4) ∧ rF (fX0_take j i σ) (7 * j + 5) = rF σ (7 * i + 5) ∧ rF (fX0_take j i σ) (7 * j + 6) = rF σ (7 * i + 6) := by
  unfold fX0_take
  simp only [bndE]
  refine ⟨?_, ?_, ?_, ?_, ?_, ?_, ?_⟩
  · rw [sF_other (by omega), sF_other (by omega), sF_other (by omega), sF_other (by omega), sF_other (by omega), sF_other (by omega), sF_same9]
    rfl
  · rw [sF_other (by omega), sF_other (by omega), sF_other (by omega), sF_other (by omega), sF_other (by omega), sF_same9, sF_other (by omega)]
    rfl
  · rw [sF_other (by omega), sF_other (by omega), sF_other (by omega), sF_other (by omega), sF_same9, sF_other (by omega), sF_other (by omega)]
    rfl
  · rw [sF_other (by omega), sF_other (by omega), sF_other (by omega), sF_same9, sF_other (by omega), sF_other (by omega), sF_other (by omega)]
    rfl
  · rw [sF_other (by omega), sF_other (by omega), sF_same9, sF_other (by omega), sF_other (by omega), sF_other (by omega), sF_other (by omega)]
    rfl
  · rw [sF_other (by omega), sF_same9, sF_other (by omega), sF_other (by omega), sF_other (by omega), sF_other (by omega), sF_other (by omega)]
    rfl
  · rw [sF_same9, sF_other (by omega), sF_other (by omega), sF_other (by omega), sF_other (by omega), sF_other (by omega), sF_other (by omega)]
    rfl
theorem take_rc {σ : sg} {i j n : Nat} {r : Nat → Int32} (hij : i ≠ j) (h : RC σ i r n) : RC (fX0_take j i σ) j r n := by
  obtain ⟨f0, f1, f2, f3, f4, f5, f6⟩ := take_F (σ := σ) hij
  obtain ⟨h1, h2, h3, h4, h5, h6, h7, h8, h9, h10⟩ := h
  have n8 := h1.1
  refine ⟨by rw [f1]; exact h1, by rw [f5]; exact h2, by rw [f4]; exact h3, by rw [f6]; exact h4, by rw [f2]; exact h5, by rw [f3]; exact h6, by rw [f0]; exact h7, fun s hs => by rw [take_row hij (by decide) (by rw [if_pos rfl]; exact hs)]; exact h8 s hs, fun k hk => by rw [take_row hij (by decide) (by rw [if_neg (by decide), if_pos rfl]; exact hk)]; exact h9 k hk, fun t d ht hd => by rw [take_row hij (by omega) (by rw [if_neg (by omega), if_neg (by omega)]; omega)]; exact h10 t d ht hd⟩
/-- a row copied -/
def RO (a b : Nat) (σ ρ : sg) : Prop := ρ.2 = σ.2 ∧ (∀ c : Nat, c ≠ b → ρ.1 c = σ.1 c) ∧ ∀ k : Nat, k < 80 → ρ.1 b k = σ.1 a k
theorem eqRow {a b : Nat} (hab : a ≠ b) : ∀ (k d : Nat) (v : Int32) (σ : sg), v.toInt = d → d ≤ 80 → 80 - d < k → (∀ e : Nat, e < d → σ.1 b e = σ.1 a e) → RO a b σ (LX5_row_2 a b k v σ) := by
  intro k
  induction k with
  | zero => intro d v σ _ _ h; exact absurd h (Nat.not_lt_zero _)
  | succ k ih =>
    intro d v σ hv hd hk hs
    have k1 : (1 : Int32).toInt = 1 := rfl
    have k80 : (80 : Int32).toInt = 80 := rfl
    rw [LX5_row_2]
    by_cases cc : 80 ≤ v
    · have := leI cc
      rw [if_pos cc]
      exact ⟨rfl, fun _ _ => rfl, fun k hk => hs k (by omega)⟩
    · have q := nleI cc
      have e1 := addI (x := v) (y := 1) (by omega) (by omega)
      rw [if_neg cc]
      refine wf_bnd (P := RO a b σ) (fun r er => ?_)
      have o : ∀ c : Nat, c ≠ b → r.1 c = σ.1 c := fun c hc => by rw [er]; exact sA_other hc
      have w : r.1 b = upd (σ.1 b) d (σ.1 a d) := by rw [er, sAs hv, rAd hv]
      have g := ih (d + 1) (v + 1) r (by omega) (by omega) (by omega) (fun e he => by
        rw [w, o a hab]
        by_cases c : e = d
        · subst c; rw [pk_us]
        · rw [pk_un c]; exact hs e (by omega))
      exact ⟨g.1.trans (by rw [er]; rfl), fun c hc => (g.2.1 c hc).trans (o c hc), fun k hk => (g.2.2 k hk).trans (by rw [o a hab])⟩
theorem row_eq {a b : Nat} (hab : a ≠ b) {σ : sg} : RO a b σ (fX5_row a b σ) := by
  rw [fX5_row]
  refine wf_bnd (P := RO a b σ) (fun r er => ?_)
  rw [er]
  exact eqRow hab 81 0 0 σ rfl (by decide) (by decide) (fun e he => absurd he (Nat.not_lt_zero _))
theorem row_fm {a b : Nat} (hab : a ≠ b) {σ : sg} : FM b σ (fX5_row a b σ) := ⟨fun c hc _ => (row_eq hab).2.1 c hc, (row_eq hab).1⟩
theorem row_rc {σ τ : sg} {i j a b n : Nat} (hij : i ≠ j) (hab : a ≠ b) (h : RC σ i (τ.1 a) n) : RC (fX0_take j i σ) j ((fX5_row a b τ).1 b) n :=
  rc_r (take_rc hij h) (row_eq hab).2.2
end EQ5
