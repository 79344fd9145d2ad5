section EQ22
def ln (w : Nat) : Nat := (fJ0_length_8abf5 w).toInt.toNat
theorem lnD9 : ∀ w : Nat, w < 18 → fJ0_length_8abf5 w = nI (ln w) ∧ 1 ≤ ln w ∧ ln w ≤ 7 := by decide +kernel
theorem chD9 : ∀ w : Nat, w < 17 → ∀ i : Nat, i < 7 → i < ln w → 97 ≤ (fJ0_charAt_5068e w (nI i)).toInt ∧ (fJ0_charAt_5068e w (nI i)).toInt ≤ 122 := by decide +kernel
theorem unD9 : ∀ i : Nat, i < 7 → ∀ k : Nat, k < 7 → fJ0_length_8abf5 i = fJ0_length_8abf5 k → fJ0_charAt_5068e i 0 = fJ0_charAt_5068e k 0 → i = k := by decide +kernel
theorem seD9 : fJ0_length_8abf5 17 = 1 ∧ fJ0_charAt_5068e 17 0 = 59 := by decide +kernel
theorem isW0 {w : Nat} : ∀ (k : Nat) (v : Int32) (τ : sg), LX5_isWord_31 w k 0 v τ = 0 := by
  intro k
  cases k with
  | zero => intro v τ; rfl
  | succ k => intro v τ; rw [LX5_isWord_31, if_pos rfl]
theorem eqWd {σ τ : sg} (h : TK σ τ) {w : Nat} (hw : w < 18) (hl : (rF τ 4).toInt = (rF τ 3).toInt + ln w) : ∀ (k d : Nat) (v : Int32), v.toInt = d → d ≤ ln w → ln w - d < k → LX3_isWord_28 w k v σ = LX5_isWord_31 w k 1 v τ := by
  intro k
  induction k with
  | zero => intro d v _ _ h; exact absurd h (Nat.not_lt_zero _)
  | succ k ih =>
    intro d v hv hd hk
    have k1 : (1 : Int32).toInt = 1 := rfl
    obtain ⟨l1, l2, l3⟩ := lnD9 w hw
    have l4 := nI_toInt (n := ln w) (by omega)
    obtain ⟨b, t23, t24, ⟨p0, p1, p2⟩, _⟩ := h
    have bL := b.2.2.1
    rw [LX3_isWord_28, LX5_isWord_31, if_neg z10, l1]
    by_cases cc : nI (ln w) ≤ v
    · rw [if_pos cc, if_pos cc]
    · have q := nleI cc
      have e1 := addI (x := v) (y := 1) (by omega) (by omega)
      have e2 := addI (x := rF τ 3) (y := v) (by omega) (by omega)
      obtain ⟨y1, y2, _⟩ := byte_at b (v := rF τ 3 + v) (d := (rF τ 3).toInt.toNat + d) (by omega) (by omega)
      rw [if_neg cc, if_neg cc, t23, y1, y2]
      by_cases c : τ.1 4 ((rF τ 3).toInt.toNat + d) = fJ0_charAt_5068e w v
      · rw [if_pos c, if_pos c]
        exact ih (d + 1) (v + 1) (by omega) (by omega) (by omega)
      · rw [if_neg c, if_neg c, isW0]
theorem tk_sort {σ τ : sg} (h : TK σ τ) (hlt : (rF τ 3).toInt < (rF τ 1).toInt) : rF σ 25 = fX3_sortOf (τ.1 4 (rF τ 3).toInt.toNat) ∧ rA τ 4 (rF τ 3 + 0) = τ.1 4 (rF τ 3).toInt.toNat ∧ 0 ≤ (τ.1 4 (rF τ 3).toInt.toNat).toInt ∧ (τ.1 4 (rF τ 3).toInt.toNat).toInt ≤ 255 := by
  obtain ⟨b, t23, t24, ⟨p0, p1, p2⟩, s25, _⟩ := h
  obtain ⟨y1, y2, y3⟩ := byte_at b (v := rF τ 3) (d := (rF τ 3).toInt.toNat) (by omega) (by omega)
  rw [s25, t23, y1, Int32.add_zero, y2]
  exact ⟨rfl, rfl, y3⟩
theorem isWord_eq {σ τ : sg} (h : TK σ τ) (h5 : rF τ 5 = 0) {w : Nat} (hw : w < 17) : fX3_isWord w σ = fX5_isWord w τ := by
  obtain ⟨l1, l2, l3⟩ := lnD9 w (by omega)
  have l4 := nI_toInt (n := ln w) (by omega)
  have h' := h
  obtain ⟨b, t23, t24, ⟨p0, p1, p2⟩, s25, s3, _⟩ := h'
  have bL := b.2.2.1
  have e := subI (x := rF τ 4) (y := rF τ 3) (by omega) (by omega)
  unfold fX3_isWord fX5_isWord
  rw [if_pos h5, t23, t24]
  simp only [bndE]
  by_cases c : rF τ 4 - rF τ 3 = fJ0_length_8abf5 w
  · have c2 := eqI c
    rw [l1, l4, e] at c2
    rw [if_pos c, if_pos c]
    have lt : (rF τ 3).toInt < (rF τ 1).toInt := by omega
    by_cases c3 : rF σ 25 = 1
    · rw [if_pos c3]
      exact eqWd h (by omega) (by omega) 8 0 0 rfl (by omega) (by omega)
    · obtain ⟨y1, y2, y3⟩ := tk_sort h lt
      have so := (sort_eq y3).1
      have ch := chD9 w hw 0 (by decide) (by omega)
      rw [show nI 0 = 0 by decide] at ch
      rw [if_neg c3, show LX5_isWord_31 w 8 1 0 τ = _ from LX5_isWord_31.eq_2 .., if_neg z10, if_neg (show ¬ fJ0_length_8abf5 w ≤ 0 from fun q => by have := leI q; rw [l1, l4] at this; have k0 : (0 : Int32).toInt = 0 := rfl; omega), y2, if_neg (fun q => by
        apply c3
        rw [y1]
        exact so.mpr (by rw [q]; exact ch)), isW0]
  · rw [if_neg c, if_neg c, isW0, ite_self]
theorem isWord_bad {τ : sg} (h5 : ¬ rF τ 5 = 0) {w : Nat} : fX5_isWord w τ = 0 := by
  unfold fX5_isWord
  rw [if_neg h5]
  simp only [bndE]
  exact isW0 _ _ _
theorem semi_eq {σ τ : sg} (h : TK σ τ) (h5 : rF τ 5 = 0) : fX5_isWord 17 τ = if rF σ 25 = 3 then 1 else 0 := by
  have k0 : (0 : Int32).toInt = 0 := rfl
  have k1 : (1 : Int32).toInt = 1 := rfl
  have k59 : (59 : Int32).toInt = 59 := rfl
  have h' := h
  obtain ⟨b, t23, t24, ⟨p0, p1, p2⟩, s25, s3, _⟩ := h'
  have bL := b.2.2.1
  have e := subI (x := rF τ 4) (y := rF τ 3) (by omega) (by omega)
  unfold fX5_isWord
  rw [if_pos h5, seD9.1]
  simp only [bndE]
  by_cases c : rF τ 4 - rF τ 3 = 1
  · have c2 := eqI c
    rw [if_pos c]
    have lt : (rF τ 3).toInt < (rF τ 1).toInt := by omega
    obtain ⟨y1, y2, y3⟩ := tk_sort h lt
    have so := (sort_eq y3).2.2.1
    rw [show LX5_isWord_31 17 8 1 0 τ = _ from LX5_isWord_31.eq_2 .., if_neg z10, seD9.1, seD9.2, if_neg (show ¬ (1 : Int32) ≤ 0 by decide), y2]
    by_cases c3 : rF σ 25 = 3
    · have z := so.mp (by rw [← y1]; exact c3)
      rw [if_pos c3, if_pos (show τ.1 4 (rF τ 3).toInt.toNat = 59 from Int32.toInt.inj (by omega)), show LX5_isWord_31 17 7 1 (0 + 1) τ = _ from LX5_isWord_31.eq_2 .., if_neg z10, seD9.1, if_pos (by decide)]
    · rw [if_neg c3, if_neg (fun q => by
        apply c3
        rw [y1]
        exact so.mpr (by rw [q]; exact k59)), isW0]
  · rw [if_neg c, isW0, if_neg (fun q => by
      have z := s3 q
      apply c
      apply Int32.toInt.inj
      rw [e, k1]; omega)]
theorem isWord01 {σ : sg} {w : Nat} (hw : w < 18) (h : ¬ fX3_isWord w σ = 0) : fX3_isWord w σ = 1 ∧ rF σ 24 - rF σ 23 = fJ0_length_8abf5 w ∧ fX3_byteAt (rF σ 23 + 0) σ = fJ0_charAt_5068e w 0 := by
  have m : ∀ (k : Nat) (v : Int32), LX3_isWord_28 w k v σ = 0 ∨ LX3_isWord_28 w k v σ = 1 := by
    intro k
    induction k with
    | zero => intro v; exact Or.inl rfl
    | succ k ih =>
      intro v
      rw [LX3_isWord_28]
      exact wf_ite (P := fun x : Int32 => x = 0 ∨ x = 1) (fun _ => Or.inr rfl) (fun _ => wf_ite (P := fun x : Int32 => x = 0 ∨ x = 1) (fun _ => ih _) (fun _ => Or.inl rfl))
  unfold fX3_isWord at h ⊢
  by_cases c1 : rF σ 25 = 1
  · rw [if_pos c1] at h ⊢
    by_cases c2 : rF σ 24 - rF σ 23 = fJ0_length_8abf5 w
    · rw [if_pos c2] at h ⊢
      refine ⟨(m 8 0).resolve_left h, c2, ?_⟩
      rw [show LX3_isWord_28 w 8 0 σ = _ from LX3_isWord_28.eq_2 ..] at h
      obtain ⟨l1, l2, l3⟩ := lnD9 w hw
      have l4 := nI_toInt (n := ln w) (by omega)
      rw [if_neg (show ¬ fJ0_length_8abf5 w ≤ 0 from fun q => by have := leI q; rw [l1, l4] at this; have k0 : (0 : Int32).toInt = 0 := rfl; omega)] at h
      by_cases c3 : fX3_byteAt (rF σ 23 + 0) σ = fJ0_charAt_5068e w 0
      · exact c3
      · rw [if_neg c3] at h
        exact absurd rfl h
    · rw [if_neg c2] at h
      exact absurd rfl h
  · rw [if_neg c1] at h
    exact absurd rfl h
theorem word_un {σ : sg} {i k : Nat} (hi : i < 7) (hk : k < 7) (h1 : ¬ fX3_isWord i σ = 0) (h2 : ¬ fX3_isWord k σ = 0) : i = k := by
  have a := isWord01 (by omega) h1
  have b := isWord01 (by omega) h2
  exact unD9 i hi k hk (a.2.1.symm.trans b.2.1) (a.2.2.symm.trans b.2.2)
theorem woD9 : ∀ i : Nat, i < 7 → fX3_wordOf (nI i) = i ∧ fX5_wordOf (nI i) = i := by decide
theorem eqKW {σ : sg} : ∀ (k d : Nat) (v : Int32), v.toInt = d → d ≤ 7 → 7 - d < k → (∀ i : Nat, i < d → fX3_isWord i σ = 0) → (∃ i : Nat, i < 7 ∧ ¬ fX3_isWord i σ = 0 ∧ LX3_kindOfWord_2 k v σ = nI i) ∨ ((∀ i : Nat, i < 7 → fX3_isWord i σ = 0) ∧ LX3_kindOfWord_2 k v σ = -1) := by
  intro k
  induction k with
  | zero => intro d v _ _ h; exact absurd h (Nat.not_lt_zero _)
  | succ k ih =>
    intro d v hv hd hk hs
    have k1 : (1 : Int32).toInt = 1 := rfl
    have k7 : (7 : Int32).toInt = 7 := rfl
    rw [LX3_kindOfWord_2]
    by_cases cc : 7 ≤ v
    · have := leI cc
      rw [if_pos cc]
      exact Or.inr ⟨fun i hi => hs i (by omega), rfl⟩
    · have q := nleI cc
      have e1 := addI (x := v) (y := 1) (by omega) (by omega)
      rw [if_neg cc, vnI hv (by omega), (woD9 d (by omega)).1]
      by_cases c : fX3_isWord d σ = 0
      · rw [if_pos c, ← vnI hv (by omega)]
        refine ih (d + 1) (v + 1) (by omega) (by omega) (by omega) (fun i hi => ?_)
        by_cases e : i = d
        · subst e; exact c
        · exact hs i (by omega)
      · rw [if_neg c]
        exact Or.inl ⟨d, by omega, c, rfl⟩
theorem eqKH {τ : sg} : ∀ (k d : Nat) (v : Int32), v.toInt = (d : Int) - 1 → d ≤ 7 → d < k → (∀ i : Nat, d ≤ i → i < 7 → fX5_isWord i τ = 0) → (∃ i : Nat, i < 7 ∧ ¬ fX5_isWord i τ = 0 ∧ LX5_kindHere_3 k v τ = nI i) ∨ ((∀ i : Nat, i < 7 → fX5_isWord i τ = 0) ∧ LX5_kindHere_3 k v τ = -1) := by
  intro k
  induction k with
  | zero => intro d v _ _ h; exact absurd h (Nat.not_lt_zero _)
  | succ k ih =>
    intro d v hv hd hk hs
    have km : (-1 : Int32).toInt = -1 := rfl
    rw [LX5_kindHere_3]
    by_cases cc : d = 0
    · rw [if_pos (ltM0 (by omega))]
      exact Or.inr ⟨fun i hi => hs i (by omega) hi, m1I (by omega)⟩
    · have e1 := addI (x := v) (y := -1) (by omega) (by omega)
      have ev : v = nI (d - 1) := vnI (by omega) (by omega)
      rw [if_neg (geM0 (by omega)), ev, (woD9 (d - 1) (by omega)).2]
      by_cases c : fX5_isWord (d - 1) τ = 0
      · rw [if_pos c, ← ev]
        refine ih (d - 1) (v + -1) (by omega) (by omega) (by omega) (fun i h1 h2 => ?_)
        by_cases e : i = d - 1
        · subst e; exact c
        · exact hs i (by omega) h2
      · rw [if_neg c]
        exact Or.inl ⟨d - 1, by omega, c, rfl⟩
/-- the kind at hand -/
theorem kind_eq {σ τ : sg} (h : TK σ τ) (h5 : rF τ 5 = 0) : fX3_kindOfWord σ = fX5_kindHere τ ∧ (fX5_kindHere τ = -1 ∨ (0 ≤ (fX5_kindHere τ).toInt ∧ (fX5_kindHere τ).toInt ≤ 6)) := by
  have a := eqKW (σ := σ) 8 0 0 rfl (by decide) (by decide) (fun i hi => absurd hi (Nat.not_lt_zero _))
  have b := eqKH (τ := τ) 8 7 6 rfl (by decide) (by decide) (fun i h1 h2 => by omega)
  have e : fX5_kindHere τ = LX5_kindHere_3 8 6 τ := by
    unfold fX5_kindHere
    simp only [bndE]
  rw [fX3_kindOfWord, e]
  have w : ∀ i : Nat, i < 7 → fX3_isWord i σ = fX5_isWord i τ := fun i hi => isWord_eq h h5 (by omega)
  rcases a with ⟨i, i1, i2, i3⟩ | ⟨a1, a2⟩
  · rcases b with ⟨k, j1, j2, j3⟩ | ⟨b1, b2⟩
    · rw [← w k j1] at j2
      have := word_un i1 j1 i2 j2
      subst this
      rw [i3, j3]
      have := nI_toInt (n := i) (by omega)
      exact ⟨rfl, Or.inr (by omega)⟩
    · rw [w i i1] at i2
      exact absurd (b1 i i1) i2
  · rcases b with ⟨k, j1, j2, j3⟩ | ⟨b1, b2⟩
    · rw [← w k j1] at j2
      exact absurd (a1 k j1) j2
    · rw [a2, b2]
      exact ⟨rfl, Or.inl rfl⟩
/-- what the tokens rest on -/
theorem nh_cong {τ ρ : sg} (h4 : ρ.1 4 = τ.1 4) (h1 : rF ρ 1 = rF τ 1) (h3 : rF ρ 3 = rF τ 3) (ht : rF ρ 4 = rF τ 4) : fX5_numberHere ρ = fX5_numberHere τ := by
  have lp : ∀ (k : Nat) (c v : Int32), LX5_numberHere_26 k c v ρ = LX5_numberHere_26 k c v τ := by
    intro k
    induction k with
    | zero => intro c v; rfl
    | succ k ih =>
      intro c v
      have e : rA ρ 4 v = rA τ 4 v := congrFun h4 _
      rw [LX5_numberHere_26, LX5_numberHere_26, ht, e, ih, ih]
  have ib : fX5_isByte (rF ρ 3) 48 57 ρ = fX5_isByte (rF τ 3) 48 57 τ := by
    have e : rA ρ 4 (rF τ 3) = rA τ 4 (rF τ 3) := congrFun h4 _
    unfold fX5_isByte
    rw [h1, h3, e]
  unfold fX5_numberHere
  simp only [bndE]
  rw [ib, lp, lp, h3]
theorem tk_cong {σ τ σ' τ' : sg} (h : TK σ τ) (r : σ'.1 24 = σ.1 24) (f : ∀ i : Nat, 22 ≤ i → i ≤ 26 → rF σ' i = rF σ i) (r4 : τ'.1 4 = τ.1 4) (f1 : rF τ' 1 = rF τ 1) (f3 : rF τ' 3 = rF τ 3) (f4 : rF τ' 4 = rF τ 4) : TK σ' τ' := by
  obtain ⟨b, t23, t24, p, s25, s3, n1, n2⟩ := h
  have nh := nh_cong r4 f1 f3 f4
  refine ⟨tb_cong b r r4 (f 22 (by decide) (by decide)) f1, by rw [f 23 (by decide) (by decide), f3]; exact t23, by rw [f 24 (by decide) (by decide), f4]; exact t24, by rw [f3, f4, f1]; exact p, ?_, by rw [f 25 (by decide) (by decide), f3, f4]; exact s3, by rw [f 25 (by decide) (by decide), f 26 (by decide) (by decide), nh]; exact n1, by rw [f 25 (by decide) (by decide), nh]; exact n2⟩
  have e : fX3_byteAt (rF σ 23) σ' = fX3_byteAt (rF σ 23) σ := by
    have e : rA σ' 24 (rF σ 23) = rA σ 24 (rF σ 23) := congrFun r _
    unfold fX3_byteAt
    rw [f 22 (by decide) (by decide), e]
  rw [f 25 (by decide) (by decide), f 23 (by decide) (by decide), e]
  exact s25
theorem tk_5 {σ τ : sg} (h : TK σ τ) {x : Int32} : TK σ (sF9 τ 5 x) := tk_cong h rfl (fun _ _ _ => rfl) rfl (sF_other (by decide)) (sF_other (by decide)) (sF_other (by decide))
/-- a step, both on -/
theorem step_tk {σ τ : sg} (h : TK σ τ) : TK (fX3_step σ) (fX5_next τ) ∧ CF σ (fX3_step σ) ∧ RF τ (fX5_next τ) ∧ (rF τ 4).toInt ≤ (rF (fX5_next τ) 3).toInt := by
  obtain ⟨b, t23, t24, ⟨p0, p1, p2⟩, _⟩ := h
  exact next_eq b t24 (by omega) p2
theorem cf_rfl {σ : sg} : CF σ σ := ⟨rfl, fun _ _ => rfl⟩
theorem rf_rfl {σ : sg} : RF σ σ := ⟨rfl, fun _ _ => rfl⟩
theorem cf_tr {σ ρ μ : sg} (h : CF σ ρ) (g : CF ρ μ) : CF σ μ := ⟨g.1.trans h.1, fun i hi => (g.2 i hi).trans (h.2 i hi)⟩
theorem rf_tr {σ ρ μ : sg} (h : RF σ ρ) (g : RF ρ μ) : RF σ μ := ⟨g.1.trans h.1, fun i hi => (g.2 i hi).trans (h.2 i hi)⟩
theorem rf_50 {τ : sg} (h5 : rF τ 5 = 0) : RF τ (sF9 τ 5 0) := ⟨rfl, fun i hi => by
  by_cases c : i = 5
  · subst c; rw [sF_same9, h5]
  · exact sF_other c⟩
/-- goes on alike: what both sides come to -/
def GO (σ τ σ' τ' : sg) : Prop := TK σ' τ' ∧ rF τ' 5 = 0 ∧ CF σ σ' ∧ RF τ τ' ∧ (rF τ 3).toInt ≤ (rF τ' 3).toInt
theorem go_rfl {σ τ : sg} (h : TK σ τ) (h5 : rF τ 5 = 0) : GO σ τ σ τ := ⟨h, h5, cf_rfl, rf_rfl, Int.le_refl _⟩
theorem go_step {σ τ : sg} (h : TK σ τ) (h5 : rF τ 5 = 0) : GO σ τ (fX3_step σ) (fX5_next τ) := by
  obtain ⟨a, b, c, d⟩ := step_tk h
  exact ⟨a, (c.2 5 (by decide)).trans h5, b, c, by have := h.2.2.2.1; omega⟩
theorem go_step0 {σ τ : sg} (h : TK σ τ) (h5 : rF τ 5 = 0) : GO σ τ (fX3_step σ) (fX5_next (sF9 τ 5 0)) := by
  obtain ⟨a, b, c, d, e⟩ := go_step (tk_5 (x := 0) h) sF_same9
  refine ⟨a, b, c, rf_tr (rf_50 h5) d, ?_⟩
  rw [sF_other (by decide)] at e
  exact e
theorem takes_eq {σ τ : sg} (h : TK σ τ) (h5 : rF τ 5 = 0) {w : Nat} (hw : w < 17) : (fX3_takesWord w σ).1 = (fX5_takes w τ).1 ∧ GO σ τ (fX3_takesWord w σ).2 (fX5_takes w τ).2 ∧ ((fX5_takes w τ).1 = 0 ∨ (fX5_takes w τ).1 = 1) := by
  have e := isWord_eq h h5 hw
  unfold fX3_takesWord fX5_takes
  simp only [bndE]
  rw [e]
  by_cases c : fX5_isWord w τ = 0
  · rw [if_pos c, if_pos c]
    exact ⟨rfl, go_rfl h h5, Or.inl c⟩
  · rw [if_neg c, if_neg c]
    rw [← e] at c
    exact ⟨rfl, go_step h h5, Or.inr (e.symm.trans (isWord01 (by omega) c).1)⟩
theorem takesW {τ : sg} (h5 : ¬ rF τ 5 = 0) {w : Nat} : fX5_takes w τ = (0, τ) := by
  unfold fX5_takes
  rw [isWord_bad h5, if_pos rfl]
theorem wantsW {τ : sg} (h5 : ¬ rF τ 5 = 0) {w : Nat} : fX5_wants w τ = sF9 τ 5 1 := by
  unfold fX5_wants
  simp only [bndE]
  rw [if_neg h5, sF_same9, if_neg z10]
theorem wants_eq {σ τ : sg} (h : TK σ τ) (h5 : rF τ 5 = 0) {w : Nat} (hw : w < 17) : ((fX3_takesWord w σ) = (0, σ) ∧ fX5_wants w τ = sF9 τ 5 1) ∨ ((fX3_takesWord w σ).1 = 1 ∧ GO σ τ (fX3_takesWord w σ).2 (fX5_wants w τ)) := by
  have e := isWord_eq h h5 hw
  unfold fX3_takesWord fX5_wants
  simp only [bndE]
  rw [e, if_pos h5]
  by_cases c : fX5_isWord w τ = 0
  · rw [if_pos c, if_pos c, sF_same9, if_neg z10, c]
    exact Or.inl ⟨rfl, rfl⟩
  · rw [if_neg c, if_neg c, sF_same9, if_pos rfl]
    rw [← e] at c
    exact Or.inr ⟨e.symm.trans (isWord01 (by omega) c).1, go_step0 h h5⟩
theorem numW {τ : sg} (h5 : ¬ rF τ 5 = 0) {x : Int32} : fX5_number x τ = (fX5_numberHere τ, sF9 τ 5 1) := by
  unfold fX5_number
  simp only [bndE]
  rw [if_neg h5, sF_same9, if_neg z10]
/-- a number, if one within is at hand -/
theorem num_tk {σ τ : sg} (h : TK σ τ) (h5 : rF τ 5 = 0) {lo hi : Int32} (hlo : 0 ≤ lo.toInt) (hhi : hi.toInt ≤ 99) : (fX5_within (fX5_numberHere τ) lo hi = 1 ∧ lo.toInt ≤ (fX5_numberHere τ).toInt ∧ (fX5_numberHere τ).toInt ≤ hi.toInt ∧ fX3_takeNumber lo hi σ = (fX5_numberHere τ, fX3_step σ)) ∨ (fX5_within (fX5_numberHere τ) lo hi = 0 ∧ fX3_takeNumber lo hi σ = (-1, σ)) := by
  obtain ⟨b, t23, t24, p, s25, s3, n1, n2⟩ := h
  have km : (-1 : Int32).toInt = -1 := rfl
  have k1000 : (1000 : Int32).toInt = 1000 := rfl
  unfold fX3_takeNumber
  simp only [bndE]
  by_cases c : rF σ 25 = 2
  · rw [if_pos c, within_eq]
    rcases n1 c with ⟨m1, m2, m3⟩ | ⟨m1, m2, m3⟩
    · rw [m1]
      rcases within01 (v := fX5_numberHere τ) (a := lo) (b := hi) with q | q
      · rw [if_pos q.1]
        exact Or.inr ⟨q.1, rfl⟩
      · rw [if_neg (by rw [q.1]; decide)]
        exact Or.inl ⟨q.1, q.2.1, q.2.2, rfl⟩
    · rw [m1]
      rcases within01 (v := (1000 : Int32)) (a := lo) (b := hi) with q | ⟨q, q2, q3⟩
      · rw [if_pos q.1]
        rcases within01 (v := fX5_numberHere τ) (a := lo) (b := hi) with r | ⟨r, r2, r3⟩
        · exact Or.inr ⟨r.1, rfl⟩
        · omega
      · omega
  · rw [if_neg c]
    rcases within01 (v := fX5_numberHere τ) (a := lo) (b := hi) with r | ⟨r, r2, r3⟩
    · exact Or.inr ⟨r.1, rfl⟩
    · rw [n2 c] at r2
      omega
theorem number_eq {σ τ : sg} (h : TK σ τ) (h5 : rF τ 5 = 0) {hi : Int32} (hhi : hi.toInt ≤ 99) : (0 ≤ (fX5_numberHere τ).toInt ∧ (fX5_numberHere τ).toInt ≤ hi.toInt ∧ fX3_takeNumber 0 hi σ = (fX5_numberHere τ, fX3_step σ) ∧ fX5_number hi τ = (fX5_numberHere τ, fX5_next (sF9 τ 5 0)) ∧ GO σ τ (fX3_step σ) (fX5_next (sF9 τ 5 0))) ∨ (fX3_takeNumber 0 hi σ = (-1, σ) ∧ fX5_number hi τ = (fX5_numberHere τ, sF9 τ 5 1)) := by
  unfold fX5_number
  simp only [bndE]
  rw [if_pos h5]
  rcases num_tk h h5 (lo := 0) (hi := hi) (by decide) hhi with ⟨a1, a2, a3, a4⟩ | ⟨a1, a2⟩
  · rw [if_neg (show ¬ fX5_within (fX5_numberHere τ) 0 hi = 0 by rw [a1]; decide), sF_same9, if_pos rfl]
    exact Or.inl ⟨a2, a3, a4, rfl, go_step0 h h5⟩
  · rw [if_pos a1, sF_same9, if_neg z10]
    exact Or.inr ⟨a2, rfl⟩
end EQ22
