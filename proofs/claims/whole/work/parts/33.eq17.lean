section EQ17
/-- writes at two places -/
theorem sA_comm {σ : sg} {a b : Nat} {i k x y : Int32} (h : a = b → i.toNatClampNeg ≠ k.toNatClampNeg) : sA (sA σ a i x) b k y = sA (sA σ b k y) a i x := by
  refine Prod.ext (funext fun c => ?_) rfl
  by_cases c1 : c = b
  · subst c1
    rw [sA_same]
    by_cases c2 : c = a
    · subst c2
      rw [sA_same, sA_same, sA_same]
      have hne := h rfl
      funext z
      by_cases d1 : z = k.toNatClampNeg
      · rw [d1, pk_us, pk_un (fun q => hne q.symm), pk_us]
      · rw [pk_un d1]
        by_cases d2 : z = i.toNatClampNeg
        · rw [d2, pk_us, pk_us]
        · rw [pk_un d2, pk_un d2, pk_un d1]
    · rw [sA_other c2, sA_other c2, sA_same]
  · rw [sA_other c1]
    by_cases c2 : c = a
    · subst c2
      rw [sA_same, sA_same, sA_other c1]
    · rw [sA_other c2, sA_other c2, sA_other c1]
theorem sA_twice {σ : sg} {a : Nat} {i x y : Int32} : sA (sA σ a i x) a i y = sA σ a i y := by
  refine Prod.ext (funext fun c => ?_) rfl
  by_cases c1 : c = a
  · subst c1
    rw [sA_same, sA_same, sA_same]
    funext z
    by_cases d1 : z = i.toNatClampNeg
    · rw [d1, pk_us, pk_us]
    · rw [pk_un d1, pk_un d1, pk_un d1]
  · rw [sA_other c1, sA_other c1, sA_other c1]
/-- places of a row that are not where the ice lies -/
theorem nix {i w : Int32} {S : Nat} (hi : i.toInt = (10 + S : Nat)) (hS : S < 6) {z : Nat} (hw : w.toInt = z) (hz : z < 10 ∨ 16 ≤ z) : i.toNatClampNeg ≠ w.toNatClampNeg := by
  have e1 := clI (i := i) (by omega)
  have e2 := clI (i := w) (by omega)
  omega
theorem rd_ne {τ : sg} {i w y : Int32} (h : i.toNatClampNeg ≠ w.toNatClampNeg) : rA (sA τ 2 i y) 2 w = rA τ 2 w := by
  show (sA τ 2 i y).1 2 w.toNatClampNeg = τ.1 2 w.toNatClampNeg
  rw [sA_same]; exact pk_un (fun q => h q.symm)
theorem rd_6 {τ : sg} {i w y : Int32} {b : Nat} (hb : b ≠ 2) : rA (sA τ 2 i y) b w = rA τ b w := rA_oth hb
/-- heats don't see how much ice there is, if there is some -/
theorem heat_c {τ : sg} {i v y hr : Int32} {S d : Nat} (hi : i.toInt = (10 + S : Nat)) (hS : S < 6) (hv : v.toInt = d) (hd : d < 6) (h1 : 0 < y.toInt) (h2 : 0 < (rA τ 2 i).toInt) : fX5_heatOf 2 v hr (sA τ 2 i y) = fX5_heatOf 2 v hr τ := by
  have k0 : (0 : Int32).toInt = 0 := rfl
  have i4 := ixC (c := 4) (C := 4) hv (by omega) rfl (by decide)
  have i10 := ixC (c := 10) (C := 10) hv (by omega) rfl (by decide)
  have i16 := ixC (c := 16) (C := 16) hv (by omega) rfl (by decide)
  have e1 : rA (sA τ 2 i y) 2 1 = rA τ 2 1 := rd_ne (nix hi hS (z := 1) rfl (by omega))
  have e4 : rA (sA τ 2 i y) 2 (4 + v) = rA τ 2 (4 + v) := rd_ne (nix hi hS i4 (by omega))
  have e16 : rA (sA τ 2 i y) 2 (16 + v) = rA τ 2 (16 + v) := rd_ne (nix hi hS i16 (by omega))
  have e10 : rA (sA τ 2 i y) 2 (10 + v) ≤ 0 ↔ rA τ 2 (10 + v) ≤ 0 := by
    by_cases c : d = S
    · have ei : 10 + v = i := Int32.toInt.inj (by omega)
      rw [ei, rA_own]
      exact ⟨fun q => by have := leI q; omega, fun q => by have := leI q; omega⟩
    · rw [rd_ne (fun q => by
        have q1 := clI (i := i) (by omega)
        have q2 := clI (i := 10 + v) (by omega)
        omega)]
  unfold fX5_heatOf
  simp only [e1, e4, e16, e10]
theorem cm2 {i y : Int32} {S : Nat} (hi : i.toInt = (10 + S : Nat)) (hS : S < 6) (h1 : 0 < y.toInt) : ∀ (k d : Nat) (v : Int32) (τ : sg), 0 < (rA τ 2 i).toInt → v.toInt = d → d ≤ 6 → LX5_anHour_2 2 k v (sA τ 2 i y) = sA (LX5_anHour_2 2 k v τ) 2 i y ∧ rA (LX5_anHour_2 2 k v τ) 2 i = rA τ 2 i := by
  intro k
  induction k with
  | zero => intro d v τ _ _ _; exact ⟨rfl, rfl⟩
  | succ k ih =>
    intro d v τ h2 hv hd
    have k1 : (1 : Int32).toInt = 1 := rfl
    have k6 : (6 : Int32).toInt = 6 := rfl
    rw [LX5_anHour_2, LX5_anHour_2]
    by_cases cc : 6 ≤ v
    · rw [if_pos cc, if_pos cc]
      exact ⟨rfl, rfl⟩
    · have q := nleI cc
      have e1 := addI (x := v) (y := 1) (by omega) (by omega)
      have e2 : rA (sA τ 2 i y) 2 2 = rA τ 2 2 := rd_ne (nix hi hS (z := 2) rfl (by omega))
      rw [if_neg cc, if_neg cc, e2, heat_c hi hS hv (by omega) h1 h2]
      simp only [bndE]
      rw [sA_comm (fun q => absurd q (by decide))]
      have g := ih (d + 1) (v + 1) (sA τ 6 v (fX5_heatOf 2 v (rA τ 2 2) τ)) (by rw [rA_oth (by decide)]; exact h2) (by omega) (by omega)
      rw [rA_oth (show 2 ≠ 6 by decide)] at g
      exact g
theorem cmD {i y : Int32} {S : Nat} (hi : i.toInt = (10 + S : Nat)) (hS : S < 6) {n : Nat} (n8 : n ≤ 8) : ∀ (k d : Nat) (w v : Int32) (τ : sg), rA τ 2 0 = nI n → v.toInt = d → d ≤ n → LX5_drops_2 2 k w v (sA τ 2 i y) = sA (LX5_drops_2 2 k w v τ) 2 i y ∧ rA (LX5_drops_2 2 k w v τ) 2 i = rA τ 2 i ∧ rA (LX5_drops_2 2 k w v τ) 2 0 = nI n := by
  intro k
  induction k with
  | zero => intro d w v τ h _ _; exact ⟨rfl, rfl, h⟩
  | succ k ih =>
    intro d w v τ h hv hd
    have n3 := nI_toInt (n := n) (by omega)
    have k1 : (1 : Int32).toInt = 1 := rfl
    have e0 : rA (sA τ 2 i y) 2 0 = rA τ 2 0 := rd_ne (nix hi hS (z := 0) rfl (by omega))
    rw [LX5_drops_2, LX5_drops_2, e0, h]
    by_cases cc : nI n ≤ v
    · rw [if_pos cc, if_pos cc]
      exact ⟨rfl, rfl, h⟩
    · have q := nleI cc
      have e1 := addI (x := v) (y := 1) (by omega) (by omega)
      have i40 := ixC (c := 40) (C := 40) hv (by omega) rfl (by decide)
      have i56 := ixC (c := 56) (C := 56) hv (by omega) rfl (by decide)
      have i64 := ixC (c := 64) (C := 64) hv (by omega) rfl (by decide)
      have n56 := nix hi hS i56 (by omega)
      rw [if_neg cc, if_neg cc, rd_ne (nix hi hS i40 (by omega)), rd_ne (nix hi hS i64 (by omega)), rd_ne n56]
      have nx := ih (d + 1) w (v + 1)
      by_cases c1 : rA τ 2 (40 + v) = w
      · rw [if_pos c1, if_pos c1]
        by_cases c2 : rA τ 2 (64 + v) = 0
        · rw [if_pos c2, if_pos c2]
          simp only [bndE]
          rw [sA_comm (fun _ => n56)]
          have g := nx (sA τ 2 (56 + v) (fX5_softer (rA τ 2 (56 + v)) 3)) (by rw [rA0 (by omega)]; exact h) (by omega) (by omega)
          rw [show rA (sA τ 2 (56 + v) (fX5_softer (rA τ 2 (56 + v)) 3)) 2 i = rA τ 2 i from rd_ne (fun q => n56 q.symm)] at g
          exact g
        · rw [if_neg c2, if_neg c2]
          exact nx τ h (by omega) (by omega)
      · rw [if_neg c1, if_neg c1]
        exact nx τ h (by omega) (by omega)
/-- the state is written where the ice lies, nothing else differs -/
def IW (i : Int32) (y : Int32) (n : Nat) (τ : sg) (T U : Int32 × sg) : Prop := T = (U.1, sA U.2 2 i y) ∧ rA U.2 2 i = rA τ 2 i ∧ rA U.2 2 0 = nI n
theorem cm32 {i y : Int32} {S : Nat} (hi : i.toInt = (10 + S : Nat)) (hS : S < 6) {n : Nat} (n8 : n ≤ 8) : ∀ (k d : Nat) (c v : Int32) (τ : sg), rA τ 2 0 = nI n → v.toInt = d → d ≤ n → IW i y n τ (LX5_anHour_32 2 k c v (sA τ 2 i y)) (LX5_anHour_32 2 k c v τ) := by
  intro k
  induction k with
  | zero => intro d c v τ h _ _; exact ⟨rfl, rfl, h⟩
  | succ k ih =>
    intro d c v τ h hv hd
    have n3 := nI_toInt (n := n) (by omega)
    have k1 : (1 : Int32).toInt = 1 := rfl
    have e0 : rA (sA τ 2 i y) 2 0 = rA τ 2 0 := rd_ne (nix hi hS (z := 0) rfl (by omega))
    by_cases cc : nI n ≤ v
    · rw [LX5_anHour_32, LX5_anHour_32, e0, h, if_pos cc, if_pos cc]
      exact ⟨rfl, rfl, h⟩
    · have q := nleI cc
      have e1 := addI (x := v) (y := 1) (by omega) (by omega)
      have i32 := ixC (c := 32) (C := 32) hv (by omega) rfl (by decide)
      have i40 := ixC (c := 40) (C := 40) hv (by omega) rfl (by decide)
      have i48 := ixC (c := 48) (C := 48) hv (by omega) rfl (by decide)
      have i56 := ixC (c := 56) (C := 56) hv (by omega) rfl (by decide)
      have i64 := ixC (c := 64) (C := 64) hv (by omega) rfl (by decide)
      have n32 := nix hi hS i32 (by omega)
      have n40 := nix hi hS i40 (by omega)
      have n48 := nix hi hS i48 (by omega)
      have n56 := nix hi hS i56 (by omega)
      have n64 := nix hi hS i64 (by omega)
      by_cases c2 : rA τ 2 (64 + v) = 0
      · have c2' : rA (sA τ 2 i y) 2 (64 + v) = 0 := by rw [rd_ne n64]; exact c2
        rw [a32 (by rw [h]; exact cc) c2, a32 (by rw [e0, h]; exact cc) c2']
        have em : newS 2 v (sA τ 2 i y) = newS 2 v τ := by
          unfold newS mor
          rw [rd_ne n56, rd_ne n32, rd_ne n40, rd_ne n48, rd_6 (by decide)]
        rw [em, rd_ne n32]
        have w0 : ∀ z : Int32, rA (sA τ 2 (56 + v) z) 2 0 = nI n := fun z => by rw [rA0 (by omega)]; exact h
        have wi : ∀ z : Int32, rA (sA τ 2 (56 + v) z) 2 i = rA τ 2 i := fun z => rd_ne (fun q => n56 q.symm)
        simp only [bndE]
        rw [sA_comm (fun _ => n56)]
        have w1 := w0 (newS 2 v τ)
        have w2 := wi (newS 2 v τ)
        generalize sA τ 2 (56 + v) (newS 2 v τ) = t at w1 w2
        rw [rd_ne n56]
        by_cases c3 : rA t 2 (56 + v) < fX5_runsAt (rA τ 2 (32 + v))
        · rw [if_pos c3, if_pos c3]
          have g := ih (d + 1) c (v + 1) t w1 (by omega) (by omega)
          exact ⟨g.1, g.2.1.trans w2, g.2.2⟩
        · rw [if_neg c3, if_neg c3, sA_comm (fun _ => n64)]
          have x1 : rA (sA t 2 (64 + v) 1) 2 0 = nI n := by rw [rA0 (by omega)]; exact w1
          have x2 : rA (sA t 2 (64 + v) 1) 2 i = rA τ 2 i := (rd_ne (fun q => n64 q.symm)).trans w2
          generalize sA t 2 (64 + v) 1 = u at x1 x2
          rw [rd_ne n40]
          have gd : fX5_drops 2 (rA u 2 (40 + v) + 1) (sA u 2 i y) = sA (fX5_drops 2 (rA u 2 (40 + v) + 1) u) 2 i y ∧ rA (fX5_drops 2 (rA u 2 (40 + v) + 1) u) 2 i = rA u 2 i ∧ rA (fX5_drops 2 (rA u 2 (40 + v) + 1) u) 2 0 = nI n := by
            rw [fX5_drops, fX5_drops]
            simp only [bndE]
            exact cmD hi hS n8 9 0 _ 0 u x1 rfl (Nat.zero_le _)
          rw [gd.1]
          have y1 := gd.2.1
          have y2 := gd.2.2
          generalize fX5_drops 2 (rA u 2 (40 + v) + 1) u = z at y1 y2
          have g := ih (d + 1) (c + 1) (v + 1) z y2 (by omega) (by omega)
          exact ⟨g.1, g.2.1.trans (y1.trans x2), g.2.2⟩
      · rw [LX5_anHour_32, LX5_anHour_32, e0, h, if_neg cc, if_neg cc, rd_ne n64, if_neg c2, if_neg c2]
        exact ih (d + 1) c (v + 1) τ h (by omega) (by omega)
theorem cm156 {i : Int32} {S : Nat} (hi : i.toInt = (10 + S : Nat)) (hS : S < 6) : ∀ (k d : Nat) (c v y : Int32) (τ : sg), v.toInt = d → d ≤ 6 → (d ≤ S → 0 < y.toInt ∧ 0 < (rA τ 2 i).toInt) → ∃ z : Int32, LX5_anHour_156 2 k c v (sA τ 2 i y) = sA (LX5_anHour_156 2 k c v τ) 2 i z ∧ y.toInt - (if d ≤ S then 1 else 0) ≤ z.toInt ∧ (rA τ 2 i).toInt - (if d ≤ S then 1 else 0) ≤ (rA (LX5_anHour_156 2 k c v τ) 2 i).toInt := by
  intro k
  induction k with
  | zero =>
    intro d c v y τ _ _ _
    exact ⟨y, rfl, by split <;> omega, by show _ ≤ (rA τ 2 i).toInt; split <;> omega⟩
  | succ k ih =>
    intro d c v y τ hv hd hp
    have k0 : (0 : Int32).toInt = 0 := rfl
    have k1 : (1 : Int32).toInt = 1 := rfl
    have k6 : (6 : Int32).toInt = 6 := rfl
    rw [LX5_anHour_156, LX5_anHour_156]
    by_cases cc : 6 ≤ v
    · rw [if_pos cc, if_pos cc]
      exact ⟨y, rfl, by split <;> omega, by split <;> omega⟩
    · have q := nleI cc
      have e1 := addI (x := v) (y := 1) (by omega) (by omega)
      have i10 := ixC (c := 10) (C := 10) hv (by omega) rfl (by decide)
      rw [if_neg cc, if_neg cc, rd_6 (show 6 ≠ 2 by decide)]
      simp only [bndE]
      by_cases cS : d = S
      · subst cS
        have ei : 10 + v = i := Int32.toInt.inj (by omega)
        obtain ⟨p1, p2⟩ := hp (Nat.le_refl _)
        have s1 := subI (x := y) (y := 1) (by omega) (by have := Int32.toInt_lt y; omega)
        have s2 := subI (x := rA τ 2 i) (y := 1) (by omega) (by have := Int32.toInt_lt (rA τ 2 i); omega)
        rw [ei, rA_own, sA_twice, sA_twice, Int32.sub_zero, Int32.sub_zero, if_neg (show ¬ y ≤ 0 from fun z => by have := leI z; omega), if_neg (show ¬ rA τ 2 i ≤ 0 from fun z => by have := leI z; omega)]
        by_cases c1 : rA τ 6 v ≤ 20
        · rw [if_pos c1, if_pos c1]
          obtain ⟨z, z1, z2, z3⟩ := ih (d + 1) c (v + 1) y (sA τ 2 i (rA τ 2 i)) (by omega) (by omega) (fun q => by omega)
          rw [sA_twice] at z1
          rw [rA_own, if_neg (by omega)] at z3
          rw [if_neg (by omega)] at z2
          exact ⟨z, z1, by rw [if_pos (Nat.le_refl _)]; omega, by rw [if_pos (Nat.le_refl _)]; omega⟩
        · rw [if_neg c1, if_neg c1]
          obtain ⟨z, z1, z2, z3⟩ := ih (d + 1) c (v + 1) (y - 1) (sA τ 2 i (rA τ 2 i - 1)) (by omega) (by omega) (fun q => by omega)
          rw [sA_twice] at z1
          rw [rA_own, if_neg (by omega)] at z3
          rw [if_neg (by omega)] at z2
          exact ⟨z, z1, by rw [if_pos (Nat.le_refl _)]; omega, by rw [if_pos (Nat.le_refl _)]; omega⟩
      · have n10 : i.toNatClampNeg ≠ (10 + v).toNatClampNeg := fun q => by
          have q1 := clI (i := i) (by omega)
          have q2 := clI (i := 10 + v) (by omega)
          omega
        have n10' : (10 + v).toNatClampNeg ≠ i.toNatClampNeg := fun q => n10 q.symm
        have fin : ∀ x : Int32, ∃ z : Int32, LX5_anHour_156 2 k c (v + 1) (sA (sA τ 2 i y) 2 (10 + v) x) = sA (LX5_anHour_156 2 k c (v + 1) (sA τ 2 (10 + v) x)) 2 i z ∧ y.toInt - (if d ≤ S then 1 else 0) ≤ z.toInt ∧ (rA τ 2 i).toInt - (if d ≤ S then 1 else 0) ≤ (rA (LX5_anHour_156 2 k c (v + 1) (sA τ 2 (10 + v) x)) 2 i).toInt := fun x => by
          have w : rA (sA τ 2 (10 + v) x) 2 i = rA τ 2 i := rd_ne n10'
          obtain ⟨z, z1, z2, z3⟩ := ih (d + 1) c (v + 1) y (sA τ 2 (10 + v) x) (by omega) (by omega) (fun q => by rw [w]; exact hp (by omega))
          rw [w] at z3
          rw [sA_comm (fun _ => n10)]
          refine ⟨z, z1, ?_, ?_⟩
          · by_cases q1 : d + 1 ≤ S
            · rw [if_pos q1] at z2; rw [if_pos (by omega)]; exact z2
            · rw [if_neg q1] at z2; rw [if_neg (by omega)]; exact z2
          · by_cases q1 : d + 1 ≤ S
            · rw [if_pos q1] at z3; rw [if_pos (by omega)]; exact z3
            · rw [if_neg q1] at z3; rw [if_neg (by omega)]; exact z3
        rw [rd_ne n10]
        by_cases c1 : rA τ 6 v ≤ 20
        · rw [if_pos c1, if_pos c1]; exact fin _
        · rw [if_neg c1, if_neg c1]
          by_cases c2 : rA τ 2 (10 + v) ≤ 0
          · rw [if_pos c2, if_pos c2]; exact fin _
          · rw [if_neg c2, if_neg c2]; exact fin _
theorem cmH {i y : Int32} {S n : Nat} (hi : i.toInt = (10 + S : Nat)) (hS : S < 6) (n8 : n ≤ 8) {τ : sg} (h : rA τ 2 0 = nI n) (h1 : 0 < y.toInt) (h2 : 0 < (rA τ 2 i).toInt) : ∃ z : Int32, (fX5_anHour 2 (sA τ 2 i y)).2 = sA (fX5_anHour 2 τ).2 2 i z ∧ y.toInt - 1 ≤ z.toInt ∧ (rA τ 2 i).toInt - 1 ≤ (rA (fX5_anHour 2 τ).2 2 i).toInt := by
  rw [fX5_anHour, fX5_anHour]
  simp only [bndE]
  obtain ⟨a1, a2⟩ := cm2 hi hS h1 7 0 0 τ h2 rfl (by decide)
  rw [a1]
  have a3 : rA (LX5_anHour_2 2 7 0 τ) 2 0 = nI n := by
    have z : ∀ (k : Nat) (v : Int32) (τ : sg), rA (LX5_anHour_2 2 k v τ) 2 0 = rA τ 2 0 := by
      intro k
      induction k with
      | zero => intro v τ; rfl
      | succ k ih =>
        intro v τ
        rw [LX5_anHour_2]
        refine wf_ite (P := fun T : sg => rA T 2 0 = rA τ 2 0) (fun _ => rfl) (fun _ => wf_bnd (P := fun T : sg => rA T 2 0 = rA τ 2 0) (fun r er => ?_))
        rw [ih, er, rA_oth (by decide)]
    rw [z]; exact h
  generalize LX5_anHour_2 2 7 0 τ = t at a2 a3
  obtain ⟨b1, b2, b3⟩ := cm32 (y := y) hi hS n8 9 0 0 0 t a3 rfl (Nat.zero_le _)
  rw [b1]
  generalize LX5_anHour_32 2 9 0 0 t = u at b2 b3
  rw [a2] at b2
  show ∃ z : Int32, sA (LX5_anHour_156 2 7 u.1 0 (sA u.2 2 i y)) 2 2 (rA (LX5_anHour_156 2 7 u.1 0 (sA u.2 2 i y)) 2 2 + 1) = sA (sA (LX5_anHour_156 2 7 u.1 0 u.2) 2 2 (rA (LX5_anHour_156 2 7 u.1 0 u.2) 2 2 + 1)) 2 i z ∧ y.toInt - 1 ≤ z.toInt ∧ (rA τ 2 i).toInt - 1 ≤ (rA (sA (LX5_anHour_156 2 7 u.1 0 u.2) 2 2 (rA (LX5_anHour_156 2 7 u.1 0 u.2) 2 2 + 1)) 2 i).toInt
  obtain ⟨z, c1, c2, c3⟩ := cm156 hi hS 7 0 u.1 0 y u.2 rfl (by decide) (fun _ => ⟨h1, by rw [b2]; exact h2⟩)
  rw [if_pos (Nat.zero_le _)] at c2 c3
  rw [b2] at c3
  rw [c1]
  generalize LX5_anHour_156 2 7 u.1 0 u.2 = x at c3
  have n2 := nix hi hS (w := 2) (z := 2) rfl (by omega)
  refine ⟨z, ?_, c2, ?_⟩
  · rw [rd_ne n2, sA_comm (fun _ => n2)]
  · rw [rd_ne (fun q => n2 q.symm)]
    exact c3
theorem cmHm {i : Int32} {S n j : Nat} (hi : i.toInt = (10 + S : Nat)) (hS : S < 6) : ∀ (m : Nat) (y : Int32) (σ τ : sg), RC σ j (τ.1 2) n → (m : Int) ≤ y.toInt → (m : Int) ≤ (rA τ 2 i).toInt → ∃ z : Int32, (h5 2 m 0 (sA τ 2 i y)).2 = sA (h5 2 m 0 τ).2 2 i z := by
  intro m
  induction m with
  | zero => intro y σ τ _ _ _; exact ⟨y, rfl⟩
  | succ m ih =>
    intro y σ τ h h1 h2
    have n8 := h.1.1
    obtain ⟨z, z1, z2, z3⟩ := cmH (y := y) hi hS n8 (τ := τ) h.1.2.1 (by omega) (by omega)
    have g := hour_eq (show 2 < 4 by decide) h
    obtain ⟨x, hx⟩ := ih z _ (fX5_anHour 2 τ).2 g.2.1 (by omega) (by omega)
    refine ⟨x, ?_⟩
    have e1 : (h5 2 (m + 1) 0 (sA τ 2 i y)).2 = (h5 2 m 0 (fX5_anHour 2 (sA τ 2 i y)).2).2 := h5c m _ 0 _
    have e2 : (h5 2 (m + 1) 0 τ).2 = (h5 2 m 0 (fX5_anHour 2 τ).2).2 := h5c m _ 0 _
    rw [e1, e2, z1, hx]
/-- who holds doesn't see the ice -/
theorem pH_ice {i y : Int32} {S n j : Nat} (hi : i.toInt = (10 + S : Nat)) (hS : S < 6) {σ τ : sg} (h : RC σ j (τ.1 2) n) {D : Nat} (hD : D < n) : pH 2 (sA τ 2 i y) D = pH 2 τ D := by
  have n8 := h.1.1
  have l := rc_self h
  have e : ∀ k : Nat, (k < 10 ∨ 16 ≤ k) → (sA τ 2 i y).1 2 k = τ.1 2 k := fun k hk => by
    have q := clI (i := i) (by omega)
    rw [sA_same]; exact pk_un (by omega)
  have on' : ON ((sA τ 2 i y).1 2) n := ⟨n8, by rw [e 0 (by omega)]; exact l.1.2.1, fun d hd => by rw [e _ (by omega)]; exact l.1.2.2 d hd⟩
  have l1 : LR n (τ.1 2) ((sA τ 2 i y).1 2) := ⟨l.1, on', fun d hd => e _ (by omega), l.2.2.2.1, fun d hd q => by rw [e _ (by omega)]; exact q⟩
  have l2 : LR n ((sA τ 2 i y).1 2) (τ.1 2) := ⟨on', l.1, fun d hd => (e _ (by omega)).symm, fun d hd => by rw [e _ (by omega)]; exact l.2.2.2.1 d hd, fun d hd q => by rw [e _ (by omega)] at q; exact q⟩
  rcases pH01 (a := 2) (d := D) (τ := τ) with q | q
  · rcases pH01 (a := 2) (d := D) (τ := sA τ 2 i y) with p | p
    · rw [p, q]
    · have := holds_lr l1 D hD p
      rw [q] at this
      exact absurd this (by decide)
  · rw [q]; exact holds_lr l2 D hD q
/-- what a row comes to is the row's alone -/
theorem pH_row {n m j : Nat} {ρ τ τ' : sg} (h : RC ρ j (τ.1 2) n) (h' : RC ρ j (τ'.1 2) n) {D : Nat} (hD : D < n) : pH 2 (h5 2 m 0 τ).2 D = pH 2 (h5 2 m 0 τ').2 D := by
  have n8 := h.1.1
  have g := hq0 (show 2 < 4 by decide) m 0 ρ τ h
  have g' := hq0 (show 2 < 4 by decide) m 0 ρ τ' h'
  have e := peaceHolds_eq g.2.1 (v := nI D) (nI_toInt (by omega)) hD
  have e' := peaceHolds_eq g'.2.1 (v := nI D) (nI_toInt (by omega)) hD
  exact e.symm.trans e'
end EQ17
