section EQ3
theorem feels_eq (k h : Int32) : fX1_feels k h = fX5_feels k h := by
  unfold fX1_feels fX5_feels
  by_cases h4 : k = 4
  · subst h4
    rw [if_pos rfl, if_neg (by decide), if_neg (by decide), if_pos rfl]
  · simp only [if_neg h4, Int32.mul_comm h 2]
theorem stands_eq (k w : Int32) : fX1_stands k w = fX5_stands k w := by
  unfold fX1_stands fX5_stands
  by_cases h4 : k = 4
  · subst h4
    rw [if_neg (by decide), if_neg (by decide), if_pos rfl, if_neg (by decide), if_neg (by decide), if_neg (by decide)]
  · by_cases h5 : k = 5
    · subst h5
      rw [if_neg (by decide), if_neg (by decide), if_neg (by decide), if_pos rfl, if_neg (by decide), if_neg (by decide), if_neg (by decide)]
    · simp only [if_neg h4, if_neg h5]
theorem runs_eq (k : Int32) : fX1_runsAt k = fX5_runsAt k := by
  by_cases h1 : k = 1
  · subst h1; decide
  · by_cases h2 : k = 2
    · subst h2; decide
    · by_cases h3 : k = 3
      · subst h3; decide
      · by_cases h4 : k = 4
        · subst h4; decide
        · unfold fX1_runsAt fX5_runsAt
          simp only [if_neg h1, if_neg h2, if_neg h3, if_neg h4]
theorem feelD9 : ∀ k : Nat, k < 7 → ∀ m : Nat, m < 201 → -200 ≤ (fX5_feels (nI k) (nI m - 100)).toInt ∧ (fX5_feels (nI k) (nI m - 100)).toInt ≤ 200 := by decide +kernel
theorem feel_bd {k h : Int32} (hk : 0 ≤ k.toInt ∧ k.toInt ≤ 6) (hh : -100 ≤ h.toInt ∧ h.toInt ≤ 100) : -200 ≤ (fX5_feels k h).toInt ∧ (fX5_feels k h).toInt ≤ 200 := by
  have k100 : (100 : Int32).toInt = 100 := rfl
  obtain ⟨c, hc, rfl⟩ := nI_of (x := k) (fun q => by have := ltI q; have k0 : (0 : Int32).toInt = 0 := rfl; omega)
  rw [nI_toInt hc] at hk
  have e : h = nI (h.toInt + 100).toNat - 100 := by
    apply Int32.toInt.inj
    have e1 := nI_toInt (n := (h.toInt + 100).toNat) (by omega)
    rw [subI (by rw [e1, k100]; omega) (by rw [e1, k100]; omega), e1, k100]
    omega
  rw [e]
  exact feelD9 c (by omega) _ (by omega)
theorem stand_bd {k w : Int32} (hw : 1 ≤ w.toInt ∧ w.toInt ≤ 99) : -8 ≤ (fX5_stands k w).toInt ∧ (fX5_stands k w).toInt ≤ 99 := by
  have k8 : (8 : Int32).toInt = 8 := rfl
  have k5 : (5 : Int32).toInt = 5 := rfl
  have e8 := subI (x := w) (y := 8) (by omega) (by omega)
  have e5 := subI (x := w) (y := 5) (by omega) (by omega)
  unfold fX5_stands
  split
  · omega
  · split
    · omega
    · split
      · omega
      · omega
theorem jmin99 {y : Int32} : (jmin 99 y).toInt ≤ 99 ∧ ((jmin 99 y).toInt = 99 ∨ jmin 99 y = y) := by
  have k99 : (99 : Int32).toInt = 99 := rfl
  unfold jmin
  split
  · rename_i c
    have := ltI c
    exact ⟨by omega, Or.inr rfl⟩
  · exact ⟨by omega, Or.inl k99⟩
theorem softY {x m : Int32} : 0 ≤ (fX5_softer x m).toInt ∧ (fX5_softer x m).toInt ≤ 99 := by
  have k0 : (0 : Int32).toInt = 0 := rfl
  have h := (jmin99 (y := x + m)).1
  unfold fX5_softer
  generalize jmin 99 (x + m) = z at h
  unfold jmax
  split
  · rename_i c
    have := ltI c
    omega
  · omega
theorem softA {x : Int32} (h : 0 ≤ x.toInt ∧ x.toInt ≤ 99) : jmax 0 (x - 1) = fX5_softer x (-1) := by
  have km : (-1 : Int32).toInt = -1 := rfl
  have k99 : (99 : Int32).toInt = 99 := rfl
  have e := addI (x := x) (y := -1) (by omega) (by omega)
  have e2 : jmin 99 (x + -1) = x + -1 := by
    unfold jmin
    split
    · rfl
    · rename_i c
      have := nltI c
      omega
  show jmax 0 (x - 1) = jmax 0 (jmin 99 (x + -1))
  rw [e2, Int32.sub_eq_add_neg]
theorem softB {x m : Int32} (h : 0 ≤ x.toInt ∧ x.toInt ≤ 99) (hm : 0 ≤ m.toInt ∧ m.toInt ≤ 1000) : jmin 99 (x + m) = fX5_softer x m := by
  have k99 : (99 : Int32).toInt = 99 := rfl
  have e := addI (x := x) (y := m) (by omega) (by omega)
  have g : 0 ≤ (jmin 99 (x + m)).toInt := by
    rcases (jmin99 (y := x + m)).2 with q | q
    · omega
    · rw [q]; omega
  exact (jmax0 g).symm
/-- places in a row -/
theorem ixC {v c : Int32} {d C : Nat} (hv : v.toInt = d) (hd : d < 100) (hc : c.toInt = C) (hC : C < 1000) : (c + v).toInt = (C + d : Nat) := by
  have e := addI (x := c) (y := v) (by omega) (by omega)
  omega
theorem ixT {v : Int32} {d : Nat} (hv : v.toInt = d) (hd : d < 8) : (32 + v).toInt = (of9 0 + d : Nat) ∧ (40 + v).toInt = (of9 1 + d : Nat) ∧ (48 + v).toInt = (of9 2 + d : Nat) ∧ (56 + v).toInt = (of9 3 + d : Nat) ∧ (72 + v).toInt = (of9 4 + d : Nat) ∧ (64 + v).toInt = (64 + d : Nat) :=
  ⟨ixC hv (by omega) rfl (by decide), ixC hv (by omega) rfl (by decide), ixC hv (by omega) rfl (by decide), ixC hv (by omega) rfl (by decide), ixC hv (by omega) rfl (by decide), ixC hv (by omega) rfl (by decide)⟩
theorem rc_kind {σ τ : sg} {j a n : Nat} (h : RC σ j (τ.1 a) n) {v : Int32} {d : Nat} (hd : d < n) (hv : v.toInt = d) : rA σ (8 * j) v = rA τ a (32 + v) ∧ 0 ≤ (rA τ a (32 + v)).toInt ∧ (rA τ a (32 + v)).toInt ≤ 6 := by
  have n8 := h.1.1
  have q := rcG h (t := 0) (by decide) hd hv (ixT hv (by omega)).1
  unfold BD at q
  rw [if_pos rfl] at q
  exact q
theorem rc_shelf {σ τ : sg} {j a n : Nat} (h : RC σ j (τ.1 a) n) {v : Int32} {d : Nat} (hd : d < n) (hv : v.toInt = d) : rA σ (8 * j + 1) v = rA τ a (40 + v) ∧ 0 ≤ (rA τ a (40 + v)).toInt ∧ (rA τ a (40 + v)).toInt ≤ 5 := by
  have n8 := h.1.1
  have q := rcG h (t := 1) (by decide) hd hv (ixT hv (by omega)).2.1
  unfold BD at q
  rw [if_neg (by decide), if_pos rfl] at q
  exact q
theorem rc_wax {σ τ : sg} {j a n : Nat} (h : RC σ j (τ.1 a) n) {v : Int32} {d : Nat} (hd : d < n) (hv : v.toInt = d) : rA σ (8 * j + 2) v = rA τ a (48 + v) ∧ 1 ≤ (rA τ a (48 + v)).toInt ∧ (rA τ a (48 + v)).toInt ≤ 99 := by
  have n8 := h.1.1
  have q := rcG h (t := 2) (by decide) hd hv (ixT hv (by omega)).2.2.1
  unfold BD at q
  rw [if_neg (by decide), if_neg (by decide), if_pos rfl] at q
  exact q
theorem rc_soft {σ τ : sg} {j a n : Nat} (h : RC σ j (τ.1 a) n) {v : Int32} {d : Nat} (hd : d < n) (hv : v.toInt = d) : rA σ (8 * j + 3) v = rA τ a (56 + v) ∧ 0 ≤ (rA τ a (56 + v)).toInt ∧ (rA τ a (56 + v)).toInt ≤ 99 := by
  have n8 := h.1.1
  have q := rcG h (t := 3) (by decide) hd hv (ixT hv (by omega)).2.2.2.1
  unfold BD at q
  rw [if_neg (by decide), if_neg (by decide), if_neg (by decide), if_pos rfl] at q
  exact q
theorem rc_on {σ τ : sg} {j a n : Nat} (h : RC σ j (τ.1 a) n) {v : Int32} {d : Nat} (hd : d < n) (hv : v.toInt = d) : rA σ (8 * j + 4) v = rA τ a (72 + v) ∧ -1 ≤ (rA τ a (72 + v)).toInt ∧ (rA τ a (72 + v)).toInt < d := by
  have n8 := h.1.1
  have q := rcG h (t := 4) (by decide) hd hv (ixT hv (by omega)).2.2.2.2.1
  unfold BD at q
  rw [if_neg (by decide), if_neg (by decide), if_neg (by decide), if_neg (by decide)] at q
  exact q
theorem bd0 {d : Nat} {x : Int32} (h : 0 ≤ x.toInt ∧ x.toInt ≤ 6) : BD 0 d x.toInt := by
  unfold BD; rw [if_pos rfl]; exact h
theorem bd1 {d : Nat} {x : Int32} (h : 0 ≤ x.toInt ∧ x.toInt ≤ 5) : BD 1 d x.toInt := by
  unfold BD; rw [if_neg (by decide), if_pos rfl]; exact h
theorem bd2 {d : Nat} {x : Int32} (h : 1 ≤ x.toInt ∧ x.toInt ≤ 99) : BD 2 d x.toInt := by
  unfold BD; rw [if_neg (by decide), if_neg (by decide), if_pos rfl]; exact h
theorem bd3 {d : Nat} {x : Int32} (h : 0 ≤ x.toInt ∧ x.toInt ≤ 99) : BD 3 d x.toInt := by
  unfold BD; rw [if_neg (by decide), if_neg (by decide), if_neg (by decide), if_pos rfl]; exact h
theorem bd4 {d : Nat} {x : Int32} (h : -1 ≤ x.toInt ∧ x.toInt < d) : BD 4 d x.toInt := by
  unfold BD; rw [if_neg (by decide), if_neg (by decide), if_neg (by decide), if_neg (by decide)]; exact h
theorem rA_own {σ : sg} {b : Nat} {v x : Int32} : rA (sA σ b v x) b v = x := by
  show (sA σ b v x).1 b v.toNatClampNeg = x
  rw [sA_same]; exact pk_us
theorem rA_oth {σ : sg} {b c : Nat} {v x i : Int32} (h : c ≠ b) : rA (sA σ b v x) c i = rA σ c i := by
  show (sA σ b v x).1 c i.toNatClampNeg = σ.1 c i.toNatClampNeg
  rw [sA_other h]
theorem rA_ix {σ : sg} {b : Nat} {v x i : Int32} (h1 : 0 ≤ i.toInt) (h2 : 0 ≤ v.toInt) (h : i.toInt ≠ v.toInt) : rA (sA σ b v x) b i = rA σ b i := by
  show (sA σ b v x).1 b i.toNatClampNeg = σ.1 b i.toNatClampNeg
  have e1 := clI h1
  have e2 := clI h2
  rw [sA_same]; exact pk_un (by omega)
/-- how soft a deed gets in an hour -/
def mor (a : Nat) (v : Int32) (τ : sg) : Int32 := fX5_feels (rA τ a (32 + v)) (rA τ 6 (rA τ a (40 + v))) - fX5_stands (rA τ a (32 + v)) (rA τ a (48 + v))
def newS (a : Nat) (v : Int32) (τ : sg) : Int32 := fX5_softer (rA τ a (56 + v)) (if mor a v τ ≤ 0 then -1 else mor a v τ)
theorem a32 {a k : Nat} {c v : Int32} {τ : sg} (c1 : ¬ rA τ a 0 ≤ v) (c2 : rA τ a (64 + v) = 0) : LX5_anHour_32 a (k + 1) c v τ = bnd (sA τ a (56 + v) (newS a v τ)) (fun s => if (rA s a (56 + v)) < (fX5_runsAt (rA τ a (32 + v))) then LX5_anHour_32 a k c (v + 1) s else bnd (sA s a (64 + v) 1) (fun s29 => bnd (fX5_drops a ((rA s29 a (40 + v)) + 1) s29) (fun r35 => LX5_anHour_32 a k (c + 1) (v + 1) r35))) := by
  rw [LX5_anHour_32, if_neg c1, if_pos c2]
  unfold newS
  by_cases hm : mor a v τ ≤ 0
  · rw [if_pos hm]
    unfold mor at hm
    rw [if_pos hm]
  · rw [if_neg hm]
    unfold mor at hm ⊢
    rw [if_neg hm]
theorem mor_bd {σ τ : sg} {j a n : Nat} (h : RC σ j (τ.1 a) n) (hh : HT σ j τ 6) {v : Int32} {d : Nat} (hd : d < n) (hv : v.toInt = d) : (mor a v τ).toInt ≤ 1000 := by
  have hS := (rc_shelf h hd hv).2
  have g := (ht_g hh (v := rA τ a (40 + v)) (d := (rA τ a (40 + v)).toInt.toNat) (by omega) (by omega)).2
  have b1 := feel_bd (rc_kind h hd hv).2 g
  have b2 := stand_bd (k := rA τ a (32 + v)) (rc_wax h hd hv).2
  unfold mor
  rw [subI (by omega) (by omega)]
  omega
theorem soft_eq {σ τ : sg} {j a n : Nat} (h : RC σ j (τ.1 a) n) (hh : HT σ j τ 6) {v : Int32} {d : Nat} (hd : d < n) (hv : v.toInt = d) : (fX0_softens j v σ).1 = (if newS a v τ < fX5_runsAt (rA τ a (32 + v)) then 0 else 1) ∧ (fX0_softens j v σ).2 = sA σ (8 * j + 3) v (newS a v τ) := by
  have hS := (rc_shelf h hd hv).2
  have g := (ht_g hh (v := rA τ a (40 + v)) (d := (rA τ a (40 + v)).toInt.toNat) (by omega) (by omega)).1
  have q := (rc_soft h hd hv).2
  have hk := (rc_kind h hd hv).1
  have hm1 := mor_bd h hh hd hv
  have k0 : (0 : Int32).toInt = 0 := rfl
  have fin : ∀ Y : Int32, (bnd (sA σ (8 * j + 3) v Y) (fun s3 => (if (rA s3 (8 * j + 3) v) < (fX1_runsAt (rA s3 (8 * j) v)) then ((0 : Int32), s3) else (1, s3)))).1 = (if Y < fX5_runsAt (rA τ a (32 + v)) then 0 else 1) ∧ (bnd (sA σ (8 * j + 3) v Y) (fun s3 => (if (rA s3 (8 * j + 3) v) < (fX1_runsAt (rA s3 (8 * j) v)) then ((0 : Int32), s3) else (1, s3)))).2 = sA σ (8 * j + 3) v Y := by
    intro Y
    simp only [bndE]
    rw [rA_own, rA_oth (by omega), hk, runs_eq]
    split
    · exact ⟨rfl, rfl⟩
    · exact ⟨rfl, rfl⟩
  unfold fX0_softens
  rw [(rc_shelf h hd hv).1, (rc_wax h hd hv).1, (rc_soft h hd hv).1, hk, g, feels_eq, stands_eq]
  by_cases hm : mor a v τ ≤ 0
  · have e : newS a v τ = jmax 0 (rA τ a (56 + v) - 1) := by
      unfold newS
      rw [if_pos hm]
      exact (softA q).symm
    rw [e]
    unfold mor at hm
    rw [if_pos hm]
    exact fin _
  · have hm2 := nleI hm
    have e : newS a v τ = jmin 99 (rA τ a (56 + v) + mor a v τ) := by
      unfold newS
      rw [if_neg hm]
      exact (softB q (by omega)).symm
    rw [e]
    unfold mor at hm ⊢
    rw [if_neg hm]
    exact fin _
theorem ht_A {σ τ : sg} {j a d t : Nat} {v x i y : Int32} (h : HT σ j τ d) (ha : a < 4) (ht : t < 7) : HT (sA σ (8 * j + t) v x) j (sA τ a i y) d := by
  intro s hs
  rw [sA_other (by omega), sA_other (by omega)]
  exact h s hs
theorem ht_A0 {σ τ : sg} {j a d : Nat} {i y : Int32} (h : HT σ j τ d) (ha : a < 4) : HT σ j (sA τ a i y) d := by
  intro s hs
  rw [sA_other (show 6 ≠ a by omega)]
  exact h s hs
theorem ht_F {σ τ : sg} {j a d t : Nat} {x i y : Int32} (h : HT σ j τ d) (ha : a < 4) : HT (sF9 σ t x) j (sA τ a i y) d := by
  intro s hs
  rw [sA_other (show 6 ≠ a by omega)]
  exact h s hs
/-- what runs drops on the deed beneath -/
theorem eqDrop {j a n : Nat} (ha : a < 4) : ∀ (k d : Nat) (sh v : Int32) (σ τ : sg), RC σ j (τ.1 a) n → HT σ j τ 6 → v.toInt = d → d ≤ n → n - d < k → HP j a n σ τ (LX0_dropOn_2 j k sh v σ) (LX5_drops_2 a k sh v τ) := by
  intro k
  induction k with
  | zero => intro d sh v σ τ _ _ _ _ h; exact absurd h (Nat.not_lt_zero _)
  | succ k ih =>
    intro d sh v σ τ h hh hv hd hk
    obtain ⟨n8, n1, n2, n3⟩ := rc_n h
    have k1 : (1 : Int32).toInt = 1 := rfl
    rw [LX0_dropOn_2, LX5_drops_2, n2, n1]
    by_cases cc : nI n ≤ v
    · rw [if_pos cc, if_pos cc]
      exact ⟨h, hh, fd_rfl, fm_rfl⟩
    · have q := nleI cc
      have dn : d < n := by omega
      have e1 := addI (x := v) (y := 1) (by omega) (by omega)
      have x3 := (ixT hv (by omega)).2.2.2.1
      have hr := (rc_run h dn hv (ixT hv (by omega)).2.2.2.2.2).1
      have qs := rc_soft h dn hv
      have s3 := soft3 qs.2
      rw [if_neg cc, if_neg cc, (rc_shelf h dn hv).1, hr, qs.1, s3.1]
      by_cases c1 : rA τ a (40 + v) = sh
      · rw [if_pos c1, if_pos c1]
        by_cases c2 : rA τ a (64 + v) = 0
        · rw [if_pos c2, if_pos c2]
          refine bnd2 (P := HP j a n σ τ) (fun r s er es => ?_)
          refine hp_tr (σ1 := r) (τ1 := s) (by rw [er]; exact fd_A (by decide)) (by rw [es]; exact fm_A) (ih (d + 1) sh (v + 1) r s ?_ ?_ (by omega) (by omega) (by omega))
          · rw [er, es]; exact rcT h (t := 3) (by decide) dn hv x3 (bd3 s3.2)
          · rw [er, es]; exact ht_A hh ha (by decide)
        · rw [if_neg c2, if_neg c2]
          exact ih (d + 1) sh (v + 1) σ τ h hh (by omega) (by omega) (by omega)
      · rw [if_neg c1, if_neg c1]
        exact ih (d + 1) sh (v + 1) σ τ h hh (by omega) (by omega) (by omega)
theorem drop_eq {j a n : Nat} (ha : a < 4) {sh : Int32} {σ τ : sg} (h : RC σ j (τ.1 a) n) (hh : HT σ j τ 6) : HP j a n σ τ (fX0_dropOn j sh σ) (fX5_drops a sh τ) := by
  have n8 := h.1.1
  rw [fX0_dropOn, fX5_drops]
  refine bnd2 (P := HP j a n σ τ) (fun r s er es => ?_)
  rw [er, es]
  exact eqDrop ha 9 0 sh 0 σ τ h hh rfl (by omega) (by omega)
def HQ (j a n : Nat) (σ τ : sg) (T U : Int32 × sg) : Prop := T.1 = U.1 ∧ HP j a n σ τ T.2 U.2
theorem hq_tr {j a n : Nat} {σ τ σ1 τ1 : sg} {T U : Int32 × sg} (g1 : FD j σ σ1) (g2 : FM a τ τ1) (h : HQ j a n σ1 τ1 T U) : HQ j a n σ τ T U := ⟨h.1, hp_tr g1 g2 h.2⟩
theorem eq38 {j a n : Nat} (ha : a < 4) : ∀ (k d : Nat) (c v : Int32) (σ τ : sg), RC σ j (τ.1 a) n → HT σ j τ 6 → v.toInt = d → d ≤ n → n - d < k → HQ j a n σ τ (LX0_passHour_38 j k c v σ) (LX5_anHour_32 a k c v τ) := by
  intro k
  induction k with
  | zero => intro d c v σ τ _ _ _ _ h; exact absurd h (Nat.not_lt_zero _)
  | succ k ih =>
    intro d c v σ τ h hh hv hd hk
    obtain ⟨n8, n1, n2, n3⟩ := rc_n h
    have k1 : (1 : Int32).toInt = 1 := rfl
    by_cases cc : nI n ≤ v
    · rw [LX0_passHour_38, LX5_anHour_32, n2, n1, if_pos cc, if_pos cc]
      exact ⟨rfl, h, hh, fd_rfl, fm_rfl⟩
    · have q := nleI cc
      have dn : d < n := by omega
      have e1 := addI (x := v) (y := 1) (by omega) (by omega)
      have x3 := (ixT hv (by omega)).2.2.2.1
      have x5 := (ixT hv (by omega)).2.2.2.2.2
      obtain ⟨hr, br⟩ := rc_run h dn hv x5
      rcases br with b0 | b1
      · rw [LX0_passHour_38, n2, if_neg cc, hr, b0, if_pos rfl, a32 (by rw [n1]; exact cc) b0]
        obtain ⟨t1, t2⟩ := soft_eq h hh dn hv
        refine bndL (P := HQ j a n σ τ) (fun r er => bndR (P := HQ j a n σ τ) (fun s es => ?_))
        have e2 : rA s a (56 + v) = newS a v τ := by rw [es]; exact rA_own
        have r1 : r.1 = (if newS a v τ < fX5_runsAt (rA τ a (32 + v)) then 0 else 1) := by rw [er]; exact t1
        have r2 : r.2 = sA σ (8 * j + 3) v (newS a v τ) := by rw [er]; exact t2
        have hA : RC r.2 j (s.1 a) n := by rw [r2, es]; exact rcT h (t := 3) (by decide) dn hv x3 (bd3 softY)
        have hB : HT r.2 j s 6 := by rw [r2, es]; exact ht_A hh ha (by decide)
        have f1 : FD j σ r.2 := by rw [r2]; exact fd_A (by decide)
        have f2 : FM a τ s := by rw [es]; exact fm_A
        rw [e2]
        by_cases cy : newS a v τ < fX5_runsAt (rA τ a (32 + v))
        · rw [if_pos cy] at r1 ⊢
          rw [if_pos r1]
          exact hq_tr f1 f2 (ih (d + 1) c (v + 1) r.2 s hA hB (by omega) (by omega) (by omega))
        · rw [if_neg cy] at r1 ⊢
          rw [if_neg (by rw [r1]; decide)]
          refine bnd2 (P := HQ j a n σ τ) (fun s20 s29 e20 e29 => ?_)
          have h1 : RC s20 j (s29.1 a) n := by rw [e20, e29]; exact rcRun1 hA dn hv x5
          have hh1 : HT s20 j s29 6 := by rw [e20, e29]; exact ht_F hB ha
          have f3 : FD j r.2 s20 := by rw [e20]; exact fd_F (t := 0) (by decide)
          have f4 : FM a s s29 := by rw [e29]; exact fm_A
          rw [(rc_shelf h1 dn hv).1]
          refine bnd2 (P := HQ j a n σ τ) (fun r25 r35 e25 e35 => ?_)
          have g : HP j a n s20 s29 r25 r35 := by rw [e25, e35]; exact drop_eq ha h1 hh1
          exact hq_tr (fd_tr f1 (fd_tr f3 g.2.2.1)) (fm_tr f2 (fm_tr f4 g.2.2.2)) (ih (d + 1) (c + 1) (v + 1) r25 r35 g.1 g.2.1 (by omega) (by omega) (by omega))
      · rw [LX0_passHour_38, LX5_anHour_32, n2, n1, if_neg cc, if_neg cc, hr, b1, if_neg (by decide), if_neg (by decide)]
        exact ih (d + 1) c (v + 1) σ τ h hh (by omega) (by omega) (by omega)
theorem sA_id {σ : sg} {a : Nat} {i x : Int32} (h : x = rA σ a i) : (sA σ a i x).1 a = σ.1 a := by
  rw [sA_same, h]
  funext k
  by_cases e : k = i.toNatClampNeg
  · subst e; rw [pk_us]; rfl
  · rw [pk_un e]
/-- the sun on the ice -/
theorem eq100 {j a n : Nat} (ha : a < 4) : ∀ (k d : Nat) (c c' v : Int32) (σ τ : sg), RC σ j (τ.1 a) n → HT σ j τ 6 → v.toInt = d → d ≤ 6 → 6 - d < k → HP j a n σ τ (LX0_passHour_100 j k c v σ) (LX5_anHour_156 a k c' v τ) := by
  intro k
  induction k with
  | zero => intro d c c' v σ τ _ _ _ _ h; exact absurd h (Nat.not_lt_zero _)
  | succ k ih =>
    intro d c c' v σ τ h hh hv hd hk
    have k1 : (1 : Int32).toInt = 1 := rfl
    have k6 : (6 : Int32).toInt = 6 := rfl
    have k0 : (0 : Int32).toInt = 0 := rfl
    rw [LX0_passHour_100, LX5_anHour_156]
    by_cases cc : 6 ≤ v
    · rw [if_pos cc, if_pos cc]
      exact ⟨h, hh, fd_rfl, fm_rfl⟩
    · have q := nleI cc
      have dn : d < 6 := by omega
      have e1 := addI (x := v) (y := 1) (by omega) (by omega)
      have i2 := ixC (c := 10) (C := 10) hv (by omega) rfl (by decide)
      have hi := rc_ice h dn hv i2
      rw [if_neg cc, if_neg cc, (ht_g hh hv dn).1, hi.1, Int32.sub_zero]
      by_cases c1 : rA τ 6 v ≤ 20
      · rw [if_pos c1, if_pos c1]
        refine bndR (P := HP j a n σ τ) (fun s es => ?_)
        refine hp_tr (τ1 := s) fd_rfl (by rw [es]; exact fm_A) (ih (d + 1) c c' (v + 1) σ s ?_ ?_ (by omega) (by omega) (by omega))
        · rw [es, sA_id rfl]; exact h
        · rw [es]; exact ht_A0 hh ha
      · rw [if_neg c1, if_neg c1]
        by_cases c2 : rA τ a (10 + v) ≤ 0
        · rw [if_pos c2, if_pos c2]
          refine bndR (P := HP j a n σ τ) (fun s es => ?_)
          refine hp_tr (τ1 := s) fd_rfl (by rw [es]; exact fm_A) (ih (d + 1) c c' (v + 1) σ s ?_ ?_ (by omega) (by omega) (by omega))
          · rw [es, sA_id rfl]; exact h
          · rw [es]; exact ht_A0 hh ha
        · rw [if_neg c2, if_neg c2]
          have q2 := nleI c2
          have e3 := subI (x := rA τ a (10 + v)) (y := 1) (by omega) (by omega)
          refine bnd2 (P := HP j a n σ τ) (fun r s er es => ?_)
          refine hp_tr (σ1 := r) (τ1 := s) (by rw [er]; exact fd_A (by decide)) (by rw [es]; exact fm_A) (ih (d + 1) c c' (v + 1) r s ?_ ?_ (by omega) (by omega) (by omega))
          · rw [er, es]; exact rcIce h dn hv i2 (by omega)
          · rw [er, es]; exact ht_A hh ha (by decide)
/-- an hour is an hour -/
def HR (j a n : Nat) (σ τ : sg) (T U : Int32 × sg) : Prop := T.1 = U.1 ∧ RC T.2 j (U.2.1 a) n ∧ FD j σ T.2 ∧ FM a τ U.2
theorem hr_tr {j a n : Nat} {σ τ σ1 τ1 : sg} {T U : Int32 × sg} (g1 : FD j σ σ1) (g2 : FM a τ τ1) (h : HR j a n σ1 τ1 T U) : HR j a n σ τ T U := ⟨h.1, h.2.1, fd_tr g1 h.2.2.1, fm_tr g2 h.2.2.2⟩
theorem hour_eq {j a n : Nat} (ha : a < 4) {σ τ : sg} (h : RC σ j (τ.1 a) n) : HR j a n σ τ (fX0_passHour j σ) (fX5_anHour a τ) := by
  rw [fX0_passHour, fX5_anHour]
  refine bnd2 (P := HR j a n σ τ) (fun r s er es => ?_)
  have g1 : HP j a n σ τ r s := by rw [er, es]; exact eq10 ha 7 0 0 σ τ h rfl (by decide) (by decide) (fun _ q => absurd q (Nat.not_lt_zero _))
  refine bnd2 (P := HR j a n σ τ) (fun r2 s2 er2 es2 => ?_)
  have n8 := g1.1.1.1
  have g2 : HQ j a n r s r2 s2 := by rw [er2, es2]; exact eq38 ha 9 0 0 0 r s g1.1 g1.2.1 rfl (by omega) (by omega)
  refine bnd2 (P := HR j a n σ τ) (fun r3 s3 er3 es3 => ?_)
  have g3 : HP j a n r2.2 s2.2 r3 s3 := by rw [er3, es3]; exact eq100 ha 7 0 _ _ 0 r2.2 s2.2 g2.2.1 g2.2.2.1 rfl (by decide) (by decide)
  refine bnd2 (P := HR j a n σ τ) (fun r4 s4 er4 es4 => ?_)
  have g4 : RC r4 j (s4.1 a) n := by rw [er4, es4, rc_hour g3.1]; exact rcHour g3.1 rfl
  exact ⟨g2.1, g4, fd_tr g1.2.2.1 (fd_tr g2.2.2.2.1 (fd_tr g3.2.2.1 (by rw [er4]; exact fd_F (t := 4) (by decide)))), fm_tr g1.2.2.2 (fm_tr g2.2.2.2.2 (fm_tr g3.2.2.2 (by rw [es4]; exact fm_A)))⟩
end EQ3
