section EQ7
/-- answers alike, and what was left alone -/
def EF (j a : Nat) (σ τ : sg) (T U : Int32 × sg) : Prop := T.1 = U.1 ∧ FD j σ T.2 ∧ FM a τ U.2
theorem ef_tr {j a : Nat} {σ τ σ1 τ1 : sg} {T U : Int32 × sg} (g1 : FD j σ σ1) (g2 : FM a τ τ1) (h : EF j a σ1 τ1 T U) : EF j a σ τ T U := ⟨h.1, fd_tr g1 h.2.1, fm_tr g2 h.2.2⟩
/-- behind how many hours a peace ends -/
def EE (j : Nat) (σ : sg) (D e : Nat) (x : Int32) : Prop := (x.toInt = 101 ∧ ∀ m : Nat, e ≤ m → m ≤ 100 → fX0_peaceHolds j (nI D) (h0 j (m - e) 0 σ).2 = 1) ∨ (∃ m : Nat, e ≤ m ∧ m ≤ 100 ∧ x.toInt = m ∧ fX0_peaceHolds j (nI D) (h0 j (m - e) 0 σ).2 = 0 ∧ ∀ i : Nat, e ≤ i → i < m → fX0_peaceHolds j (nI D) (h0 j (i - e) 0 σ).2 = 1)
theorem ee_step {j D e : Nat} {σ : sg} {x : Int32} (h1 : fX0_peaceHolds j (nI D) σ = 1) (h : EE j (fX0_passHour j σ).2 D (e + 1) x) : EE j σ D e x := by
  have sh : ∀ i : Nat, e + 1 ≤ i → (h0 j (i - e) 0 σ).2 = (h0 j (i - (e + 1)) 0 (fX0_passHour j σ).2).2 := by
    intro i hi
    obtain ⟨u, rfl⟩ : ∃ u, i = e + 1 + u := ⟨i - (e + 1), by omega⟩
    rw [show e + 1 + u - e = u + 1 by omega, show e + 1 + u - (e + 1) = u by omega]
    exact h0c u (0 + (fX0_passHour j σ).1) 0 (fX0_passHour j σ).2
  have z : ∀ i : Nat, i = e → fX0_peaceHolds j (nI D) (h0 j (i - e) 0 σ).2 = 1 := by
    intro i hi
    rw [show i - e = 0 by omega]; exact h1
  rcases h with ⟨a1, a2⟩ | ⟨m, a1, a2, a3, a4, a5⟩
  · refine Or.inl ⟨a1, fun m h2 h3 => ?_⟩
    by_cases c : m = e
    · exact z m c
    · rw [sh m (by omega)]; exact a2 m (by omega) h3
  · refine Or.inr ⟨m, by omega, a2, a3, by rw [sh m a1]; exact a4, fun i h2 h3 => ?_⟩
    by_cases c : i = e
    · exact z i c
    · rw [sh i (by omega)]; exact a5 i (by omega) h3
theorem eqEnd {n j : Nat} {w : Int32} {D : Nat} (hw : w.toInt = D) (hD : D < n) : ∀ (k k' e : Nat) (c : Int32) (σ τ : sg), RC σ j (τ.1 2) n → c.toInt = e → e ≤ 100 → 100 - e < k → 101 - e < k' → EF j 2 σ τ (LX0_endOf_2 j k w c σ) (LX5_endOf_2 k' w c τ) ∧ EE j σ D e (LX0_endOf_2 j k w c σ).1 := by
  intro k
  induction k with
  | zero => intro k' e c σ τ _ _ _ h; exact absurd h (Nat.not_lt_zero _)
  | succ k ih =>
    intro k' e c σ τ h hc he hk hk'
    have n8 := h.1.1
    have k1 : (1 : Int32).toInt = 1 := rfl
    have k100 : (100 : Int32).toInt = 100 := rfl
    have ph : fX0_peaceHolds j w σ = fX5_holds 2 w τ := peaceHolds_eq h hw hD
    have pD : fX0_peaceHolds j w σ = fX0_peaceHolds j (nI D) σ := by rw [vnI hw (by omega)]
    have h01 := holds01 (a := 2) (v := w) (τ := τ)
    have hour := hour_eq (show 2 < 4 by decide) h
    have e1 := addI (x := c) (y := 1) (by omega) (by omega)
    cases k' with
    | zero => exact absurd hk' (Nat.not_lt_zero _)
    | succ k' =>
      have c0 : ¬ 100 < c := fun q => by have := ltI q; omega
      rw [LX0_endOf_2, LX5_endOf_2, if_neg c0, ph]
      by_cases c1 : 100 ≤ c
      · have q1 := leI c1
        rw [if_pos c1]
        by_cases c2 : fX5_holds 2 w τ = 0
        · rw [if_pos c2, if_pos c2]
          refine ⟨⟨Int32.toInt.inj (show (100 : Int32).toInt = c.toInt by omega), fd_rfl, fm_rfl⟩, Or.inr ⟨100, by omega, by omega, rfl, ?_, fun i h2 h3 => by omega⟩⟩
          rw [show 100 - e = 0 by omega]
          show fX0_peaceHolds j (nI D) σ = 0
          rw [← pD, ph, c2]
        · rw [if_neg c2, if_neg c2]
          refine ⟨?_, Or.inl ⟨rfl, fun m h2 h3 => ?_⟩⟩
          · refine bndR (P := EF j 2 σ τ) (fun r er => ?_)
            have q : LX5_endOf_2 k' w (c + 1) r.2 = (c + 1, r.2) := by
              cases k' with
              | zero => rfl
              | succ k' => rw [LX5_endOf_2, if_pos (Int32.lt_iff_toInt_lt.mpr (by omega))]
            rw [q]
            exact ⟨Int32.toInt.inj (show (101 : Int32).toInt = (c + 1).toInt by rw [e1, k1]; have k101 : (101 : Int32).toInt = 101 := rfl; omega), fd_rfl, by rw [er]; exact hour.2.2.2⟩
          · rw [show m - e = 0 by omega]
            show fX0_peaceHolds j (nI D) σ = 1
            rw [← pD, ph]
            exact h01.resolve_left c2
      · have q1 := nleI c1
        rw [if_neg c1]
        by_cases c2 : fX5_holds 2 w τ = 0
        · rw [if_pos c2, if_pos c2]
          refine ⟨⟨rfl, fd_rfl, fm_rfl⟩, Or.inr ⟨e, by omega, by omega, hc, ?_, fun i h2 h3 => by omega⟩⟩
          rw [show e - e = 0 by omega]
          show fX0_peaceHolds j (nI D) σ = 0
          rw [← pD, ph, c2]
        · rw [if_neg c2, if_neg c2]
          refine bnd2 (P := fun T U : Int32 × sg => EF j 2 σ τ T U ∧ EE j σ D e T.1) (fun r s er es => ?_)
          have r2 : r.2 = (fX0_passHour j σ).2 := by rw [er]; exact pass1
          rw [r2, es]
          have g := ih k' (e + 1) (c + 1) _ _ hour.2.1 (by omega) (by omega) (by omega) (by omega)
          refine ⟨ef_tr hour.2.2.1 hour.2.2.2 g.1, ee_step ?_ g.2⟩
          rw [← pD, ph]
          exact h01.resolve_left c2
theorem endOf_eq {n j : Nat} {w : Int32} {D : Nat} (hw : w.toInt = D) (hD : D < n) {σ τ : sg} (h : RC σ j (τ.1 2) n) : EF j 2 σ τ (fX0_endOf j w σ) (fX5_endOf w τ) ∧ EE j σ D 0 (fX5_endOf w τ).1 := by
  have g := eqEnd hw hD 101 102 0 0 σ τ h rfl (by decide) (by decide) (by decide)
  have e1 : fX5_endOf w τ = LX5_endOf_2 102 w 0 τ := by
    rw [fX5_endOf]
    refine wf_bnd (P := fun T => T = LX5_endOf_2 102 w 0 τ) (fun r er => ?_)
    rw [er]
  rw [e1, fX0_endOf]
  refine ⟨g.1, ?_⟩
  rw [← g.1.1]
  exact g.2
/-- the first that holds no more -/
def FE (j n : Nat) (σ : sg) (x : Int32) : Prop := (x.toInt = -1 ∧ ∀ d : Nat, d < n → fX0_peaceHolds j (nI d) σ = 1) ∨ (∃ d : Nat, d < n ∧ x.toInt = d ∧ fX0_peaceHolds j (nI d) σ = 0 ∧ ∀ i : Nat, i < d → fX0_peaceHolds j (nI i) σ = 1)
theorem eqFst {σ τ : sg} {j a n : Nat} (h : RC σ j (τ.1 a) n) : ∀ (k d : Nat) (v : Int32), v.toInt = d → d ≤ n → n - d < k → (∀ i : Nat, i < d → fX0_peaceHolds j (nI i) σ = 1) → FE j n σ (LX0_firstEnded_11 j k (fX0_peaces j (rF σ (7 * j)) σ) v σ) := by
  intro k
  induction k with
  | zero => intro d v _ _ h; exact absurd h (Nat.not_lt_zero _)
  | succ k ih =>
    intro d v hv hd hk hs
    obtain ⟨n8, n1, n2, n3⟩ := rc_n h
    have k1 : (1 : Int32).toInt = 1 := rfl
    rw [LX0_firstEnded_11, n2]
    by_cases cc : nI n ≤ v
    · have := leI cc
      rw [if_pos cc]
      exact Or.inl ⟨rfl, fun i hi => hs i (by omega)⟩
    · have q := nleI cc
      have e1 := addI (x := v) (y := 1) (by omega) (by omega)
      have pD : fX4_has (fX0_peaces j (rF σ (7 * j)) σ) v = fX0_peaceHolds j (nI d) σ := by rw [vnI hv (by omega)]; rfl
      rw [if_neg cc, pD]
      by_cases c : fX0_peaceHolds j (nI d) σ = 0
      · rw [if_pos c]
        exact Or.inr ⟨d, by omega, hv, c, hs⟩
      · rw [if_neg c]
        refine ih (d + 1) (v + 1) (by omega) (by omega) (by omega) (fun i hi => ?_)
        by_cases e : i = d
        · subst e
          rw [peaceHolds_eq h (nI_toInt (by omega)) (by omega)] at c ⊢
          exact holds01.resolve_left c
        · exact hs i (by omega)
theorem first_fe {σ τ : sg} {j a n : Nat} (h : RC σ j (τ.1 a) n) : FE j n σ (fX0_firstEnded j σ) := by
  have n8 := h.1.1
  rw [fX0_firstEnded]
  exact eqFst h 9 0 0 rfl (by omega) (by omega) (fun i hi => absurd hi (Nat.not_lt_zero _))
/-- the deed whose peace ends first of all -/
def FT (j n e : Nat) (σ : sg) (x : Int32) : Prop := (x.toInt = -1 ∧ ∀ m : Nat, e ≤ m → m ≤ 100 → ∀ d : Nat, d < n → fX0_peaceHolds j (nI d) (h0 j (m - e) 0 σ).2 = 1) ∨ (∃ m d : Nat, e ≤ m ∧ m ≤ 100 ∧ d < n ∧ x.toInt = d ∧ fX0_peaceHolds j (nI d) (h0 j (m - e) 0 σ).2 = 0 ∧ (∀ i : Nat, i < d → fX0_peaceHolds j (nI i) (h0 j (m - e) 0 σ).2 = 1) ∧ ∀ i : Nat, e ≤ i → i < m → ∀ d' : Nat, d' < n → fX0_peaceHolds j (nI d') (h0 j (i - e) 0 σ).2 = 1)
theorem eqFT {n j : Nat} : ∀ (k e : Nat) (x c : Int32) (σ τ : sg), RC σ j (τ.1 2) n → c.toInt = e → e ≤ 100 → 100 - e < k → FE j n σ x → FT j n e σ (LX0_firstToEnd_7 j k x c σ).1 ∧ FD j σ (LX0_firstToEnd_7 j k x c σ).2 := by
  intro k
  induction k with
  | zero => intro e x c σ τ _ _ _ h; exact absurd h (Nat.not_lt_zero _)
  | succ k ih =>
    intro e x c σ τ h hc he hk hx
    have k1 : (1 : Int32).toInt = 1 := rfl
    have k100 : (100 : Int32).toInt = 100 := rfl
    have km : (-1 : Int32).toInt = -1 := rfl
    have hour := hour_eq (show 2 < 4 by decide) h
    have e1 := addI (x := c) (y := 1) (by omega) (by omega)
    have stop : (∃ d : Nat, d < n ∧ x.toInt = d ∧ fX0_peaceHolds j (nI d) σ = 0 ∧ ∀ i : Nat, i < d → fX0_peaceHolds j (nI i) σ = 1) → FT j n e σ x := by
      rintro ⟨d, d1, d2, d3, d4⟩
      refine Or.inr ⟨e, d, by omega, he, d1, d2, ?_, ?_, fun i h2 h3 => by omega⟩
      · rw [show e - e = 0 by omega]; exact d3
      · rw [show e - e = 0 by omega]; exact d4
    rw [LX0_firstToEnd_7]
    by_cases c1 : 100 ≤ c
    · have q1 := leI c1
      rw [if_pos c1]
      refine ⟨?_, fd_rfl⟩
      rcases hx with ⟨x1, x2⟩ | x1
      · refine Or.inl ⟨x1, fun m h2 h3 => ?_⟩
        rw [show m - e = 0 by omega]; exact x2
      · exact stop x1
    · have q1 := nleI c1
      rw [if_neg c1]
      by_cases c2 : x = -1
      · rw [if_pos c2]
        have x2 : ∀ d : Nat, d < n → fX0_peaceHolds j (nI d) σ = 1 := by
          rcases hx with ⟨x1, x2⟩ | ⟨d, d1, d2, d3, d4⟩
          · exact x2
          · have := eqI c2
            omega
        refine wf_bnd (P := fun T : Int32 × sg => FT j n e σ T.1 ∧ FD j σ T.2) (fun r er => ?_)
        have r2 : r.2 = (fX0_passHour j σ).2 := by rw [er]; exact pass1
        rw [r2]
        have g := ih (e + 1) (fX0_firstEnded j (fX0_passHour j σ).2) (c + 1) _ _ hour.2.1 (by omega) (by omega) (by omega) (first_fe hour.2.1)
        refine ⟨?_, fd_tr hour.2.2.1 g.2⟩
        have sh : ∀ i : Nat, e + 1 ≤ i → (h0 j (i - e) 0 σ).2 = (h0 j (i - (e + 1)) 0 (fX0_passHour j σ).2).2 := by
          intro i hi
          obtain ⟨u, rfl⟩ : ∃ u, i = e + 1 + u := ⟨i - (e + 1), by omega⟩
          rw [show e + 1 + u - e = u + 1 by omega, show e + 1 + u - (e + 1) = u by omega]
          exact h0c u (0 + (fX0_passHour j σ).1) 0 (fX0_passHour j σ).2
        have z : ∀ i : Nat, i = e → ∀ d : Nat, d < n → fX0_peaceHolds j (nI d) (h0 j (i - e) 0 σ).2 = 1 := by
          intro i hi
          rw [show i - e = 0 by omega]; exact x2
        rcases g.1 with ⟨a1, a2⟩ | ⟨m, d, a1, a2, a3, a4, a5, a6, a7⟩
        · refine Or.inl ⟨a1, fun m h2 h3 => ?_⟩
          by_cases c : m = e
          · exact z m c
          · rw [sh m (by omega)]; exact a2 m (by omega) h3
        · refine Or.inr ⟨m, d, by omega, a2, a3, a4, by rw [sh m a1]; exact a5, by rw [sh m a1]; exact a6, fun i h2 h3 => ?_⟩
          by_cases c : i = e
          · exact z i c
          · rw [sh i (by omega)]; exact a7 i (by omega) h3
      · rw [if_neg c2]
        refine ⟨?_, fd_rfl⟩
        rcases hx with ⟨x1, x2⟩ | x1
        · exact absurd (m1I x1) c2
        · exact stop x1
theorem firstToEnd_ft {n j : Nat} {σ τ : sg} (h : RC σ j (τ.1 2) n) : FT j n 0 σ (fX0_firstToEnd j σ).1 ∧ FD j σ (fX0_firstToEnd j σ).2 := by
  rw [fX0_firstToEnd]
  refine wf_bnd (P := fun T : Int32 × sg => FT j n 0 σ T.1 ∧ FD j σ T.2) (fun r er => ?_)
  rw [er]
  exact eqFT 101 0 (fX0_firstEnded j σ) 0 σ τ h rfl (by decide) (by decide) (first_fe h)
/-- the reference asks each deed; ρ is the class's trial as it begins -/
theorem eqSoon {n : Nat} {ρ : sg} : ∀ (k d : Nat) (b l v : Int32) (τ : sg), RC ρ 1 (τ.1 0) n → v.toInt = d → d ≤ n → n - d < k → ((b.toInt = -1 ∧ l.toInt = 101 ∧ ∀ i : Nat, i < d → ∀ m : Nat, m ≤ 100 → fX0_peaceHolds 1 (nI i) (h0 1 m 0 ρ).2 = 1) ∨ (∃ i m : Nat, i < d ∧ m ≤ 100 ∧ b.toInt = i ∧ l.toInt = m ∧ fX0_peaceHolds 1 (nI i) (h0 1 m 0 ρ).2 = 0 ∧ (∀ i' : Nat, i' < i → fX0_peaceHolds 1 (nI i') (h0 1 m 0 ρ).2 = 1) ∧ (∀ i' : Nat, i' < d → ∀ m' : Nat, m' < m → fX0_peaceHolds 1 (nI i') (h0 1 m' 0 ρ).2 = 1))) → FT 1 n 0 ρ (LX5_soonest_22 k b l v τ).1 ∧ FM 2 τ (LX5_soonest_22 k b l v τ).2 := by
  intro k
  induction k with
  | zero => intro d b l v τ _ _ _ h; exact absurd h (Nat.not_lt_zero _)
  | succ k ih =>
    intro d b l v τ h hv hd hk hx
    have n8 := h.1.1
    have n1 : rA τ 0 0 = nI n := h.1.2.1
    have n3 := nI_toInt (n := n) (by omega)
    have k1 : (1 : Int32).toInt = 1 := rfl
    rw [LX5_soonest_22, n1]
    by_cases cc : nI n ≤ v
    · have := leI cc
      rw [if_pos cc]
      refine ⟨?_, fm_rfl⟩
      rcases hx with ⟨x1, x2, x3⟩ | ⟨i, m, x1, x2, x3, x4, x5, x6, x7⟩
      · exact Or.inl ⟨x1, fun m _ h3 i hi => x3 i (by omega) m h3⟩
      · exact Or.inr ⟨m, i, by omega, x2, by omega, x3, x5, x6, fun m' _ h3 i' hi => x7 i' (by omega) m' h3⟩
    · have q := nleI cc
      have dn : d < n := by omega
      have e1 := addI (x := v) (y := 1) (by omega) (by omega)
      rw [if_neg cc]
      refine wf_bnd (P := fun T : Int32 × sg => FT 1 n 0 ρ T.1 ∧ FM 2 τ T.2) (fun r er => ?_)
      have hr : RC ρ 1 (r.1 2) n := by rw [er]; exact rc_r h (row_eq (by decide)).2.2
      have fr : FM 2 τ r := by rw [er]; exact row_fm (by decide)
      refine wf_bnd (P := fun T : Int32 × sg => FT 1 n 0 ρ T.1 ∧ FM 2 τ T.2) (fun s es => ?_)
      have g := endOf_eq hv dn hr
      rw [← es] at g
      have fs : FM 2 τ s.2 := fm_tr fr g.1.2.2
      have hs : RC ρ 1 (s.2.1 0) n := by rw [fs.1 0 (by decide) (by decide)]; exact h
      have o1 : (v + 1).toInt = (d + 1 : Nat) := by omega
      have o2 : d + 1 ≤ n := dn
      have o3 : n - (d + 1) < k := by omega
      have fin : ∀ b' l' : Int32, ((b'.toInt = -1 ∧ l'.toInt = 101 ∧ ∀ i : Nat, i < d + 1 → ∀ m : Nat, m ≤ 100 → fX0_peaceHolds 1 (nI i) (h0 1 m 0 ρ).2 = 1) ∨ (∃ i m : Nat, i < d + 1 ∧ m ≤ 100 ∧ b'.toInt = i ∧ l'.toInt = m ∧ fX0_peaceHolds 1 (nI i) (h0 1 m 0 ρ).2 = 0 ∧ (∀ i' : Nat, i' < i → fX0_peaceHolds 1 (nI i') (h0 1 m 0 ρ).2 = 1) ∧ (∀ i' : Nat, i' < d + 1 → ∀ m' : Nat, m' < m → fX0_peaceHolds 1 (nI i') (h0 1 m' 0 ρ).2 = 1))) → FT 1 n 0 ρ (LX5_soonest_22 k b' l' (v + 1) s.2).1 ∧ FM 2 τ (LX5_soonest_22 k b' l' (v + 1) s.2).2 := fun b' l' hb => by
        have z := ih (d + 1) b' l' (v + 1) s.2 hs o1 o2 o3 hb
        exact ⟨z.1, fm_tr fs z.2⟩
      have ee := g.2
      unfold EE at ee
      simp only [Nat.sub_zero, Nat.zero_le, true_implies, true_and] at ee
      by_cases c1 : l ≤ s.1
      · have q1 := leI c1
        rw [if_pos c1]
        refine fin b l ?_
        rcases hx with ⟨x1, x2, x3⟩ | ⟨i, m, x1, x2, x3, x4, x5, x6, x7⟩
        · refine Or.inl ⟨x1, x2, fun i hi m hm => ?_⟩
          by_cases c : i = d
          · subst c
            rcases ee with ⟨y1, y2⟩ | ⟨m', y1, y2, y3, y4⟩
            · exact y2 m hm
            · omega
          · exact x3 i (by omega) m hm
        · refine Or.inr ⟨i, m, by omega, x2, x3, x4, x5, x6, fun i' hi' m' hm' => ?_⟩
          by_cases c : i' = d
          · subst c
            rcases ee with ⟨y1, y2⟩ | ⟨m2, y1, y2, y3, y4⟩
            · exact y2 m' (by omega)
            · exact y4 m' (by omega)
          · exact x7 i' (by omega) m' hm'
      · have q1 := nleI c1
        rw [if_neg c1]
        refine fin v s.1 ?_
        rcases ee with ⟨y1, y2⟩ | ⟨m2, y1, y2, y3, y4⟩
        · rcases hx with ⟨x1, x2, x3⟩ | ⟨i, m, x1, x2, x3, x4, x5, x6, x7⟩
          · omega
          · omega
        · refine Or.inr ⟨d, m2, by omega, y1, hv, y2, y3, fun i' hi' => ?_, fun i' hi' m' hm' => ?_⟩
          · rcases hx with ⟨x1, x2, x3⟩ | ⟨i, m, x1, x2, x3, x4, x5, x6, x7⟩
            · exact x3 i' hi' m2 y1
            · exact x7 i' hi' m2 (by omega)
          · by_cases c : i' = d
            · subst c; exact y4 m' hm'
            · rcases hx with ⟨x1, x2, x3⟩ | ⟨i, m, x1, x2, x3, x4, x5, x6, x7⟩
              · exact x3 i' (by omega) m' (by omega)
              · exact x7 i' (by omega) m' (by omega)
theorem ft_uniq {j n : Nat} {σ : sg} {x y : Int32} (h : FT j n 0 σ x) (g : FT j n 0 σ y) : x = y := by
  apply Int32.toInt.inj
  rcases h with ⟨a1, a2⟩ | ⟨m, d, a1, a2, a3, a4, a5, a6, a7⟩
  · rcases g with ⟨b1, b2⟩ | ⟨u, e, b1, b2, b3, b4, b5, b6, b7⟩
    · omega
    · have := a2 u b1 b2 e b3
      rw [b5] at this
      exact absurd this (by decide)
  · rcases g with ⟨b1, b2⟩ | ⟨u, e, b1, b2, b3, b4, b5, b6, b7⟩
    · have := b2 m a1 a2 d a3
      rw [a5] at this
      exact absurd this (by decide)
    · have mu : m = u := by
        rcases Nat.lt_trichotomy m u with c | c | c
        · have := b7 m a1 c d a3
          rw [a5] at this
          exact absurd this (by decide)
        · exact c
        · have := a7 u b1 c e b3
          rw [b5] at this
          exact absurd this (by decide)
      subst mu
      rcases Nat.lt_trichotomy d e with c | c | c
      · have := b6 d c
        rw [a5] at this
        exact absurd this (by decide)
      · omega
      · have := a6 e c
        rw [b5] at this
        exact absurd this (by decide)
theorem soonest_eq {n : Nat} {σ τ : sg} (h : RC σ 1 (τ.1 0) n) : (fX0_firstToEnd 1 σ).1 = (LX5_soonest_22 9 (-1) 101 0 τ).1 ∧ FD 1 σ (fX0_firstToEnd 1 σ).2 ∧ FM 2 τ (LX5_soonest_22 9 (-1) 101 0 τ).2 := by
  have n8 := h.1.1
  have h2 : RC σ 1 (((va_up τ.1 2 (τ.1 0), τ.2) : sg).1 2) n := by
    show RC σ 1 (va_up τ.1 2 (τ.1 0) 2) n
    rw [va_up_self]; exact h
  have g1 := firstToEnd_ft h2
  have g2 := eqSoon 9 0 (-1) 101 0 τ h rfl (by omega) (by omega) (Or.inl ⟨rfl, rfl, fun i hi => absurd hi (Nat.not_lt_zero _)⟩)
  exact ⟨ft_uniq g1.1 g2.1, g1.2, g2.2⟩
end EQ7
