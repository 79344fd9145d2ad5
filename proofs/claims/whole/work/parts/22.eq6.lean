section EQ6
/-- what an hour of the class leaves of a chancery: what hangs on what; who ran stays so -/
def SM (j : Nat) (σ ρ : sg) : Prop := ρ.2 = σ.2 ∧ ρ.1 (8 * j + 4) = σ.1 (8 * j + 4)
theorem sm_tr {j : Nat} {σ ρ μ : sg} (h : SM j σ ρ) (g : SM j ρ μ) : SM j σ μ := ⟨g.1.trans h.1, g.2.trans h.2⟩
theorem sm_A {j b : Nat} {σ : sg} {v x : Int32} (hb : b ≠ 8 * j + 4) : SM j σ (sA σ b v x) := ⟨rfl, sA_other (fun q => hb q.symm)⟩
theorem sm_soft {j : Nat} {v : Int32} {σ : sg} : SM j σ (fX0_softens j v σ).2 := by
  unfold fX0_softens
  simp only [bndE]
  split
  · split
    · exact sm_A (by omega)
    · exact sm_A (by omega)
  · split
    · exact sm_A (by omega)
    · exact sm_A (by omega)
theorem sm_drop {j : Nat} : ∀ (k : Nat) (w v : Int32) (σ : sg), SM j σ (LX0_dropOn_2 j k w v σ) := by
  intro k
  induction k with
  | zero => intro w v σ; exact ⟨rfl, rfl⟩
  | succ k ih =>
    intro w v σ
    rw [LX0_dropOn_2]
    refine wf_ite (fun _ => ⟨rfl, rfl⟩) (fun _ => wf_ite (fun _ => wf_ite (fun _ => ?_) (fun _ => ih _ _ _)) (fun _ => ih _ _ _))
    refine wf_bnd (P := SM j σ) (fun r er => ?_)
    exact sm_tr (ρ := r) (by rw [er]; exact sm_A (by omega)) (ih _ _ _)
theorem sm_10 {j : Nat} : ∀ (k : Nat) (w v : Int32) (σ : sg), SM j σ (LX0_passHour_10 j k w v σ) := by
  intro k
  induction k with
  | zero => intro w v σ; exact ⟨rfl, rfl⟩
  | succ k ih =>
    intro w v σ
    rw [LX0_passHour_10]
    refine wf_ite (fun _ => ⟨rfl, rfl⟩) (fun _ => ?_)
    refine wf_bnd (P := SM j σ) (fun r er => ?_)
    exact sm_tr (ρ := r) (by rw [er]; exact sm_A (by omega)) (ih _ _ _)
theorem sm_100 {j : Nat} : ∀ (k : Nat) (w v : Int32) (σ : sg), SM j σ (LX0_passHour_100 j k w v σ) := by
  intro k
  induction k with
  | zero => intro w v σ; exact ⟨rfl, rfl⟩
  | succ k ih =>
    intro w v σ
    rw [LX0_passHour_100]
    refine wf_ite (fun _ => ⟨rfl, rfl⟩) (fun _ => wf_ite (fun _ => ih _ _ _) (fun _ => wf_ite (fun _ => ih _ _ _) (fun _ => ?_)))
    refine wf_bnd (P := SM j σ) (fun r er => ?_)
    exact sm_tr (ρ := r) (by rw [er]; exact sm_A (by omega)) (ih _ _ _)
/-- who ran, behind the deeds' turns -/
def RM (j n : Nat) (p : Nat → Int32) (c : Int32) (T : Int32 × sg) : Prop := ∃ q : Nat → Int32, MK (rF T.2 (7 * j)) n q ∧ (∀ e : Nat, e < n → p e = 1 → q e = 1) ∧ c.toInt ≤ T.1.toInt ∧ T.1.toInt ≤ 8 ∧ (T.1 = c → ∀ e : Nat, e < n → q e = p e)
theorem rm38 {j n : Nat} : ∀ (k d : Nat) (c v : Int32) (σ : sg) (p : Nat → Int32), n ≤ 8 → rF σ (7 * j + 1) = nI n → MK (rF σ (7 * j)) n p → v.toInt = d → d ≤ n → n - d < k → 0 ≤ c.toInt → c.toInt + (n - d) ≤ 8 → RM j n p c (LX0_passHour_38 j k c v σ) := by
  intro k
  induction k with
  | zero => intro d c v σ p _ _ _ _ _ h; exact absurd h (Nat.not_lt_zero _)
  | succ k ih =>
    intro d c v σ p n8 n2 hp hv hd hk hc0 hc
    have n3 := nI_toInt (n := n) (by omega)
    have k1 : (1 : Int32).toInt = 1 := rfl
    rw [LX0_passHour_38, n2]
    by_cases cc : nI n ≤ v
    · rw [if_pos cc]
      have := leI cc
      exact ⟨p, hp, fun _ _ q => q, Int.le_refl _, (show c.toInt ≤ 8 by omega), fun _ _ _ => rfl⟩
    · have q := nleI cc
      have e1 := addI (x := v) (y := 1) (by omega) (by omega)
      rw [if_neg cc]
      refine wf_ite (fun c1 => ?_) (fun _ => ih (d + 1) c (v + 1) σ p n8 n2 hp (by omega) (by omega) (by omega) hc0 (by omega))
      refine wf_bnd (P := RM j n p c) (fun r er => ?_)
      have s1 : SM j σ r.2 := by rw [er]; exact sm_soft
      have e2 : ∀ i : Nat, rF r.2 i = rF σ i := fun i => congrFun s1.1 i
      refine wf_ite (fun _ => ih (d + 1) c (v + 1) r.2 p n8 (by rw [e2]; exact n2) (by rw [e2]; exact hp) (by omega) (by omega) (by omega) hc0 (by omega)) (fun _ => ?_)
      refine wf_bnd (P := RM j n p c) (fun s es => ?_)
      refine wf_bnd (P := RM j n p c) (fun t et => ?_)
      have s2 : SM j s t := by
        rw [et, fX0_dropOn]
        refine wf_bnd (P := SM j s) (fun u eu => ?_)
        rw [eu]
        exact sm_drop _ _ _ _
      have e3 : ∀ i : Nat, rF t i = rF s i := fun i => congrFun s2.1 i
      have m1 : MK (rF t (7 * j)) n (upd p d 1) := by
        rw [e3, es, sF_same9, e2]
        exact mk_with hp n8 hv (by omega)
      have m2 : rF t (7 * j + 1) = nI n := by rw [e3, es, sF_other (by omega), e2]; exact n2
      have e4 := addI (x := c) (y := 1) (by omega) (by omega)
      obtain ⟨u, u1, u2, u3, u4, u5⟩ := ih (d + 1) (c + 1) (v + 1) t (upd p d 1) n8 m2 m1 (by omega) (by omega) (by omega) (by omega) (by omega)
      refine ⟨u, u1, fun e he hpe => u2 e he ?_, by omega, u4, fun g => ?_⟩
      · by_cases g : e = d
        · subst g; exact pk_us
        · rw [pk_un g]; exact hpe
      · have := eqI g
        omega
theorem mk_val {M : Int32} {n : Nat} {p q : Nat → Int32} (h : MK M n p) (g : MK M n q) (hn : n ≤ 8) {d : Nat} (hd : d < n) : p d = q d := by
  obtain ⟨m, hm, e, hb⟩ := h
  obtain ⟨k, hk, e2, hc⟩ := g
  have e3 : m = k := by
    have e4 : nI m = nI k := e.symm.trans e2
    have e5 := eqI e4
    rw [nI_toInt (by omega), nI_toInt (by omega)] at e5
    omega
  subst e3
  have x := hb d (by omega)
  have y := hc d (by omega)
  rw [if_pos hd] at x y
  exact x.symm.trans y
theorem on38 {j : Nat} : ∀ (k : Nat) (c v : Int32) (σ : sg), (LX0_passHour_38 j k c v σ).2.1 (8 * j + 4) = σ.1 (8 * j + 4) := by
  intro k
  induction k with
  | zero => intro c v σ; rfl
  | succ k ih =>
    intro c v σ
    rw [LX0_passHour_38]
    refine wf_ite (P := fun T : Int32 × sg => T.2.1 (8 * j + 4) = σ.1 (8 * j + 4)) (fun _ => rfl) (fun _ => wf_ite (P := fun T : Int32 × sg => T.2.1 (8 * j + 4) = σ.1 (8 * j + 4)) (fun _ => ?_) (fun _ => ih _ _ _))
    refine wf_bnd (P := fun T : Int32 × sg => T.2.1 (8 * j + 4) = σ.1 (8 * j + 4)) (fun r er => ?_)
    have s1 : SM j σ r.2 := by rw [er]; exact sm_soft
    refine wf_ite (P := fun T : Int32 × sg => T.2.1 (8 * j + 4) = σ.1 (8 * j + 4)) (fun _ => (ih _ _ _).trans s1.2) (fun _ => ?_)
    refine wf_bnd (P := fun T : Int32 × sg => T.2.1 (8 * j + 4) = σ.1 (8 * j + 4)) (fun s es => ?_)
    refine wf_bnd (P := fun T : Int32 × sg => T.2.1 (8 * j + 4) = σ.1 (8 * j + 4)) (fun t et => ?_)
    have s2 : SM j s t := by
      rw [et, fX0_dropOn]
      refine wf_bnd (P := SM j s) (fun u eu => ?_)
      rw [eu]
      exact sm_drop _ _ _ _
    have s3 : s.1 (8 * j + 4) = r.2.1 (8 * j + 4) := by rw [es]; rfl
    exact (ih _ _ _).trans (s2.2.trans (s3.trans s1.2))
/-- rows with the same deeds hanging alike; who ran in the first ran in the second -/
def LR (n : Nat) (r r' : Nat → Int32) : Prop := ON r n ∧ ON r' n ∧ (∀ d : Nat, d < n → r' (72 + d) = r (72 + d)) ∧ (∀ d : Nat, d < n → (r (64 + d) = 0 ∨ r (64 + d) = 1)) ∧ (∀ d : Nat, d < n → r (64 + d) = 1 → r' (64 + d) = 1)
theorem hour_lr {σ τ : sg} {j a n : Nat} (ha : a < 4) (h : RC σ j (τ.1 a) n) : LR n (τ.1 a) ((fX5_anHour a τ).2.1 a) ∧ ((fX5_anHour a τ).1 = 0 → ∀ d : Nat, d < n → (fX5_anHour a τ).2.1 a (64 + d) = τ.1 a (64 + d)) := by
  have g := hour_eq ha h
  have n8 := h.1.1
  have p1 := rc_pc h
  have p2 := rc_pc g.2.1
  have m1 := h.2.2.2.2.2.2.1
  have rmh : (fX0_passHour j σ).2.1 (8 * j + 4) = σ.1 (8 * j + 4) ∧ RM j n (fun d => τ.1 a (64 + d)) 0 (fX0_passHour j σ) := by
    rw [fX0_passHour]
    refine wf_bnd (P := fun T : Int32 × sg => T.2.1 (8 * j + 4) = σ.1 (8 * j + 4) ∧ RM j n (fun d => τ.1 a (64 + d)) 0 T) (fun r er => ?_)
    have s1 : SM j σ r := by rw [er]; exact sm_10 _ _ _ _
    have e1 : ∀ i : Nat, rF r i = rF σ i := fun i => congrFun s1.1 i
    refine wf_bnd (P := fun T : Int32 × sg => T.2.1 (8 * j + 4) = σ.1 (8 * j + 4) ∧ RM j n (fun d => τ.1 a (64 + d)) 0 T) (fun r2 er2 => ?_)
    have z0 : (0 : Int32).toInt = 0 := rfl
    have g1 : RM j n (fun d => τ.1 a (64 + d)) 0 r2 := by
      rw [er2]
      exact rm38 9 0 0 0 r _ n8 (by rw [e1]; exact p1.2.2.1) (by rw [e1]; exact m1) rfl (by omega) (by omega) (by omega) (by omega)
    have g2 : r2.2.1 (8 * j + 4) = r.1 (8 * j + 4) := by
      rw [er2]
      exact on38 _ _ _ _
    refine wf_bnd (P := fun T : Int32 × sg => T.2.1 (8 * j + 4) = σ.1 (8 * j + 4) ∧ RM j n (fun d => τ.1 a (64 + d)) 0 T) (fun r3 er3 => ?_)
    have s3 : SM j r2.2 r3 := by rw [er3]; exact sm_100 _ _ _ _
    refine wf_bnd (P := fun T : Int32 × sg => T.2.1 (8 * j + 4) = σ.1 (8 * j + 4) ∧ RM j n (fun d => τ.1 a (64 + d)) 0 T) (fun r4 er4 => ?_)
    have e4 : rF r4 (7 * j) = rF r2.2 (7 * j) := by
      rw [er4, sF_other (by omega)]
      exact congrFun s3.1 _
    refine ⟨?_, ?_⟩
    · rw [er4]
      exact s3.2.trans (g2.trans s1.2)
    · obtain ⟨q, q1, q2⟩ := g1
      exact ⟨q, by rw [e4]; exact q1, q2⟩
  obtain ⟨q, q1, q2, q3, q4, q5⟩ := rmh.2
  have q6 : ∀ d : Nat, d < n → (fX5_anHour a τ).2.1 a (64 + d) = q d := fun d hd => mk_val p2.2.2.2.1 q1 n8 hd
  refine ⟨⟨pc_on p1, pc_on p2, fun d hd => ?_, fun d hd => mk_01 m1 hd n8, fun d hd h1 => ?_⟩, fun h0 d hd => ?_⟩
  · rw [← (p2.2.2.2.2 d hd).1, rmh.1]
    exact (p1.2.2.2.2 d hd).1
  · rw [q6 d hd]; exact q2 d hd h1
  · rw [q6 d hd]; exact q5 (g.1.trans h0) d hd
theorem lr_tr {n : Nat} {r s t : Nat → Int32} (h : LR n r s) (g : LR n s t) : LR n r t := ⟨h.1, g.2.1, fun d hd => (g.2.2.1 d hd).trans (h.2.2.1 d hd), h.2.2.2.1, fun d hd q => g.2.2.2.2 d hd (h.2.2.2.2 d hd q)⟩
/-- a peace that holds no more never does again -/
theorem holds_lr {a b n : Nat} {τ τ' : sg} (h : LR n (τ.1 a) (τ'.1 b)) : ∀ d : Nat, d < n → pH b τ' d = 1 → pH a τ d = 1 := by
  intro d
  induction d using Nat.strongRecOn with
  | _ d ih =>
    intro hd h1
    have n8 := h.1.1
    have x := h.1.2.2 d hd
    have e1 := holds_rec h.1 (v := nI d) (nI_toInt (by omega)) hd
    have e2 := holds_rec h.2.1 (v := nI d) (nI_toInt (by omega)) hd
    have h2 : fX5_holds b (nI d) τ' = 1 := h1
    rw [h.2.2.1 d hd, h2] at e2
    have c1 : τ'.1 b (64 + d) = 0 := by
      by_cases c : τ'.1 b (64 + d) = 0
      · exact c
      · rw [if_neg c] at e2
        exact absurd e2 (by decide)
    have c2 : τ.1 a (64 + d) = 0 := by
      rcases h.2.2.2.1 d hd with q | q
      · exact q
      · have := h.2.2.2.2 d hd q
        rw [c1] at this
        exact absurd this (by decide)
    rw [if_pos c1] at e2
    rw [if_pos c2] at e1
    show fX5_holds a (nI d) τ = 1
    rw [e1]
    by_cases c3 : (τ.1 a (72 + d)).toInt < 0
    · rw [if_pos c3]
    · rw [if_neg c3] at e2 ⊢
      have e9 : (τ.1 a (72 + d)).toInt = ((τ.1 a (72 + d)).toInt.toNat : Nat) := by omega
      rw [pH_v e9 (by omega)] at e2 ⊢
      exact ih _ (by omega) (by omega) e2.symm
theorem pH01 {a d : Nat} {τ : sg} : pH a τ d = 0 ∨ pH a τ d = 1 := holds01
theorem rc_self {σ : sg} {j n : Nat} {r : Nat → Int32} (h : RC σ j r n) : LR n r r := ⟨pc_on (rc_pc h), pc_on (rc_pc h), fun _ _ => rfl, fun d hd => mk_01 h.2.2.2.2.2.2.1 hd h.1.1, fun _ _ q => q⟩
theorem h5_lr {a n j : Nat} (ha : a < 4) : ∀ (m : Nat) (c : Int32) (σ τ : sg), RC σ j (τ.1 a) n → LR n (τ.1 a) ((h5 a m c τ).2.1 a) := by
  intro m
  induction m with
  | zero => intro c σ τ h; exact rc_self h
  | succ m ih =>
    intro c σ τ h
    exact lr_tr (hour_lr ha h).1 (ih _ _ _ (hour_eq ha h).2.1)
/-- whether a peace holds behind m hours -/
theorem hbh {a n j : Nat} (ha : a < 4) {w v2 : Int32} {D : Nat} (hw : w.toInt = D) (hD : D < n) : ∀ (m k : Nat) (x v4 : Int32) (σ τ : sg), RC σ j (τ.1 a) n → v2.toInt - v4.toInt = m → m ≤ k → x = pH a τ D → (LX0_holdsBehind_9 j k w v2 x v4 σ).1 = pH a (h5 a m 0 τ).2 D ∧ FD j σ (LX0_holdsBehind_9 j k w v2 x v4 σ).2 := by
  intro m
  induction m with
  | zero =>
    intro k x v4 σ τ h hm hk hx
    cases k with
    | zero => exact ⟨hx, fd_rfl⟩
    | succ k =>
      have c : v2 ≤ v4 := Int32.le_iff_toInt_le.mpr (by omega)
      rw [LX0_holdsBehind_9, if_pos c]
      exact ⟨hx, fd_rfl⟩
  | succ m ih =>
    intro k x v4 σ τ h hm hk hx
    have n8 := h.1.1
    have k1 : (1 : Int32).toInt = 1 := rfl
    cases k with
    | zero => exact absurd hk (Nat.not_succ_le_zero _)
    | succ k =>
      have c : ¬ v2 ≤ v4 := fun q => by have := leI q; omega
      have r1 := Int32.toInt_lt v2
      have r2 := Int32.le_toInt v4
      have e1 := addI (x := v4) (y := 1) (by omega) (by omega)
      rw [LX0_holdsBehind_9, if_neg c]
      by_cases c1 : x = 0
      · rw [if_pos c1]
        refine ⟨?_, fd_rfl⟩
        rcases pH01 (a := a) (d := D) (τ := (h5 a (m + 1) 0 τ).2) with q | q
        · exact c1.trans q.symm
        · have := holds_lr (h5_lr ha (m + 1) 0 σ τ h) D hD q
          rw [← hx, c1] at this
          exact absurd this (by decide)
      · rw [if_neg c1]
        have g := hour_eq ha h
        have hx1 : pH a τ D = 1 := by
          rcases pH01 (a := a) (d := D) (τ := τ) with q | q
          · exact absurd (hx.trans q) c1
          · exact q
        have e3 : (h5 a (m + 1) 0 τ).2 = (h5 a m 0 (fX5_anHour a τ).2).2 := h5c m (0 + (fX5_anHour a τ).1) 0 (fX5_anHour a τ).2
        rw [e3]
        refine wf_bnd (P := fun T : Int32 × sg => T.1 = pH a (h5 a m 0 (fX5_anHour a τ).2).2 D ∧ FD j σ T.2) (fun r er => ?_)
        have gr : RC r.2 j ((fX5_anHour a τ).2.1 a) n := by rw [er]; exact g.2.1
        have gf : FD j σ r.2 := by rw [er]; exact g.2.2.1
        have nx : ∀ y : Int32, y = pH a (fX5_anHour a τ).2 D → (LX0_holdsBehind_9 j k w v2 y (v4 + 1) r.2).1 = pH a (h5 a m 0 (fX5_anHour a τ).2).2 D ∧ FD j σ (LX0_holdsBehind_9 j k w v2 y (v4 + 1) r.2).2 := fun y hy => by
          have z := ih k y (v4 + 1) r.2 (fX5_anHour a τ).2 gr (by omega) (by omega) hy
          exact ⟨z.1, fd_tr gf z.2⟩
        refine wf_ite (P := fun T : Int32 × sg => T.1 = pH a (h5 a m 0 (fX5_anHour a τ).2).2 D ∧ FD j σ T.2) (fun c2 => nx 1 ?_) (fun c2 => ?_)
        · have z := hour_lr ha h
          have l2 : LR n ((fX5_anHour a τ).2.1 a) (τ.1 a) := ⟨z.1.2.1, z.1.1, fun d hd => (z.1.2.2.1 d hd).symm, fun d hd => mk_01 g.2.1.2.2.2.2.2.2.1 hd n8, fun d hd q => by
            rw [z.2 (by rw [← g.1, ← er]; exact c2) d hd] at q
            exact q⟩
          exact (holds_lr l2 D hD hx1).symm
        · have ph := peaceHolds_eq gr hw hD
          rw [pH_v hw (by omega)] at ph
          rw [ph]
          refine wf_ite (P := fun T : Int32 × sg => T.1 = pH a (h5 a m 0 (fX5_anHour a τ).2).2 D ∧ FD j σ T.2) (fun c3 => nx 0 c3.symm) (fun c3 => nx 1 ?_)
          rcases pH01 (a := a) (d := D) (τ := (fX5_anHour a τ).2) with q | q
          · exact absurd q c3
          · exact q.symm
theorem holdsBehind_eq {a n j m : Nat} (ha : a < 4) {w v2 : Int32} {D : Nat} (hw : w.toInt = D) (hD : D < n) {σ τ : sg} (h : RC σ j (τ.1 a) n) (hm : v2.toInt = m) (hm2 : m ≤ 100) : (fX0_holdsBehind j w v2 σ).1 = pH a (h5 a m 0 τ).2 D ∧ FD j σ (fX0_holdsBehind j w v2 σ).2 := by
  have n8 := h.1.1
  have z0 : (0 : Int32).toInt = 0 := rfl
  rw [fX0_holdsBehind]
  refine wf_bnd (P := fun T : Int32 × sg => T.1 = pH a (h5 a m 0 τ).2 D ∧ FD j σ T.2) (fun r er => ?_)
  have g := hbh (v2 := v2) ha hw hD m 101 (fX0_peaceHolds j w σ) 0 σ τ h (by omega) (by omega) (by rw [peaceHolds_eq h hw hD, pH_v hw (by omega)])
  rw [← er] at g
  exact g
end EQ6
