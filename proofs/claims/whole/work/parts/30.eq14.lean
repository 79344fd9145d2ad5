section EQ14
theorem shlD9 : ∀ n : Nat, n < 9 → jshl 1 (nI n) = nI (2 ^ n) ∧ 2 ^ n ≤ 256 ∧ 1 ≤ 2 ^ n := by decide
theorem bitD9 : ∀ m : Nat, m < 64 → ∀ s : Nat, s < 6 → (jshr (nI m) (nI s)) &&& 1 = i01 (m.testBit s) := by decide +kernel
theorem hiD9 : ∀ m : Nat, m < 64 → m.testBit 6 = false ∧ m.testBit 7 = false := by decide +kernel
theorem mk6 {m : Nat} (hm : m < 64) {p : Nat → Int32} (h : ∀ s : Nat, s < 6 → p s = i01 (m.testBit s)) : MK (nI m) 6 p := by
  refine ⟨m, by omega, rfl, fun d hd => ?_⟩
  by_cases c : d < 6
  · rw [if_pos c]; exact (h d c).symm
  · rw [if_neg c]
    have z := hiD9 m hm
    rcases (show d = 6 ∨ d = 7 by omega) with rfl | rfl
    · rw [z.1]; rfl
    · rw [z.2]; rfl
/-- shutters as a set says -/
theorem rcOpenM {σ : sg} {j n m : Nat} {r r' : Nat → Int32} (h : RC σ j r n) (hm : m < 64) (h1 : ∀ s : Nat, s < 6 → r' (4 + s) = i01 (m.testBit s)) (h2 : ∀ i : Nat, i < 80 → (i < 4 ∨ 10 ≤ i) → r' i = r i) : RC (sF9 σ (7 * j + 2) (nI m)) j r' n := by
  obtain ⟨g1, g2, g3, g4, g5, g6, g7, g8, g9, g10⟩ := h
  have n8 := g1.1
  refine ⟨⟨g1.1, by rw [h2 0 (by omega) (by omega)]; exact g1.2.1, by rw [sF_other (by omega)]; exact g1.2.2⟩, by rw [h2 1 (by omega) (by omega), sF_other (by omega)]; exact g2, by rw [h2 2 (by omega) (by omega), sF_other (by omega)]; exact g3, by rw [h2 3 (by omega) (by omega), sF_other (by omega)]; exact g4, by rw [sF_same9]; exact mk6 hm h1, by rw [sF_other (by omega)]; exact mk_ext g6 (fun s hs => (h2 _ (by omega) (by omega)).symm), by rw [sF_other (by omega)]; exact mk_ext g7 (fun s hs => (h2 _ (by omega) (by omega)).symm), fun s hs => by rw [h2 _ (by omega) (by omega)]; exact g8 s hs, fun k hk => by rw [h2 _ (by omega) (by omega)]; exact g9 k hk, fun t d ht hd => ?_⟩
  have q := of_ge ht
  have q2 : of9 t + d < 80 := by unfold of9; split <;> omega
  rw [h2 _ q2 (by omega)]
  exact g10 t d ht hd
theorem eqOp {m : Nat} (hm : m < 64) {x1 x2 x4 w : Int32} (hw : w = nI m) : ∀ (k d : Nat) (v : Int32) (τ : sg), v.toInt = d → d ≤ 6 → 6 - d < k → (∀ s : Nat, s < d → τ.1 2 (4 + s) = i01 (m.testBit s)) → FM 2 τ (LX5_opened_74 k x1 x2 x4 w v τ) ∧ (∀ s : Nat, s < 6 → (LX5_opened_74 k x1 x2 x4 w v τ).1 2 (4 + s) = i01 (m.testBit s)) ∧ (∀ i : Nat, (i < 4 ∨ 10 ≤ i) → (LX5_opened_74 k x1 x2 x4 w v τ).1 2 i = τ.1 2 i) := by
  intro k
  induction k with
  | zero => intro d v τ _ _ h; exact absurd h (Nat.not_lt_zero _)
  | succ k ih =>
    intro d v τ hv hd hk hs
    have k1 : (1 : Int32).toInt = 1 := rfl
    have k6 : (6 : Int32).toInt = 6 := rfl
    rw [LX5_opened_74]
    by_cases cc : 6 ≤ v
    · have := leI cc
      rw [if_pos cc]
      exact ⟨fm_rfl, fun s h6 => hs s (by omega), fun _ _ => rfl⟩
    · have q := nleI cc
      have e1 := addI (x := v) (y := 1) (by omega) (by omega)
      rw [if_neg cc]
      refine wf_bnd (P := fun T : sg => FM 2 τ T ∧ (∀ s : Nat, s < 6 → T.1 2 (4 + s) = i01 (m.testBit s)) ∧ (∀ i : Nat, (i < 4 ∨ 10 ≤ i) → T.1 2 i = τ.1 2 i)) (fun r er => ?_)
      have i4 := ixC (c := 4) (C := 4) hv (by omega) rfl (by decide)
      have er2 : r.1 2 = upd (τ.1 2) (4 + d) (i01 (m.testBit d)) := by
        rw [er, sAs i4, hw, vnI hv (by omega), bitD9 m hm d (by omega)]
      obtain ⟨g1, g2, g3⟩ := ih (d + 1) (v + 1) r (by omega) (by omega) (by omega) (fun s h6 => by
        rw [er2]
        by_cases c : s = d
        · subst c; exact pk_us
        · rw [pk_un (by omega)]; exact hs s (by omega))
      refine ⟨fm_tr (by rw [er]; exact fm_A) g1, g2, fun i hi => ?_⟩
      rw [g3 i hi, er2, pk_un (by omega)]
theorem eqOpened {n : Nat} {a w : Int32} (hw : 1 ≤ w.toInt ∧ w.toInt ≤ 24) : ∀ (k d : Nat) (c v : Int32) (σ τ : sg), GG n σ τ → v.toInt = d → d ≤ 64 → 64 - d < k → RN n (LX4_opened_48 k a w c v σ) (LX5_opened_53 k a w c v τ) := by
  intro k
  induction k with
  | zero => intro d c v σ τ _ _ _ h; exact absurd h (Nat.not_lt_zero _)
  | succ k ih =>
    intro d c v σ τ h hv hd hk
    have n8 := h.2.1.1
    have k1 : (1 : Int32).toInt = 1 := rfl
    have k64 : (64 : Int32).toInt = 64 := rfl
    rw [LX4_opened_48, LX5_opened_53]
    by_cases cc : 64 ≤ v
    · rw [if_pos cc, if_pos cc]; exact ⟨rfl, h⟩
    · have q := nleI cc
      have e1 := addI (x := v) (y := 1) (by omega) (by omega)
      rw [if_neg cc, if_neg cc]
      obtain ⟨t1, t2, t3⟩ := try_rc h
      refine bnd2 (P := RN n) (fun r s er es => ?_)
      rw [← er, ← es] at t1
      rw [← er] at t2
      rw [← es] at t3
      refine bnd2 (P := RN n) (fun r2 s2 er2 es2 => ?_)
      obtain ⟨o1, o2, o3⟩ := eqOp (m := d) (by omega) (x1 := a) (x2 := w) (x4 := c) (w := v) (vnI hv (by omega)) 7 0 0 s rfl (by decide) (by decide) (fun s hs => absurd hs (Nat.not_lt_zero _))
      rw [← es2] at o1 o2 o3
      have u1 : RC r2 1 (s2.1 2) n := by
        rw [er2, vnI hv (by omega)]
        exact rcOpenM t1 (by omega) o2 (fun i _ hi => o3 i hi)
      have u2 : FD 1 r r2 := by rw [er2]; exact fd_F (by decide)
      refine bnd2 (P := RN n) (fun r3 s3 er3 es3 => ?_)
      have hm : w.toInt = (w.toInt.toNat : Nat) := by omega
      obtain ⟨b1, b2, b3, b4, b5, b6, b7⟩ := hb_eq rfl rfl (w := w) hm (by omega) u1
      have e3 : r3.2 = (fX0_holdingBehind 1 w r2).2 := by rw [er3, pass_eq hm (by omega), b7]
      rw [← e3, ← es3] at b2
      rw [← e3] at b3
      rw [← es3] at b4
      have gg : GG n r3.2 s3.2 := gg_fd h (fd_tr t2 (fd_tr u2 b3)) (fm_tr t3 (fm_tr o1 b4))
      rw [ran_eq b2, Int32.add_zero]
      by_cases z : rF r3.2 (7 * 1) = a
      · rw [if_pos z, if_pos z]
        exact ih (d + 1) (c + 1) (v + 1) _ _ gg (by omega) (by omega) (by omega)
      · rw [if_neg z, if_neg z]
        exact ih (d + 1) c (v + 1) _ _ gg (by omega) (by omega) (by omega)
theorem m_opened {σ τ : sg} (h : RG σ τ) (a b : Int32) : RR (fX4_opened a b σ) (fX5_opened a b τ) := by
  obtain ⟨n, hc⟩ := h.1
  have g0 : GG n σ τ := ⟨h, hc⟩
  obtain ⟨n8, n1, n2, n3⟩ := rc_n hc
  have k0 : (0 : Int32).toInt = 0 := rfl
  have k1 : (1 : Int32).toInt = 1 := rfl
  have k24 : (24 : Int32).toInt = 24 := rfl
  obtain ⟨s1, s2, s3⟩ := shlD9 n (by omega)
  have s4 := nI_toInt (n := 2 ^ n) (by omega)
  have s5 := subI (x := nI (2 ^ n)) (y := 1) (by omega) (by omega)
  unfold fX4_opened fX5_opened
  simp only [bx]
  rw [within_eq, n1, n2, s1, lacks0]
  rcases within01 (v := a) (a := 0) (b := nI (2 ^ n) - 1) with q | ⟨q, q2, q3⟩
  · rw [if_pos q.1]
    by_cases c : a < 0
    · rw [if_pos c]; exact rr0 h
    · have c2 := nltI c
      rw [if_neg c, if_pos (Int32.le_iff_toInt_le.mpr (by omega))]; exact rr0 h
  · rw [if_neg (show ¬ fX5_within a 0 (nI (2 ^ n) - 1) = 0 by rw [q]; decide), if_neg (geM0 (w := a) (by omega)), if_neg (show ¬ nI (2 ^ n) ≤ a from fun z => by have := leI z; omega)]
    rcases ref3 g0 b 24 with ⟨p1, p2⟩ | ⟨p1, p2, p3⟩ | ⟨p1, p2, p3, p4, p5⟩
    · rw [p1, if_neg z51, if_pos p2]; exact rr0 h
    · rw [p1, if_neg z55, if_neg (show ¬ fX5_within b 1 24 = 0 by rw [p2]; decide), lacks4 rfl p3, if_neg z40]; exact rr4 h
    · rw [if_pos p1, if_neg (show ¬ fX5_within b 1 24 = 0 by rw [p2]; decide), lacksN rfl p3, if_pos zm1]
      exact rn_rr (eqOpened (by omega) 65 0 0 0 σ τ g0 rfl (by decide) (by decide))
/-- seals made anew, at an earlier hour -/
theorem rcAnew {σ ρ : sg} {j n : Nat} {r r' : Nat → Int32} (h : RC σ j r n) {x : Int32} (f1 : ∀ t : Nat, t < 7 → t ≠ 3 → ρ.1 (8 * j + t) = σ.1 (8 * j + t)) (f2 : ∀ d : Nat, d < n → ρ.1 (8 * j + 3) d = 0) (f3 : ∀ t : Nat, t < 7 → t ≠ 0 → t ≠ 4 → rF ρ (7 * j + t) = rF σ (7 * j + t)) (f4 : rF ρ (7 * j) = 0) (f5 : rF ρ (7 * j + 4) = x) (g1 : r' 2 = x) (g2 : ∀ d : Nat, d < n → r' (56 + d) = 0 ∧ r' (64 + d) = 0) (g3 : ∀ i : Nat, i < 80 → i ≠ 2 → (i < 56 ∨ 72 ≤ i) → r' i = r i) : RC ρ j r' n := by
  obtain ⟨c1, c2, c3, c4, c5, c6, c7, c8, c9, c10⟩ := h
  have n8 := c1.1
  refine ⟨⟨c1.1, by rw [g3 0 (by omega) (by omega) (by omega)]; exact c1.2.1, by rw [f3 1 (by omega) (by omega) (by omega)]; exact c1.2.2⟩, by rw [g3 1 (by omega) (by omega) (by omega), f3 5 (by omega) (by omega) (by omega)]; exact c2, by rw [g1, f5], by rw [g3 3 (by omega) (by omega) (by omega), f3 6 (by omega) (by omega) (by omega)]; exact c4, by rw [f3 2 (by omega) (by omega) (by omega)]; exact mk_ext c5 (fun s hs => (g3 _ (by omega) (by omega) (by omega)).symm), by rw [f3 3 (by omega) (by omega) (by omega)]; exact mk_ext c6 (fun s hs => (g3 _ (by omega) (by omega) (by omega)).symm), ?_, fun s hs => by rw [g3 _ (by omega) (by omega) (by omega), f1 5 (by omega) (by omega)]; exact c8 s hs, fun k hk => by rw [g3 _ (by omega) (by omega) (by omega), f1 6 (by omega) (by omega)]; exact c9 k hk, fun t d ht hd => ?_⟩
  · rw [f4]
    refine ⟨0, by decide, by decide, fun d hd => ?_⟩
    rw [Nat.zero_testBit]
    by_cases c : d < n
    · rw [if_pos c]; exact (g2 d c).2.symm
    · rw [if_neg c]; rfl
  · have q := of_ge ht
    by_cases c : t = 3
    · subst c
      show ρ.1 (8 * j + 3) d = r' (56 + d) ∧ BD 3 d (r' (56 + d)).toInt
      rw [f2 d hd, (g2 d hd).1]
      exact ⟨rfl, bd3 ⟨by decide, by decide⟩⟩
    · have e : of9 t + d < 80 ∧ of9 t + d ≠ 2 ∧ (of9 t + d < 56 ∨ 72 ≤ of9 t + d) := by
        rcases (show t = 0 ∨ t = 1 ∨ t = 2 ∨ t = 4 by omega) with rfl | rfl | rfl | rfl
        · show 32 + d < 80 ∧ 32 + d ≠ 2 ∧ (32 + d < 56 ∨ 72 ≤ 32 + d); omega
        · show 40 + d < 80 ∧ 40 + d ≠ 2 ∧ (40 + d < 56 ∨ 72 ≤ 40 + d); omega
        · show 48 + d < 80 ∧ 48 + d ≠ 2 ∧ (48 + d < 56 ∨ 72 ≤ 48 + d); omega
        · show 72 + d < 80 ∧ 72 + d ≠ 2 ∧ (72 + d < 56 ∨ 72 ≤ 72 + d); omega
      rw [g3 _ e.1 e.2.1 e.2.2, f1 t (by omega) c]
      exact c10 t d ht hd
theorem eqAn0 {n : Nat} (n8 : n ≤ 8) : ∀ (k d : Nat) (v : Int32) (σ : sg), rF σ (7 * 1 + 1) = nI n → v.toInt = d → d ≤ n → n - d < k → (∀ e : Nat, e < d → σ.1 (8 * 1 + 3) e = 0) → (LX0_makeSealsAnew_2 1 k v σ).2 = σ.2 ∧ (∀ b : Nat, b ≠ 8 * 1 + 3 → (LX0_makeSealsAnew_2 1 k v σ).1 b = σ.1 b) ∧ (∀ e : Nat, e < n → (LX0_makeSealsAnew_2 1 k v σ).1 (8 * 1 + 3) e = 0) := by
  intro k
  induction k with
  | zero => intro d v σ _ _ _ h; exact absurd h (Nat.not_lt_zero _)
  | succ k ih =>
    intro d v σ h hv hd hk hs
    have n3 := nI_toInt (n := n) (by omega)
    have k1 : (1 : Int32).toInt = 1 := rfl
    rw [LX0_makeSealsAnew_2, h]
    by_cases cc : nI n ≤ v
    · have := leI cc
      rw [if_pos cc]
      exact ⟨rfl, fun _ _ => rfl, fun e he => hs e (by omega)⟩
    · have q := nleI cc
      have e1 := addI (x := v) (y := 1) (by omega) (by omega)
      rw [if_neg cc]
      refine wf_bnd (P := fun T : sg => T.2 = σ.2 ∧ (∀ b : Nat, b ≠ 8 * 1 + 3 → T.1 b = σ.1 b) ∧ (∀ e : Nat, e < n → T.1 (8 * 1 + 3) e = 0)) (fun r er => ?_)
      obtain ⟨g1, g2, g3⟩ := ih (d + 1) (v + 1) r (by rw [er]; exact h) (by omega) (by omega) (by omega) (fun e he => by
        rw [er, sAs hv]
        by_cases c : e = d
        · subst c; exact pk_us
        · rw [pk_un c]; exact hs e (by omega))
      exact ⟨g1.trans (by rw [er]; rfl), fun b hb => (g2 b hb).trans (by rw [er]; exact sA_other hb), g3⟩
theorem eqAn5 {n : Nat} (n8 : n ≤ 8) {x1 x2 : Int32} : ∀ (k d : Nat) (v : Int32) (τ : sg), rA τ 0 0 = nI n → v.toInt = d → d ≤ n → n - d < k → (∀ e : Nat, e < d → τ.1 2 (56 + e) = 0 ∧ τ.1 2 (64 + e) = 0) → FM 2 τ (LX5_began_50 k x1 x2 v τ) ∧ (∀ e : Nat, e < n → (LX5_began_50 k x1 x2 v τ).1 2 (56 + e) = 0 ∧ (LX5_began_50 k x1 x2 v τ).1 2 (64 + e) = 0) ∧ (∀ i : Nat, (i < 56 ∨ 72 ≤ i) → (LX5_began_50 k x1 x2 v τ).1 2 i = τ.1 2 i) := by
  intro k
  induction k with
  | zero => intro d v τ _ _ _ h; exact absurd h (Nat.not_lt_zero _)
  | succ k ih =>
    intro d v τ h hv hd hk hs
    have n3 := nI_toInt (n := n) (by omega)
    have k1 : (1 : Int32).toInt = 1 := rfl
    rw [LX5_began_50, h]
    by_cases cc : nI n ≤ v
    · have := leI cc
      rw [if_pos cc]
      exact ⟨fm_rfl, fun e he => hs e (by omega), fun _ _ => rfl⟩
    · have q := nleI cc
      have e1 := addI (x := v) (y := 1) (by omega) (by omega)
      have i3 := ixC (c := 56) (C := 56) hv (by omega) rfl (by decide)
      have i5 := ixC (c := 64) (C := 64) hv (by omega) rfl (by decide)
      rw [if_neg cc]
      refine wf_bnd (P := fun T : sg => FM 2 τ T ∧ (∀ e : Nat, e < n → T.1 2 (56 + e) = 0 ∧ T.1 2 (64 + e) = 0) ∧ (∀ i : Nat, (i < 56 ∨ 72 ≤ i) → T.1 2 i = τ.1 2 i)) (fun r er => ?_)
      refine wf_bnd (P := fun T : sg => FM 2 τ T ∧ (∀ e : Nat, e < n → T.1 2 (56 + e) = 0 ∧ T.1 2 (64 + e) = 0) ∧ (∀ i : Nat, (i < 56 ∨ 72 ≤ i) → T.1 2 i = τ.1 2 i)) (fun s es => ?_)
      have e2 : s.1 2 = upd (upd (τ.1 2) (56 + d) 0) (64 + d) 0 := by rw [es, sAs i5, er, sAs i3]
      have fm : FM 2 τ s := by rw [es, er]; exact fm_tr fm_A fm_A
      have h2 : rA s 0 0 = nI n := by
        show s.1 0 0 = nI n
        rw [fm.1 0 (by decide) (by decide)]; exact h
      obtain ⟨g1, g2, g3⟩ := ih (d + 1) (v + 1) s h2 (by omega) (by omega) (by omega) (fun e he => by
        rw [e2]
        by_cases c : e = d
        · subst c
          refine ⟨?_, pk_us⟩
          rw [pk_un (by omega)]; exact pk_us
        · refine ⟨?_, ?_⟩
          · rw [pk_un (by omega), pk_un (by omega)]; exact (hs e (by omega)).1
          · rw [pk_un (by omega), pk_un (by omega)]; exact (hs e (by omega)).2)
      exact ⟨fm_tr fm g1, g2, fun i hi => by rw [g3 i hi, e2, pk_un (by omega), pk_un (by omega)]⟩
theorem eqBegan {n : Nat} : ∀ (k d : Nat) (c v : Int32) (σ τ : sg), GG n σ τ → v.toInt = d → 1 ≤ d → d ≤ 25 → 25 - d < k → RN n (LX4_began_23 k c v σ) (LX5_began_21 k c v τ) := by
  intro k
  induction k with
  | zero => intro d c v σ τ _ _ _ _ h; exact absurd h (Nat.not_lt_zero _)
  | succ k ih =>
    intro d c v σ τ h hv hd1 hd hk
    have n8 := h.2.1.1
    have k1 : (1 : Int32).toInt = 1 := rfl
    have k24 : (24 : Int32).toInt = 24 := rfl
    rw [LX4_began_23, LX5_began_21]
    by_cases cc : 24 < v
    · rw [if_pos cc, if_pos cc]; exact ⟨rfl, h⟩
    · have q := nltI cc
      have e1 := addI (x := v) (y := 1) (by omega) (by omega)
      rw [if_neg cc, if_neg cc]
      obtain ⟨t1, t2, t3⟩ := try_rc h
      have ta := take_F (σ := σ) (i := 0) (j := 1) (by decide)
      refine bnd2 (P := RN n) (fun r s er es => ?_)
      rw [← er, ← es] at t1
      rw [← er] at t2 ta
      rw [← es] at t3
      refine bndL (P := RN n) (fun r6 er6 => ?_)
      refine bndL (P := RN n) (fun s9 es9 => ?_)
      refine bndR (P := RN n) (fun s6 es6 => ?_)
      refine bndR (P := RN n) (fun r28 er28 => ?_)
      have an : r6.1 (8 * 1 + 3) = r6.1 (8 * 1 + 3) ∧ (∀ b : Nat, b ≠ 8 * 1 + 3 → r6.1 b = r.1 b) ∧ (∀ e : Nat, e < n → r6.1 (8 * 1 + 3) e = 0) ∧ (∀ i : Nat, i ≠ 7 * 1 → rF r6 i = rF r i) ∧ rF r6 (7 * 1) = 0 := by
        rw [er6, fX0_makeSealsAnew]
        refine wf_bnd (P := fun T : sg => T.1 (8 * 1 + 3) = T.1 (8 * 1 + 3) ∧ (∀ b : Nat, b ≠ 8 * 1 + 3 → T.1 b = r.1 b) ∧ (∀ e : Nat, e < n → T.1 (8 * 1 + 3) e = 0) ∧ (∀ i : Nat, i ≠ 7 * 1 → rF T i = rF r i) ∧ rF T (7 * 1) = 0) (fun u eu => ?_)
        refine wf_bnd (P := fun T : sg => T.1 (8 * 1 + 3) = T.1 (8 * 1 + 3) ∧ (∀ b : Nat, b ≠ 8 * 1 + 3 → T.1 b = r.1 b) ∧ (∀ e : Nat, e < n → T.1 (8 * 1 + 3) e = 0) ∧ (∀ i : Nat, i ≠ 7 * 1 → rF T i = rF r i) ∧ rF T (7 * 1) = 0) (fun w ew => ?_)
        obtain ⟨g1, g2, g3⟩ := eqAn0 n8 9 0 0 r t1.1.2.2 rfl (by omega) (by omega) (fun e he => absurd he (Nat.not_lt_zero _))
        rw [← eu] at g1 g2 g3
        rw [ew]
        refine ⟨rfl, g2, g3, fun i hi => ?_, sF_same9⟩
        rw [sF_other hi]
        exact congrFun g1 i
      obtain ⟨_, a1, a2, a3, a4⟩ := an
      have hs0 : rA s6 0 0 = nI n := by
        rw [es6, rA_oth (by decide)]
        show s.1 0 0 = nI n
        rw [t3.1 0 (by decide) (by decide)]; exact h.2.1.2.1
      obtain ⟨o1, o2, o3⟩ := eqAn5 n8 (x1 := c) (x2 := v) 9 0 0 s6 hs0 rfl (by omega) (by omega) (fun e he => absurd he (Nat.not_lt_zero _))
      rw [← er28] at o1 o2 o3
      have i2 : (2 : Int32).toInt = (2 : Nat) := rfl
      have es62 : s6.1 2 = upd (s.1 2) 2 (rA s 2 2 - v) := by rw [es6, sAs i2]
      have hr4 : rF r6 (7 * 0 + 4) = rA s 2 2 := by
        rw [a3 _ (by omega), t2.2 _ (by omega), ← ta.2.2.2.2.1]
        exact rc_hour t1
      have u1 : RC s9 1 (r28.1 2) n := by
        refine rcAnew t1 (x := rA s 2 2 - v) (fun t ht ht3 => ?_) (fun d hd => ?_) (fun t ht h1 h4 => ?_) ?_ ?_ ?_ o2 (fun i hi h2 hi2 => ?_)
        · rw [es9]
          exact a1 _ (by omega)
        · rw [es9]
          exact a2 d hd
        · rw [es9, sF_other (by omega)]
          exact a3 _ (by omega)
        · rw [es9, sF_other (by omega)]
          exact a4
        · rw [es9, sF_same9, hr4]
        · rw [o3 2 (by omega), es62, pk_us]
        · rw [o3 i hi2, es62, pk_un h2]
      have u2 : FD 1 r s9 := by
        rw [es9]
        refine ⟨fun b hb => a1 b (by omega), fun i hi => ?_⟩
        rw [sF_other (by omega)]
        exact a3 i (by omega)
      have u3 : FM 2 s r28 := fm_tr (by rw [es6]; exact fm_A) o1
      refine bnd2 (P := RN n) (fun r3 s3 er3 es3 => ?_)
      have hm : v.toInt = d := hv
      obtain ⟨b1, b2, b3, b4, b5, b6, b7⟩ := hb_eq rfl rfl (w := v) hm (by omega) u1
      have e3 : r3.2 = (fX0_holdingBehind 1 v s9).2 := by rw [er3, pass_eq hm (by omega), b7]
      rw [← e3, ← es3] at b2
      rw [← e3] at b3
      rw [← es3] at b4
      have gg : GG n r3.2 s3.2 := gg_fd h (fd_tr t2 (fd_tr u2 b3)) (fm_tr t3 (fm_tr u3 b4))
      rw [ran_eq b2, ran_eq gg.2, Int32.or_zero]
      by_cases z : rF r3.2 (7 * 1) = rF r3.2 (7 * 0)
      · rw [if_pos z, if_pos z]
        exact ih (d + 1) (fX4_with c v) (v + 1) _ _ gg (by omega) (by omega) (by omega) (by omega)
      · rw [if_neg z, if_neg z]
        exact ih (d + 1) c (v + 1) _ _ gg (by omega) (by omega) (by omega) (by omega)
theorem m_began {σ τ : sg} (h : RG σ τ) : RR (fX4_began σ) (fX5_began τ) := by
  obtain ⟨n, hc⟩ := h.1
  have g0 : GG n σ τ := ⟨h, hc⟩
  unfold fX4_began fX5_began
  simp only [bx]
  rw [rc_hour hc]
  by_cases c : 24 ≤ rA τ 0 2
  · rw [if_pos c, if_pos c]
    exact rn_rr (eqBegan 26 1 0 1 σ τ g0 rfl (by decide) (by decide) (by decide))
  · rw [if_neg c, if_neg c]; exact rr4 h
end EQ14
