section EQ10
theorem sFA {σ : sg} {i b : Nat} {v x y : Int32} : sF9 (sA σ b v x) i y = sA (sF9 σ i y) b v x := rfl
theorem m_renew {σ τ : sg} (h : RG σ τ) (a : Int32) : RR (fX4_renew a σ) (fX5_renew a τ) := by
  obtain ⟨n, hc⟩ := h.1
  obtain ⟨n8, n1, n2, n3⟩ := rc_n hc
  unfold fX4_renew fX5_renew
  simp only [bx]
  rw [deed_eq hc]
  by_cases c1 : fX5_isDeed a τ = 0
  · rw [if_pos c1, if_pos c1]; exact rr0 h
  · obtain ⟨d, hv, hd⟩ := deed_n hc c1
    obtain ⟨x0, x1, x2, x3, x4, x5⟩ := ixT hv (by omega)
    rw [if_neg c1, if_neg c1]
    have g1 := rcRun0 hc hd hv x5
    have g2 := rcT g1 (t := 3) (by decide) hd hv (x := 0) x3 (bd3 ⟨by decide, by decide⟩)
    have g3 : RG (sF9 (sA σ (8 * 0 + 3) a 0) (7 * 0) (fX4_without (rF (sA σ (8 * 0 + 3) a 0) (7 * 0)) a)) (sA (sA τ 0 (64 + a) 0) 0 (56 + a) 0) := by
      rw [sA_F, sFA]
      exact rg_live h (fd_tr (fd_F (t := 0) (by decide)) (fd_A (t := 3) (by decide))) (fm_tr fm_A fm_A) g2
    have e := run_eq hc hd hv
    rw [e.1]
    simp only [bndE]
    rcases e.2 with q | q
    · rw [if_pos q, q]; exact ⟨rfl, g3⟩
    · rw [if_neg (by rw [q]; decide), q]; exact ⟨rfl, g3⟩
theorem shelf_n {v : Int32} (c : ¬ fX5_isShelf v = 0) : ∃ d : Nat, v.toInt = d ∧ d < 6 := by
  have k0 : (0 : Int32).toInt = 0 := rfl
  have k5 : (5 : Int32).toInt = 5 := rfl
  rcases within01 (v := v) (a := 0) (b := 5) with ⟨a1, a2⟩ | ⟨a1, a2, a3⟩
  · exact absurd a1 c
  · exact ⟨v.toInt.toNat, by omega, by omega⟩
theorem bit01 {v : Int32} (c : ¬ fX5_within v 0 1 = 0) : v = 0 ∨ v = 1 := by
  have k0 : (0 : Int32).toInt = 0 := rfl
  have k1 : (1 : Int32).toInt = 1 := rfl
  rcases within01 (v := v) (a := 0) (b := 1) with ⟨a1, a2⟩ | ⟨a1, a2, a3⟩
  · exact absurd a1 c
  · by_cases q : v.toInt = 0
    · exact Or.inl (Int32.toInt.inj (by omega))
    · exact Or.inr (Int32.toInt.inj (by omega))
theorem m_shelf {σ τ : sg} (h : RG σ τ) (a b c : Int32) : RR (fX4_shelf a b c σ) (fX5_shelf a b c τ) := by
  obtain ⟨n, hc⟩ := h.1
  have k0 : (0 : Int32).toInt = 0 := rfl
  have k2 : (2 : Int32).toInt = 2 := rfl
  have k1 : (1 : Int32).toInt = 1 := rfl
  unfold fX4_shelf fX5_shelf
  simp only [bx]
  rw [show fX4_isShelf a = fX5_isShelf a from rfl]
  by_cases c1 : fX5_isShelf a = 0
  · simp only [if_pos c1]
    by_cases w1 : b = 1
    · rw [if_pos w1]; exact rr0 h
    · rw [if_neg w1, ite_self, ite_self]; exact rr0 h
  · simp only [if_neg c1]
    obtain ⟨d, hv, hd⟩ := shelf_n c1
    by_cases w1 : b = 1
    · subst w1
      rw [if_pos rfl, if_pos rfl, within_eq]
      rcases within01 (v := c) (a := 0) (b := 99) with q | q
      · rw [if_pos q.1, if_pos q.1]; exact rr0 h
      · rw [if_neg (by rw [q.1]; decide), if_neg (by rw [q.1]; decide), show (4 + 6 * 1 : Int32) = 10 by decide, fX4_put]
        have i2 := ixC (c := 10) (C := 10) hv (by omega) rfl (by decide)
        refine bnd2 (P := RR) (fun r s er es => ?_)
        refine ⟨(rc_ice hc hd hv i2).1, ?_⟩
        show RG r s
        rw [er, es]
        exact rg_live h (fd_A (by decide)) fm_A (rcIce hc hd hv i2 q.2)
    · rw [if_neg w1, if_neg w1, within_eq]
      by_cases w0 : b = 0
      · subst w0
        rw [if_pos rfl, if_neg (show ¬ fX5_within 0 0 2 = 0 by decide), show (4 + 6 * 0 : Int32) = 4 by decide]
        by_cases c2 : fX5_within c 0 1 = 0
        · rw [if_pos c2, if_pos c2]; exact rr0 h
        · rw [if_neg c2, if_neg c2]
          have i2 := ixC (c := 4) (C := 4) hv (by omega) rfl (by decide)
          obtain ⟨ho, bo⟩ := rc_open hc hd hv i2
          rw [ho]
          have fin : ∀ z : Int32, z = rA τ 0 (4 + a) → RR (if c = 1 then bnd (fX0_setShutter 0 a 1 σ) (fun r10 => (z, r10)) else bnd (fX0_setShutter 0 a 0 σ) (fun r7 => (z, r7))) (bnd (sA τ 0 (4 + a) c) (fun s31 => ((rA τ 0 (4 + a)), s31))) := fun z hz => by
            rcases bit01 c2 with e | e
            · subst e
              rw [if_neg (by decide)]
              refine bnd2 (P := RR) (fun r s er es => ⟨hz, ?_⟩)
              show RG r s
              have er2 : r = sF9 σ (7 * 0 + 2) (fX4_without (rF σ (7 * 0 + 2)) a) := by rw [er, fX0_setShutter, if_pos rfl]; rfl
              rw [er2, es]
              exact rg_live h (fd_F (by decide)) fm_A (rcOpen0 hc hd hv i2)
            · subst e
              rw [if_pos rfl]
              refine bnd2 (P := RR) (fun r s er es => ⟨hz, ?_⟩)
              show RG r s
              have er2 : r = sF9 σ (7 * 0 + 2) (fX4_with (rF σ (7 * 0 + 2)) a) := by rw [er, fX0_setShutter, if_neg (by decide)]; rfl
              rw [er2, es]
              exact rg_live h (fd_F (by decide)) fm_A (rcOpen1 hc hd hv i2)
          rcases bo with q | q
          · rw [if_pos q]; exact fin 0 q.symm
          · rw [if_neg (by rw [q]; decide)]; exact fin 1 q.symm
      · rw [if_neg w0]
        by_cases w2 : b = 2
        · subst w2
          rw [if_pos rfl, if_neg (show ¬ fX5_within 2 0 2 = 0 by decide), show (4 + 6 * 2 : Int32) = 16 by decide]
          by_cases c2 : fX5_within c 0 1 = 0
          · rw [if_pos c2, if_pos c2]; exact rr0 h
          · rw [if_neg c2, if_neg c2]
            have i2 := ixC (c := 16) (C := 16) hv (by omega) rfl (by decide)
            obtain ⟨ho, bo⟩ := rc_cand hc hd hv i2
            rw [ho]
            have fin : ∀ z : Int32, z = rA τ 0 (16 + a) → RR (if c = 1 then bnd (fX0_setCandle 0 a 1 σ) (fun r10 => (z, r10)) else bnd (fX0_setCandle 0 a 0 σ) (fun r7 => (z, r7))) (bnd (sA τ 0 (16 + a) c) (fun s31 => ((rA τ 0 (16 + a)), s31))) := fun z hz => by
              rcases bit01 c2 with e | e
              · subst e
                rw [if_neg (by decide)]
                refine bnd2 (P := RR) (fun r s er es => ⟨hz, ?_⟩)
                show RG r s
                have er2 : r = sF9 σ (7 * 0 + 3) (fX4_without (rF σ (7 * 0 + 3)) a) := by rw [er, fX0_setCandle, if_pos rfl]; rfl
                rw [er2, es]
                exact rg_live h (fd_F (by decide)) fm_A (rcCand0 hc hd hv i2)
              · subst e
                rw [if_pos rfl]
                refine bnd2 (P := RR) (fun r s er es => ⟨hz, ?_⟩)
                show RG r s
                have er2 : r = sF9 σ (7 * 0 + 3) (fX4_with (rF σ (7 * 0 + 3)) a) := by rw [er, fX0_setCandle, if_neg (by decide)]; rfl
                rw [er2, es]
                exact rg_live h (fd_F (by decide)) fm_A (rcCand1 hc hd hv i2)
            rcases bo with q | q
            · rw [if_pos q]; exact fin 0 q.symm
            · rw [if_neg (by rw [q]; decide)]; exact fin 1 q.symm
        · rw [if_neg w2, ite_self]
          rcases within01 (v := b) (a := 0) (b := 2) with q | ⟨q, q2, q3⟩
          · rw [if_pos q.1]; exact rr0 h
          · have y0 := neI w0
            have y1 := neI w1
            have y2 := neI w2
            omega
theorem m_summer {σ τ : sg} (h : RG σ τ) (a : Int32) : RR (fX4_summer a σ) (fX5_summer a τ) := by
  obtain ⟨n, hc⟩ := h.1
  unfold fX4_summer fX5_summer
  simp only [bx]
  rw [within_eq]
  rcases within01 (v := a) (a := 0) (b := 40) with q | q
  · rw [if_pos q.1, if_pos q.1]; exact rr0 h
  · rw [if_neg (by rw [q.1]; decide), if_neg (by rw [q.1]; decide)]
    refine bnd2 (P := RR) (fun r s er es => ⟨(rc_sum hc).1, ?_⟩)
    show RG r s
    rw [er, es]
    exact rg_live h (fd_F (by decide)) fm_A (rcSum hc q.2 rfl)
theorem m_sun {σ τ : sg} (h : RG σ τ) (a : Int32) : RR (fX4_sun a σ) (fX5_sun a τ) := by
  unfold fX4_sun fX5_sun
  simp only [bx]
  rw [within_eq]
  by_cases c : fX5_within a 0 9999 = 0
  · rw [if_pos c, if_pos c]; exact rr0 h
  · rw [if_neg c, if_neg c]; exact ⟨rfl, h⟩
theorem m_heat {σ τ : sg} (h : RG σ τ) (a b : Int32) : RR (fX4_heat a b σ) (fX5_heat a b τ) := by
  obtain ⟨n, hc⟩ := h.1
  unfold fX4_heat fX5_heat
  simp only [bx]
  rw [show fX4_isShelf a = fX5_isShelf a from rfl, within_eq]
  by_cases c1 : fX5_isShelf a = 0
  · rw [if_pos c1, if_pos c1]; exact rr0 h
  · rw [if_neg c1, if_neg c1]
    obtain ⟨d, hv, hd⟩ := shelf_n c1
    by_cases c : fX5_within b 0 9999 = 0
    · rw [if_pos c, if_pos c]; exact rr0 h
    · rw [if_neg c, if_neg c, heatOf_eq hc hv hd]; exact ⟨rfl, h⟩
theorem eqLie {σ τ : sg} {n : Nat} (h : RC σ 0 (τ.1 0) n) : ∀ (k d : Nat) (a c v : Int32), v.toInt = d → d ≤ n → n - d < k → LX4_lie_18 k a c v σ = LX5_lie_17 k a c v τ := by
  intro k
  induction k with
  | zero => intro d a c v _ _ h; exact absurd h (Nat.not_lt_zero _)
  | succ k ih =>
    intro d a c v hv hd hk
    obtain ⟨n8, n1, n2, n3⟩ := rc_n h
    have k1 : (1 : Int32).toInt = 1 := rfl
    rw [LX4_lie_18, LX5_lie_17, n2, n1]
    by_cases cc : nI n ≤ v
    · rw [if_pos cc, if_pos cc]
    · have q := nleI cc
      have e1 := addI (x := v) (y := 1) (by omega) (by omega)
      rw [if_neg cc, if_neg cc, (rc_shelf h (d := d) (by omega) hv).1, Int32.or_zero]
      by_cases c2 : rA τ 0 (40 + v) = a
      · rw [if_pos c2, if_pos c2]
        exact ih (d + 1) a (fX4_with c v) (v + 1) (by omega) (by omega) (by omega)
      · rw [if_neg c2, if_neg c2]
        exact ih (d + 1) a c (v + 1) (by omega) (by omega) (by omega)
theorem m_lie {σ τ : sg} (h : RG σ τ) (a : Int32) : RR (fX4_lie a σ) (fX5_lie a τ) := by
  obtain ⟨n, hc⟩ := h.1
  have n8 := hc.1.1
  unfold fX4_lie fX5_lie
  simp only [bx]
  rw [show fX4_isShelf a = fX5_isShelf a from rfl]
  by_cases c1 : fX5_isShelf a = 0
  · rw [if_pos c1, if_pos c1]; exact rr0 h
  · rw [if_neg c1, if_neg c1]
    refine bnd2 (P := RR) (fun r s er es => ⟨?_, h⟩)
    show r = s
    rw [er, es]
    exact eqLie hc 9 0 a 0 0 rfl (by omega) (by omega)
/-- the hours of the living chancery -/
theorem live_h {σ τ : sg} (h : RG σ τ) (m : Nat) (c : Int32) : RR (h0 0 m c σ) (h5 0 m c τ) := by
  obtain ⟨n, hc⟩ := h.1
  have g := hq0 (show 0 < 4 by decide) m c σ τ hc
  exact ⟨g.1, rg_live h g.2.2.1 g.2.2.2 g.2.1⟩
theorem m_hours {σ τ : sg} (h : RG σ τ) (a : Int32) : RR (fX4_hours a σ) (fX5_hours a τ) := by
  obtain ⟨n, hc⟩ := h.1
  have k0 : (0 : Int32).toInt = 0 := rfl
  have k1 : (1 : Int32).toInt = 1 := rfl
  have k100 : (100 : Int32).toInt = 100 := rfl
  unfold fX4_hours fX5_hours fX4_refusal
  simp only [bx]
  rw [within_eq]
  rcases within01 (v := a) (a := 1) (b := 100) with q | ⟨q, q2, q3⟩
  · simp only [if_pos q.1]
    rw [if_neg (by decide)]; exact rr0 h
  · simp only [if_neg (show ¬ fX5_within a 1 100 = 0 by rw [q]; decide)]
    rcases late hc a with ⟨l1, l2⟩ | ⟨l1, l2⟩
    · simp only [if_pos l1]
      rw [if_pos trivial, if_neg (by rw [l2]; decide), pass_eq (m := a.toInt.toNat) (by omega) (by omega), hr5_h 101 a.toInt.toNat a 0 0 τ (by omega) (by omega)]
      exact live_h h _ _
    · simp only [if_neg (show ¬ fX4_isTooLate a σ = 0 by rw [l1]; decide)]
      rw [if_neg (by decide), if_pos l2]
      exact rr4 h
theorem m_now {σ τ : sg} (h : RG σ τ) (a : Int32) : RR (fX4_now a σ) (fX5_now a τ) := by
  obtain ⟨n, hc⟩ := h.1
  unfold fX4_now fX5_now
  simp only [bx]
  have out : ∀ z y : Int32, z = y → RR (z, σ) (y, τ) := fun z y e => ⟨e, h⟩
  by_cases w0 : a = 0
  · rw [if_pos w0, if_pos w0]; exact out _ _ (rc_hour hc)
  · rw [if_neg w0, if_neg w0]
    by_cases w1 : a = 1
    · rw [if_pos w1, if_pos w1]; exact out _ _ (peaces_eq (rc_pc hc))
    · rw [if_neg w1, if_neg w1]
      by_cases w2 : a = 2
      · rw [if_pos w2, if_pos w2]; exact out _ _ (ran_eq hc).symm
      · rw [if_neg w2, if_neg w2]
        by_cases w3 : a = 3
        · rw [if_pos w3, if_pos w3]; exact out _ _ (soft_all hc)
        · rw [if_neg w3, if_neg w3]
          by_cases w4 : a = 4
          · rw [if_pos w4, if_pos w4]; exact out _ _ (ice_all hc)
          · rw [if_neg w4, if_neg w4]
            by_cases w5 : a = 5
            · rw [if_pos w5, if_pos w5]; exact out _ _ (hottest_eq hc)
            · rw [if_neg w5, if_neg w5]
              by_cases w6 : a = 6
              · rw [if_pos w6, if_pos w6]; exact out _ _ (rc_sum hc).1
              · rw [if_neg w6, if_neg w6]; exact rr0 h
theorem m_seed {σ τ : sg} (h : RG σ τ) (a : Int32) : RR (fX4_seed a σ) (fX5_seed a τ) := by
  obtain ⟨n, hc⟩ := h.1
  unfold fX4_seed fX5_seed
  refine bnd2 (P := RR) (fun r s er es => ⟨rc_z hc, ?_⟩)
  show RG r s
  rw [er, es]
  exact rg_live h (fd_F (by decide)) fm_A (rcZ hc rfl)
/-- the tape's length alone has changed -/
theorem rg_len {σ τ : sg} (h : RG σ τ) {x : Int32} (hx : 0 ≤ x.toInt ∧ x.toInt ≤ 120) : RG (sF9 σ 22 x) (sF9 τ 1 x) := by
  obtain ⟨⟨n, h1⟩, ⟨h2, h3, h4⟩, ⟨h5, h6, h7, h8⟩, h9, h10⟩ := h
  refine ⟨⟨n, rc_at (ρ := sF9 σ 22 x) h1 (fun t ht => rfl) (fun t ht => sF_other (by omega)) rfl⟩, ⟨?_, ?_, fun q => ?_⟩, ⟨?_, ?_, ?_, h8⟩, h9, fun s hs => ⟨?_, ?_, (h10 s hs).2.2⟩⟩
  · rw [sF_other (by decide), sF_other (by decide)]; exact h2
  · rw [sF_other (by decide)]; exact h3
  · rw [sF_other (by decide)] at q
    obtain ⟨m, hm⟩ := h4 q
    exact ⟨m, rc_at (ρ := sF9 σ 22 x) hm (fun t ht => rfl) (fun t ht => sF_other (by omega)) rfl⟩
  · rw [sF_same9, sF_same9]
  · rw [sF_same9]; exact hx.1
  · rw [sF_same9]; exact hx.2
  · rw [sF_other (by omega)]; exact (h10 s hs).1
  · rw [sF_other (by omega)]; exact (h10 s hs).2.1
theorem m_wipe {σ τ : sg} (h : RG σ τ) : RR (fX4_wipe σ) (fX5_wipe τ) := by
  unfold fX4_wipe fX5_wipe
  refine bnd2 (P := RR) (fun r s er es => ⟨h.2.2.1.1, ?_⟩)
  show RG r s
  rw [er, es]
  exact rg_len h ⟨by decide, by decide⟩
theorem m_hold {σ τ : sg} (h : RG σ τ) (a b : Int32) : RR (fX4_hold a b σ) (fX5_hold a b τ) := by
  obtain ⟨n, hc⟩ := h.1
  obtain ⟨n8, n1, n2, n3⟩ := rc_n hc
  have k0 : (0 : Int32).toInt = 0 := rfl
  have k9 : (9 : Int32).toInt = 9 := rfl
  have km : (-1 : Int32).toInt = -1 := rfl
  have k1 : (1 : Int32).toInt = 1 := rfl
  have e1 := subI (x := nI n) (y := 1) (by omega) (by omega)
  unfold fX4_hold fX5_hold
  simp only [bx]
  rw [within_eq, within_eq, n1, n2]
  rcases within01 (v := a) (a := 0) (b := 9) with q | ⟨q, q2, q3⟩
  · rw [if_pos q.1, if_pos q.1]; exact rr0 h
  · rw [if_neg (show ¬ fX5_within a 0 9 = 0 by rw [q]; decide), if_neg (show ¬ fX5_within a 0 9 = 0 by rw [q]; decide)]
    rcases within01 (v := b) (a := -1) (b := nI n - 1) with p | ⟨p, p2, p3⟩
    · rw [if_pos p.1, if_pos p.1]; exact rr0 h
    · rw [if_neg (show ¬ fX5_within b (-1) (nI n - 1) = 0 by rw [p]; decide), if_neg (show ¬ fX5_within b (-1) (nI n - 1) = 0 by rw [p]; decide)]
      have hv : a.toInt = (a.toInt.toNat : Nat) := by omega
      refine bnd2 (P := RR) (fun r s er es => ⟨rfl, ?_⟩)
      show RG r s
      rw [er, es]
      exact rg_live h (fd_A (by decide)) fm_A (rcSpot hc (by omega) hv (ixC (c := 22) (C := 22) hv (by omega) rfl (by decide)) (by omega))
def ρ0 : sg := (fun _ _ => 0, fun _ => 0)
theorem oneF : ∀ (k : Nat) (a b c : Int32) (σ : sg), LX1_isOneOf_4 k a b c σ = LX1_isOneOf_4 k a b c ρ0 := by
  intro k
  induction k with
  | zero => intro a b c σ; rfl
  | succ k ih =>
    intro a b c σ
    rw [LX1_isOneOf_4, LX1_isOneOf_4, ih]
theorem oneD9 : ∀ k : Nat, k < 7 → ∀ q : Nat, q < 7 → LX1_isOneOf_4 8 (nI q) (nI k) 0 ρ0 = fX5_isUnder (nI k) (nI q) := by decide +kernel
theorem one_eq {k q : Int32} {σ : sg} (hk : 0 ≤ k.toInt ∧ k.toInt ≤ 6) (hq : 0 ≤ q.toInt ∧ q.toInt ≤ 6) : fX1_isOneOf k q σ = fX5_isUnder k q := by
  have e1 : k = nI k.toInt.toNat := vnI (by omega) (by omega)
  have e2 : q = nI q.toInt.toNat := vnI (by omega) (by omega)
  rw [fX1_isOneOf, oneF, e1, e2]
  exact oneD9 _ (by omega) _ (by omega)
theorem m_as {σ τ : sg} (h : RG σ τ) (a b : Int32) : RR (fX4_as a b σ) (fX5_as a b τ) := by
  obtain ⟨n, hc⟩ := h.1
  obtain ⟨n8, n1, n2, n3⟩ := rc_n hc
  have k0 : (0 : Int32).toInt = 0 := rfl
  have k9 : (9 : Int32).toInt = 9 := rfl
  have k1 : (1 : Int32).toInt = 1 := rfl
  have e1 := subI (x := nI n) (y := 1) (by omega) (by omega)
  unfold fX4_as fX5_as
  simp only [bx]
  rw [within_eq, show fX1_isKind b = fX5_isKind b from rfl]
  rcases within01 (v := a) (a := 0) (b := 9) with q | ⟨q, q2, q3⟩
  · rw [if_pos q.1, if_pos q.1]; exact rr0 h
  · rw [if_neg (show ¬ fX5_within a 0 9 = 0 by rw [q]; decide), if_neg (show ¬ fX5_within a 0 9 = 0 by rw [q]; decide)]
    by_cases c1 : fX5_isKind b = 0
    · rw [if_pos c1, if_pos c1]; exact rr0 h
    · rw [if_neg c1, if_neg c1]
      have bb := (within01 (v := b) (a := 0) (b := 6)).resolve_left (fun q => c1 q.1)
      have hv : a.toInt = (a.toInt.toNat : Nat) := by omega
      obtain ⟨s1, s2, s3⟩ := rc_spot hc (d := a.toInt.toNat) (by omega) hv (ixC (c := 22) (C := 22) hv (by omega) rfl (by decide))
      rw [s1, deed_eq hc]
      generalize rA τ 0 (22 + a) = o at s2 s3
      unfold fX5_isDeed
      rw [n1]
      rcases within01 (v := o) (a := 0) (b := nI n - 1) with p | ⟨p, p2, p3⟩
      · rw [if_pos p.1, if_neg (fun z => by have := leI z; omega)]
        exact rr5 h
      · rw [if_neg (show ¬ fX5_within o 0 (nI n - 1) = 0 by rw [p]; decide), if_pos (leM0 (by omega))]
        have hk := rc_kind hc (v := o) (d := o.toInt.toNat) (by omega) (by omega)
        rw [hk.1, one_eq hk.2 bb.2]
        by_cases c2 : fX5_isUnder (rA τ 0 (32 + o)) b = 0
        · rw [if_pos c2, if_pos c2]; exact rr2 h
        · rw [if_neg c2, if_neg c2]; exact ⟨rfl, h⟩
theorem m_image {σ τ : sg} (h : RG σ τ) : RR (fX4_image σ) (fX5_image τ) := by
  obtain ⟨⟨n, h1⟩, ⟨h2, h3, h4⟩, ⟨h5, h6, h7, h8⟩, h9, h10⟩ := h
  unfold fX4_image fX5_image
  refine bnd2 (P := RR) (fun r s er es => ?_)
  refine bnd2 (P := RR) (fun r2 s2 er2 es2 => ⟨rfl, ?_⟩)
  show RG r2 s2
  have fd : FD 2 σ r := by rw [er]; exact take_fd
  have ro : RO 0 1 τ s := by rw [es]; exact row_eq (by decide)
  have g2 : RC r 2 (s.1 1) n := by rw [er]; exact rc_r (take_rc (by decide) h1) ro.2.2
  have f2 : ∀ i : Nat, rF s i = rF τ i := fun i => congrFun ro.1 i
  rw [er2, es2]
  refine ⟨⟨n, rc_at (ρ := sF9 r 21 1) h1 (fun t ht => fd.1 _ (by omega)) (fun t ht => (sF_other (by omega)).trans (fd.2 _ (by omega))) (ro.2.1 0 (by decide))⟩, ⟨?_, ?_, fun q => ⟨n, rc_at (ρ := sF9 r 21 1) g2 (fun t ht => rfl) (fun t ht => sF_other (by omega)) rfl⟩⟩, ⟨?_, ?_, ?_, fun i hi => ?_⟩, fun i hi => ?_, fun t ht => ⟨?_, ?_, ?_, ?_, fun i hi => ?_⟩⟩
  · rw [sF_same9, sF_same9]
  · rw [sF_same9]; exact Or.inr rfl
  · rw [sF_other (by decide), sF_other (by decide), f2, fd.2 22 (by omega)]; exact h5
  · rw [sF_other (by decide), f2]; exact h6
  · rw [sF_other (by decide), f2]; exact h7
  · show r.1 24 i = s.1 4 i ∧ 0 ≤ (s.1 4 i).toInt ∧ (s.1 4 i).toInt ≤ 255
    rw [fd.1 24 (by omega), ro.2.1 4 (by decide)]; exact h8 i hi
  · show r.1 29 i = s.1 5 i
    rw [fd.1 29 (by omega), ro.2.1 5 (by decide)]; exact h9 i hi
  · show rF (sF9 r 21 1) (27 + 2 * t) = s.1 7 t
    rw [sF_other (by omega), fd.2 _ (by omega), ro.2.1 7 (by decide)]; exact (h10 t ht).1
  · show rF (sF9 r 21 1) (28 + 2 * t) = s.1 8 t
    rw [sF_other (by omega), fd.2 _ (by omega), ro.2.1 8 (by decide)]; exact (h10 t ht).2.1
  · show 0 ≤ (s.1 8 t).toInt
    rw [ro.2.1 8 (by decide)]; exact (h10 t ht).2.2.1
  · show (s.1 8 t).toInt ≤ 40
    rw [ro.2.1 8 (by decide)]; exact (h10 t ht).2.2.2.1
  · show r.1 (25 + t) i = s.1 9 (40 * t + i)
    rw [fd.1 _ (by omega), ro.2.1 9 (by decide)]; exact (h10 t ht).2.2.2.2 i hi
theorem m_undo {σ τ : sg} (h : RG σ τ) : RR (fX4_undo σ) (fX5_undo τ) := by
  obtain ⟨h2, h3, h4⟩ := h.2.1
  unfold fX4_undo fX5_undo
  simp only [bx]
  rw [h2]
  rcases h3 with q | q
  · rw [if_pos q, if_pos q]; exact rr3 h
  · rw [if_neg (by rw [q]; decide), if_neg (by rw [q]; decide)]
    obtain ⟨m, hm⟩ := h4 q
    refine bnd2 (P := RR) (fun r s er es => ?_)
    have g : RC r 0 (s.1 0) m := by rw [er, es]; exact row_rc (by decide) (by decide) hm
    have f1 : FD 0 σ r := by rw [er]; exact take_fd
    have f2 : FM 0 τ s := by rw [es]; exact row_fm (by decide)
    exact ⟨rc_hour g, rg_live h f1 f2 g⟩
theorem rg_flag {σ τ : sg} (h : RG σ τ) : RG (sF9 σ 21 0) (sF9 τ 0 0) := by
  obtain ⟨⟨n, h1⟩, ⟨h2, h3, h4⟩, ⟨h5, h6, h7, h8⟩, h9, h10⟩ := h
  refine ⟨⟨n, rc_at (ρ := sF9 σ 21 0) h1 (fun t ht => rfl) (fun t ht => sF_other (by omega)) rfl⟩, ⟨?_, ?_, fun q => ?_⟩, ⟨?_, ?_, ?_, h8⟩, h9, fun s hs => ⟨?_, ?_, (h10 s hs).2.2⟩⟩
  · rw [sF_same9, sF_same9]
  · rw [sF_same9]; exact Or.inl rfl
  · rw [sF_same9] at q
    exact absurd q (by decide)
  · rw [sF_other (by decide), sF_other (by decide)]; exact h5
  · rw [sF_other (by decide)]; exact h6
  · rw [sF_other (by decide)]; exact h7
  · rw [sF_other (by omega)]; exact (h10 s hs).1
  · rw [sF_other (by omega)]; exact (h10 s hs).2.1
theorem m_tear {σ τ : sg} (h : RG σ τ) : RR (fX4_tear σ) (fX5_tear τ) := by
  obtain ⟨h2, h3, h4⟩ := h.2.1
  unfold fX4_tear fX5_tear
  rw [h2]
  rcases h3 with q | q
  · rw [if_pos q, if_pos q]; exact ⟨rfl, rg_flag h⟩
  · rw [if_neg (by rw [q]; decide), if_neg (by rw [q]; decide)]; exact ⟨rfl, rg_flag h⟩
end EQ10
