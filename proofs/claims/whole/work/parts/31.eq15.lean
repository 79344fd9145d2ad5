section EQ15
theorem h5p {a : Nat} : ∀ (m : Nat) (c : Int32) (σ : sg), (h5 a m c σ).1 = c + (h5 a m 0 σ).1 := by
  intro m
  induction m with
  | zero => intro c σ; exact (Int32.add_zero c).symm
  | succ m ih =>
    intro c σ
    show (h5 a m (c + (fX5_anHour a σ).1) (fX5_anHour a σ).2).1 = c + (h5 a m (0 + (fX5_anHour a σ).1) (fX5_anHour a σ).2).1
    rw [ih (c + _), ih (0 + _), Int32.zero_add, Int32.add_assoc]
/-- a draw -/
theorem draw_rr {σ τ : sg} (h : RG σ τ) : RR (fX0_draw 0 σ) (fX5_draw τ) ∧ 0 ≤ (fX5_draw τ).1.toInt := by
  obtain ⟨n, hc⟩ := h.1
  unfold fX0_draw fX5_draw
  rw [rc_z hc]
  refine bnd2 (P := fun T U : Int32 × sg => RR T U ∧ 0 ≤ U.1.toInt) (fun r s er es => ?_)
  have e : rF r (7 * 0 + 6) = rA s 0 3 := by rw [er, es, sF_same9, rA_own]
  rw [e]
  refine ⟨⟨rfl, ?_⟩, (jushr8 _).1⟩
  show RG r s
  rw [er, es]
  exact rg_live h (fd_F (by decide)) fm_A (rcZ hc rfl)
theorem eqDays {w : Int32} : ∀ (k : Nat) (c v : Int32) (σ τ : sg), RG σ τ → RR (LX4_days_39 k w c v σ) (LX5_days_37 k w c v τ) := by
  intro k
  induction k with
  | zero => intro c v σ τ h; exact ⟨rfl, h⟩
  | succ k ih =>
    intro c v σ τ h
    rw [LX4_days_39, LX5_days_37]
    by_cases cc : w ≤ v
    · rw [if_pos cc, if_pos cc]; exact ⟨rfl, h⟩
    · rw [if_neg cc, if_neg cc]
      have d1 := draw_rr h
      refine bnd2 (P := RR) (fun r4 s4 er4 es4 => ?_)
      rw [← er4, ← es4] at d1
      obtain ⟨⟨e1, g1⟩, p1⟩ := d1
      rw [e1]
      refine bnd2 (P := RR) (fun r7 s7 er7 es7 => ?_)
      have b1 := jrem6 p1 (m := 41) (by decide) (by decide)
      have g2 : RG r7 s7 := by
        obtain ⟨n, hc⟩ := g1.1
        rw [er7, es7]
        exact rg_live g1 (fd_F (by decide)) fm_A (rcSum hc (show 0 ≤ (jrem s4.1 (nI 41)).toInt ∧ (jrem s4.1 (nI 41)).toInt ≤ 40 by omega) rfl)
      have d2 := draw_rr g2
      refine bnd2 (P := RR) (fun r10 s11 er10 es11 => ?_)
      rw [← er10, ← es11] at d2
      obtain ⟨⟨e2, g3⟩, p2⟩ := d2
      rw [e2]
      have b2 : 0 ≤ (jrem s11.1 6).toInt ∧ (jrem s11.1 6).toInt < 6 := jrem6 p2 (m := 6) (by decide) (by decide)
      generalize jrem s11.1 6 = S at b2
      obtain ⟨n, hc⟩ := g3.1
      have hv : S.toInt = (S.toInt.toNat : Nat) := by omega
      have i4 := ixC (c := 4) (C := 4) hv (by omega) rfl (by decide)
      obtain ⟨ho, bo⟩ := rc_open hc (by omega) hv i4
      rw [ho]
      have fin : ∀ r s : sg, RG r s → RR (bnd (fX0_pass 0 24 r) (fun r24 => LX4_days_39 k w (c + r24.1) (v + 1) r24.2)) (bnd (LX5_days_87 25 w c v 0 s) (fun r26 => LX5_days_37 k w r26.1 (v + 1) r26.2)) := fun r s hg => by
        have l := live_h hg 24 0
        rw [pass_eq (m := 24) rfl (by decide), dy5_h 25 24 w c v 0 s rfl (by decide)]
        refine bnd2 (P := RR) (fun x y ex ey => ?_)
        have e3 : y.1 = c + x.1 := by rw [ex, ey, h5p, l.1]
        have e4 : y.2 = (h5 0 24 0 s).2 := by rw [ey]; exact h5c _ _ _ _
        have g5 : RG x.2 y.2 := by rw [ex, e4]; exact l.2
        rw [e3]
        exact ih _ _ _ _ g5
      rcases bo with q | q
      · rw [if_pos q, q]
        refine bnd2 (P := RR) (fun r s er es => fin r s ?_)
        have er2 : r = sF9 r10.2 (7 * 0 + 2) (fX4_with (rF r10.2 (7 * 0 + 2)) S) := by rw [er, fX0_setShutter, if_neg (show ¬ (1 : Int32) = 0 by decide)]; rfl
        rw [er2, es, show (1 - 0 : Int32) = 1 by decide]
        exact rg_live g3 (fd_F (by decide)) fm_A (rcOpen1 hc (by omega) hv i4)
      · rw [if_neg (show ¬ rA s11.2 0 (4 + S) = 0 by rw [q]; decide), q]
        refine bnd2 (P := RR) (fun r s er es => fin r s ?_)
        have er2 : r = sF9 r10.2 (7 * 0 + 2) (fX4_without (rF r10.2 (7 * 0 + 2)) S) := by rw [er, fX0_setShutter, if_pos (show (0 : Int32) = 0 from rfl)]; rfl
        rw [er2, es, show (1 - 1 : Int32) = 0 by decide]
        exact rg_live g3 (fd_F (by decide)) fm_A (rcOpen0 hc (by omega) hv i4)
theorem m_days {σ τ : sg} (h : RG σ τ) (a : Int32) : RR (fX4_days a σ) (fX5_days a τ) := by
  obtain ⟨n, hc⟩ := h.1
  unfold fX4_days fX5_days
  simp only [bx]
  rw [within_eq, Int32.mul_comm a 24]
  by_cases c : fX5_within a 1 12 = 0
  · rw [if_pos c, if_pos c]; exact rr0 h
  · rw [if_neg c, if_neg c]
    rcases late hc (24 * a) with ⟨l1, l2⟩ | ⟨l1, l2⟩
    · rw [if_pos l1, if_neg (show ¬ fX5_isTime (24 * a) τ = 0 by rw [l2]; decide)]
      exact eqDays 13 0 0 σ τ h
    · rw [if_neg (show ¬ fX4_isTooLate (24 * a) σ = 0 by rw [l1]; decide), if_pos l2]
      exact rr4 h
/-- why a sheet can't be read -/
theorem sh3 {σ τ : sg} (h : RG σ τ) (v : Int32) : (fX4_refusalOfSheet v σ = -1000001 ∧ fX5_lacksOf v τ = 0) ∨ (fX4_refusalOfSheet v σ = -1000006 ∧ fX5_lacksOf v τ = 5) ∨ (fX4_refusalOfSheet v σ = 0 ∧ fX5_lacksOf v τ = -1 ∧ ∃ s : Nat, s < 4 ∧ v.toInt = s ∧ v.toNatClampNeg = s) := by
  have k0 : (0 : Int32).toInt = 0 := rfl
  have k3 : (3 : Int32).toInt = 3 := rfl
  unfold fX4_refusalOfSheet fX5_lacksOf
  rw [show fX4_isSheet v = fX5_within v 0 3 from rfl, show fX5_isSheet v = fX5_within v 0 3 from rfl]
  rcases within01 (v := v) (a := 0) (b := 3) with q | ⟨q, q2, q3⟩
  · rw [if_pos q.1, if_pos q.1]
    exact Or.inl ⟨rfl, rfl⟩
  · have c0 := clI (i := v) (by omega)
    have hs : v.toNatClampNeg < 4 := by omega
    have e : rF σ (27 + 2 * v.toNatClampNeg) = rA τ 7 v := (h.2.2.2.2 _ hs).1
    have q0 : ¬ fX5_within v 0 3 = 0 := by rw [q]; decide
    rw [if_neg q0, if_neg q0]
    unfold fX2_isMissing
    rw [e]
    by_cases c : rA τ 7 v = 0
    · rw [if_pos c, if_pos c, if_neg z10]
      exact Or.inr (Or.inl ⟨rfl, rfl⟩)
    · rw [if_neg c, if_neg c, if_pos (show (0 : Int32) = 0 from rfl)]
      exact Or.inr (Or.inr ⟨rfl, rfl, v.toNatClampNeg, hs, by omega, rfl⟩)
theorem size_eq {σ τ : sg} (h : RG σ τ) {v : Int32} {s : Nat} (hs : s < 4) (hv : v.toNatClampNeg = s) : rF σ (28 + 2 * s) = rA τ 8 v ∧ 0 ≤ (rA τ 8 v).toInt ∧ (rA τ 8 v).toInt ≤ 40 := by
  subst hv
  have z := h.2.2.2.2 _ hs
  exact ⟨z.2.1, z.2.2.1, z.2.2.2.1⟩
theorem ix40 {v w : Int32} {s d : Nat} (hs : s < 4) (hv : v.toInt = s) (hd : d < 1000) (hw : w.toInt = d) : (40 * v + w).toInt = (40 * s + d : Nat) := by
  have k40 : (40 : Int32).toInt = 40 := rfl
  have e1 := mulI (x := 40) (y := v) (by rw [k40]; omega) (by rw [k40]; omega)
  rw [k40] at e1
  have e2 := addI (x := 40 * v) (y := w) (by omega) (by omega)
  omega
theorem num_eq {σ τ : sg} (h : RG σ τ) {v w : Int32} {s d : Nat} (hs : s < 4) (hv : v.toInt = s) (hd : d < 40) (hw : w.toInt = d) : rA σ (25 + s) w = rA τ 9 (40 * v + w) := by
  rw [rAd hw, rAd (ix40 hs hv (by omega) hw)]
  exact (h.2.2.2.2 s hs).2.2.2.2 d hd
theorem z56 : ¬ (-1000006 : Int32) = 0 := by decide
theorem z50 : ¬ (5 : Int32) < 0 := by decide
theorem eqJudge {n : Nat} {a w : Int32} {s D : Nat} (hs : s < 4) (ha : a.toInt = s) (ha2 : a.toNatClampNeg = s) (hw : w.toInt = D) (hD : D < n) : ∀ (k d : Nat) (v : Int32) (σ τ : sg), GG n σ τ → RC σ 1 (τ.1 2) n → v.toInt = d → d ≤ 40 → RR (LX4_judge_75 s k w v σ) (LX5_judge_59 k a w v τ) := by
  intro k
  induction k with
  | zero => intro d v σ τ h _ _ _; exact ⟨rfl, h.1⟩
  | succ k ih =>
    intro d v σ τ h t1 hv hd
    have n8 := h.2.1.1
    have k1 : (1 : Int32).toInt = 1 := rfl
    obtain ⟨z1, z2, z3⟩ := size_eq h.1 hs ha2
    rw [LX4_judge_75, LX5_judge_59, z1]
    by_cases cc : rA τ 8 a ≤ v
    · rw [if_pos cc, if_pos cc]; exact ⟨rfl, h.1⟩
    · have q := nleI cc
      have e1 := addI (x := v) (y := 1) (by omega) (by omega)
      rw [if_neg cc, if_neg cc]
      have g := hour_eq (show 2 < 4 by decide) t1
      refine bnd2 (P := RR) (fun r x er ex => ?_)
      have r2 : r.2 = (fX0_passHour 1 σ).2 := by rw [er]; exact pass1
      rw [← ex, HR, ← r2] at g
      obtain ⟨g1, g2, g3, g4⟩ := g
      have gg : GG n r.2 x.2 := gg_fd h g3 g4
      rw [num_eq gg.1 hs ha (d := d) (by omega) hv, (rc_soft g2 hD hw).1]
      by_cases c : rA x.2 2 (56 + w) = rA x.2 9 (40 * a + v)
      · rw [if_pos c, if_pos c.symm]
        exact ih (d + 1) (v + 1) _ _ gg g2 (by omega) (by omega)
      · rw [if_neg c, if_neg (fun y => c y.symm)]
        exact ⟨rfl, gg.1⟩
theorem m_judge {σ τ : sg} (h : RG σ τ) (a b : Int32) : RR (fX4_judge a b σ) (fX5_judge a b τ) := by
  obtain ⟨n, hc⟩ := h.1
  have g0 : GG n σ τ := ⟨h, hc⟩
  unfold fX4_judge fX5_judge
  simp only [bx]
  rw [deed_eq hc]
  rcases sh3 h a with ⟨q1, q2⟩ | ⟨q1, q2⟩ | ⟨q1, q2, s, hs, hv, hv2⟩
  · rw [q1, q2, if_neg z51, if_neg z00]; exact rr0 h
  · rw [q1, q2, if_neg z56, if_neg z50]; exact rr5 h
  · obtain ⟨e1, e2, e3⟩ := size_eq h hs hv2
    rw [if_pos q1, q2, if_pos zm1, hv2, e1]
    by_cases c1 : fX5_isDeed b τ = 0
    · rw [if_pos c1, c1, lacks0, if_neg z00]; exact rr0 h
    · obtain ⟨d, hw, hd⟩ := deed_n hc c1
      rw [if_neg c1]
      rcases late hc (rA τ 8 a) with ⟨l1, l2⟩ | ⟨l1, l2⟩
      · rw [if_pos l1, lacksN (deed01 c1) l2, if_pos zm1]
        obtain ⟨t1, t2, t3⟩ := try_rc g0
        refine bnd2 (P := RR) (fun r x er ex => ?_)
        rw [← er, ← ex] at t1
        rw [← er] at t2
        rw [← ex] at t3
        exact eqJudge hs hv hv2 hw hd 41 0 0 r x (gg_fd g0 t2 t3) t1 rfl (by decide)
      · rw [if_neg (show ¬ fX4_isTooLate (rA τ 8 a) σ = 0 by rw [l1]; decide), lacks4 (deed01 c1) l2, if_neg z40]; exact rr4 h
theorem eqLoad {n : Nat} {a : Int32} {s : Nat} (hs : s < 4) (ha : a.toInt = s) (ha2 : a.toNatClampNeg = s) : ∀ (k d : Nat) (v : Int32) (σ τ : sg), GG n σ τ → v.toInt = d → d ≤ n → RR (LX4_load_26 s k v σ) (LX5_load_18 k a v τ) := by
  intro k
  induction k with
  | zero => intro d v σ τ h _ _; exact ⟨rfl, h.1⟩
  | succ k ih =>
    intro d v σ τ h hv hd
    obtain ⟨n8, n1, n2, n3⟩ := rc_n h.2
    have k1 : (1 : Int32).toInt = 1 := rfl
    obtain ⟨z1, z2, z3⟩ := size_eq h.1 hs ha2
    rw [LX4_load_26, LX5_load_18, z1, n1, n2]
    by_cases cc : rA τ 8 a ≤ v
    · rw [if_pos cc, if_pos cc]; exact ⟨rfl, h.1⟩
    · rw [if_neg cc, if_neg cc]
      by_cases c2 : nI n ≤ v
      · rw [if_pos c2, if_pos c2]; exact ⟨rfl, h.1⟩
      · have q := nleI c2
        have e1 := addI (x := v) (y := 1) (by omega) (by omega)
        rw [if_neg c2, if_neg c2, num_eq h.1 hs ha (d := d) (by omega) hv, show ∀ x : Int32, fX4_isWax x = fX5_within x 1 99 from fun x => rfl]
        rcases within01 (v := rA τ 9 (40 * a + v)) (a := 1) (b := 99) with p | p
        · rw [if_pos p.1, if_pos p.1]; exact ⟨rfl, h.1⟩
        · have p0 : ¬ fX5_within (rA τ 9 (40 * a + v)) 1 99 = 0 := by rw [p.1]; decide
          rw [if_neg p0, if_neg p0]
          refine bnd2 (P := RR) (fun r x er ex => ?_)
          have u : RC r 0 (x.1 0) n := by rw [er, ex]; exact rcT h.2 (t := 2) (by decide) (by omega) hv (ixT hv (by omega)).2.2.1 (bd2 p.2)
          have gg : GG n r x := ⟨rg_live h.1 (by rw [er]; exact fd_A (by decide)) (by rw [ex]; exact fm_A) u, u⟩
          exact ih (d + 1) (v + 1) r x gg (by omega) (by omega)
theorem m_load {σ τ : sg} (h : RG σ τ) (a : Int32) : RR (fX4_load a σ) (fX5_load a τ) := by
  obtain ⟨n, hc⟩ := h.1
  have g0 : GG n σ τ := ⟨h, hc⟩
  unfold fX4_load fX5_load
  simp only [bx]
  rcases sh3 h a with ⟨q1, q2⟩ | ⟨q1, q2⟩ | ⟨q1, q2, s, hs, hv, hv2⟩
  · rw [q1, q2, if_neg z51, if_neg z00]; exact rr0 h
  · rw [q1, q2, if_neg z56, if_neg z50]; exact rr5 h
  · rw [if_pos q1, q2, if_pos zm1, hv2]
    exact eqLoad hs hv hv2 9 0 0 σ τ g0 rfl (Nat.zero_le _)
/-- a number of a sheet is written -/
theorem rg_num {σ τ : sg} (h : RG σ τ) {s d : Nat} (hs : s < 4) (hd : d < 40) {v i x : Int32} (hv : v.toInt = d) (hi : i.toInt = (40 * s + d : Nat)) : RG (sA σ (25 + s) v x) (sA τ 9 i x) := by
  obtain ⟨⟨n, h1⟩, ⟨h2, h3, h4⟩, ⟨h5, h6, h7, h8⟩, h9, h10⟩ := h
  refine ⟨⟨n, rc_at h1 (fun t ht => sA_other (by omega)) (fun t ht => rfl) (sA_other (by decide))⟩, ⟨h2, h3, fun q => ?_⟩, ⟨h5, h6, h7, fun i hi => ?_⟩, fun i hi => ?_, fun t ht => ⟨?_, ?_, ?_, ?_, fun e he => ?_⟩⟩
  · obtain ⟨m, hm⟩ := h4 q
    exact ⟨m, rc_at hm (fun t ht => sA_other (by omega)) (fun t ht => rfl) (sA_other (by decide))⟩
  · rw [sA_other (by omega), sA_other (by decide)]; exact h8 i hi
  · rw [sA_other (by omega), sA_other (by decide)]; exact h9 i hi
  · rw [sA_other (by decide)]; exact (h10 t ht).1
  · rw [sA_other (by decide)]; exact (h10 t ht).2.1
  · rw [sA_other (by decide)]; exact (h10 t ht).2.2.1
  · rw [sA_other (by decide)]; exact (h10 t ht).2.2.2.1
  · rw [sAs hi]
    by_cases c : t = s
    · subst c
      rw [sAs hv]
      by_cases c2 : e = d
      · subst c2; rw [pk_us, pk_us]
      · rw [pk_un c2, pk_un (by omega)]; exact (h10 t ht).2.2.2.2 e he
    · rw [sA_other (by omega), pk_un (by omega)]
      exact (h10 t ht).2.2.2.2 e he
theorem m_write {σ τ : sg} (h : RG σ τ) (a b c : Int32) : RR (fX4_write a b c σ) (fX5_write a b c τ) := by
  have k0 : (0 : Int32).toInt = 0 := rfl
  have k1 : (1 : Int32).toInt = 1 := rfl
  unfold fX4_write fX5_write
  simp only [bx]
  rcases sh3 h a with ⟨q1, q2⟩ | ⟨q1, q2⟩ | ⟨q1, q2, s, hs, hv, hv2⟩
  · rw [q1, q2, if_neg z51, if_neg z00]; exact rr0 h
  · rw [q1, q2, if_neg z56, if_neg z50]; exact rr5 h
  · obtain ⟨e1, e2, e3⟩ := size_eq h hs hv2
    have e4 := subI (x := rA τ 8 a) (y := 1) (by omega) (by omega)
    have eb : rF σ (27 + 2 * s) = rA τ 7 a := by
      have z := (h.2.2.2.2 s hs).1
      rw [z, ← hv2]; rfl
    rw [if_pos q1, q2, if_pos zm1, hv2, e1, within_eq]
    rcases within01 (v := b) (a := 0) (b := rA τ 8 a - 1) with q | ⟨q, p2, p3⟩
    · rw [if_pos q.1, if_pos q.1]; exact rr0 h
    · have q0 : ¬ fX5_within b 0 (rA τ 8 a - 1) = 0 := by rw [q]; decide
      have lb : fX2_lowestBits s c σ = fX5_cut c (rA τ 7 a) := by
        unfold fX2_lowestBits fX5_cut
        rw [eb]
      rw [if_neg q0, if_neg q0, lb]
      have hb : b.toInt = (b.toInt.toNat : Nat) := by omega
      refine bnd2 (P := RR) (fun r x er ex => ⟨rfl, ?_⟩)
      show RG r x
      rw [er, ex]
      exact rg_num h hs (by omega) hb (ix40 hs hv (by omega) hb)
/-- a sheet's bits, its size -/
theorem rg_bits {σ τ : sg} (h : RG σ τ) {s : Nat} (hs : s < 4) {v x : Int32} (hv : v.toInt = s) : RG (sF9 σ (27 + 2 * s) x) (sA τ 7 v x) := by
  obtain ⟨⟨n, h1⟩, ⟨h2, h3, h4⟩, ⟨h5, h6, h7, h8⟩, h9, h10⟩ := h
  refine ⟨⟨n, rc_at (ρ := sF9 σ (27 + 2 * s) x) h1 (fun t ht => rfl) (fun t ht => sF_other (by omega)) (sA_other (by decide))⟩, ⟨?_, ?_, fun q => ?_⟩, ⟨?_, h6, h7, fun i hi => ?_⟩, fun i hi => ?_, fun t ht => ⟨?_, ?_, ?_, ?_, fun e he => ?_⟩⟩
  · rw [sF_other (by omega)]; exact h2
  · rw [sF_other (by omega)]; exact h3
  · rw [sF_other (by omega)] at q
    obtain ⟨m, hm⟩ := h4 q
    exact ⟨m, rc_at (ρ := sF9 σ (27 + 2 * s) x) hm (fun t ht => rfl) (fun t ht => sF_other (by omega)) (sA_other (by decide))⟩
  · rw [sF_other (by omega)]; exact h5
  · rw [sA_other (show 4 ≠ 7 by decide)]; exact h8 i hi
  · rw [sA_other (show 5 ≠ 7 by decide)]; exact h9 i hi
  · rw [sAs hv]
    by_cases c : t = s
    · subst c; rw [sF_same9, pk_us]
    · rw [sF_other (by omega), pk_un c]; exact (h10 t ht).1
  · rw [sF_other (by omega), sA_other (show 8 ≠ 7 by decide)]; exact (h10 t ht).2.1
  · rw [sA_other (show 8 ≠ 7 by decide)]; exact (h10 t ht).2.2.1
  · rw [sA_other (show 8 ≠ 7 by decide)]; exact (h10 t ht).2.2.2.1
  · rw [sA_other (show 9 ≠ 7 by decide)]; exact (h10 t ht).2.2.2.2 e he
theorem rg_size {σ τ : sg} (h : RG σ τ) {s : Nat} (hs : s < 4) {v x : Int32} (hv : v.toInt = s) (hx : 0 ≤ x.toInt ∧ x.toInt ≤ 40) : RG (sF9 σ (28 + 2 * s) x) (sA τ 8 v x) := by
  obtain ⟨⟨n, h1⟩, ⟨h2, h3, h4⟩, ⟨h5, h6, h7, h8⟩, h9, h10⟩ := h
  refine ⟨⟨n, rc_at (ρ := sF9 σ (28 + 2 * s) x) h1 (fun t ht => rfl) (fun t ht => sF_other (by omega)) (sA_other (by decide))⟩, ⟨?_, ?_, fun q => ?_⟩, ⟨?_, h6, h7, fun i hi => ?_⟩, fun i hi => ?_, fun t ht => ?_⟩
  · rw [sF_other (by omega)]; exact h2
  · rw [sF_other (by omega)]; exact h3
  · rw [sF_other (by omega)] at q
    obtain ⟨m, hm⟩ := h4 q
    exact ⟨m, rc_at (ρ := sF9 σ (28 + 2 * s) x) hm (fun t ht => rfl) (fun t ht => sF_other (by omega)) (sA_other (by decide))⟩
  · rw [sF_other (by omega)]; exact h5
  · rw [sA_other (show 4 ≠ 8 by decide)]; exact h8 i hi
  · rw [sA_other (show 5 ≠ 8 by decide)]; exact h9 i hi
  · rw [sAs hv, sA_other (show 7 ≠ 8 by decide), sF_other (show 27 + 2 * t ≠ 28 + 2 * s by omega), sA_other (show 9 ≠ 8 by decide)]
    by_cases c : t = s
    · subst c
      rw [sF_same9, pk_us]
      exact ⟨(h10 t ht).1, rfl, hx.1, hx.2, (h10 t ht).2.2.2.2⟩
    · rw [sF_other (by omega), pk_un c]; exact h10 t ht
theorem eqAnew {a : Int32} {s : Nat} (hs : s < 4) (ha : a.toInt = s) : ∀ (k d : Nat) (v : Int32) (σ τ : sg), RG σ τ → v.toInt = d → d ≤ 40 → RG (LX2_makeAnew_20 s k v σ) (LX5_sheet_95 k a v τ) := by
  intro k
  induction k with
  | zero => intro d v σ τ h _ _; exact h
  | succ k ih =>
    intro d v σ τ h hv hd
    have k1 : (1 : Int32).toInt = 1 := rfl
    have k40 : (40 : Int32).toInt = 40 := rfl
    rw [LX2_makeAnew_20, LX5_sheet_95]
    by_cases cc : 40 ≤ v
    · rw [if_pos cc, if_pos cc]; exact h
    · have q := nleI cc
      have e1 := addI (x := v) (y := 1) (by omega) (by omega)
      rw [if_neg cc, if_neg cc]
      refine bnd2 (P := RG) (fun r x er ex => ?_)
      refine ih (d + 1) (v + 1) r x ?_ (by omega) (by omega)
      rw [er, ex]
      exact rg_num h hs (by omega) hv (ix40 hs ha (by omega) hv)
theorem bndA {α β γ : Type} {x : α} {f : α → β} {g : β → γ} : bnd (bnd x f) g = bnd x (fun y => bnd (f y) g) := congrArg g (Eq.refl (f x))
theorem anew_rr {σ τ : sg} (h : RG σ τ) {a b c : Int32} {s : Nat} (hs : s < 4) (ha : a.toInt = s) (ha2 : a.toNatClampNeg = s) (hc : 0 ≤ c.toInt ∧ c.toInt ≤ 40) : RR (bnd (fX2_makeAnew s b c σ) (fun r9 => ((rF r9 (28 + 2 * s)), r9))) (bnd (sA τ 7 a b) (fun s8 => (if b = 0 then bnd (sA s8 8 a 0) (fun s31 => bnd (LX5_sheet_95 41 a 0 s31) (fun r35 => ((rA r35 8 a), r35))) else bnd (sA s8 8 a c) (fun s13 => bnd (LX5_sheet_95 41 a 0 s13) (fun r27 => ((rA r27 8 a), r27)))))) := by
  have fin : ∀ x : Int32, 0 ≤ x.toInt ∧ x.toInt ≤ 40 → ∀ r t : sg, RG r t → RR (bnd (bnd (sF9 r (28 + 2 * s) x) (fun s5 => bnd (LX2_makeAnew_20 s 41 0 s5) (fun r15 => r15))) (fun r9 => ((rF r9 (28 + 2 * s)), r9))) (bnd (sA t 8 a x) (fun s31 => bnd (LX5_sheet_95 41 a 0 s31) (fun r35 => ((rA r35 8 a), r35)))) := fun x hx r t hg => by
    have g1 := rg_size hg hs ha hx
    have g2 := eqAnew hs ha 41 0 0 _ _ g1 rfl (by decide)
    simp only [bndE]
    generalize LX2_makeAnew_20 s 41 0 (sF9 r (28 + 2 * s) x) = X at g2 ⊢
    generalize LX5_sheet_95 41 a 0 (sA t 8 a x) = Y at g2 ⊢
    exact ⟨(size_eq g2 hs ha2).1, g2⟩
  rw [fX2_makeAnew, bndA]
  refine bnd2 (P := RR) (fun r t er et => ?_)
  have g0 : RG r t := by rw [er, et]; exact rg_bits h hs ha
  by_cases c0 : b = 0
  · rw [if_pos c0, if_pos c0]
    exact fin 0 ⟨by decide, by decide⟩ r t g0
  · rw [if_neg c0, if_neg c0]
    exact fin c hc r t g0
theorem m_sheet {σ τ : sg} (h : RG σ τ) (a b c : Int32) : RR (fX4_sheet a b c σ) (fX5_sheet a b c τ) := by
  have k0 : (0 : Int32).toInt = 0 := rfl
  have k3 : (3 : Int32).toInt = 3 := rfl
  have k40 : (40 : Int32).toInt = 40 := rfl
  unfold fX4_sheet fX5_sheet
  simp only [bx]
  rw [show fX4_isSheet a = fX5_isSheet a from rfl]
  by_cases c1 : fX5_isSheet a = 0
  · simp only [if_pos c1, ite_self]
    exact rr0 h
  · simp only [if_neg c1]
    have q := (within01 (v := a) (a := 0) (b := 3)).resolve_left (fun q => c1 q.1)
    have c0 := clI (i := a) (by omega)
    have hs : a.toNatClampNeg < 4 := by omega
    have core : RR (if 0 ≤ c then (if c ≤ 40 then bnd (fX2_makeAnew (a.toNatClampNeg) b c σ) (fun r9 => ((rF r9 (28 + 2 * (a.toNatClampNeg))), r9)) else fX4_found (-1000001) σ) else fX4_found (-1000007) σ) (if 0 ≤ c then (if c ≤ 40 then (bnd (sA τ 7 a b) (fun s8 => (if b = 0 then bnd (sA s8 8 a 0) (fun s31 => bnd (LX5_sheet_95 41 a 0 s31) (fun r35 => ((rA r35 8 a), r35))) else bnd (sA s8 8 a c) (fun s13 => bnd (LX5_sheet_95 41 a 0 s13) (fun r27 => ((rA r27 8 a), r27)))))) else fX5_finding 0 τ) else fX5_finding 6 τ) := by
      by_cases d1 : 0 ≤ c
      · rw [if_pos d1, if_pos d1]
        by_cases d2 : c ≤ 40
        · have d3 := leI d1
          have d4 := leI d2
          rw [if_pos d2, if_pos d2]
          exact anew_rr h hs (by omega) rfl (by omega)
        · rw [if_neg d2, if_neg d2]; exact rr0 h
      · rw [if_neg d1, if_neg d1]; exact rr6 h
    by_cases w0 : b = 0
    · rw [if_pos w0, if_pos w0]; exact core
    · rw [if_neg w0, if_neg w0]
      by_cases w1 : b = 8
      · rw [if_pos w1, if_pos w1]; exact core
      · rw [if_neg w1, if_neg w1]
        by_cases w2 : b = 16
        · rw [if_pos w2, if_pos w2]; exact core
        · rw [if_neg w2, if_neg w2]
          by_cases w3 : b = 32
          · rw [if_pos w3, if_pos w3]; exact core
          · rw [if_neg w3, if_neg w3]; exact rr0 h
end EQ15
