section EQ12
/-- the worlds say the same, of so many deeds -/
def GG (n : Nat) (σ τ : sg) : Prop := RG σ τ ∧ RC σ 0 (τ.1 0) n
theorem gg_keep {n : Nat} {σ τ σ' τ' : sg} (h : GG n σ τ) (g : KD σ σ') (k : KM τ τ') : GG n σ' τ' :=
  ⟨rg_keep h.1 g k, rc_at h.2 (fun t ht => g.1 _ (by omega)) (fun t ht => g.2 _ (by omega)) (k.1 0 (by decide) (by decide) (by decide) (by decide))⟩
theorem gg_fd {n : Nat} {σ τ σ' τ' : sg} (h : GG n σ τ) (g : FD 1 σ σ') (k : FM 2 τ τ') : GG n σ' τ' := gg_keep h (fd_kd g) (fm_km k)
def RN (n : Nat) (T U : Int32 × sg) : Prop := T.1 = U.1 ∧ GG n T.2 U.2
theorem rn_rr {n : Nat} {T U : Int32 × sg} (h : RN n T U) : RR T U := ⟨h.1, h.2.1⟩
/-- a trial begins -/
theorem try_rc {n : Nat} {σ τ : sg} (h : GG n σ τ) : RC (fX0_take 1 0 σ) 1 ((fX5_row 0 2 τ).1 2) n ∧ FD 1 σ (fX0_take 1 0 σ) ∧ FM 2 τ (fX5_row 0 2 τ) :=
  ⟨row_rc (by decide) (by decide) h.2, take_fd, row_fm (by decide)⟩
/-- why a time can't be: the class's word, the reference's -/
theorem ref3 {n : Nat} {σ τ : sg} (h : GG n σ τ) (v w : Int32) : (fX4_refusal v w σ = -1000001 ∧ fX5_within v 1 w = 0) ∨ (fX4_refusal v w σ = -1000005 ∧ fX5_within v 1 w = 1 ∧ fX5_isTime v τ = 0) ∨ (fX4_refusal v w σ = 0 ∧ fX5_within v 1 w = 1 ∧ fX5_isTime v τ = 1 ∧ 1 ≤ v.toInt ∧ v.toInt ≤ w.toInt) := by
  have k1 : (1 : Int32).toInt = 1 := rfl
  unfold fX4_refusal
  rw [within_eq]
  rcases within01 (v := v) (a := 1) (b := w) with q | ⟨q, q2, q3⟩
  · rw [if_pos q.1]
    exact Or.inl ⟨rfl, q.1⟩
  · rw [if_neg (by rw [q]; decide)]
    rcases late h.2 v with ⟨l1, l2⟩ | ⟨l1, l2⟩
    · rw [if_pos l1]
      exact Or.inr (Or.inr ⟨rfl, q, l2, by omega, q3⟩)
    · rw [if_neg (by rw [l1]; decide)]
      exact Or.inr (Or.inl ⟨rfl, q, l2⟩)
theorem lacks0 {v : Int32} {τ : sg} : fX5_lacks 0 v τ = 0 := by
  unfold fX5_lacks
  rw [if_pos rfl]
theorem lacks4 {v b : Int32} {τ : sg} (hb : b = 1) (h : fX5_isTime v τ = 0) : fX5_lacks b v τ = 4 := by
  unfold fX5_lacks
  rw [if_neg (by rw [hb]; decide), if_pos h]
theorem lacksN {v b : Int32} {τ : sg} (hb : b = 1) (h : fX5_isTime v τ = 1) : fX5_lacks b v τ = -1 := by
  unfold fX5_lacks
  rw [if_neg (by rw [hb]; decide), if_neg (by rw [h]; decide)]
theorem deed01 {v : Int32} {τ : sg} (c : ¬ fX5_isDeed v τ = 0) : fX5_isDeed v τ = 1 := by
  unfold fX5_isDeed at c ⊢
  rcases within01 (v := v) (a := 0) (b := rA τ 0 0 - 1) with q | q
  · exact absurd q.1 c
  · exact q.1
theorem bit_h {M : Int32} {n : Nat} {p : Nat → Int32} (h : MK M n p) (n8 : n ≤ 8) {v : Int32} {d : Nat} (hv : v.toInt = d) (hd : d < n) : ((jshr M v) &&& 1 = 1) ↔ p d = 1 := by
  have e := mk_has' h n8 hv hd
  unfold fX4_has at e
  by_cases c : (jshr M v) &&& 1 = 1
  · rw [if_pos c] at e
    exact ⟨fun _ => e.symm, fun _ => c⟩
  · rw [if_neg c] at e
    exact ⟨fun q => absurd q c, fun q => by rw [q] at e; exact absurd e (by decide)⟩
theorem z51 : ¬ (-1000001 : Int32) = 0 := by decide
theorem z55 : ¬ (-1000005 : Int32) = 0 := by decide
theorem z00 : ¬ (0 : Int32) < 0 := by decide
theorem z40 : ¬ (4 : Int32) < 0 := by decide
theorem zm1 : (-1 : Int32) < 0 := by decide
theorem z10 : ¬ (1 : Int32) = 0 := by decide
theorem z01 : ¬ (0 : Int32) = 1 := by decide
theorem m_ahead {σ τ : sg} (h : RG σ τ) (a b : Int32) : RR (fX4_ahead a b σ) (fX5_ahead a b τ) := by
  obtain ⟨n, hc⟩ := h.1
  have g0 : GG n σ τ := ⟨h, hc⟩
  obtain ⟨n8, n1, n2, n3⟩ := rc_n hc
  have k0 : (0 : Int32).toInt = 0 := rfl
  have k1 : (1 : Int32).toInt = 1 := rfl
  have k2 : (2 : Int32).toInt = 2 := rfl
  have k3 : (3 : Int32).toInt = 3 := rfl
  have k56 : (56 : Int32).toInt = 56 := rfl
  have k100 : (100 : Int32).toInt = 100 := rfl
  have e2 := addI (x := 2) (y := nI n) (by omega) (by omega)
  unfold fX4_ahead fX5_ahead
  simp only [bx]
  rw [within_eq, within_eq, n1, n2]
  rcases within01 (v := a) (a := 0) (b := 100) with q | ⟨q, q2, q3⟩
  · rw [if_pos q.1, if_pos q.1]; exact rr0 h
  · have q0 : ¬ fX5_within a 0 100 = 0 := by rw [q]; decide
    rw [if_neg q0, if_neg q0]
    rcases within01 (v := b) (a := 0) (b := 2 + nI n) with p | ⟨p, p2, p3⟩
    · rw [if_pos p.1, if_pos p.1]; exact rr0 h
    · have p0 : ¬ fX5_within b 0 (2 + nI n) = 0 := by rw [p]; decide
      rw [if_neg p0, if_neg p0]
      rcases late hc a with ⟨l1, l2⟩ | ⟨l1, l2⟩
      · rw [if_pos l1, if_neg (show ¬ fX5_isTime a τ = 0 by rw [l2]; decide)]
        obtain ⟨t1, t2, t3⟩ := try_rc g0
        refine bnd2 (P := RR) (fun r s er es => ?_)
        rw [← er, ← es] at t1
        rw [← er] at t2
        rw [← es] at t3
        refine bnd2 (P := RR) (fun r2 s2 er2 es2 => ?_)
        have hm : a.toInt = (a.toInt.toNat : Nat) := by omega
        obtain ⟨b1, b2, b3, b4, b5, b6, b7⟩ := hb_eq rfl rfl hm (by omega) t1
        have er3 : r2.2 = (fX0_holdingBehind 1 a r).2 := by
          rw [er2, pass_eq hm (by omega), b7]
        rw [← er3] at b2 b3
        rw [← es2] at b2 b4 b5 b6
        rw [← b5] at b6
        have gg : RG r2.2 s2.2 := (gg_fd g0 (fd_tr t2 b3) (fm_tr t3 b4)).1
        by_cases w0 : b = 0
        · rw [if_pos w0, if_pos w0, b6]
          exact ⟨peaces_eq (rc_pc b2), gg⟩
        · rw [if_neg w0, if_neg w0]
          by_cases w1 : b = 1
          · rw [if_pos w1, if_pos w1]
            exact ⟨(ran_eq b2).symm, gg⟩
          · rw [if_neg w1, if_neg w1]
            by_cases w2 : b = 2
            · rw [if_pos w2, if_pos w2]
              exact ⟨ice_all b2, gg⟩
            · rw [if_neg w2, if_neg w2]
              have y0 := neI w0
              have y1 := neI w1
              have y2 := neI w2
              have e4 := subI (x := b) (y := 3) (by omega) (by omega)
              have hv : (b - 3).toInt = ((b - 3).toInt.toNat : Nat) := by omega
              refine ⟨?_, gg⟩
              show rA r2.2 (8 * 1 + 3) (b - 3) = rA s2.2 2 (56 + b - 3)
              have e5 : (56 : Int32) + b - 3 = 56 + (b - 3) := by rw [Int32.sub_eq_add_neg, Int32.sub_eq_add_neg, Int32.add_assoc]
              rw [e5]
              exact (rc_soft b2 (d := (b - 3).toInt.toNat) (by omega) hv).1
      · rw [if_neg (show ¬ fX4_isTooLate a σ = 0 by rw [l1]; decide), if_pos l2]
        exact rr4 h
/-- a deed for which it can't be asked when its peace ends -/
theorem end3 {n : Nat} {σ τ : sg} (h : GG n σ τ) (v : Int32) : (fX4_refusalOfEnd v σ = -1000001 ∧ fX5_isDeed v τ = 0) ∨ (fX4_refusalOfEnd v σ = -1000005 ∧ fX5_isDeed v τ = 1 ∧ fX5_isTime 100 τ = 0) ∨ (fX4_refusalOfEnd v σ = 0 ∧ fX5_isDeed v τ = 1 ∧ fX5_isTime 100 τ = 1) := by
  unfold fX4_refusalOfEnd fX4_refusalOfDeed
  rw [deed_eq h.2]
  by_cases c : fX5_isDeed v τ = 0
  · rw [if_pos c]
    exact Or.inl ⟨rfl, c⟩
  · rw [if_neg c]
    rcases ref3 h 100 100 with ⟨q1, q2⟩ | ⟨q1, q2, q3⟩ | ⟨q1, q2, q3, _⟩
    · exact absurd q2 (by decide)
    · exact Or.inr (Or.inl ⟨q1, deed01 c, q3⟩)
    · exact Or.inr (Or.inr ⟨q1, deed01 c, q3⟩)
theorem dn1 {v : Int32} {τ : sg} (c : fX5_isDeed v τ = 1) : ¬ fX5_isDeed v τ = 0 := by rw [c]; decide
theorem m_ends {σ τ : sg} (h : RG σ τ) (a : Int32) : RR (fX4_ends a σ) (fX5_ends a τ) := by
  obtain ⟨n, hc⟩ := h.1
  have g0 : GG n σ τ := ⟨h, hc⟩
  have k100 : (100 : Int32).toInt = 100 := rfl
  unfold fX4_ends fX5_ends
  simp only [bx]
  rcases end3 g0 a with ⟨q1, q2⟩ | ⟨q1, q2, q3⟩ | ⟨q1, q2, q3⟩
  · rw [q1, if_neg z51, if_pos q2]; exact rr0 h
  · rw [q1, if_neg z55, if_neg (dn1 q2), if_pos q3]; exact rr4 h
  · rw [if_pos q1, if_neg (dn1 q2), if_neg (show ¬ fX5_isTime 100 τ = 0 by rw [q3]; decide)]
    obtain ⟨d, hv, hd⟩ := deed_n hc (dn1 q2)
    obtain ⟨t1, t2, t3⟩ := try_rc g0
    refine bnd2 (P := RR) (fun r s er es => ?_)
    rw [← er, ← es] at t1
    rw [← er] at t2
    rw [← es] at t3
    refine bnd2 (P := RR) (fun r2 s2 er2 es2 => ?_)
    have g := (endOf_eq hv hd t1).1
    rw [← er2, ← es2] at g
    have gg : RG r2.2 s2.2 := (gg_fd g0 (fd_tr t2 g.2.1) (fm_tr t3 g.2.2)).1
    rw [g.1]
    by_cases c : 100 < s2.1
    · rw [if_pos c, if_neg (fun z => by have := leI z; have := ltI c; omega)]
      exact rr3 gg
    · rw [if_neg c, if_pos (Int32.le_iff_toInt_le.mpr (nltI c))]
      exact ⟨rfl, gg⟩
theorem m_soonest {σ τ : sg} (h : RG σ τ) : RR (fX4_soonest σ) (fX5_soonest τ) := by
  obtain ⟨n, hc⟩ := h.1
  have g0 : GG n σ τ := ⟨h, hc⟩
  have k0 : (0 : Int32).toInt = 0 := rfl
  have km : (-1 : Int32).toInt = -1 := rfl
  unfold fX4_soonest fX5_soonest
  simp only [bx]
  rcases late hc 100 with ⟨l1, l2⟩ | ⟨l1, l2⟩
  · rw [if_pos l1, if_neg (show ¬ fX5_isTime 100 τ = 0 by rw [l2]; decide)]
    refine bndL (P := RR) (fun r er => ?_)
    have t1 : RC r 1 (τ.1 0) n := by rw [er]; exact take_rc (by decide) hc
    have t2 : FD 1 σ r := by rw [er]; exact take_fd
    obtain ⟨s1, s2, s3⟩ := soonest_eq t1
    refine bnd2 (P := RR) (fun r2 u er2 eu => ?_)
    rw [← er2, ← eu] at s1
    rw [← er2] at s2
    rw [← eu] at s3
    have gg : RG r2.2 u.2 := (gg_fd g0 (fd_tr t2 s2) s3).1
    have bd : u.1.toInt = -1 ∨ 0 ≤ u.1.toInt := by
      have z := (firstToEnd_ft (n := n) (j := 1) (σ := r) (τ := ((va_up τ.1 2 (τ.1 0), τ.2) : sg)) (by
        show RC r 1 (va_up τ.1 2 (τ.1 0) 2) n
        rw [va_up_self]; exact t1)).1
      rw [← er2, s1] at z
      rcases z with ⟨z1, z2⟩ | ⟨m, d, z1, z2, z3, z4, z5⟩
      · exact Or.inl z1
      · exact Or.inr (by omega)
    rw [s1]
    by_cases c : u.1 = -1
    · rw [if_pos c, if_neg (fun q => by have := leI q; have := eqI c; omega)]
      exact rr3 gg
    · have c2 := neI c
      rw [if_neg c, if_pos (leM0 (by omega))]
      exact ⟨rfl, gg⟩
  · rw [if_neg (show ¬ fX4_isTooLate 100 σ = 0 by rw [l1]; decide), if_pos l2]
    exact rr4 h
theorem eqPlace {n : Nat} {a : Int32} {D : Nat} (ha : a.toInt = D) (hD : D < n) : ∀ (k k' d : Nat) (b l v : Int32) (σ τ : sg), GG n σ τ → v.toInt = d → d ≤ 6 → 6 - d < k → 6 - d < k' → RN n (LX4_place_24 k a b l v σ) (LX5_longest_9 k' a 40 6 b l v τ) := by
  intro k
  induction k with
  | zero => intro k' d b l v σ τ _ _ _ h; exact absurd h (Nat.not_lt_zero _)
  | succ k ih =>
    intro k' d b l v σ τ h hv hd hk hk'
    have n8 := h.2.1.1
    have k1 : (1 : Int32).toInt = 1 := rfl
    have k6 : (6 : Int32).toInt = 6 := rfl
    cases k' with
    | zero => exact absurd hk' (Nat.not_lt_zero _)
    | succ k' =>
      rw [LX4_place_24, LX5_longest_9]
      by_cases cc : 6 ≤ v
      · rw [if_pos cc, if_pos cc]; exact ⟨rfl, h⟩
      · have q := nleI cc
        have e1 := addI (x := v) (y := 1) (by omega) (by omega)
        rw [if_neg cc, if_neg cc]
        obtain ⟨t1, t2, t3⟩ := try_rc h
        refine bnd2 (P := RN n) (fun r s er es => ?_)
        rw [← er, ← es] at t1
        rw [← er] at t2
        rw [← es] at t3
        refine bnd2 (P := RN n) (fun r2 s2 er2 es2 => ?_)
        have u1 : RC r2 1 (s2.1 2) n := by rw [er2, es2]; exact rcT t1 (t := 1) (by decide) hD ha (ixT ha (by omega)).2.1 (bd1 (by omega))
        have u2 : FD 1 r r2 := by rw [er2]; exact fd_A (by decide)
        have u3 : FM 2 s s2 := by rw [es2]; exact fm_A
        refine bnd2 (P := RN n) (fun r3 s3 er3 es3 => ?_)
        have g := (endOf_eq ha hD u1).1
        rw [← er3, ← es3] at g
        have gg : GG n r3.2 s3.2 := gg_fd h (fd_tr t2 (fd_tr u2 g.2.1)) (fm_tr t3 (fm_tr u3 g.2.2))
        rw [g.1]
        by_cases c : s3.1 ≤ l
        · rw [if_pos c, if_pos c]
          exact ih k' (d + 1) b l (v + 1) r3.2 s3.2 gg (by omega) (by omega) (by omega) (by omega)
        · rw [if_neg c, if_neg c]
          exact ih k' (d + 1) v s3.1 (v + 1) r3.2 s3.2 gg (by omega) (by omega) (by omega) (by omega)
theorem eqKindFor {n : Nat} {a : Int32} {D : Nat} (ha : a.toInt = D) (hD : D < n) : ∀ (k k' d : Nat) (b l v : Int32) (σ τ : sg), GG n σ τ → v.toInt = d → d ≤ 7 → 7 - d < k → 7 - d < k' → RN n (LX4_kindFor_24 k a b l v σ) (LX5_longest_9 k' a 32 7 b l v τ) := by
  intro k
  induction k with
  | zero => intro k' d b l v σ τ _ _ _ h; exact absurd h (Nat.not_lt_zero _)
  | succ k ih =>
    intro k' d b l v σ τ h hv hd hk hk'
    have n8 := h.2.1.1
    have k1 : (1 : Int32).toInt = 1 := rfl
    have k7 : (7 : Int32).toInt = 7 := rfl
    cases k' with
    | zero => exact absurd hk' (Nat.not_lt_zero _)
    | succ k' =>
      rw [LX4_kindFor_24, LX5_longest_9]
      by_cases cc : 7 ≤ v
      · rw [if_pos cc, if_pos cc]; exact ⟨rfl, h⟩
      · have q := nleI cc
        have e1 := addI (x := v) (y := 1) (by omega) (by omega)
        rw [if_neg cc, if_neg cc]
        obtain ⟨t1, t2, t3⟩ := try_rc h
        refine bnd2 (P := RN n) (fun r s er es => ?_)
        rw [← er, ← es] at t1
        rw [← er] at t2
        rw [← es] at t3
        refine bnd2 (P := RN n) (fun r2 s2 er2 es2 => ?_)
        have u1 : RC r2 1 (s2.1 2) n := by rw [er2, es2]; exact rcT t1 (t := 0) (by decide) hD ha (ixT ha (by omega)).1 (bd0 (by omega))
        have u2 : FD 1 r r2 := by rw [er2]; exact fd_A (t := 0) (by decide)
        have u3 : FM 2 s s2 := by rw [es2]; exact fm_A
        refine bnd2 (P := RN n) (fun r3 s3 er3 es3 => ?_)
        have g := (endOf_eq ha hD u1).1
        rw [← er3, ← es3] at g
        have gg : GG n r3.2 s3.2 := gg_fd h (fd_tr t2 (fd_tr u2 g.2.1)) (fm_tr t3 (fm_tr u3 g.2.2))
        rw [g.1]
        by_cases c : s3.1 ≤ l
        · rw [if_pos c, if_pos c]
          exact ih k' (d + 1) b l (v + 1) r3.2 s3.2 gg (by omega) (by omega) (by omega) (by omega)
        · rw [if_neg c, if_neg c]
          exact ih k' (d + 1) v s3.1 (v + 1) r3.2 s3.2 gg (by omega) (by omega) (by omega) (by omega)
theorem m_place {σ τ : sg} (h : RG σ τ) (a : Int32) : RR (fX4_place a σ) (fX5_place a τ) := by
  obtain ⟨n, hc⟩ := h.1
  have g0 : GG n σ τ := ⟨h, hc⟩
  unfold fX4_place fX5_place fX5_longest
  simp only [bx]
  rcases end3 g0 a with ⟨q1, q2⟩ | ⟨q1, q2, q3⟩ | ⟨q1, q2, q3⟩
  · rw [q1, q2, lacks0, if_neg z51, if_neg z00]; exact rr0 h
  · rw [q1, lacks4 q2 q3, if_neg z55, if_neg z40]; exact rr4 h
  · rw [if_pos q1, lacksN q2 q3, if_pos zm1]
    obtain ⟨d, hv, hd⟩ := deed_n hc (dn1 q2)
    exact rn_rr (eqPlace hv hd 7 8 0 0 (-1) 0 σ τ g0 rfl (by decide) (by decide) (by decide))
theorem m_kindFor {σ τ : sg} (h : RG σ τ) (a : Int32) : RR (fX4_kindFor a σ) (fX5_kindFor a τ) := by
  obtain ⟨n, hc⟩ := h.1
  have g0 : GG n σ τ := ⟨h, hc⟩
  unfold fX4_kindFor fX5_kindFor fX5_longest
  simp only [bx]
  rcases end3 g0 a with ⟨q1, q2⟩ | ⟨q1, q2, q3⟩ | ⟨q1, q2, q3⟩
  · rw [q1, q2, lacks0, if_neg z51, if_neg z00]; exact rr0 h
  · rw [q1, lacks4 q2 q3, if_neg z55, if_neg z40]; exact rr4 h
  · rw [if_pos q1, lacksN q2 q3, if_pos zm1]
    obtain ⟨d, hv, hd⟩ := deed_n hc (dn1 q2)
    exact rn_rr (eqKindFor hv hd 8 8 0 0 (-1) 0 σ τ g0 rfl (by decide) (by decide) (by decide))
/-- some blocks of ice are brought -/
theorem bring_eq {n : Nat} {σ τ : sg} (h : RC σ 1 (τ.1 2) n) {v x : Int32} {d : Nat} (hv : v.toInt = d) (hd : d < 6) (hx : 0 ≤ x.toInt ∧ x.toInt ≤ 100) : RC (fX0_bringIce 1 v x σ) 1 ((fX5_brings 2 v x τ).1 2) n ∧ FD 1 σ (fX0_bringIce 1 v x σ) ∧ FM 2 τ (fX5_brings 2 v x τ) := by
  have k99 : (99 : Int32).toInt = 99 := rfl
  have i2 := ixC (c := 10) (C := 10) hv (by omega) rfl (by decide)
  have hi := rc_ice h hd hv i2
  have e := addI (x := rA τ 2 (10 + v)) (y := x) (by omega) (by omega)
  have b : 0 ≤ (jmin 99 (rA τ 2 (10 + v) + x)).toInt ∧ (jmin 99 (rA τ 2 (10 + v) + x)).toInt ≤ 99 := by
    have z := jmin99 (y := rA τ 2 (10 + v) + x)
    rcases z.2 with q | q
    · omega
    · refine ⟨?_, z.1⟩
      rw [q]; omega
  unfold fX0_bringIce fX5_brings
  simp only [bndE]
  rw [hi.1]
  exact ⟨rcIce h hd hv i2 b, fd_A (by decide), fm_A⟩
theorem eqIceM {n : Nat} {a w : Int32} (ha : 1 ≤ a.toInt ∧ a.toInt ≤ 99) (hw : 1 ≤ w.toInt ∧ w.toInt ≤ 100) : ∀ (k d : Nat) (b l v : Int32) (σ τ : sg), GG n σ τ → v.toInt = d → d ≤ 6 → 6 - d < k → RN n (LX4_ice_42 k a w b l v σ) (LX5_ice_47 k a w b l v τ) := by
  intro k
  induction k with
  | zero => intro d b l v σ τ _ _ _ h; exact absurd h (Nat.not_lt_zero _)
  | succ k ih =>
    intro d b l v σ τ h hv hd hk
    have n8 := h.2.1.1
    have k1 : (1 : Int32).toInt = 1 := rfl
    have k6 : (6 : Int32).toInt = 6 := rfl
    rw [LX4_ice_42, LX5_ice_47]
    by_cases cc : 6 ≤ v
    · rw [if_pos cc, if_pos cc]; exact ⟨rfl, h⟩
    · have q := nleI cc
      have e1 := addI (x := v) (y := 1) (by omega) (by omega)
      rw [if_neg cc, if_neg cc]
      obtain ⟨t1, t2, t3⟩ := try_rc h
      refine bnd2 (P := RN n) (fun r s er es => ?_)
      rw [← er, ← es] at t1
      rw [← er] at t2
      rw [← es] at t3
      refine bnd2 (P := RN n) (fun r2 s2 er2 es2 => ?_)
      obtain ⟨u1, u2, u3⟩ := bring_eq t1 hv (by omega) (x := a) (by omega)
      rw [← er2, ← es2] at u1
      rw [← er2] at u2
      rw [← es2] at u3
      refine bnd2 (P := RN n) (fun r3 s3 er3 es3 => ?_)
      obtain ⟨b1, b2, b3, b4, _⟩ := hb_eq rfl rfl (w := w) (m := w.toInt.toNat) (by omega) (by omega) u1
      rw [← er3, ← es3] at b1
      rw [← er3] at b3
      rw [← es3] at b4
      have gg : GG n r3.2 s3.2 := gg_fd h (fd_tr t2 (fd_tr u2 b3)) (fm_tr t3 (fm_tr u3 b4))
      rw [b1]
      by_cases c : fX5_bits s3.1 ≤ l
      · rw [if_pos c, if_pos c]
        exact ih (d + 1) b l (v + 1) r3.2 s3.2 gg (by omega) (by omega) (by omega)
      · rw [if_neg c, if_neg c]
        exact ih (d + 1) v (fX5_bits s3.1) (v + 1) r3.2 s3.2 gg (by omega) (by omega) (by omega)
theorem m_ice {σ τ : sg} (h : RG σ τ) (a b : Int32) : RR (fX4_ice a b σ) (fX5_ice a b τ) := by
  obtain ⟨n, hc⟩ := h.1
  have g0 : GG n σ τ := ⟨h, hc⟩
  have k1 : (1 : Int32).toInt = 1 := rfl
  have k99 : (99 : Int32).toInt = 99 := rfl
  have k100 : (100 : Int32).toInt = 100 := rfl
  unfold fX4_ice fX5_ice fX5_isAhead
  simp only [bx]
  rw [within_eq, lacks0]
  rcases within01 (v := a) (a := 1) (b := 99) with q | ⟨q, q2, q3⟩
  · rw [if_pos q.1, if_pos q.1]; exact rr0 h
  · have q0 : ¬ fX5_within a 1 99 = 0 := by rw [q]; decide
    rw [if_neg q0, if_neg q0]
    rcases ref3 g0 b 100 with ⟨p1, p2⟩ | ⟨p1, p2, p3⟩ | ⟨p1, p2, p3, p4, p5⟩
    · rw [p1, if_neg z51, if_pos p2]; exact rr0 h
    · rw [p1, if_neg z55, if_neg (show ¬ fX5_within b 1 100 = 0 by rw [p2]; decide), lacks4 rfl p3, if_neg z40]; exact rr4 h
    · rw [if_pos p1, if_neg (show ¬ fX5_within b 1 100 = 0 by rw [p2]; decide), lacksN rfl p3, if_pos zm1]
      exact rn_rr (eqIceM (by omega) (by omega) 7 0 0 (-1) 0 σ τ g0 rfl (by decide) (by decide))
end EQ12
