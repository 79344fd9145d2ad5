section EQ13
/-- a deed and a time: why it can't be -/
def DN (n : Nat) (v w : Int32) (σ τ : sg) : Prop := (fX4_refusalOfDeed v w σ = -1000001 ∧ (fX5_isDeed v τ = 0 ∨ (fX5_isDeed v τ = 1 ∧ fX5_within w 1 100 = 0))) ∨ (fX4_refusalOfDeed v w σ = -1000005 ∧ fX5_isDeed v τ = 1 ∧ fX5_within w 1 100 = 1 ∧ fX5_isTime w τ = 0) ∨ (fX4_refusalOfDeed v w σ = 0 ∧ fX5_isDeed v τ = 1 ∧ fX5_within w 1 100 = 1 ∧ fX5_isTime w τ = 1 ∧ 1 ≤ w.toInt ∧ w.toInt ≤ 100)
theorem dn_eq {n : Nat} {σ τ : sg} (h : GG n σ τ) (v w : Int32) : DN n v w σ τ := by
  have k100 : (100 : Int32).toInt = 100 := rfl
  unfold DN fX4_refusalOfDeed
  rw [deed_eq h.2]
  by_cases c : fX5_isDeed v τ = 0
  · rw [if_pos c]
    exact Or.inl ⟨rfl, Or.inl c⟩
  · rw [if_neg c]
    rcases ref3 h w 100 with ⟨q1, q2⟩ | ⟨q1, q2, q3⟩ | ⟨q1, q2, q3, q4, q5⟩
    · exact Or.inl ⟨q1, Or.inr ⟨deed01 c, q2⟩⟩
    · exact Or.inr (Or.inl ⟨q1, deed01 c, q2, q3⟩)
    · exact Or.inr (Or.inr ⟨q1, deed01 c, q2, q3, q4, by omega⟩)
theorem eqBears {n : Nat} {a w : Int32} {D : Nat} (ha : a.toInt = D) (hD : D < n) (hw : 1 ≤ w.toInt ∧ w.toInt ≤ 100) : ∀ (k d : Nat) (v : Int32) (σ τ : sg), GG n σ τ → v.toInt = (d : Int) - 1 → d ≤ 41 → d < k → RR (LX4_bears_21 k a w v σ) (LX5_bears_40 k a w v τ) := by
  intro k
  induction k with
  | zero => intro d v σ τ _ _ _ h; exact absurd h (Nat.not_lt_zero _)
  | succ k ih =>
    intro d v σ τ h hv hd hk
    have n8 := h.2.1.1
    have km : (-1 : Int32).toInt = -1 := rfl
    rw [LX4_bears_21, LX5_bears_40]
    simp only [bx]
    by_cases cc : d = 0
    · rw [if_pos (ltM0 (by omega)), if_pos (ltM0 (by omega))]; exact rr3 h.1
    · have e1 := addI (x := v) (y := -1) (by omega) (by omega)
      rw [if_neg (geM0 (by omega)), if_neg (geM0 (by omega))]
      obtain ⟨t1, t2, t3⟩ := try_rc h
      refine bnd2 (P := RR) (fun r s er es => ?_)
      rw [← er, ← es] at t1
      rw [← er] at t2
      rw [← es] at t3
      refine bnd2 (P := RR) (fun r2 s2 er2 es2 => ?_)
      have u1 : RC r2 1 (s2.1 2) n := by rw [er2, es2]; exact rcSum t1 (by omega) rfl
      have u2 : FD 1 r r2 := by rw [er2]; exact fd_F (by decide)
      have u3 : FM 2 s s2 := by rw [es2]; exact fm_A
      refine bnd2 (P := RR) (fun r3 s3 er3 es3 => ?_)
      have hm : w.toInt = (w.toInt.toNat : Nat) := by omega
      obtain ⟨b1, b2, b3, b4, b5, b6, b7⟩ := hb_eq rfl rfl (w := w) hm (by omega) u1
      obtain ⟨c1, c2⟩ := holdsBehind_eq (show 2 < 4 by decide) ha hD u1 hm (by omega)
      rw [← es3] at b2 b4 b5 b6
      rw [← er3] at c1 c2
      rw [← b5] at c1 b6
      have gg : GG n r3.2 s3.2 := gg_fd h (fd_tr t2 (fd_tr u2 c2)) (fm_tr t3 (fm_tr u3 b4))
      have mk : MK s3.1 n (pH 2 s3.2) := by rw [b6]; exact holding_mk n8 b2.1.2.1
      have bt := bit_h mk n8 ha hD
      rw [c1]
      rcases pH01 (a := 2) (d := D) (τ := s3.2) with z | z
      · rw [if_pos z, if_neg (fun y => by rw [bt.mp y] at z; exact absurd z (by decide))]
        exact ih (d - 1) (v + -1) r3.2 s3.2 gg (by omega) (by omega) (by omega)
      · rw [if_neg (by rw [z]; decide), if_pos (bt.mpr z)]
        exact ⟨rfl, gg.1⟩
theorem m_bears {σ τ : sg} (h : RG σ τ) (a b : Int32) : RR (fX4_bears a b σ) (fX5_bears a b τ) := by
  obtain ⟨n, hc⟩ := h.1
  have g0 : GG n σ τ := ⟨h, hc⟩
  unfold fX4_bears fX5_bears fX5_isAhead
  simp only [bx]
  rw [lacks0]
  rcases dn_eq g0 a b with ⟨q1, q2 | ⟨q2, q3⟩⟩ | ⟨q1, q2, q3, q4⟩ | ⟨q1, q2, q3, q4, q5, q6⟩
  · rw [q1, if_neg z51, if_pos q2]; exact rr0 h
  · rw [q1, if_neg z51, if_neg (dn1 q2), if_pos q3]; exact rr0 h
  · rw [q1, if_neg z55, if_neg (dn1 q2), if_neg (show ¬ fX5_within b 1 100 = 0 by rw [q3]; decide), lacks4 rfl q4, if_neg z40]; exact rr4 h
  · rw [if_pos q1, if_neg (dn1 q2), if_neg (show ¬ fX5_within b 1 100 = 0 by rw [q3]; decide), lacksN rfl q4, if_pos zm1]
    obtain ⟨d, hv, hd⟩ := deed_n hc (dn1 q2)
    exact eqBears hv hd ⟨q5, q6⟩ 42 41 40 σ τ g0 rfl (by decide) (by decide)
/-- two deeds change their places -/
theorem swap_eq {n : Nat} {σ τ : sg} (h : GG n σ τ) {a b w : Int32} {A B : Nat} (ha : a.toInt = A) (hA : A < n) (hb : b.toInt = B) (hB : B < n) (hw : 1 ≤ w.toInt ∧ w.toInt ≤ 100) {α : Type} {P : α → α → Prop} {f g : Int32 × sg → α} (k : ∀ T U : Int32 × sg, T.1 = fX5_bits U.1 → GG n T.2 U.2 → P (f T) (g U)) : P (bnd (fX4_holdingSwapped a b w σ) f) (bnd (fX5_row 0 2 τ) (fun r12 => bnd (sA r12 2 (40 + a) (rA r12 0 (40 + b))) (fun s18 => bnd (sA s18 2 (40 + b) (rA s18 0 (40 + a))) (fun s24 => bnd (fX5_holdingBehind w s24) g)))) := by
  have n8 := h.2.1.1
  obtain ⟨t1, t2, t3⟩ := try_rc h
  unfold fX4_holdingSwapped
  simp only [bndE]
  generalize er : fX0_take 1 0 σ = r at t1 t2
  generalize es : fX5_row 0 2 τ = s at t1 t3
  have g1 : GG n r s := gg_fd h t2 t3
  have hx := rc_shelf g1.2 hB hb
  rw [hx.1]
  have u1 := rcT t1 (t := 1) (by decide) hA ha (ixT ha (by omega)).2.1 (bd1 hx.2)
  have g2 : GG n (sA r (8 * 1 + 1) a (rA s 0 (40 + b))) (sA s 2 (40 + a) (rA s 0 (40 + b))) := gg_fd g1 (fd_A (t := 1) (by decide)) fm_A
  have hy := rc_shelf g2.2 hA ha
  generalize er2 : sA r (8 * 1 + 1) a (rA s 0 (40 + b)) = r2 at u1 g2 hy
  generalize es2 : sA s 2 (40 + a) (rA s 0 (40 + b)) = s2 at u1 g2 hy
  rw [hy.1]
  have u2 := rcT u1 (t := 1) (by decide) hB hb (ixT hb (by omega)).2.1 (bd1 hy.2)
  have g3 : GG n (sA r2 (8 * 1 + 1) b (rA s2 0 (40 + a))) (sA s2 2 (40 + b) (rA s2 0 (40 + a))) := gg_fd g2 (fd_A (t := 1) (by decide)) fm_A
  generalize er3 : sA r2 (8 * 1 + 1) b (rA s2 0 (40 + a)) = r3 at u2 g3
  generalize es3 : sA s2 2 (40 + b) (rA s2 0 (40 + a)) = s3 at u2 g3
  obtain ⟨b1, b2, b3, b4, _⟩ := hb_eq rfl rfl (w := w) (m := w.toInt.toNat) (by omega) (by omega) u2
  exact k _ _ b1 (gg_fd g3 b3 b4)
/-- three that go along -/
def R3 (n : Nat) (T U : Int32 × Int32 × sg) : Prop := T.1 = U.1 ∧ T.2.1 = U.2.1 ∧ GG n T.2.2 U.2.2 ∧ (U.2.1.toInt = -1 ∨ 0 ≤ U.2.1.toInt)
theorem eqSwapI {n : Nat} {a w : Int32} {A : Nat} (ha : a.toInt = A) (hA : A < n) (hw : 1 ≤ w.toInt ∧ w.toInt ≤ 100) : ∀ (k d : Nat) (m b v : Int32) (σ τ : sg), GG n σ τ → v.toInt = d → d ≤ n → n - d < k → (b.toInt = -1 ∨ 0 ≤ b.toInt) → R3 n (LX4_swap_62 k w m b a v σ) (LX5_swap_63 k w m b a v τ) := by
  intro k
  induction k with
  | zero => intro d m b v σ τ _ _ _ h; exact absurd h (Nat.not_lt_zero _)
  | succ k ih =>
    intro d m b v σ τ h hv hd hk hb
    obtain ⟨n8, n1, n2, n3⟩ := rc_n h.2
    have k1 : (1 : Int32).toInt = 1 := rfl
    have k10 : (10 : Int32).toInt = 10 := rfl
    rw [LX4_swap_62, LX5_swap_63, n1, n2]
    by_cases cc : nI n ≤ v
    · rw [if_pos cc, if_pos cc]
      exact ⟨rfl, rfl, h, hb⟩
    · have q := nleI cc
      have e1 := addI (x := v) (y := 1) (by omega) (by omega)
      have e2 := mulI (x := 10) (y := a) (by rw [k10]; omega) (by rw [k10]; omega)
      rw [k10] at e2
      have e3 := addI (x := 10 * a) (y := v) (by omega) (by omega)
      rw [if_neg cc, if_neg cc]
      refine swap_eq h ha hA hv (by omega) hw (P := R3 n) (fun T U hT hg => ?_)
      rw [hT]
      by_cases c : fX5_bits U.1 ≤ m
      · rw [if_pos c, if_pos c]
        exact ih (d + 1) m b (v + 1) _ _ hg (by omega) (by omega) (by omega) hb
      · rw [if_neg c, if_neg c]
        exact ih (d + 1) _ (10 * a + v) (v + 1) _ _ hg (by omega) (by omega) (by omega) (by omega)
theorem eqSwapO {n : Nat} {w : Int32} (hw : 1 ≤ w.toInt ∧ w.toInt ≤ 100) : ∀ (k d : Nat) (m b v : Int32) (σ τ : sg), GG n σ τ → v.toInt = d → d ≤ n → n - d < k → (b.toInt = -1 ∨ 0 ≤ b.toInt) → RN n (LX4_swap_44 k w m b v σ) (LX5_swap_46 k w m b v τ) ∧ ((LX5_swap_46 k w m b v τ).1.toInt = -1 ∨ 0 ≤ (LX5_swap_46 k w m b v τ).1.toInt) := by
  intro k
  induction k with
  | zero => intro d m b v σ τ _ _ _ h; exact absurd h (Nat.not_lt_zero _)
  | succ k ih =>
    intro d m b v σ τ h hv hd hk hb
    obtain ⟨n8, n1, n2, n3⟩ := rc_n h.2
    have k1 : (1 : Int32).toInt = 1 := rfl
    rw [LX4_swap_44, LX5_swap_46, n1, n2]
    by_cases cc : nI n ≤ v
    · rw [if_pos cc, if_pos cc]
      exact ⟨⟨rfl, h⟩, hb⟩
    · have q := nleI cc
      have e1 := addI (x := v) (y := 1) (by omega) (by omega)
      rw [if_neg cc, if_neg cc]
      refine bnd2 (P := fun T U : Int32 × sg => RN n T U ∧ (U.1.toInt = -1 ∨ 0 ≤ U.1.toInt)) (fun r s er es => ?_)
      have g : R3 n r s := by rw [er, es]; exact eqSwapI hv (by omega) hw 9 (d + 1) m b (v + 1) σ τ h (by omega) (by omega) (by omega) hb
      obtain ⟨g1, g2, g3, g4⟩ := g
      rw [g1, g2]
      exact ih (d + 1) _ _ (v + 1) _ _ g3 (by omega) (by omega) (by omega) g4
theorem m_swap {σ τ : sg} (h : RG σ τ) (a : Int32) : RR (fX4_swap a σ) (fX5_swap a τ) := by
  obtain ⟨n, hc⟩ := h.1
  have g0 : GG n σ τ := ⟨h, hc⟩
  have n8 := hc.1.1
  have k0 : (0 : Int32).toInt = 0 := rfl
  have km : (-1 : Int32).toInt = -1 := rfl
  have k100 : (100 : Int32).toInt = 100 := rfl
  unfold fX4_swap fX5_swap fX5_isAhead
  simp only [bx]
  rcases ref3 g0 a 100 with ⟨p1, p2⟩ | ⟨p1, p2, p3⟩ | ⟨p1, p2, p3, p4, p5⟩
  · rw [p1, if_neg z51, p2, lacks0, if_neg z00]; exact rr0 h
  · rw [p1, if_neg z55, lacks4 p2 p3, if_neg z40]; exact rr4 h
  · rw [if_pos p1, lacksN p2 p3, if_pos zm1]
    obtain ⟨t1, t2, t3⟩ := try_rc g0
    refine bnd2 (P := RR) (fun r s er es => ?_)
    rw [← er, ← es] at t1
    rw [← er] at t2
    rw [← es] at t3
    refine bnd2 (P := RR) (fun r2 s2 er2 es2 => ?_)
    obtain ⟨b1, b2, b3, b4, _⟩ := hb_eq rfl rfl (w := a) (m := a.toInt.toNat) (by omega) (by omega) t1
    rw [← er2, ← es2] at b1
    rw [← er2] at b3
    rw [← es2] at b4
    have gg : GG n r2.2 s2.2 := gg_fd g0 (fd_tr t2 b3) (fm_tr t3 b4)
    rw [b1]
    refine bnd2 (P := RR) (fun r3 s3 er3 es3 => ?_)
    have g := eqSwapO (n := n) (w := a) (by omega) 9 0 (fX5_bits s2.1) (-1) 0 r2.2 s2.2 gg rfl (by omega) (by omega) (Or.inl rfl)
    rw [← er3, ← es3] at g
    obtain ⟨⟨g1, g2⟩, g3⟩ := g
    rw [g1]
    by_cases c : s3.1 = -1
    · rw [if_pos c, if_neg (fun q => by have := leI q; have := eqI c; omega)]
      exact rr3 g2.1
    · have c2 := neI c
      rw [if_neg c, if_pos (leM0 (by omega))]
      exact ⟨rfl, g2.1⟩
/-- one kind for all -/
def RT (n : Nat) (σ τ σ' τ' : sg) : Prop := RC σ' 1 (τ'.1 2) n ∧ FD 1 σ σ' ∧ FM 2 τ τ'
theorem rt_tr {n : Nat} {σ τ σ1 τ1 σ2 τ2 : sg} (f : FD 1 σ σ1) (g : FM 2 τ τ1) (h : RT n σ1 τ1 σ2 τ2) : RT n σ τ σ2 τ2 := ⟨h.1, fd_tr f h.2.1, fm_tr g h.2.2⟩
theorem eqAll {n : Nat} {kd x1 x2 x3 : Int32} (hk9 : 0 ≤ kd.toInt ∧ kd.toInt ≤ 6) (τ0 : sg) (h0 : rA τ0 0 0 = nI n) : ∀ (k d : Nat) (v : Int32) (σ τ : sg), RC σ 1 (τ.1 2) n → rA τ 0 0 = nI n → v.toInt = d → d ≤ n → n - d < k → RT n σ τ (LX0_setAllKinds_2 1 k kd v σ) (LX5_law_49 k x1 x2 x3 kd v τ) := by
  intro k
  induction k with
  | zero => intro d v σ τ _ _ _ _ h; exact absurd h (Nat.not_lt_zero _)
  | succ k ih =>
    intro d v σ τ h h1 hv hd hk
    obtain ⟨n8, n1, n2, n3⟩ := rc_n h
    have k1 : (1 : Int32).toInt = 1 := rfl
    rw [LX0_setAllKinds_2, LX5_law_49, n2, h1]
    by_cases cc : nI n ≤ v
    · rw [if_pos cc, if_pos cc]
      exact ⟨h, fd_rfl, fm_rfl⟩
    · have q := nleI cc
      have e1 := addI (x := v) (y := 1) (by omega) (by omega)
      rw [if_neg cc, if_neg cc]
      refine bnd2 (P := RT n σ τ) (fun r s er es => ?_)
      refine rt_tr (σ1 := r) (τ1 := s) (by rw [er]; exact fd_A (t := 0) (by decide)) (by rw [es]; exact fm_A) (ih (d + 1) (v + 1) r s ?_ ?_ (by omega) (by omega) (by omega))
      · rw [er, es]; exact rcT h (t := 0) (by decide) (by omega) hv (ixT hv (by omega)).1 (bd0 hk9)
      · rw [es, rA_oth (by decide)]; exact h1
theorem eqLaw {n : Nat} {w : Int32} (hw : 1 ≤ w.toInt ∧ w.toInt ≤ 100) : ∀ (k d : Nat) (b l v : Int32) (σ τ : sg), GG n σ τ → v.toInt = d → d ≤ 7 → 7 - d < k → RN n (LX4_law_26 k w b l v σ) (LX5_law_28 k w b l v τ) := by
  intro k
  induction k with
  | zero => intro d b l v σ τ _ _ _ h; exact absurd h (Nat.not_lt_zero _)
  | succ k ih =>
    intro d b l v σ τ h hv hd hk
    have n8 := h.2.1.1
    have k1 : (1 : Int32).toInt = 1 := rfl
    have k7 : (7 : Int32).toInt = 7 := rfl
    rw [LX4_law_26, LX5_law_28]
    by_cases cc : 7 ≤ v
    · rw [if_pos cc, if_pos cc]; exact ⟨rfl, h⟩
    · have q := nleI cc
      have e1 := addI (x := v) (y := 1) (by omega) (by omega)
      rw [if_neg cc, if_neg cc]
      obtain ⟨t1, t2, t3⟩ := try_rc h
      refine bnd2 (P := RN n) (fun r s er es => ?_)
      rw [← er, ← es] at t1
      rw [← er] at t2
      rw [← es] at t3
      have hs0 : rA s 0 0 = nI n := by
        show s.1 0 0 = nI n
        rw [t3.1 0 (by decide) (by decide)]; exact h.2.1.2.1
      refine bnd2 (P := RN n) (fun r2 s2 er2 es2 => ?_)
      have u : RT n r s r2 s2 := by
        rw [er2, es2, fX0_setAllKinds]
        refine bndL (P := fun x y => RT n r s x y) (fun z ez => ?_)
        rw [ez]
        exact eqAll (by omega) s hs0 9 0 0 r s t1 hs0 rfl (by omega) (by omega)
      refine bnd2 (P := RN n) (fun r3 s3 er3 es3 => ?_)
      obtain ⟨b1, b2, b3, b4, _⟩ := hb_eq rfl rfl (w := w) (m := w.toInt.toNat) (by omega) (by omega) u.1
      rw [← er3, ← es3] at b1
      rw [← er3] at b3
      rw [← es3] at b4
      have gg : GG n r3.2 s3.2 := gg_fd h (fd_tr t2 (fd_tr u.2.1 b3)) (fm_tr t3 (fm_tr u.2.2 b4))
      rw [b1]
      by_cases c : fX5_bits s3.1 ≤ l
      · rw [if_pos c, if_pos c]
        exact ih (d + 1) b l (v + 1) r3.2 s3.2 gg (by omega) (by omega) (by omega)
      · rw [if_neg c, if_neg c]
        exact ih (d + 1) v (fX5_bits s3.1) (v + 1) r3.2 s3.2 gg (by omega) (by omega) (by omega)
theorem m_law {σ τ : sg} (h : RG σ τ) (a : Int32) : RR (fX4_law a σ) (fX5_law a τ) := by
  obtain ⟨n, hc⟩ := h.1
  have g0 : GG n σ τ := ⟨h, hc⟩
  have k100 : (100 : Int32).toInt = 100 := rfl
  unfold fX4_law fX5_law fX5_isAhead
  simp only [bx]
  rcases ref3 g0 a 100 with ⟨p1, p2⟩ | ⟨p1, p2, p3⟩ | ⟨p1, p2, p3, p4, p5⟩
  · rw [p1, if_neg z51, p2, lacks0, if_neg z00]; exact rr0 h
  · rw [p1, if_neg z55, lacks4 p2 p3, if_neg z40]; exact rr4 h
  · rw [if_pos p1, lacksN p2 p3, if_pos zm1]
    exact rn_rr (eqLaw (by omega) 8 0 0 (-1) 0 σ τ g0 rfl (by decide) (by decide))
end EQ13
