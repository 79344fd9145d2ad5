section EQ19
def pcN (s : Nat) : Nat := s % 2 + s / 2 % 2 + s / 4 % 2 + s / 8 % 2 + s / 16 % 2 + s / 32 % 2
theorem pcD9 : ∀ s : Nat, s < 64 → fX5_bits (nI s) = nI (pcN s) ∧ pcN s ≤ 6 := by decide +kernel
theorem andD9 : ∀ m : Nat, m < 64 → ∀ s : Nat, s < 64 → ((nI s &&& nI m = 0) ↔ s &&& m = 0) := by decide +kernel
theorem nanD9 : ∀ m : Nat, m < 64 → ∀ s : Nat, s < 64 → ((nI s &&& (nI (63 ^^^ m) ^^^ (-1)) = 0) ↔ s &&& m = 0) := by decide +kernel
theorem orD9 : ∀ m : Nat, m < 64 → ∀ s : Nat, s < 64 → nI m ||| nI s = nI (m ||| s) ∧ (m ||| s) < 64 := by decide +kernel
theorem feaD9 : ∀ m : Nat, m < 64 → ∀ k : Nat, k < 7 → k + pcN m ≤ 6 → ¬ ∀ s : Nat, s < 64 → ¬ (s &&& m = 0 ∧ pcN s = k) := by decide +kernel
theorem infD9 : ∀ m : Nat, m < 64 → ∀ s : Nat, s < 64 → s &&& m = 0 → pcN s + pcN m ≤ 6 := by decide +kernel
theorem bitsD9 : ∀ m : Nat, m < 256 → 0 ≤ (fX5_bits (nI m)).toInt ∧ (fX5_bits (nI m)).toInt ≤ 8 := by decide +kernel
theorem bits_bd {M : Int32} {n : Nat} {p : Nat → Int32} (h : MK M n p) : 0 ≤ (fX5_bits M).toInt ∧ (fX5_bits M).toInt ≤ 8 := by
  obtain ⟨m, hm, rfl, hb⟩ := h
  exact bitsD9 m hm
theorem open_is {σ : sg} {j n m : Nat} {r : Nat → Int32} (h : RC σ j r n) (hm : m < 64) (hb : ∀ s : Nat, s < 6 → r (4 + s) = i01 (m.testBit s)) : rF σ (7 * j + 2) = nI m := mk_uniq h.2.2.2.2.1 (mk6 hm hb)
/-- some shutters are opened -/
theorem eqWith {s : Nat} (hs : s < 64) {w x : Int32} (hw : w = nI s) : ∀ (k d : Nat) (v : Int32) (τ : sg), v.toInt = d → d ≤ 6 → 6 - d < k → FM 2 τ (LX5_holdingWith_13 k w x v τ) ∧ (∀ t : Nat, t < 6 → d ≤ t → (LX5_holdingWith_13 k w x v τ).1 2 (4 + t) = if i01 (s.testBit t) = 1 then 1 else τ.1 2 (4 + t)) ∧ (∀ i : Nat, (i < 4 + d ∨ 10 ≤ i) → (LX5_holdingWith_13 k w x v τ).1 2 i = τ.1 2 i) := by
  intro k
  induction k with
  | zero => intro d v τ _ _ h; exact absurd h (Nat.not_lt_zero _)
  | succ k ih =>
    intro d v τ hv hd hk
    have k1 : (1 : Int32).toInt = 1 := rfl
    have k6 : (6 : Int32).toInt = 6 := rfl
    rw [LX5_holdingWith_13]
    by_cases cc : 6 ≤ v
    · have := leI cc
      rw [if_pos cc]
      exact ⟨fm_rfl, fun t h6 h7 => by omega, fun _ _ => rfl⟩
    · have q := nleI cc
      have e1 := addI (x := v) (y := 1) (by omega) (by omega)
      have i4 := ixC (c := 4) (C := 4) hv (by omega) rfl (by decide)
      have bt : (jshr w v) &&& 1 = i01 (s.testBit d) := by rw [hw, vnI hv (by omega), bitD9 s hs d (by omega)]
      have fin : ∀ X : Int32, X = (if i01 (s.testBit d) = 1 then 1 else τ.1 2 (4 + d)) → ∀ r : sg, r = sA τ 2 (4 + v) X → FM 2 τ (LX5_holdingWith_13 k w x (v + 1) r) ∧ (∀ t : Nat, t < 6 → d ≤ t → (LX5_holdingWith_13 k w x (v + 1) r).1 2 (4 + t) = if i01 (s.testBit t) = 1 then 1 else τ.1 2 (4 + t)) ∧ (∀ i : Nat, (i < 4 + d ∨ 10 ≤ i) → (LX5_holdingWith_13 k w x (v + 1) r).1 2 i = τ.1 2 i) := fun X hX r er => by
        have er2 : r.1 2 = upd (τ.1 2) (4 + d) X := by rw [er, sAs i4]
        obtain ⟨g1, g2, g3⟩ := ih (d + 1) (v + 1) r (by omega) (by omega) (by omega)
        refine ⟨fm_tr (by rw [er]; exact fm_A) g1, fun t h6 h7 => ?_, fun i hi => ?_⟩
        · by_cases c : t = d
          · subst c
            rw [g3 (4 + t) (by omega), er2, pk_us, hX]
          · rw [g2 t h6 (by omega), er2, pk_un (by omega)]
        · rw [g3 i (by omega), er2, pk_un (by omega)]
      rw [if_neg cc, bt]
      by_cases c : i01 (s.testBit d) = 1
      · rw [if_pos c]
        rw [if_pos c] at fin
        exact wf_bnd (P := fun T : sg => FM 2 τ T ∧ (∀ t : Nat, t < 6 → d ≤ t → T.1 2 (4 + t) = if i01 (s.testBit t) = 1 then 1 else τ.1 2 (4 + t)) ∧ (∀ i : Nat, (i < 4 + d ∨ 10 ≤ i) → T.1 2 i = τ.1 2 i)) (fun r er => fin 1 rfl r er)
      · rw [if_neg c]
        rw [if_neg c] at fin
        exact wf_bnd (P := fun T : sg => FM 2 τ T ∧ (∀ t : Nat, t < 6 → d ≤ t → T.1 2 (4 + t) = if i01 (s.testBit t) = 1 then 1 else τ.1 2 (4 + t)) ∧ (∀ i : Nat, (i < 4 + d ∨ 10 ≤ i) → T.1 2 i = τ.1 2 i)) (fun r er => fin _ (rAd i4) r er)
/-- the trial with some shutters opened -/
theorem opn_rc {n s : Nat} {σ τ : sg} {v x : Int32} (h : RC σ 0 (τ.1 0) n) (hs : s < 64) (hv : v = nI s) : RC (sF9 (fX0_take 1 0 σ) (7 * 1 + 2) ((rF (fX0_take 1 0 σ) (7 * 1 + 2)) ||| v)) 1 ((LX5_holdingWith_13 7 v x 0 (fX5_row 0 2 τ)).1 2) n ∧ FD 1 σ (sF9 (fX0_take 1 0 σ) (7 * 1 + 2) ((rF (fX0_take 1 0 σ) (7 * 1 + 2)) ||| v)) ∧ FM 2 τ (LX5_holdingWith_13 7 v x 0 (fX5_row 0 2 τ)) := by
  have t1 : RC (fX0_take 1 0 σ) 1 ((fX5_row 0 2 τ).1 2) n := row_rc (by decide) (by decide) h
  have t2 : FD 1 σ (fX0_take 1 0 σ) := take_fd
  have t3 : FM 2 τ (fX5_row 0 2 τ) := row_fm (by decide)
  generalize fX0_take 1 0 σ = r at t1 t2
  generalize fX5_row 0 2 τ = u at t1 t3
  obtain ⟨m, hm, e, hb⟩ := open_m t1
  obtain ⟨g1, g2, g3⟩ := eqWith hs (x := x) hv 7 0 0 u rfl (by decide) (by decide)
  have o := orD9 m hm s hs
  rw [e, hv, o.1]
  rw [hv] at g1 g2 g3
  refine ⟨rcOpenM t1 o.2 (fun t ht => ?_) (fun i _ hi => g3 i (by omega)), fd_tr t2 (fd_F (by decide)), fm_tr t3 g1⟩
  rw [g2 t ht (Nat.zero_le _), hb t ht, Nat.testBit_or]
  cases m.testBit t <;> cases s.testBit t <;> rfl
theorem with_eq {n s : Nat} {σ τ : sg} {v w : Int32} (h : RC σ 0 (τ.1 0) n) (hs : s < 64) (hv : v = nI s) (hw : 1 ≤ w.toInt ∧ w.toInt ≤ 100) : (fX4_holdingOpened v w σ).1 = fX5_bits (fX5_holdingWith v w τ).1 ∧ FD 1 σ (fX4_holdingOpened v w σ).2 ∧ FM 2 τ (fX5_holdingWith v w τ).2 ∧ MK (fX5_holdingWith v w τ).1 n (pH 2 (fX5_holdingWith v w τ).2) := by
  obtain ⟨u1, u2, u3⟩ := opn_rc (x := w) h hs hv
  unfold fX4_holdingOpened fX5_holdingWith
  simp only [bndE]
  generalize sF9 (fX0_take 1 0 σ) (7 * 1 + 2) ((rF (fX0_take 1 0 σ) (7 * 1 + 2)) ||| v) = r at u1 u2
  generalize LX5_holdingWith_13 7 v w 0 (fX5_row 0 2 τ) = t at u1 u3
  obtain ⟨b1, b2, b3, b4, b5, b6, b7⟩ := hb_eq rfl rfl (w := w) (m := w.toInt.toNat) (by omega) (by omega) u1
  refine ⟨b1, fd_tr u2 b3, fm_tr u3 b4, ?_⟩
  rw [← b5] at b6
  rw [b6]
  exact holding_mk h.1.1 b2.1.2.1
theorem ends_eq {n s D : Nat} {σ τ : sg} {v w a : Int32} (h : RC σ 0 (τ.1 0) n) (hs : s < 64) (hv : v = nI s) (hw : 1 ≤ w.toInt ∧ w.toInt ≤ 100) (ha : a.toInt = D) (hD : D < n) : (fX4_endsOpened v a w σ).1 = (if pH 2 (fX5_holdingWith v w τ).2 D = 0 then 1 else 0) ∧ FD 1 σ (fX4_endsOpened v a w σ).2 := by
  obtain ⟨u1, u2, u3⟩ := opn_rc (x := w) h hs hv
  unfold fX4_endsOpened fX5_holdingWith
  simp only [bndE]
  generalize sF9 (fX0_take 1 0 σ) (7 * 1 + 2) ((rF (fX0_take 1 0 σ) (7 * 1 + 2)) ||| v) = r at u1 u2
  generalize LX5_holdingWith_13 7 v w 0 (fX5_row 0 2 τ) = t at u1 u3
  have hm : w.toInt = (w.toInt.toNat : Nat) := by omega
  obtain ⟨b1, b2, b3, b4, b5, b6, b7⟩ := hb_eq rfl rfl (w := w) hm (by omega) u1
  obtain ⟨c1, c2⟩ := holdsBehind_eq (show 2 < 4 by decide) ha hD u1 hm (by omega)
  rw [← b5] at c1
  rw [← c1]
  by_cases z : (fX0_holdsBehind 1 a w r).1 = 0
  · rw [if_pos z, if_pos z]
    exact ⟨rfl, fd_tr u2 c2⟩
  · rw [if_neg z, if_neg z]
    exact ⟨rfl, fd_tr u2 c2⟩
theorem eqLeast {n m D : Nat} {r0 : Nat → Int32} (hm : m < 64) (hb : ∀ s : Nat, s < 6 → r0 (4 + s) = i01 (m.testBit s)) {a w : Int32} (hw : 1 ≤ w.toInt ∧ w.toInt ≤ 100) (ha : a.toInt = D) (hD : D < n) : ∀ (k d : Nat) (b v : Int32) (σ τ : sg), GG n σ τ → τ.1 0 = r0 → v.toInt = d → d ≤ 64 → 64 - d < k → RN n (LX4_least_24 k a w b v σ) (LX5_least_43 k a w b v τ) := by
  intro k
  induction k with
  | zero => intro d b v σ τ _ _ _ _ h; exact absurd h (Nat.not_lt_zero _)
  | succ k ih =>
    intro d b v σ τ h h0 hv hd hk
    have n8 := h.2.1.1
    have k1 : (1 : Int32).toInt = 1 := rfl
    have k64 : (64 : Int32).toInt = 64 := rfl
    have hb0 : ∀ s : Nat, s < 6 → τ.1 0 (4 + s) = i01 (m.testBit s) := fun s hs => by rw [h0]; exact hb s hs
    rw [LX4_least_24, LX5_least_43]
    by_cases cc : 64 ≤ v
    · rw [if_pos cc, if_pos cc]; exact ⟨rfl, h⟩
    · have q := nleI cc
      have e1 := addI (x := v) (y := 1) (by omega) (by omega)
      have ev : v = nI d := vnI hv (by omega)
      have bc : fJ6_bitCount_0f7a4 v = fX5_bits v := by rw [ev]; exact bitC9 d (by omega)
      rw [if_neg cc, if_neg cc, open_is h.2 hm hb0, shut_m hm hb0, bc]
      have a1 : (v &&& nI m = 0) ↔ d &&& m = 0 := by rw [ev]; exact andD9 m hm d (by omega)
      have a2 : (v &&& (nI (63 ^^^ m) ^^^ (-1)) = 0) ↔ d &&& m = 0 := by rw [ev]; exact nanD9 m hm d (by omega)
      by_cases c1 : d &&& m = 0
      · rw [if_pos (a1.mpr c1), if_pos (a2.mpr c1)]
        by_cases c2 : b ≤ fX5_bits v
        · rw [if_pos c2, if_pos c2]
          exact ih (d + 1) b (v + 1) σ τ h h0 (by omega) (by omega) (by omega)
        · rw [if_neg c2, if_neg c2]
          obtain ⟨x1, x2⟩ := ends_eq h.2 (s := d) (by omega) ev hw ha hD
          obtain ⟨y1, y2, y3, y4⟩ := with_eq h.2 (s := d) (by omega) ev hw
          refine bnd2 (P := RN n) (fun r s er es => ?_)
          rw [← er, ← es] at x1
          rw [← er] at x2
          rw [← es] at y3 y4
          have gg : GG n r.2 s.2 := gg_fd h x2 y3
          have g0 : s.2.1 0 = r0 := (y3.1 0 (by decide) (by decide)).trans h0
          have bt := bit_h y4 n8 ha hD
          have bt0 : ((jshr s.1 a) &&& 1 = 0) ↔ pH 2 s.2 D = 0 := by
            have z := mk_has' y4 n8 ha hD
            have j01 : (jshr s.1 a) &&& 1 = 0 ∨ (jshr s.1 a) &&& 1 = 1 := by
              have b9 := andLe (x := 1) (y := jshr s.1 a) (by decide)
              rw [Int32.and_comm] at b9
              generalize (jshr s.1 a) &&& 1 = z at b9
              have k11 : (1 : Int32).toInt = 1 := rfl
              have k00 : (0 : Int32).toInt = 0 := rfl
              by_cases q : z.toInt = 0
              · exact Or.inl (Int32.toInt.inj (by omega))
              · exact Or.inr (Int32.toInt.inj (by omega))
            refine ⟨fun q => ?_, fun q => ?_⟩
            · rcases pH01 (a := 2) (d := D) (τ := s.2) with p | p
              · exact p
              · have := bt.mpr p
                rw [q] at this
                exact absurd this (by decide)
            · rcases j01 with p | p
              · exact p
              · have := bt.mp p
                rw [q] at this
                exact absurd this (by decide)
          rw [x1]
          by_cases z : pH 2 s.2 D = 0
          · rw [if_pos z, if_neg z10, if_pos (bt0.mpr z)]
            exact ih (d + 1) _ (v + 1) r.2 s.2 gg g0 (by omega) (by omega) (by omega)
          · rw [if_neg z, if_pos (show (0 : Int32) = 0 from rfl), if_neg (fun y => z (bt0.mp y))]
            exact ih (d + 1) b (v + 1) r.2 s.2 gg g0 (by omega) (by omega) (by omega)
      · rw [if_neg (fun y => c1 (a1.mp y)), if_neg (fun y => c1 (a2.mp y))]
        exact ih (d + 1) b (v + 1) σ τ h h0 (by omega) (by omega) (by omega)
theorem m_least {σ τ : sg} (h : RG σ τ) (a b : Int32) : RR (fX4_least a b σ) (fX5_least a b τ) := by
  obtain ⟨n, hc⟩ := h.1
  have g0 : GG n σ τ := ⟨h, hc⟩
  have k6 : (6 : Int32).toInt = 6 := rfl
  unfold fX4_least fX5_least fX5_isAhead
  simp only [bx]
  rw [lacks0]
  rcases dn_eq g0 a b with ⟨q1, q2 | ⟨q2, q3⟩⟩ | ⟨q1, q2, q3, q4⟩ | ⟨q1, q2, q3, q4, q5, q6⟩
  · rw [q1, if_neg z51, if_pos q2]; exact rr0 h
  · rw [q1, if_neg z51, if_neg (dn1 q2), if_pos q3]; exact rr0 h
  · rw [q1, if_neg z55, if_neg (dn1 q2), if_neg (show ¬ fX5_within b 1 100 = 0 by rw [q3]; decide), lacks4 rfl q4, if_neg z40]; exact rr4 h
  · rw [if_pos q1, if_neg (dn1 q2), if_neg (show ¬ fX5_within b 1 100 = 0 by rw [q3]; decide), lacksN rfl q4, if_pos zm1]
    obtain ⟨d, hv, hd⟩ := deed_n hc (dn1 q2)
    obtain ⟨m, hm, e, hb⟩ := open_m hc
    refine bnd2 (P := RR) (fun r s er es => ?_)
    have g : RN n r s := by rw [er, es]; exact eqLeast hm hb ⟨q5, q6⟩ hv hd 65 0 7 0 σ τ g0 rfl rfl (by decide) (by decide)
    rw [g.1]
    by_cases c : 6 < s.1
    · rw [if_pos c, if_neg (fun z => by have := leI z; have := ltI c; omega)]
      exact rr3 g.2.1
    · rw [if_neg c, if_pos (Int32.le_iff_toInt_le.mpr (nltI c))]
      exact ⟨rfl, g.2.1⟩
end EQ19
