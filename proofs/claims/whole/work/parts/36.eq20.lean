section EQ20
/-- sets that don't count are passed over -/
theorem skipW {o kk w b : Int32} {τ : sg} : ∀ (j k d : Nat) (v : Int32), v.toInt = d → d + j ≤ 64 → (∀ e : Nat, d ≤ e → e < d + j → ¬ ((nI e &&& (o ^^^ (-1))) = 0 ∧ fX5_bits (nI e) = kk)) → LX5_worstOf_12 (k + j) o kk w b v τ = LX5_worstOf_12 k o kk w b (nI (d + j)) τ := by
  intro j
  induction j with
  | zero =>
    intro k d v hv hd _
    rw [vnI hv (by omega)]
    rfl
  | succ j ih =>
    intro k d v hv hd hs
    have k1 : (1 : Int32).toInt = 1 := rfl
    have k64 : (64 : Int32).toInt = 64 := rfl
    have e1 := addI (x := v) (y := 1) (by omega) (by omega)
    have ev : v = nI d := vnI hv (by omega)
    have h0 := hs d (Nat.le_refl _) (by omega)
    have g := ih k (d + 1) (v + 1) (by omega) (by omega) (fun e h1 h2 => hs e (by omega) (by omega))
    rw [show k + (j + 1) = (k + j) + 1 by omega, LX5_worstOf_12, if_neg (fun q => by have := leI q; omega), g, show d + 1 + j = d + (j + 1) by omega]
    rw [← ev] at h0
    by_cases c1 : v &&& (o ^^^ (-1)) = 0
    · rw [if_pos c1, if_neg (fun q => h0 ⟨c1, q⟩)]
    · rw [if_neg c1]
/-- the worst that was found -/
def IV (n m kk : Nat) (w : Int32) (r0 : Nat → Int32) (d : Nat) (b b' f : Int32) : Prop := (b' = -1 ∧ f = 9 ∧ ∀ s : Nat, s < d → ¬ (s &&& m = 0 ∧ pcN s = kk)) ∨ (b = b' ∧ 0 ≤ b'.toInt ∧ b'.toInt < 64 ∧ ∀ ρ : sg, RC ρ 0 r0 n → (fX4_holdingOpened b w ρ).1 = f)
theorem eqWorst {n m kk : Nat} {r0 : Nat → Int32} (hm : m < 64) (hb : ∀ s : Nat, s < 6 → r0 (4 + s) = i01 (m.testBit s)) {kv w : Int32} (hk9 : kk < 7) (hkv : kv = nI kk) (hw : 1 ≤ w.toInt ∧ w.toInt ≤ 100) : ∀ (k d : Nat) (b b' f v : Int32) (σ τ : sg), GG n σ τ → τ.1 0 = r0 → rF τ 2 = f → v.toInt = d → d ≤ 64 → 64 - d < k → IV n m kk w r0 d b b' f → GG n (LX4_worstSet_9 k kv w b f v σ).2 (LX5_worstOf_12 k (nI (63 ^^^ m)) kv w b' v τ).2 ∧ IV n m kk w r0 64 (LX4_worstSet_9 k kv w b f v σ).1 (LX5_worstOf_12 k (nI (63 ^^^ m)) kv w b' v τ).1 (rF (LX5_worstOf_12 k (nI (63 ^^^ m)) kv w b' v τ).2 2) ∧ (LX5_worstOf_12 k (nI (63 ^^^ m)) kv w b' v τ).2.1 0 = r0 := by
  intro k
  induction k with
  | zero => intro d b b' f v σ τ _ _ _ _ _ h; exact absurd h (Nat.not_lt_zero _)
  | succ k ih =>
    intro d b b' f v σ τ h h0 hf hv hd hk hI
    have n8 := h.2.1.1
    have k1 : (1 : Int32).toInt = 1 := rfl
    have k64 : (64 : Int32).toInt = 64 := rfl
    have k9 : (9 : Int32).toInt = 9 := rfl
    have hb0 : ∀ s : Nat, s < 6 → τ.1 0 (4 + s) = i01 (m.testBit s) := fun s hs => by rw [h0]; exact hb s hs
    rw [LX4_worstSet_9, LX5_worstOf_12]
    by_cases cc : 64 ≤ v
    · have := leI cc
      have ed : d = 64 := by omega
      rw [if_pos cc, if_pos cc]
      subst ed
      exact ⟨h, by rw [show rF (b', τ).2 2 = f from hf]; exact hI, h0⟩
    · have q := nleI cc
      have e1 := addI (x := v) (y := 1) (by omega) (by omega)
      have ev : v = nI d := vnI hv (by omega)
      have bc : fJ6_bitCount_0f7a4 v = fX5_bits v := by rw [ev]; exact bitC9 d (by omega)
      have pc : fX5_bits v = nI (pcN d) ∧ pcN d ≤ 6 := by rw [ev]; exact pcD9 d (by omega)
      have a1 : (v &&& nI m = 0) ↔ d &&& m = 0 := by rw [ev]; exact andD9 m hm d (by omega)
      have a2 : (v &&& (nI (63 ^^^ m) ^^^ (-1)) = 0) ↔ d &&& m = 0 := by rw [ev]; exact nanD9 m hm d (by omega)
      have a3 : fX5_bits v = kv ↔ pcN d = kk := by
        rw [pc.1, hkv]
        refine ⟨fun q => ?_, fun q => by rw [q]⟩
        have := eqI q
        rw [nI_toInt (by omega), nI_toInt (by omega)] at this
        omega
      have skip : ¬ (d &&& m = 0 ∧ pcN d = kk) → IV n m kk w r0 (d + 1) b b' f := fun hn => by
        rcases hI with ⟨i1, i2, i3⟩ | i
        · refine Or.inl ⟨i1, i2, fun s hs => ?_⟩
          by_cases c : s = d
          · subst c; exact hn
          · exact i3 s (by omega)
        · exact Or.inr i
      rw [if_neg cc, if_neg cc, open_is h.2 hm hb0, bc]
      by_cases c1 : d &&& m = 0
      · rw [if_pos (a1.mpr c1), if_pos (a2.mpr c1)]
        by_cases c2 : pcN d = kk
        · rw [if_pos (a3.mpr c2), if_pos (a3.mpr c2)]
          obtain ⟨y1, y2, y3, y4⟩ := with_eq h.2 (s := d) (by omega) ev hw
          have val : ∀ ρ : sg, RC ρ 0 r0 n → (fX4_holdingOpened v w ρ).1 = fX5_bits (fX5_holdingWith v w τ).1 := fun ρ hρ => by
            rw [← h0] at hρ
            exact (with_eq hρ (s := d) (by omega) ev hw).1
          have bd := bits_bd y4
          refine bnd2 (P := fun T U : Int32 × sg => GG n T.2 U.2 ∧ IV n m kk w r0 64 T.1 U.1 (rF U.2 2) ∧ U.2.1 0 = r0) (fun r s er es => ?_)
          rw [← er, ← es] at y1
          rw [← er] at y2
          rw [← es] at y3 val bd
          have gg : GG n r.2 s.2 := gg_fd h y2 y3
          have g0 : s.2.1 0 = r0 := (y3.1 0 (by decide) (by decide)).trans h0
          have f2 : rF s.2 2 = f := (congrFun y3.2 2).trans hf
          rw [y1, f2]
          by_cases c3 : f ≤ fX5_bits s.1
          · rw [if_pos c3, if_pos c3]
            refine ih (d + 1) b b' f (v + 1) r.2 s.2 gg g0 f2 (by omega) (by omega) (by omega) ?_
            rcases hI with ⟨i1, i2, i3⟩ | i
            · have := leI c3
              rw [i2] at this
              omega
            · exact Or.inr i
          · rw [if_neg c3, if_neg c3]
            refine bndR (P := fun T U : Int32 × sg => GG n T.2 U.2 ∧ IV n m kk w r0 64 T.1 U.1 (rF U.2 2) ∧ U.2.1 0 = r0) (fun t et => ?_)
            have gt : GG n r.2 t := gg_keep gg kd_rfl (by rw [et]; exact ⟨fun _ _ _ _ _ => rfl, sF_other (by decide), sF_other (by decide)⟩)
            exact ih (d + 1) v v (fX5_bits s.1) (v + 1) r.2 t gt (by rw [et]; exact g0) (by rw [et]; exact sF_same9) (by omega) (by omega) (by omega) (Or.inr ⟨rfl, by omega, by omega, val⟩)
        · rw [if_neg (fun y => c2 (a3.mp y)), if_neg (fun y => c2 (a3.mp y))]
          exact ih (d + 1) b b' f (v + 1) σ τ h h0 hf (by omega) (by omega) (by omega) (skip (fun y => c2 y.2))
      · rw [if_neg (fun y => c1 (a1.mp y)), if_neg (fun y => c1 (a2.mp y))]
        exact ih (d + 1) b b' f (v + 1) σ τ h h0 hf (by omega) (by omega) (by omega) (skip (fun y => c1 y.1))
/-- an enemy: why it can't be asked -/
theorem en3 {n m : Nat} {σ τ : sg} (h : GG n σ τ) (hm : m < 64) (e : rF σ (7 * 0 + 2) = nI m) (v w : Int32) : (fX4_refusalOfEnemy v w σ = -1000001 ∧ (fX5_within v 0 6 = 0 ∨ (fX5_within v 0 6 = 1 ∧ fX5_within w 1 100 = 0))) ∨ (fX4_refusalOfEnemy v w σ = -1000005 ∧ fX5_within v 0 6 = 1 ∧ fX5_within w 1 100 = 1 ∧ fX5_isTime w τ = 0) ∨ (fX5_within v 0 6 = 1 ∧ fX5_within w 1 100 = 1 ∧ fX5_isTime w τ = 1 ∧ 1 ≤ w.toInt ∧ w.toInt ≤ 100 ∧ ∃ kk : Nat, kk < 7 ∧ v = nI kk ∧ ((fX4_refusalOfEnemy v w σ = 0 ∧ kk + pcN m ≤ 6) ∨ (fX4_refusalOfEnemy v w σ = -1000004 ∧ 6 < kk + pcN m))) := by
  have k0 : (0 : Int32).toInt = 0 := rfl
  have k6 : (6 : Int32).toInt = 6 := rfl
  have k100 : (100 : Int32).toInt = 100 := rfl
  unfold fX4_refusalOfEnemy
  rw [within_eq, e]
  rcases within01 (v := v) (a := 0) (b := 6) with q | ⟨q, q2, q3⟩
  · rw [if_pos q.1]
    exact Or.inl ⟨rfl, Or.inl q.1⟩
  · rw [if_neg (show ¬ fX5_within v 0 6 = 0 by rw [q]; decide)]
    rcases ref3 h w 100 with ⟨p1, p2⟩ | ⟨p1, p2, p3⟩ | ⟨p1, p2, p3, p4, p5⟩
    · rw [p1, if_neg z51]
      exact Or.inl ⟨rfl, Or.inr ⟨q, p2⟩⟩
    · rw [p1, if_neg z55]
      exact Or.inr (Or.inl ⟨rfl, q, p2, p3⟩)
    · rw [if_pos p1]
      refine Or.inr (Or.inr ⟨q, p2, p3, p4, by omega, v.toInt.toNat, by omega, vnI (by omega) (by omega), ?_⟩)
      have bc : fJ6_bitCount_0f7a4 (nI m) = nI (pcN m) := (bitC9 m (by omega)).trans (pcD9 m hm).1
      have pm := (pcD9 m hm).2
      have e1 := nI_toInt (n := pcN m) (by omega)
      have e2 := subI (x := 6) (y := nI (pcN m)) (by omega) (by omega)
      rw [bc]
      by_cases c : v ≤ 6 - nI (pcN m)
      · have := leI c
        rw [if_pos c]
        exact Or.inl ⟨rfl, by omega⟩
      · have := nleI c
        rw [if_neg c]
        exact Or.inr ⟨rfl, by omega⟩
theorem wst0 {o kk w : Int32} {τ : sg} : fX5_worstOf o kk w τ = LX5_worstOf_12 65 o kk w (-1) 0 (sF9 τ 2 9) := by
  rw [fX5_worstOf]
  simp only [bx, bndE]
theorem set0 {v w : Int32} {σ : sg} : fX4_worstSet v w σ = LX4_worstSet_9 65 v w 0 9 0 σ := by
  rw [fX4_worstSet]
  simp only [bx]
theorem km_2 {τ : sg} {x : Int32} : KM τ (sF9 τ 2 x) := ⟨fun _ _ _ _ _ => rfl, sF_other (by decide), sF_other (by decide)⟩
/-- so many shutters aren't shut -/
theorem none_w {m kk : Nat} (hm : m < 64) (hk : kk < 7) (hi : 6 < kk + pcN m) {w : Int32} {τ : sg} : LX5_worstOf_12 65 (nI (63 ^^^ m)) (nI kk) w (-1) 0 (sF9 τ 2 9) = (-1, sF9 τ 2 9) := by
  have g := skipW (o := nI (63 ^^^ m)) (kk := nI kk) (w := w) (b := -1) (τ := sF9 τ 2 9) 64 1 0 0 rfl (by decide) (fun e h1 h2 => by
    rintro ⟨c1, c2⟩
    have a := (nanD9 m hm e (by omega)).mp c1
    have b := infD9 m hm e (by omega) a
    rw [(pcD9 e (by omega)).1] at c2
    have := eqI c2
    have := (pcD9 e (by omega)).2
    rw [nI_toInt (by omega), nI_toInt (by omega)] at *
    omega)
  rw [show 1 + 64 = 65 from rfl] at g
  rw [g, LX5_worstOf_12, if_pos (by decide)]
theorem m_enemy {σ τ : sg} (h : RG σ τ) (a b : Int32) : RR (fX4_enemy a b σ) (fX5_enemy a b τ) := by
  obtain ⟨n, hc⟩ := h.1
  have g0 : GG n σ τ := ⟨h, hc⟩
  have km1 : (-1 : Int32).toInt = -1 := rfl
  have k0 : (0 : Int32).toInt = 0 := rfl
  obtain ⟨m, hm, e, hb⟩ := open_m hc
  unfold fX4_enemy fX5_enemy fX5_isAhead
  simp only [bx]
  rw [lacks0, shut_m hm hb]
  rcases en3 g0 hm e a b with ⟨q1, q2 | ⟨q2, q3⟩⟩ | ⟨q1, q2, q3, q4⟩ | ⟨q2, q3, q4, q5, q6, kk, q7, q8, ⟨q1, q9⟩ | ⟨q1, q9⟩⟩
  · rw [q1, if_neg z51, if_pos q2]; exact rr0 h
  · rw [q1, if_neg z51, if_neg (show ¬ fX5_within a 0 6 = 0 by rw [q2]; decide), if_pos q3]; exact rr0 h
  · rw [q1, if_neg z55, if_neg (show ¬ fX5_within a 0 6 = 0 by rw [q2]; decide), if_neg (show ¬ fX5_within b 1 100 = 0 by rw [q3]; decide), lacks4 rfl q4, if_neg z40]; exact rr4 h
  · rw [if_pos q1, if_neg (show ¬ fX5_within a 0 6 = 0 by rw [q2]; decide), if_neg (show ¬ fX5_within b 1 100 = 0 by rw [q3]; decide), lacksN rfl q4, if_pos zm1]
    refine bndR (P := RR) (fun s es => ?_)
    have g := eqWorst hm hb q7 q8 ⟨q5, q6⟩ 65 0 0 (-1) 9 0 σ (sF9 τ 2 9) (gg_keep g0 kd_rfl km_2) rfl sF_same9 rfl (by decide) (by decide) (Or.inl ⟨rfl, rfl, fun s hs => absurd hs (Nat.not_lt_zero _)⟩)
    rw [← wst0, ← es, ← set0] at g
    obtain ⟨g1, g2, g3⟩ := g
    rcases g2 with ⟨i1, i2, i3⟩ | ⟨i1, i2, i3, i4⟩
    · exact absurd i3 (feaD9 m hm kk q7 q9)
    · rw [if_pos (leM0 i2)]
      exact ⟨i1, g1.1⟩
  · rw [q1, if_neg (show ¬ (-1000004 : Int32) = 0 by decide), if_neg (show ¬ fX5_within a 0 6 = 0 by rw [q2]; decide), if_neg (show ¬ fX5_within b 1 100 = 0 by rw [q3]; decide), lacksN rfl q4, if_pos zm1, wst0, q8, none_w hm q7 q9]
    simp only [bndE]
    rw [if_neg (by decide)]
    exact rr3 (rg_keep h kd_rfl km_2)
theorem m_worst {σ τ : sg} (h : RG σ τ) (a b : Int32) : RR (fX4_worst a b σ) (fX5_worst a b τ) := by
  obtain ⟨n, hc⟩ := h.1
  have g0 : GG n σ τ := ⟨h, hc⟩
  have km1 : (-1 : Int32).toInt = -1 := rfl
  have k0 : (0 : Int32).toInt = 0 := rfl
  obtain ⟨m, hm, e, hb⟩ := open_m hc
  unfold fX4_worst fX5_worst fX5_isAhead
  simp only [bx]
  rw [lacks0, shut_m hm hb]
  rcases en3 g0 hm e a b with ⟨q1, q2 | ⟨q2, q3⟩⟩ | ⟨q1, q2, q3, q4⟩ | ⟨q2, q3, q4, q5, q6, kk, q7, q8, ⟨q1, q9⟩ | ⟨q1, q9⟩⟩
  · rw [q1, if_neg z51, if_pos q2]; exact rr0 h
  · rw [q1, if_neg z51, if_neg (show ¬ fX5_within a 0 6 = 0 by rw [q2]; decide), if_pos q3]; exact rr0 h
  · rw [q1, if_neg z55, if_neg (show ¬ fX5_within a 0 6 = 0 by rw [q2]; decide), if_neg (show ¬ fX5_within b 1 100 = 0 by rw [q3]; decide), lacks4 rfl q4, if_neg z40]; exact rr4 h
  · rw [if_pos q1, if_neg (show ¬ fX5_within a 0 6 = 0 by rw [q2]; decide), if_neg (show ¬ fX5_within b 1 100 = 0 by rw [q3]; decide), lacksN rfl q4, if_pos zm1]
    refine bnd2 (P := RR) (fun r s er es => ?_)
    have g := eqWorst hm hb q7 q8 ⟨q5, q6⟩ 65 0 0 (-1) 9 0 σ (sF9 τ 2 9) (gg_keep g0 kd_rfl km_2) rfl sF_same9 rfl (by decide) (by decide) (Or.inl ⟨rfl, rfl, fun s hs => absurd hs (Nat.not_lt_zero _)⟩)
    rw [← wst0, ← es, ← set0, ← er] at g
    obtain ⟨g1, g2, g3⟩ := g
    rcases g2 with ⟨i1, i2, i3⟩ | ⟨i1, i2, i3, i4⟩
    · exact absurd i3 (feaD9 m hm kk q7 q9)
    · rw [if_pos (leM0 i2)]
      have hr : RC r.2 0 (τ.1 0) n := by rw [← show s.2.1 0 = τ.1 0 from g3]; exact g1.2
      refine ⟨i4 r.2 hr, ?_⟩
      have ev : r.1 = nI s.1.toInt.toNat := by rw [i1]; exact vnI (by omega) (by omega)
      have y := with_eq g1.2 (s := s.1.toInt.toNat) (by omega) ev (w := b) ⟨q5, q6⟩
      exact rg_keep g1.1 (fd_kd y.2.1) km_rfl
  · rw [q1, if_neg (show ¬ (-1000004 : Int32) = 0 by decide), if_neg (show ¬ fX5_within a 0 6 = 0 by rw [q2]; decide), if_neg (show ¬ fX5_within b 1 100 = 0 by rw [q3]; decide), lacksN rfl q4, if_pos zm1, wst0, q8, none_w hm q7 q9]
    simp only [bndE]
    rw [if_neg (by decide)]
    exact rr3 (rg_keep h kd_rfl km_2)
/-- all shut but one -/
def oth (m a : Nat) : Nat := (63 ^^^ m) &&& (63 ^^^ 2 ^ a)
theorem othD9 : ∀ m : Nat, m < 64 → ∀ a : Nat, a < 6 → (nI (63 ^^^ m)) &&& ((jshl 1 (nI a)) ^^^ (-1)) = nI (oth m a) ∧ oth m a < 64 := by decide +kernel
theorem othB9 : ∀ m : Nat, m < 64 → ∀ a : Nat, a < 6 → ∀ t : Nat, t < 6 → (oth m a).testBit t = (!decide (t = a) && !m.testBit t) := by decide +kernel
theorem oneB9 : ∀ o : Nat, o < 64 → ∀ t : Nat, t < 6 → ((nI (2 ^ t) &&& (nI o ^^^ (-1)) = 0) ↔ o.testBit t = true) := by decide +kernel
theorem powD9 : ∀ t : Nat, t < 6 → fX5_bits (nI (2 ^ t)) = 1 ∧ 2 ^ t < 64 ∧ 2 ^ t + (2 ^ t - 1) + 1 = 2 ^ (t + 1) ∧ 65 - 2 ^ t = (65 - 2 ^ (t + 1)) + (2 ^ t - 1) + 1 ∧ 2 ^ (t + 1) ≤ 64 ∧ 1 ≤ 2 ^ t := by decide +kernel
theorem betD9 : ∀ t : Nat, t < 6 → ∀ e : Nat, e < 64 → 2 ^ t < e → e < 2 ^ (t + 1) → ¬ fX5_bits (nI e) = 1 := by decide +kernel
theorem posD9 : ∀ e : Nat, e < 64 → 1 ≤ e → ¬ fX5_bits (nI e) = 0 := by decide +kernel
theorem bit0D9 : ∀ o : Nat, o < 64 → ((∀ t : Nat, t < 6 → o.testBit t = false) ↔ o = 0) := by decide +kernel
theorem eqBes {n m A : Nat} {r0 : Nat → Int32} (hm : m < 64) (hb : ∀ s : Nat, s < 6 → r0 (4 + s) = i01 (m.testBit s)) (hA : A < 6) {w : Int32} (hw : 1 ≤ w.toInt ∧ w.toInt ≤ 100) : ∀ (u t : Nat) (f b : Int32) (σ τ : sg), t + u = 6 → GG n σ τ → τ.1 0 = r0 → rF τ 2 = f → (f.toInt ≤ 8 ∨ (f = 9 ∧ ∀ x : Nat, x < t → (oth m A).testBit x = false)) → (LX4_worstBesides_6 (u + 1) (nI A) w f (nI t) σ).1 = rF (LX5_worstOf_12 (65 - 2 ^ t) (nI (oth m A)) 1 w b (nI (2 ^ t)) τ).2 2 ∧ GG n (LX4_worstBesides_6 (u + 1) (nI A) w f (nI t) σ).2 (LX5_worstOf_12 (65 - 2 ^ t) (nI (oth m A)) 1 w b (nI (2 ^ t)) τ).2 ∧ (LX5_worstOf_12 (65 - 2 ^ t) (nI (oth m A)) 1 w b (nI (2 ^ t)) τ).2.1 0 = r0 ∧ ((LX4_worstBesides_6 (u + 1) (nI A) w f (nI t) σ).1.toInt ≤ 8 ∨ ((LX4_worstBesides_6 (u + 1) (nI A) w f (nI t) σ).1 = 9 ∧ ∀ x : Nat, x < 6 → (oth m A).testBit x = false)) := by
  intro u
  induction u with
  | zero =>
    intro t f b σ τ ht h h0 hf hI
    have et : t = 6 := by omega
    subst et
    rw [show 65 - 2 ^ 6 = 0 + 1 from rfl, LX4_worstBesides_6, LX5_worstOf_12, if_pos (show (6 : Int32) ≤ nI 6 by decide), if_pos (show (64 : Int32) ≤ nI (2 ^ 6) by decide)]
    exact ⟨hf.symm, h, h0, hI⟩
  | succ u ih =>
    intro t f b σ τ ht h h0 hf hI
    have k6 : (6 : Int32).toInt = 6 := rfl
    have k64 : (64 : Int32).toInt = 64 := rfl
    have k1 : (1 : Int32).toInt = 1 := rfl
    have k9 : (9 : Int32).toInt = 9 := rfl
    have t6 : t < 6 := by omega
    have hb0 : ∀ s : Nat, s < 6 → τ.1 0 (4 + s) = i01 (m.testBit s) := fun s hs => by rw [h0]; exact hb s hs
    obtain ⟨p1, p2, p3, p4, p5, p6⟩ := powD9 t t6
    have et := nI_toInt (n := t) (by omega)
    have ep := nI_toInt (n := 2 ^ t) (by omega)
    have eA := nI_toInt (n := A) (by omega)
    have e1 := addI (x := nI t) (y := 1) (by omega) (by omega)
    have e2 := addI (x := nI (2 ^ t)) (y := 1) (by omega) (by omega)
    have et1 : nI t + 1 = nI (t + 1) := vnI (by omega) (by omega)
    have ob := othB9 m hm A hA t t6
    have o64 := (othD9 m hm A hA).2
    have q1 := oneB9 (oth m A) o64 t t6
    have sh : jshl 1 (nI t) = nI (2 ^ t) := (shlD9 t (by omega)).1
    have hs : fX4_has (rF σ (7 * 0 + 2)) (nI t) = i01 (m.testBit t) := by rw [open_is h.2 hm hb0]; exact hasD9 m (by omega) t (by omega)
    -- the sets between one shutter and the next
    have sk : ∀ (b : Int32) (τ : sg), LX5_worstOf_12 ((65 - 2 ^ (t + 1)) + (2 ^ t - 1)) (nI (oth m A)) 1 w b (nI (2 ^ t) + 1) τ = LX5_worstOf_12 (65 - 2 ^ (t + 1)) (nI (oth m A)) 1 w b (nI (2 ^ (t + 1))) τ := fun b τ => by
      have g := skipW (o := nI (oth m A)) (kk := 1) (w := w) (b := b) (τ := τ) (2 ^ t - 1) (65 - 2 ^ (t + 1)) (2 ^ t + 1) (nI (2 ^ t) + 1) (by omega) (by omega) (fun e h1 h2 => by
        rintro ⟨_, c2⟩
        exact betD9 t t6 e (by omega) (by omega) (by omega) c2)
      rw [show 2 ^ t + 1 + (2 ^ t - 1) = 2 ^ (t + 1) by omega] at g
      exact g
    rw [p4, LX4_worstBesides_6, LX5_worstOf_12, if_neg (fun q => by have := leI q; omega), if_neg (show ¬ (64 : Int32) ≤ nI (2 ^ t) from fun q => by have := leI q; omega), if_pos p1, sk, et1]
    by_cases c : (oth m A).testBit t = true
    · rw [if_pos (q1.mpr c)]
      rw [c] at ob
      have c1 : t ≠ A := fun q => by
        rw [decide_eq_true q] at ob
        exact absurd ob (by simp)
      have c2 : m.testBit t = false := by
        cases z : m.testBit t
        · rfl
        · rw [z] at ob
          exact absurd ob (by simp)
      rw [if_neg (show ¬ nI t = nI A from fun q => by have := eqI q; omega), hs, c2, if_pos (show i01 false = 0 from rfl), sh]
      obtain ⟨y1, y2, y3, y4⟩ := with_eq h.2 (s := 2 ^ t) p2 rfl hw
      have bd := bits_bd y4
      refine bnd2 (P := fun T U : Int32 × sg => T.1 = rF U.2 2 ∧ GG n T.2 U.2 ∧ U.2.1 0 = r0 ∧ (T.1.toInt ≤ 8 ∨ (T.1 = 9 ∧ ∀ x : Nat, x < 6 → (oth m A).testBit x = false))) (fun r s er es => ?_)
      rw [← er, ← es] at y1
      rw [← er] at y2
      rw [← es] at y3 bd
      have gg : GG n r.2 s.2 := gg_fd h y2 y3
      have g0 : s.2.1 0 = r0 := (y3.1 0 (by decide) (by decide)).trans h0
      have f2 : rF s.2 2 = f := (congrFun y3.2 2).trans hf
      rw [y1, f2]
      by_cases c3 : f ≤ fX5_bits s.1
      · have d3 := leI c3
        have ej : jmin f (fX5_bits s.1) = f := by
          unfold jmin
          rw [if_neg (fun q => by have := ltI q; omega)]
        rw [if_pos c3, ej, sk]
        exact ih (t + 1) f b r.2 s.2 (by omega) gg g0 f2 (Or.inl (by omega))
      · have d3 := nleI c3
        have ej : jmin f (fX5_bits s.1) = fX5_bits s.1 := by
          unfold jmin
          rw [if_pos (Int32.lt_iff_toInt_lt.mpr d3)]
        rw [if_neg c3, ej]
        refine bndR (P := fun T U : Int32 × sg => T.1 = rF U.2 2 ∧ GG n T.2 U.2 ∧ U.2.1 0 = r0 ∧ (T.1.toInt ≤ 8 ∨ (T.1 = 9 ∧ ∀ x : Nat, x < 6 → (oth m A).testBit x = false))) (fun x ex => ?_)
        rw [sk]
        have gt : GG n r.2 x := gg_keep gg kd_rfl (by rw [ex]; exact km_2)
        exact ih (t + 1) _ _ r.2 x (by omega) gt (by rw [ex]; exact g0) (by rw [ex]; exact sF_same9) (Or.inl (by omega))
    · rw [if_neg (fun q => c (q1.mp q))]
      have cf : (oth m A).testBit t = false := by
        cases z : (oth m A).testBit t
        · rfl
        · exact absurd z c
      have hI' : f.toInt ≤ 8 ∨ (f = 9 ∧ ∀ x : Nat, x < t + 1 → (oth m A).testBit x = false) := by
        rcases hI with i | ⟨i1, i2⟩
        · exact Or.inl i
        · refine Or.inr ⟨i1, fun x hx => ?_⟩
          by_cases c : x = t
          · subst c; exact cf
          · exact i2 x (by omega)
      have g := ih (t + 1) f b σ τ (by omega) h h0 hf hI'
      by_cases c1 : t = A
      · rw [if_pos (show nI t = nI A by rw [c1])]
        exact g
      · rw [cf, decide_eq_false c1] at ob
        have c2 : m.testBit t = true := by
          cases z : m.testBit t
          · rw [z] at ob
            exact absurd ob (by simp)
          · rfl
        rw [if_neg (show ¬ nI t = nI A from fun q => by have := eqI q; omega), hs, c2, if_neg (show ¬ i01 true = 0 by decide)]
        exact g
theorem bes0 {m A : Nat} (hm : m < 64) (hA : A < 6) {w : Int32} {σ : sg} (ho : rF σ (7 * 0 + 2) = nI m) (hz : ∀ x : Nat, x < 6 → (oth m A).testBit x = false) : ∀ (k d : Nat) (f v : Int32), v.toInt = d → d ≤ 6 → LX4_worstBesides_6 k (nI A) w f v σ = (f, σ) := by
  intro k
  induction k with
  | zero => intro d f v _ _; rfl
  | succ k ih =>
    intro d f v hv hd
    have k6 : (6 : Int32).toInt = 6 := rfl
    have k1 : (1 : Int32).toInt = 1 := rfl
    have eA := nI_toInt (n := A) (by omega)
    rw [LX4_worstBesides_6, ho]
    by_cases cc : 6 ≤ v
    · rw [if_pos cc]
    · have q := nleI cc
      have e1 := addI (x := v) (y := 1) (by omega) (by omega)
      have ob := othB9 m hm A hA d (by omega)
      rw [hz d (by omega)] at ob
      have g := ih (d + 1) f (v + 1) (by omega) (by omega)
      rw [if_neg cc]
      by_cases c1 : d = A
      · rw [if_pos (show v = nI A by rw [← c1]; exact vnI hv (by omega))]
        exact g
      · rw [decide_eq_false c1] at ob
        have c2 : m.testBit d = true := by
          cases z : m.testBit d
          · rw [z] at ob
            exact absurd ob (by simp)
          · rfl
        rw [if_neg (fun q => by have := eqI q; omega), vnI hv (by omega), hasD9 m (by omega) d (by omega), c2, if_neg (show ¬ i01 true = 0 by decide), ← vnI hv (by omega)]
        exact g
theorem bes_eq {n m A : Nat} {σ τ : sg} (h : GG n σ τ) (hm : m < 64) (hb : ∀ s : Nat, s < 6 → τ.1 0 (4 + s) = i01 (m.testBit s)) (hA : A < 6) {w : Int32} (hw : 1 ≤ w.toInt ∧ w.toInt ≤ 100) : (fX4_worstBesides (nI A) w σ).1 = rF (fX5_worstOf (nI (oth m A)) (if oth m A = 0 then 0 else 1) w τ).2 2 ∧ GG n (fX4_worstBesides (nI A) w σ).2 (fX5_worstOf (nI (oth m A)) (if oth m A = 0 then 0 else 1) w τ).2 ∧ (fX5_worstOf (nI (oth m A)) (if oth m A = 0 then 0 else 1) w τ).2.1 0 = τ.1 0 := by
  have k8 : (8 : Int32).toInt = 8 := rfl
  have k9 : (9 : Int32).toInt = 9 := rfl
  have o64 := (othD9 m hm A hA).2
  rw [wst0, fX4_worstBesides]
  simp only [bx]
  have gs : GG n σ (sF9 τ 2 9) := gg_keep h kd_rfl km_2
  by_cases c : oth m A = 0
  · have hz := (bit0D9 (oth m A) o64).mpr c
    rw [if_pos c, bes0 hm hA (open_is h.2 hm hb) hz 7 0 9 0 rfl (by decide)]
    simp only [bndE]
    rw [if_pos (show (8 : Int32) < 9 by decide), c]
    obtain ⟨y1, y2, y3, y4⟩ := with_eq gs.2 (s := 0) (by decide) (v := 0) (by decide) hw
    have bd := bits_bd y4
    rw [show LX5_worstOf_12 65 (nI 0) 0 w (-1) 0 (sF9 τ 2 9) = _ from LX5_worstOf_12.eq_2 .., if_neg (show ¬ (64 : Int32) ≤ 0 by decide), if_pos (show (0 : Int32) &&& (nI 0 ^^^ (-1)) = 0 by decide), if_pos (show fX5_bits 0 = 0 by decide)]
    refine wf_bnd (P := fun U : Int32 × sg => (fX4_holdingOpened 0 w σ).1 = rF U.2 2 ∧ GG n (fX4_holdingOpened 0 w σ).2 U.2 ∧ U.2.1 0 = τ.1 0) (fun r er => ?_)
    rw [← er] at y1 y3 bd
    have gr : GG n (fX4_holdingOpened 0 w σ).2 r.2 := gg_fd gs y2 y3
    have f2 : rF r.2 2 = 9 := (congrFun y3.2 2).trans sF_same9
    have r0 : r.2.1 0 = τ.1 0 := y3.1 0 (by decide) (by decide)
    rw [f2, if_neg (show ¬ (9 : Int32) ≤ fX5_bits r.1 from fun q => by have := leI q; omega)]
    refine wf_bnd (P := fun U : Int32 × sg => (fX4_holdingOpened 0 w σ).1 = rF U.2 2 ∧ GG n (fX4_holdingOpened 0 w σ).2 U.2 ∧ U.2.1 0 = τ.1 0) (fun x ex => ?_)
    have g := skipW (o := nI 0) (kk := 0) (w := w) (b := 0) (τ := x) 63 1 1 (0 + 1) (by decide) (by decide) (fun e h1 h2 => by
      rintro ⟨_, c2⟩
      exact posD9 e (by omega) h1 c2)
    rw [show 1 + 63 = 64 from rfl] at g
    rw [g, LX5_worstOf_12, if_pos (show (64 : Int32) ≤ nI 64 by decide)]
    refine ⟨?_, gg_keep gr kd_rfl (by show KM r.2 x; rw [ex]; exact km_2), ?_⟩
    · show (fX4_holdingOpened 0 w σ).1 = rF x 2
      rw [ex, sF_same9]
      exact y1
    · show x.1 0 = τ.1 0
      rw [ex]
      exact r0
  · rw [if_neg c]
    have g1 := skipW (o := nI (oth m A)) (kk := 1) (w := w) (b := -1) (τ := sF9 τ 2 9) 1 64 0 0 rfl (by decide) (fun e h1 h2 => by
      rintro ⟨_, c2⟩
      have e0 : e = 0 := by omega
      subst e0
      exact absurd c2 (by decide))
    rw [show 64 + 1 = 65 from rfl] at g1
    rw [g1]
    have g := eqBes hm hb hA hw 6 0 9 (-1) σ (sF9 τ 2 9) rfl gs rfl sF_same9 (Or.inr ⟨rfl, fun x hx => absurd hx (Nat.not_lt_zero _)⟩)
    rw [show nI 0 = 0 by decide] at g
    obtain ⟨g2, g3, g4, g5⟩ := g
    have g6 : (LX4_worstBesides_6 (6 + 1) (nI A) w 9 0 σ).1.toInt ≤ 8 := by
      rcases g5 with g5 | ⟨_, g5⟩
      · exact g5
      · exact absurd ((bit0D9 (oth m A) o64).mp g5) c
    refine wf_bnd (P := fun T : Int32 × sg => T.1 = rF (LX5_worstOf_12 64 (nI (oth m A)) 1 w (-1) (nI (0 + 1)) (sF9 τ 2 9)).2 2 ∧ GG n T.2 (LX5_worstOf_12 64 (nI (oth m A)) 1 w (-1) (nI (0 + 1)) (sF9 τ 2 9)).2 ∧ (LX5_worstOf_12 64 (nI (oth m A)) 1 w (-1) (nI (0 + 1)) (sF9 τ 2 9)).2.1 0 = τ.1 0) (fun r er => ?_)
    rw [← er] at g2 g3 g6
    rw [if_neg (show ¬ (8 : Int32) < r.1 from fun q => by have := ltI q; omega)]
    exact ⟨g2, g3, g4⟩
theorem shD9 : ∀ m : Nat, m < 64 → ∀ t : Nat, t < 6 → ((jshr (nI (63 ^^^ m)) (nI t)) &&& 1 = 1 ↔ i01 (m.testBit t) = 0) := by decide +kernel
theorem eqNail {n m : Nat} {r0 : Nat → Int32} (hm : m < 64) (hb : ∀ s : Nat, s < 6 → r0 (4 + s) = i01 (m.testBit s)) {w : Int32} (hw : 1 ≤ w.toInt ∧ w.toInt ≤ 100) : ∀ (k d : Nat) (b l v : Int32) (σ τ : sg), GG n σ τ → τ.1 0 = r0 → v.toInt = d → d ≤ 6 → 6 - d < k → (b.toInt = -1 ∨ 0 ≤ b.toInt) → RN n (LX4_nail_26 k w b l v σ) (LX5_nail_28 k w b l v τ) ∧ ((LX5_nail_28 k w b l v τ).1.toInt = -1 ∨ 0 ≤ (LX5_nail_28 k w b l v τ).1.toInt) := by
  intro k
  induction k with
  | zero => intro d b l v σ τ _ _ _ _ h; exact absurd h (Nat.not_lt_zero _)
  | succ k ih =>
    intro d b l v σ τ h h0 hv hd hk hI
    have k1 : (1 : Int32).toInt = 1 := rfl
    have k6 : (6 : Int32).toInt = 6 := rfl
    have hb0 : ∀ s : Nat, s < 6 → τ.1 0 (4 + s) = i01 (m.testBit s) := fun s hs => by rw [h0]; exact hb s hs
    rw [LX4_nail_26, LX5_nail_28, open_is h.2 hm hb0, shut_m hm hb0]
    by_cases cc : 6 ≤ v
    · rw [if_pos cc, if_pos cc]
      exact ⟨⟨rfl, h⟩, hI⟩
    · have q := nleI cc
      have e1 := addI (x := v) (y := 1) (by omega) (by omega)
      have ev : v = nI d := vnI hv (by omega)
      have hs : fX4_has (nI m) v = i01 (m.testBit d) := by rw [ev]; exact hasD9 m (by omega) d (by omega)
      have h1 : ((jshr (nI (63 ^^^ m)) v) &&& 1 = 1) ↔ i01 (m.testBit d) = 0 := by rw [ev]; exact shD9 m hm d (by omega)
      have ot : (nI (63 ^^^ m)) &&& ((jshl 1 v) ^^^ (-1)) = nI (oth m d) ∧ oth m d < 64 := by rw [ev]; exact othD9 m hm d (by omega)
      rw [if_neg cc, if_neg cc, hs]
      by_cases c : i01 (m.testBit d) = 0
      · rw [if_pos c, if_pos (h1.mpr c), ot.1]
        have g := bes_eq h hm hb0 (A := d) (by omega) hw
        rw [← ev] at g
        have fin : ∀ (T U : Int32 × sg), T.1 = rF U.2 2 → GG n T.2 U.2 → U.2.1 0 = r0 → RN n (if T.1 ≤ l then LX4_nail_26 k w b l (v + 1) T.2 else LX4_nail_26 k w v T.1 (v + 1) T.2) (if (rF U.2 2) ≤ l then LX5_nail_28 k w b l (v + 1) U.2 else LX5_nail_28 k w v (rF U.2 2) (v + 1) U.2) ∧ ((if (rF U.2 2) ≤ l then LX5_nail_28 k w b l (v + 1) U.2 else LX5_nail_28 k w v (rF U.2 2) (v + 1) U.2).1.toInt = -1 ∨ 0 ≤ (if (rF U.2 2) ≤ l then LX5_nail_28 k w b l (v + 1) U.2 else LX5_nail_28 k w v (rF U.2 2) (v + 1) U.2).1.toInt) := fun T U hT hg hu => by
          rw [hT]
          by_cases c2 : rF U.2 2 ≤ l
          · rw [if_pos c2, if_pos c2]
            exact ih (d + 1) b l (v + 1) _ _ hg hu (by omega) (by omega) (by omega) hI
          · rw [if_neg c2, if_neg c2]
            exact ih (d + 1) v _ (v + 1) _ _ hg hu (by omega) (by omega) (by omega) (Or.inr (by omega))
        by_cases c2 : oth m d = 0
        · rw [if_pos c2] at g
          rw [if_pos (show nI (oth m d) = 0 by rw [c2]; decide)]
          exact fin _ _ g.1 g.2.1 (g.2.2.trans h0)
        · rw [if_neg c2] at g
          rw [if_neg (show ¬ nI (oth m d) = 0 from fun q => by
            have z := eqI q
            rw [nI_toInt (by omega)] at z
            have k0 : (0 : Int32).toInt = 0 := rfl
            omega)]
          exact fin _ _ g.1 g.2.1 (g.2.2.trans h0)
      · rw [if_neg c, if_neg (fun q => c (h1.mp q))]
        exact ih (d + 1) b l (v + 1) σ τ h h0 (by omega) (by omega) (by omega) hI
theorem m_nail {σ τ : sg} (h : RG σ τ) (a : Int32) : RR (fX4_nail a σ) (fX5_nail a τ) := by
  obtain ⟨n, hc⟩ := h.1
  have g0 : GG n σ τ := ⟨h, hc⟩
  have k0 : (0 : Int32).toInt = 0 := rfl
  have km : (-1 : Int32).toInt = -1 := rfl
  have k100 : (100 : Int32).toInt = 100 := rfl
  unfold fX4_nail fX5_nail fX5_isAhead
  simp only [bx]
  rcases ref3 g0 a 100 with ⟨p1, p2⟩ | ⟨p1, p2, p3⟩ | ⟨p1, p2, p3, p4, p5⟩
  · rw [p1, if_neg z51, p2, lacks0, if_neg z00]; exact rr0 h
  · rw [p1, if_neg z55, lacks4 p2 p3, if_neg z40]; exact rr4 h
  · rw [if_pos p1, lacksN p2 p3, if_pos zm1]
    obtain ⟨m, hm, e, hb⟩ := open_m hc
    refine bnd2 (P := RR) (fun r s er es => ?_)
    obtain ⟨⟨g1, g2⟩, g3⟩ := eqNail hm hb (w := a) (by omega) 7 0 (-1) (-1) 0 σ τ g0 rfl rfl (by decide) (by decide) (Or.inl rfl)
    rw [← er, ← es] at g1 g2
    rw [← es] at g3
    rw [g1]
    by_cases c : s.1 = -1
    · rw [if_pos c, if_neg (fun q => by have := leI q; have := eqI c; omega)]
      exact rr3 g2.1
    · have c2 := neI c
      rw [if_neg c, if_pos (leM0 (by omega))]
      exact ⟨rfl, g2.1⟩
end EQ20
