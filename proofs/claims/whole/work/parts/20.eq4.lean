section EQ4
theorem ltM0 {w : Int32} (h : w.toInt < 0) : w < 0 := Int32.lt_iff_toInt_lt.mpr (by have k0 : (0 : Int32).toInt = 0 := rfl; omega)
theorem geM0 {w : Int32} (h : 0 ≤ w.toInt) : ¬ w < 0 := fun q => by have := ltI q; have k0 : (0 : Int32).toInt = 0 := rfl; omega
theorem leM0 {w : Int32} (h : 0 ≤ w.toInt) : 0 ≤ w := Int32.le_iff_toInt_le.mpr (by have k0 : (0 : Int32).toInt = 0 := rfl; omega)
theorem vnI {v : Int32} {d : Nat} (hv : v.toInt = d) (hd : d < 1000) : v = nI d := Int32.toInt.inj (by rw [hv, nI_toInt (by omega)])
theorem m1I {w : Int32} (h : w.toInt = -1) : w = -1 := Int32.toInt.inj (by rw [h]; rfl)
/-- deeds, what they hang on, a set of those that have run -/
def PC (σ : sg) (j : Nat) (M : Int32) (r : Nat → Int32) (n : Nat) : Prop := n ≤ 8 ∧ r 0 = nI n ∧ rF σ (7 * j + 1) = nI n ∧ MK M n (fun d => r (64 + d)) ∧ ∀ d : Nat, d < n → σ.1 (8 * j + 4) d = r (72 + d) ∧ -1 ≤ (r (72 + d)).toInt ∧ (r (72 + d)).toInt < d
theorem rc_pc {σ : sg} {j n : Nat} {r : Nat → Int32} (h : RC σ j r n) : PC σ j (rF σ (7 * j)) r n := by
  refine ⟨h.1.1, h.1.2.1, h.1.2.2, h.2.2.2.2.2.2.1, fun d hd => ?_⟩
  have q := h.2.2.2.2.2.2.2.2.2 4 d (by decide) hd
  unfold BD at q
  rw [if_neg (by decide), if_neg (by decide), if_neg (by decide), if_neg (by decide)] at q
  exact q
/-- what a row says of what hangs on what -/
def ON (r : Nat → Int32) (n : Nat) : Prop := n ≤ 8 ∧ r 0 = nI n ∧ ∀ d : Nat, d < n → -1 ≤ (r (72 + d)).toInt ∧ (r (72 + d)).toInt < d
theorem pc_on {σ : sg} {j n : Nat} {M : Int32} {r : Nat → Int32} (h : PC σ j M r n) : ON r n := ⟨h.1, h.2.1, fun d hd => (h.2.2.2.2 d hd).2⟩
theorem holdsN {a k : Nat} {w : Int32} {τ : sg} (h : w.toInt < 0) : LX5_holds_2 a k w τ = w := by
  cases k with
  | zero => rfl
  | succ k => rw [LX5_holds_2, if_pos (ltM0 h)]
theorem holdsF {a n : Nat} {τ : sg} (hon : ON (τ.1 a) n) : ∀ d : Nat, d < n → ∀ (k k' : Nat) (v : Int32), v.toInt = d → d < k → d < k' → LX5_holds_2 a k v τ = LX5_holds_2 a k' v τ := by
  intro d
  induction d using Nat.strongRecOn with
  | _ d ih =>
    intro hd k k' v hv h1 h2
    have n8 := hon.1
    cases k with
    | zero => exact absurd h1 (Nat.not_lt_zero _)
    | succ k =>
      cases k' with
      | zero => exact absurd h2 (Nat.not_lt_zero _)
      | succ k' =>
        have c0 : ¬ v < 0 := geM0 (by omega)
        rw [LX5_holds_2, LX5_holds_2, if_neg c0, if_neg c0]
        by_cases c1 : rA τ a (64 + v) = 0
        · have x := hon.2.2 d hd
          have e : rA τ a (72 + v) = τ.1 a (72 + d) := rAd (ixC hv (by omega) rfl (by decide))
          rw [if_pos c1, if_pos c1, e]
          by_cases c2 : (τ.1 a (72 + d)).toInt < 0
          · rw [holdsN c2, holdsN c2]
          · exact ih (τ.1 a (72 + d)).toInt.toNat (by omega) (by omega) k k' _ (by omega) (by omega) (by omega)
        · rw [if_neg c1, if_neg c1]
theorem holdsU {a : Nat} {v : Int32} {τ : sg} : fX5_holds a v τ = if 0 ≤ LX5_holds_2 a 9 v τ then 0 else 1 := by
  unfold fX5_holds
  simp only [bndE]
theorem holds01 {a : Nat} {v : Int32} {τ : sg} : fX5_holds a v τ = 0 ∨ fX5_holds a v τ = 1 := by
  rw [holdsU]
  split
  · exact Or.inl rfl
  · exact Or.inr rfl
theorem holds_rec {a n : Nat} {τ : sg} (hon : ON (τ.1 a) n) {v : Int32} {d : Nat} (hv : v.toInt = d) (hd : d < n) : fX5_holds a v τ = if τ.1 a (64 + d) = 0 then (if (τ.1 a (72 + d)).toInt < 0 then 1 else fX5_holds a (τ.1 a (72 + d)) τ) else 0 := by
  have n8 := hon.1
  have c0 : ¬ v < 0 := geM0 (by omega)
  have x := hon.2.2 d hd
  have e : rA τ a (72 + v) = τ.1 a (72 + d) := rAd (ixC hv (by omega) rfl (by decide))
  have e1 : rA τ a (64 + v) = τ.1 a (64 + d) := rAd (ixC hv (by omega) rfl (by decide))
  have s : LX5_holds_2 a 9 v τ = if τ.1 a (64 + d) = 0 then LX5_holds_2 a 8 (τ.1 a (72 + d)) τ else v := by
    rw [show LX5_holds_2 a 9 v τ = _ from LX5_holds_2.eq_2 .., if_neg c0, e, e1]
  rw [holdsU, s]
  by_cases c1 : τ.1 a (64 + d) = 0
  · rw [if_pos c1, if_pos c1]
    by_cases c2 : (τ.1 a (72 + d)).toInt < 0
    · rw [if_pos c2, holdsN c2, if_neg]
      intro q
      have := leI q
      have k0 : (0 : Int32).toInt = 0 := rfl
      omega
    · rw [if_neg c2, holdsU, holdsF hon (τ.1 a (72 + d)).toInt.toNat (by omega) 8 9 _ (by omega) (by omega) (by omega)]
  · rw [if_neg c1, if_neg c1, if_pos (leM0 (by omega))]
/-- the set of those whose peace holds -/
def pH (a : Nat) (τ : sg) : Nat → Int32 := fun d => fX5_holds a (nI d) τ
theorem pH_v {a : Nat} {τ : sg} {v : Int32} {d : Nat} (hv : v.toInt = d) (hd : d < 1000) : fX5_holds a v τ = pH a τ d := by
  rw [vnI hv hd]; rfl
theorem eqP {σ τ : sg} {j a n : Nat} {M : Int32} (h : PC σ j M (τ.1 a) n) : ∀ (k d : Nat) (set v : Int32), v.toInt = d → d ≤ n → n - d < k → MK set d (pH a τ) → MK (LX0_peaces_4 j k M set v σ) n (pH a τ) := by
  intro k
  induction k with
  | zero => intro d set v _ _ h; exact absurd h (Nat.not_lt_zero _)
  | succ k ih =>
    intro d set v hv hd hk hs
    obtain ⟨n8, n1, n2, hM, hon⟩ := h
    have n3 := nI_toInt (n := n) (by omega)
    have k1 : (1 : Int32).toInt = 1 := rfl
    rw [LX0_peaces_4, n2]
    by_cases cc : nI n ≤ v
    · rw [if_pos cc]
      have := leI cc
      have e : d = n := by omega
      rw [← e]; exact hs
    · have q := nleI cc
      have dn : d < n := by omega
      have e1 := addI (x := v) (y := 1) (by omega) (by omega)
      have x := hon d dn
      have hr := holds_rec (pc_on ⟨n8, n1, n2, hM, hon⟩) (v := nI d) (nI_toInt (by omega)) dn
      have b1 : fX4_has M v = τ.1 a (64 + d) := mk_has' hM n8 hv dn
      have g1 := ih (d + 1) (fX4_with set v) (v + 1) (by omega) (by omega) (by omega)
      have g0 := ih (d + 1) set (v + 1) (by omega) (by omega) (by omega)
      rw [if_neg cc, rAd hv, x.1, b1]
      by_cases c2 : (τ.1 a (72 + d)).toInt < 0
      · rw [if_pos (m1I (by omega))]
        rw [if_pos c2] at hr
        by_cases c1 : τ.1 a (64 + d) = 0
        · rw [if_pos c1] at hr ⊢
          exact g1 (mk_grow1 hs hv (by omega) hr)
        · rw [if_neg c1] at hr ⊢
          exact g0 (mk_grow0 hs hr)
      · have e9 : (τ.1 a (72 + d)).toInt = ((τ.1 a (72 + d)).toInt.toNat : Nat) := by omega
        have hb : fX4_has set (τ.1 a (72 + d)) = fX5_holds a (τ.1 a (72 + d)) τ := by
          rw [mk_has hs e9 (by omega), if_pos (by omega), pH_v e9 (by omega)]
        rw [if_neg (fun q => by have q2 := eqI q; have km : (-1 : Int32).toInt = -1 := rfl; omega), hb]
        rw [if_neg c2] at hr
        by_cases c1 : τ.1 a (64 + d) = 0
        · rw [if_pos c1] at hr
          by_cases c3 : fX5_holds a (τ.1 a (72 + d)) τ = 0
          · rw [if_pos c3]
            exact g0 (mk_grow0 hs (hr.trans c3))
          · rw [if_neg c3, if_pos c1]
            rcases holds01 (a := a) (v := τ.1 a (72 + d)) (τ := τ) with q0 | q1
            · exact absurd q0 c3
            · exact g1 (mk_grow1 hs hv (by omega) (hr.trans q1))
        · rw [if_neg c1] at hr
          by_cases c3 : fX5_holds a (τ.1 a (72 + d)) τ = 0
          · rw [if_pos c3]
            exact g0 (mk_grow0 hs hr)
          · rw [if_neg c3, if_neg c1]
            exact g0 (mk_grow0 hs hr)
theorem eqH {τ : sg} {a n : Nat} (n8 : n ≤ 8) (n1 : τ.1 a 0 = nI n) : ∀ (k d : Nat) (set v : Int32), v.toInt = d → d ≤ n → n - d < k → MK set d (pH a τ) → MK (LX5_holding_4 a k set v τ) n (pH a τ) := by
  intro k
  induction k with
  | zero => intro d set v _ _ h; exact absurd h (Nat.not_lt_zero _)
  | succ k ih =>
    intro d set v hv hd hk hs
    have n3 := nI_toInt (n := n) (by omega)
    have n4 : rA τ a 0 = nI n := n1
    have k1 : (1 : Int32).toInt = 1 := rfl
    rw [LX5_holding_4, n4]
    by_cases cc : nI n ≤ v
    · rw [if_pos cc]
      have := leI cc
      have e : d = n := by omega
      rw [← e]; exact hs
    · have q := nleI cc
      have e1 := addI (x := v) (y := 1) (by omega) (by omega)
      rw [if_neg cc, pH_v hv (by omega)]
      by_cases c : pH a τ d = 0
      · rw [if_pos c, Int32.or_zero]
        exact ih (d + 1) set (v + 1) (by omega) (by omega) (by omega) (mk_grow0 hs c)
      · rw [if_neg c]
        rcases holds01 (a := a) (v := nI d) (τ := τ) with q0 | q1
        · exact absurd q0 c
        · exact ih (d + 1) (fX4_with set v) (v + 1) (by omega) (by omega) (by omega) (mk_grow1 hs hv (by omega) q1)
theorem peaces_mk {σ τ : sg} {j a n : Nat} {M : Int32} (h : PC σ j M (τ.1 a) n) : MK (fX0_peaces j M σ) n (pH a τ) := by
  rw [fX0_peaces]
  refine wf_bnd (P := fun T => MK T n (pH a τ)) (fun r er => ?_)
  rw [er]
  have n8 := h.1
  exact eqP h 9 0 0 0 rfl (by omega) (by omega) (mk_0 _)
theorem holding_mk {τ : sg} {a n : Nat} (n8 : n ≤ 8) (n1 : τ.1 a 0 = nI n) : MK (fX5_holding a τ) n (pH a τ) := by
  rw [fX5_holding]
  refine wf_bnd (P := fun T => MK T n (pH a τ)) (fun r er => ?_)
  rw [er]
  exact eqH n8 n1 9 0 0 0 rfl (by omega) (by omega) (mk_0 _)
theorem peaces_eq {σ τ : sg} {j a n : Nat} {M : Int32} (h : PC σ j M (τ.1 a) n) : fX0_peaces j M σ = fX5_holding a τ := mk_uniq (peaces_mk h) (holding_mk h.1 h.2.1)
theorem peaceHolds_eq {σ τ : sg} {j a n : Nat} (h : RC σ j (τ.1 a) n) {v : Int32} {d : Nat} (hv : v.toInt = d) (hd : d < n) : fX0_peaceHolds j v σ = fX5_holds a v τ := by
  have n8 := h.1.1
  unfold fX0_peaceHolds
  rw [mk_has' (peaces_mk (rc_pc h)) n8 hv hd, pH_v hv (by omega)]
theorem jshl0 : ∀ d : Nat, d < 8 → jshl 0 (nI d) = 0 := by decide
theorem eqR {τ : sg} {a n : Nat} (n8 : n ≤ 8) (n1 : τ.1 a 0 = nI n) (h01 : ∀ d : Nat, d < n → τ.1 a (64 + d) = 0 ∨ τ.1 a (64 + d) = 1) : ∀ (k d : Nat) (set v : Int32), v.toInt = d → d ≤ n → n - d < k → MK set d (fun d => τ.1 a (64 + d)) → MK (LX5_ran_4 a k set v τ) n (fun d => τ.1 a (64 + d)) := by
  intro k
  induction k with
  | zero => intro d set v _ _ h; exact absurd h (Nat.not_lt_zero _)
  | succ k ih =>
    intro d set v hv hd hk hs
    have n3 := nI_toInt (n := n) (by omega)
    have n4 : rA τ a 0 = nI n := n1
    have k1 : (1 : Int32).toInt = 1 := rfl
    rw [LX5_ran_4, n4]
    by_cases cc : nI n ≤ v
    · rw [if_pos cc]
      have := leI cc
      have e : d = n := by omega
      rw [← e]; exact hs
    · have q := nleI cc
      have e1 := addI (x := v) (y := 1) (by omega) (by omega)
      rw [if_neg cc, rAd (ixC (c := 64) (C := 64) hv (by omega) rfl (by decide))]
      rcases h01 d (by omega) with c | c
      · rw [c, vnI hv (by omega), jshl0 d (by omega), Int32.or_zero, ← vnI hv (by omega)]
        exact ih (d + 1) set (v + 1) (by omega) (by omega) (by omega) (mk_grow0 hs c)
      · rw [c]
        exact ih (d + 1) (fX4_with set v) (v + 1) (by omega) (by omega) (by omega) (mk_grow1 hs hv (by omega) c)
theorem ran_eq {σ τ : sg} {j a n : Nat} (h : RC σ j (τ.1 a) n) : fX5_ran a τ = rF σ (7 * j) := by
  have n8 := h.1.1
  have q := h.2.2.2.2.2.2.1
  have g : MK (fX5_ran a τ) n (fun d => τ.1 a (64 + d)) := by
    rw [fX5_ran]
    refine wf_bnd (P := fun T => MK T n (fun d => τ.1 a (64 + d))) (fun r er => ?_)
    rw [er]
    exact eqR n8 h.1.2.1 (fun d hd => mk_01 q hd n8) 9 0 0 0 rfl (by omega) (by omega) (mk_0 _)
  exact mk_uniq g q
theorem eqSoft {σ τ : sg} {j a n : Nat} (h : RC σ j (τ.1 a) n) : ∀ (k d k' : Nat) (c v : Int32), v.toInt = d → d ≤ n → n - d < k → n - d < k' → LX0_softOfAll_4 j k c v σ = LX5_sumOf_5 a k' 56 (nI n) c v τ := by
  intro k
  induction k with
  | zero => intro d k' c v _ _ h; exact absurd h (Nat.not_lt_zero _)
  | succ k ih =>
    intro d k' c v hv hd hk hk'
    obtain ⟨n8, n1, n2, n3⟩ := rc_n h
    have k1 : (1 : Int32).toInt = 1 := rfl
    cases k' with
    | zero => exact absurd hk' (Nat.not_lt_zero _)
    | succ k' =>
      rw [LX0_softOfAll_4, LX5_sumOf_5, n2]
      by_cases cc : nI n ≤ v
      · rw [if_pos cc, if_pos cc]
      · have q := nleI cc
        have e1 := addI (x := v) (y := 1) (by omega) (by omega)
        rw [if_neg cc, if_neg cc, (rc_soft h (d := d) (by omega) hv).1]
        exact ih (d + 1) k' _ (v + 1) (by omega) (by omega) (by omega) (by omega)
theorem soft_all {σ τ : sg} {j a n : Nat} (h : RC σ j (τ.1 a) n) : fX0_softOfAll j σ = fX5_sumOf a 56 (rA τ a 0) τ := by
  obtain ⟨n8, n1, n2, n3⟩ := rc_n h
  rw [fX0_softOfAll, fX5_sumOf, n1]
  refine bnd2 (P := fun x y => x = y) (fun r s er es => ?_)
  rw [er, es]
  exact eqSoft h 9 0 9 0 0 rfl (by omega) (by omega) (by omega)
theorem eqIce {σ τ : sg} {j a n : Nat} (h : RC σ j (τ.1 a) n) : ∀ (k d k' : Nat) (c v : Int32), v.toInt = d → d ≤ 6 → 6 - d < k → 6 - d < k' → LX0_iceOfAll_4 j k c v σ = LX5_sumOf_5 a k' 10 6 c v τ := by
  intro k
  induction k with
  | zero => intro d k' c v _ _ h; exact absurd h (Nat.not_lt_zero _)
  | succ k ih =>
    intro d k' c v hv hd hk hk'
    have k1 : (1 : Int32).toInt = 1 := rfl
    have k6 : (6 : Int32).toInt = 6 := rfl
    cases k' with
    | zero => exact absurd hk' (Nat.not_lt_zero _)
    | succ k' =>
      rw [LX0_iceOfAll_4, LX5_sumOf_5]
      by_cases cc : 6 ≤ v
      · rw [if_pos cc, if_pos cc]
      · have q := nleI cc
        have e1 := addI (x := v) (y := 1) (by omega) (by omega)
        rw [if_neg cc, if_neg cc, (rc_ice h (d := d) (by omega) hv (ixC (c := 10) (C := 10) hv (by omega) rfl (by decide))).1]
        exact ih (d + 1) k' _ (v + 1) (by omega) (by omega) (by omega) (by omega)
theorem ice_all {σ τ : sg} {j a n : Nat} (h : RC σ j (τ.1 a) n) : fX0_iceOfAll j σ = fX5_sumOf a 10 6 τ := by
  rw [fX0_iceOfAll, fX5_sumOf]
  refine bnd2 (P := fun x y => x = y) (fun r s er es => ?_)
  rw [er, es]
  exact eqIce h 7 0 9 0 0 rfl (by omega) (by omega) (by omega)
theorem heatOf_eq {σ τ : sg} {j a n : Nat} (h : RC σ j (τ.1 a) n) {v hr : Int32} {d : Nat} (hv : v.toInt = d) (hd : d < 6) : fX0_heatOf j v hr σ = fX5_heatOf a v hr τ := by
  unfold fX0_heatOf
  exact heat_eq h hv hd
theorem eqHot {σ τ : sg} {j n : Nat} (h : RC σ j (τ.1 0) n) : ∀ (k d b : Nat) (c v : Int32), c.toInt = b → b < 6 → v.toInt = d → d ≤ 6 → 6 - d < k → LX0_hottest_4 j k c v σ = LX5_hottest_4 k c v τ := by
  intro k
  induction k with
  | zero => intro d b c v _ _ _ _ h; exact absurd h (Nat.not_lt_zero _)
  | succ k ih =>
    intro d b c v hc hb hv hd hk
    have k1 : (1 : Int32).toInt = 1 := rfl
    have k6 : (6 : Int32).toInt = 6 := rfl
    rw [LX0_hottest_4, LX5_hottest_4]
    by_cases cc : 6 ≤ v
    · rw [if_pos cc, if_pos cc]
    · have q := nleI cc
      have e1 := addI (x := v) (y := 1) (by omega) (by omega)
      rw [if_neg cc, if_neg cc, heatOf_eq h hv (by omega), heatOf_eq h hc hb, rc_hour h]
      by_cases c2 : fX5_heatOf 0 v (rA τ 0 2) τ ≤ fX5_heatOf 0 c (rA τ 0 2) τ
      · rw [if_pos c2, if_pos c2]
        exact ih (d + 1) b c (v + 1) hc hb (by omega) (by omega) (by omega)
      · rw [if_neg c2, if_neg c2]
        exact ih (d + 1) d v (v + 1) hv (by omega) (by omega) (by omega) (by omega)
theorem hottest_eq {σ τ : sg} {j n : Nat} (h : RC σ j (τ.1 0) n) : fX0_hottest j σ = fX5_hottest τ := by
  rw [fX0_hottest, fX5_hottest]
  refine bnd2 (P := fun x y => x = y) (fun r s er es => ?_)
  rw [er, es]
  exact eqHot h 7 1 0 0 1 rfl (by decide) rfl (by decide) (by decide)
theorem eqSpots {σ τ : sg} {j n : Nat} (h : RC σ j (τ.1 0) n) : ∀ (k d : Nat) (c v : Int32), v.toInt = d → d ≤ 10 → 10 - d < k → LX0_spotsHeld_4 j k c v σ = LX5_holdingSpots_4 k c v τ := by
  intro k
  induction k with
  | zero => intro d c v _ _ h; exact absurd h (Nat.not_lt_zero _)
  | succ k ih =>
    intro d c v hv hd hk
    have k1 : (1 : Int32).toInt = 1 := rfl
    have k10 : (10 : Int32).toInt = 10 := rfl
    have km : (-1 : Int32).toInt = -1 := rfl
    have k0 : (0 : Int32).toInt = 0 := rfl
    rw [LX0_spotsHeld_4, LX5_holdingSpots_4]
    by_cases cc : 10 ≤ v
    · rw [if_pos cc, if_pos cc]
    · have q := nleI cc
      have e1 := addI (x := v) (y := 1) (by omega) (by omega)
      have x := rc_spot h (d := d) (by omega) hv (ixC (c := 22) (C := 22) hv (by omega) rfl (by decide))
      rw [if_neg cc, if_neg cc, x.1]
      by_cases c2 : rA τ 0 (22 + v) = -1
      · have c3 := eqI c2
        rw [if_pos c2, if_neg (fun q => by have := leI q; omega), Int32.add_zero]
        exact ih (d + 1) c (v + 1) (by omega) (by omega) (by omega)
      · have c3 := neI c2
        rw [if_neg c2, if_pos (leM0 (by omega))]
        exact ih (d + 1) (c + 1) (v + 1) (by omega) (by omega) (by omega)
theorem spots_eq {σ τ : sg} {j n : Nat} (h : RC σ j (τ.1 0) n) : fX0_spotsHeld j σ = fX5_holdingSpots τ := by
  rw [fX0_spotsHeld, fX5_holdingSpots]
  refine bnd2 (P := fun x y => x = y) (fun r s er es => ?_)
  rw [er, es]
  exact eqSpots h 11 0 0 0 rfl (by decide) (by decide)
/-- what hangs on a deed: the reference's set has the deed itself in it -/
theorem eqHang {σ τ : sg} {j n : Nat} (h : RC σ j (τ.1 0) n) {D : Nat} {w : Int32} (hw : w.toInt = D) (hD : D < n) : ∀ (k d : Nat) (A B v : Int32) (p : Nat → Int32), v.toInt = d → D < d → d ≤ n → n - d < k → MK A n p → MK B n (upd p D 1) → p D = 0 → ∃ q : Nat → Int32, MK (LX0_hangingOn_6 j k w A v σ) n q ∧ MK (LX5_hang_22 k w B v τ) n (upd q D 1) ∧ q D = 0 := by
  intro k
  induction k with
  | zero => intro d A B v p _ _ _ h; exact absurd h (Nat.not_lt_zero _)
  | succ k ih =>
    intro d A B v p hv hDd hd hk hA hB hp
    obtain ⟨n8, n1, n2, n3⟩ := rc_n h
    have k1 : (1 : Int32).toInt = 1 := rfl
    have km : (-1 : Int32).toInt = -1 := rfl
    rw [LX0_hangingOn_6, LX5_hang_22, n2, n1]
    by_cases cc : nI n ≤ v
    · rw [if_pos cc, if_pos cc]
      exact ⟨p, hA, hB, hp⟩
    · have q := nleI cc
      have dn : d < n := by omega
      have e1 := addI (x := v) (y := 1) (by omega) (by omega)
      have x := rc_on h dn hv
      rw [if_neg cc, if_neg cc, x.1]
      have g0 := ih (d + 1) A B (v + 1) p (by omega) (by omega) (by omega) (by omega) hA hB hp
      have sw : upd (upd p d 1) D 1 = upd (upd p D 1) d 1 := by
        funext i
        by_cases q1 : i = d
        · subst q1
          rw [pk_us, pk_un (by omega), pk_us]
        · by_cases q2 : i = D
          · subst q2
            rw [pk_us, pk_un q1, pk_us]
          · rw [pk_un q2, pk_un q1, pk_un q1, pk_un q2]
      have g1 := ih (d + 1) (fX4_with A v) (fX4_with B v) (v + 1) (upd p d 1) (by omega) (by omega) (by omega) (by omega) (mk_with hA n8 hv dn) (by rw [sw]; exact mk_with hB n8 hv dn) (by rw [pk_un (by omega)]; exact hp)
      generalize rA τ 0 (72 + v) = o at x
      by_cases c2 : o < 0
      · have c3 := ltI c2
        have k0 : (0 : Int32).toInt = 0 := rfl
        rw [if_pos c2, if_neg (fun q => by have := eqI q; omega), if_pos (m1I (by omega)), Int32.or_zero]
        exact g0
      · have c3 := nltI c2
        have k0 : (0 : Int32).toInt = 0 := rfl
        have e9 : o.toInt = (o.toInt.toNat : Nat) := by omega
        have hb := mk_has' hB n8 e9 (by omega)
        have ha := mk_has' hA n8 e9 (by omega)
        rw [if_neg c2]
        by_cases c4 : o = w
        · have c5 := eqI c4
          have e8 : o.toInt.toNat = D := by omega
          rw [if_pos c4]
          rw [e8, pk_us] at hb
          rw [if_pos (show (jshr B o) &&& 1 = 1 by
            by_cases z : (jshr B o) &&& 1 = 1
            · exact z
            · unfold fX4_has at hb
              rw [if_neg z] at hb
              exact absurd hb (by decide))]
          exact g1
        · have c5 := neI c4
          have e8 : o.toInt.toNat ≠ D := by omega
          rw [pk_un e8] at hb
          rw [if_neg c4, if_neg (fun q => by have := eqI q; omega), ha]
          unfold fX4_has at hb
          by_cases z : (jshr B o) &&& 1 = 1
          · rw [if_pos z] at hb ⊢
            rw [← hb, if_neg (by decide)]
            exact g1
          · rw [if_neg z] at hb ⊢
            rw [← hb, if_pos rfl, Int32.or_zero]
            exact g0
theorem hang_eq {σ τ : sg} {j n : Nat} (h : RC σ j (τ.1 0) n) {w : Int32} {D : Nat} (hw : w.toInt = D) (hD : D < n) : fX0_hangingOn j w σ = (LX5_hang_22 9 w (jshl 1 w) (w + 1) τ) &&& ((jshl 1 w) ^^^ (-1)) := by
  have n8 := h.1.1
  have k1 : (1 : Int32).toInt = 1 := rfl
  have e1 := addI (x := w) (y := 1) (by omega) (by omega)
  have z0 : MK 0 n (fun _ => 0) := ⟨0, by decide, by decide, fun d _ => by rw [Nat.zero_testBit]; split <;> rfl⟩
  have z1 : MK (jshl 1 w) n (upd (fun _ => 0) D 1) := by
    have e : jshl 1 w = fX4_with 0 w := by
      unfold fX4_with
      rw [Int32.zero_or]
    rw [e]
    exact mk_with z0 n8 hw hD
  obtain ⟨q, g1, g2, g3⟩ := eqHang h hw hD 9 (D + 1) 0 (jshl 1 w) (w + 1) (fun _ => 0) (by omega) (by omega) (by omega) (by omega) z0 z1 rfl
  have g4 := mk_wout g2 n8 hw hD
  have e : fX0_hangingOn j w σ = LX0_hangingOn_6 j 9 w 0 (w + 1) σ := by
    unfold fX0_hangingOn
    simp only [bndE]
  rw [e]
  refine mk_uniq g1 (mk_ext g4 (fun d hd => ?_))
  by_cases c : d = D
  · subst c
    rw [pk_us, g3]
  · rw [pk_un c, pk_un c]
end EQ4
