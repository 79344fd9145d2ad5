section EQ8
/-- the two worlds say the same -/
def RG (σ τ : sg) : Prop :=
  (∃ n : Nat, RC σ 0 (τ.1 0) n) ∧
  (rF τ 0 = rF σ 21 ∧ (rF σ 21 = 0 ∨ rF σ 21 = 1) ∧ (rF σ 21 = 1 → ∃ n : Nat, RC σ 2 (τ.1 1) n)) ∧
  (rF σ 22 = rF τ 1 ∧ 0 ≤ (rF τ 1).toInt ∧ (rF τ 1).toInt ≤ 120 ∧ ∀ k : Nat, k < 120 → σ.1 24 k = τ.1 4 k ∧ 0 ≤ (τ.1 4 k).toInt ∧ (τ.1 4 k).toInt ≤ 255) ∧
  (∀ k : Nat, k < 7 → σ.1 29 k = τ.1 5 k) ∧
  (∀ s : Nat, s < 4 → rF σ (27 + 2 * s) = τ.1 7 s ∧ rF σ (28 + 2 * s) = τ.1 8 s ∧ 0 ≤ (τ.1 8 s).toInt ∧ (τ.1 8 s).toInt ≤ 40 ∧ ∀ i : Nat, i < 40 → σ.1 (25 + s) i = τ.1 9 (40 * s + i))
/-- what it sees of both is kept -/
def KD (σ ρ : sg) : Prop := (∀ b : Nat, b < 7 ∨ (16 ≤ b ∧ b < 23) ∨ (24 ≤ b ∧ b < 30) → ρ.1 b = σ.1 b) ∧ (∀ i : Nat, i < 7 ∨ (14 ≤ i ∧ i < 23) ∨ 27 ≤ i → rF ρ i = rF σ i)
def KM (τ ρ : sg) : Prop := (∀ b : Nat, b ≠ 2 → b ≠ 3 → b ≠ 6 → b ≠ 10 → ρ.1 b = τ.1 b) ∧ rF ρ 0 = rF τ 0 ∧ rF ρ 1 = rF τ 1
theorem kd_rfl {σ : sg} : KD σ σ := ⟨fun _ _ => rfl, fun _ _ => rfl⟩
theorem km_rfl {σ : sg} : KM σ σ := ⟨fun _ _ _ _ _ => rfl, rfl, rfl⟩
theorem kd_tr {σ ρ μ : sg} (h : KD σ ρ) (g : KD ρ μ) : KD σ μ := ⟨fun b hb => (g.1 b hb).trans (h.1 b hb), fun i hi => (g.2 i hi).trans (h.2 i hi)⟩
theorem km_tr {σ ρ μ : sg} (h : KM σ ρ) (g : KM ρ μ) : KM σ μ := ⟨fun b h1 h2 h3 h4 => (g.1 b h1 h2 h3 h4).trans (h.1 b h1 h2 h3 h4), g.2.1.trans h.2.1, g.2.2.trans h.2.2⟩
theorem fd_kd {σ ρ : sg} (h : FD 1 σ ρ) : KD σ ρ := ⟨fun b hb => h.1 b (by omega), fun i hi => h.2 i (by omega)⟩
theorem fm_km {τ ρ : sg} (h : FM 2 τ ρ) : KM τ ρ := ⟨fun b h1 _ h3 _ => h.1 b h1 h3, congrFun h.2 0, congrFun h.2 1⟩
theorem rc_at {σ ρ : sg} {j n : Nat} {r : Nat → Int32} (h : RC σ j r n) (g1 : ∀ t : Nat, t < 7 → ρ.1 (8 * j + t) = σ.1 (8 * j + t)) (g2 : ∀ t : Nat, t < 7 → rF ρ (7 * j + t) = rF σ (7 * j + t)) {r' : Nat → Int32} (e : r' = r) : RC ρ j r' n := by
  rw [e]; exact rc_cong h g1 g2
theorem rg_keep {σ τ σ' τ' : sg} (h : RG σ τ) (g : KD σ σ') (k : KM τ τ') : RG σ' τ' := by
  obtain ⟨⟨n, h1⟩, ⟨h2, h3, h4⟩, ⟨h5, h6, h7, h8⟩, h9, h10⟩ := h
  have k0 := k.1 0 (by decide) (by decide) (by decide) (by decide)
  have k1 := k.1 1 (by decide) (by decide) (by decide) (by decide)
  have k4 := k.1 4 (by decide) (by decide) (by decide) (by decide)
  have k5 := k.1 5 (by decide) (by decide) (by decide) (by decide)
  have k7 := k.1 7 (by decide) (by decide) (by decide) (by decide)
  have k8 := k.1 8 (by decide) (by decide) (by decide) (by decide)
  have k9 := k.1 9 (by decide) (by decide) (by decide) (by decide)
  refine ⟨⟨n, rc_at h1 (fun t ht => g.1 _ (by omega)) (fun t ht => g.2 _ (by omega)) k0⟩, ⟨?_, ?_, fun q => ?_⟩, ⟨?_, ?_, ?_, fun i hi => ?_⟩, fun i hi => ?_, fun s hs => ⟨?_, ?_, ?_, ?_, fun i hi => ?_⟩⟩
  · rw [k.2.1, g.2 21 (by omega)]; exact h2
  · rw [g.2 21 (by omega)]; exact h3
  · rw [g.2 21 (by omega)] at q
    obtain ⟨m, hm⟩ := h4 q
    exact ⟨m, rc_at hm (fun t ht => g.1 _ (by omega)) (fun t ht => g.2 _ (by omega)) k1⟩
  · rw [k.2.2, g.2 22 (by omega)]; exact h5
  · rw [k.2.2]; exact h6
  · rw [k.2.2]; exact h7
  · rw [k4, g.1 24 (by omega)]; exact h8 i hi
  · rw [k5, g.1 29 (by omega)]; exact h9 i hi
  · rw [k7, g.2 _ (by omega)]; exact (h10 s hs).1
  · rw [k8, g.2 _ (by omega)]; exact (h10 s hs).2.1
  · rw [k8]; exact (h10 s hs).2.2.1
  · rw [k8]; exact (h10 s hs).2.2.2.1
  · rw [k9, g.1 _ (by omega)]; exact (h10 s hs).2.2.2.2 i hi
/-- the living chancery has changed, nothing else -/
theorem rg_live {σ τ σ' τ' : sg} {n : Nat} (h : RG σ τ) (g : FD 0 σ σ') (k : FM 0 τ τ') (hr : RC σ' 0 (τ'.1 0) n) : RG σ' τ' := by
  obtain ⟨⟨_, h1⟩, ⟨h2, h3, h4⟩, ⟨h5, h6, h7, h8⟩, h9, h10⟩ := h
  have k1 := k.1 1 (by decide) (by decide)
  have k4 := k.1 4 (by decide) (by decide)
  have k5 := k.1 5 (by decide) (by decide)
  have k7 := k.1 7 (by decide) (by decide)
  have k8 := k.1 8 (by decide) (by decide)
  have k9 := k.1 9 (by decide) (by decide)
  have kf : ∀ i : Nat, rF τ' i = rF τ i := fun i => congrFun k.2 i
  refine ⟨⟨n, hr⟩, ⟨?_, ?_, fun q => ?_⟩, ⟨?_, ?_, ?_, fun i hi => ?_⟩, fun i hi => ?_, fun s hs => ⟨?_, ?_, ?_, ?_, fun i hi => ?_⟩⟩
  · rw [kf, g.2 21 (by omega)]; exact h2
  · rw [g.2 21 (by omega)]; exact h3
  · rw [g.2 21 (by omega)] at q
    obtain ⟨m, hm⟩ := h4 q
    exact ⟨m, rc_at hm (fun t ht => g.1 _ (by omega)) (fun t ht => g.2 _ (by omega)) k1⟩
  · rw [kf, g.2 22 (by omega)]; exact h5
  · rw [kf]; exact h6
  · rw [kf]; exact h7
  · rw [k4, g.1 24 (by omega)]; exact h8 i hi
  · rw [k5, g.1 29 (by omega)]; exact h9 i hi
  · rw [k7, g.2 _ (by omega)]; exact (h10 s hs).1
  · rw [k8, g.2 _ (by omega)]; exact (h10 s hs).2.1
  · rw [k8]; exact (h10 s hs).2.2.1
  · rw [k8]; exact (h10 s hs).2.2.2.1
  · rw [k9, g.1 _ (by omega)]; exact (h10 s hs).2.2.2.2 i hi
/-- answers alike, worlds alike -/
def RR (T U : Int32 × sg) : Prop := T.1 = U.1 ∧ RG T.2 U.2
theorem bx {x : Int32 × sg} : bnd x (fun r => (r.1, r.2)) = x := congrArg (fun z : Int32 × sg => z) (Eq.refl x)
theorem rr_found {σ τ : sg} (h : RG σ τ) {c w : Int32} {d : Nat} (hc : -1000001 - c = w) (hc2 : -1000001 - w = c) (hw : w.toInt = d) (hd : d < 7) : RR (fX4_found c σ) (fX5_finding w τ) := by
  have k6 : (6 : Int32).toInt = 6 := rfl
  have k0 : (0 : Int32).toInt = 0 := rfl
  rw [fX4_found, fX5_finding, hc]
  rw [if_neg (show ¬ fX4_isWithin w 0 6 = 0 by
    unfold fX4_isWithin
    rw [if_neg (fun q => by have := ltI q; omega), if_neg (fun q => by have := ltI q; omega)]
    decide)]
  refine bnd2 (P := RR) (fun r s er es => ?_)
  refine ⟨hc2.symm, ?_⟩
  obtain ⟨⟨n, h1⟩, ⟨h2, h3, h4⟩, ⟨h5, h6, h7, h8⟩, h9, h10⟩ := h
  show RG r s
  rw [er, es]
  refine ⟨⟨n, rc_at h1 (fun t ht => sA_other (by omega)) (fun t ht => rfl) (sA_other (by decide))⟩, ⟨h2, h3, fun q => ?_⟩, ⟨h5, h6, h7, fun i hi => ?_⟩, fun i hi => ?_, fun s hs => ⟨?_, ?_, ?_, ?_, fun i hi => ?_⟩⟩
  · obtain ⟨m, hm⟩ := h4 q
    exact ⟨m, rc_at hm (fun t ht => sA_other (by omega)) (fun t ht => rfl) (sA_other (by decide))⟩
  · rw [sA_other (by decide), sA_other (by decide)]; exact h8 i hi
  · rw [sAs hw, sAs hw, rAd hw, rAd hw, h9 d hd]
    by_cases e : i = d
    · subst e; rw [pk_us, pk_us]
    · rw [pk_un e, pk_un e]; exact h9 i hi
  · rw [sA_other (by decide)]; exact (h10 s hs).1
  · rw [sA_other (by decide)]; exact (h10 s hs).2.1
  · rw [sA_other (by decide)]; exact (h10 s hs).2.2.1
  · rw [sA_other (by decide)]; exact (h10 s hs).2.2.2.1
  · rw [sA_other (by omega), sA_other (by decide)]; exact (h10 s hs).2.2.2.2 i hi
theorem rr0 {σ τ : sg} (h : RG σ τ) : RR (fX4_found (-1000001) σ) (fX5_finding 0 τ) := rr_found h (d := 0) (by decide) (by decide) rfl (by decide)
theorem rr1 {σ τ : sg} (h : RG σ τ) : RR (fX4_found (-1000002) σ) (fX5_finding 1 τ) := rr_found h (d := 1) (by decide) (by decide) rfl (by decide)
theorem rr2 {σ τ : sg} (h : RG σ τ) : RR (fX4_found (-1000003) σ) (fX5_finding 2 τ) := rr_found h (d := 2) (by decide) (by decide) rfl (by decide)
theorem rr3 {σ τ : sg} (h : RG σ τ) : RR (fX4_found (-1000004) σ) (fX5_finding 3 τ) := rr_found h (d := 3) (by decide) (by decide) rfl (by decide)
theorem rr4 {σ τ : sg} (h : RG σ τ) : RR (fX4_found (-1000005) σ) (fX5_finding 4 τ) := rr_found h (d := 4) (by decide) (by decide) rfl (by decide)
theorem rr5 {σ τ : sg} (h : RG σ τ) : RR (fX4_found (-1000006) σ) (fX5_finding 5 τ) := rr_found h (d := 5) (by decide) (by decide) rfl (by decide)
theorem rr6 {σ τ : sg} (h : RG σ τ) : RR (fX4_found (-1000007) σ) (fX5_finding 6 τ) := rr_found h (d := 6) (by decide) (by decide) rfl (by decide)
theorem within_eq (v a b : Int32) : fX4_isWithin v a b = fX5_within v a b := rfl
theorem within01 {v a b : Int32} : (fX5_within v a b = 0 ∧ (v.toInt < a.toInt ∨ b.toInt < v.toInt)) ∨ (fX5_within v a b = 1 ∧ a.toInt ≤ v.toInt ∧ v.toInt ≤ b.toInt) := by
  unfold fX5_within
  by_cases c1 : v < a
  · rw [if_pos c1]
    exact Or.inl ⟨rfl, Or.inl (ltI c1)⟩
  · rw [if_neg c1]
    by_cases c2 : b < v
    · rw [if_pos c2]
      exact Or.inl ⟨rfl, Or.inr (ltI c2)⟩
    · rw [if_neg c2]
      exact Or.inr ⟨rfl, nltI c1, nltI c2⟩
theorem deed_eq {σ τ : sg} {n : Nat} (h : RC σ 0 (τ.1 0) n) (v : Int32) : fX0_isDeed 0 v σ = fX5_isDeed v τ := by
  obtain ⟨n8, n1, n2, n3⟩ := rc_n h
  unfold fX0_isDeed fX5_isDeed
  rw [n1, n2]
  rfl
/-- a deed is one of those that there are -/
theorem deed_n {τ σ : sg} {n : Nat} (h : RC σ 0 (τ.1 0) n) {v : Int32} (c : ¬ fX5_isDeed v τ = 0) : ∃ d : Nat, v.toInt = d ∧ d < n := by
  obtain ⟨n8, n1, n2, n3⟩ := rc_n h
  have k0 : (0 : Int32).toInt = 0 := rfl
  have k1 : (1 : Int32).toInt = 1 := rfl
  have e := subI (x := nI n) (y := 1) (by omega) (by omega)
  unfold fX5_isDeed at c
  rw [n1] at c
  rcases within01 (v := v) (a := 0) (b := nI n - 1) with ⟨a1, a2⟩ | ⟨a1, a2, a3⟩
  · exact absurd a1 c
  · exact ⟨v.toInt.toNat, by omega, by omega⟩
theorem late {σ τ : sg} {n : Nat} (h : RC σ 0 (τ.1 0) n) (v : Int32) : (fX4_isTooLate v σ = 0 ∧ fX5_isTime v τ = 1) ∨ (fX4_isTooLate v σ = 1 ∧ fX5_isTime v τ = 0) := by
  have e : rF σ (7 * 0 + 4) = rA τ 0 2 := rc_hour h
  unfold fX4_isTooLate fX5_isTime
  rw [e]
  by_cases c : rA τ 0 2 + v ≤ 9999
  · rw [if_pos c, if_neg (fun q => by have := leI c; have := ltI q; omega)]
    exact Or.inl ⟨rfl, rfl⟩
  · rw [if_neg c, if_pos (Int32.lt_iff_toInt_lt.mpr (nleI c))]
    exact Or.inr ⟨rfl, rfl⟩
theorem fm_A0 {τ : sg} {v x : Int32} {a : Nat} : FM a τ (sA τ a v x) := fm_A
theorem x_add {v : Int32} {a b : Int32} (h : a = b) : a + v = b + v := by rw [h]
end EQ8
