section EQ1
/-- a bit as an int -/
def i01 (b : Bool) : Int32 := if b = true then 1 else 0
/-- M is the set of those d below n for which p d is 1 -/
def MK (M : Int32) (n : Nat) (p : Nat → Int32) : Prop := ∃ m : Nat, m < 256 ∧ M = nI m ∧ ∀ d : Nat, d < 8 → i01 (m.testBit d) = if d < n then p d else 0
theorem hasD9 : ∀ m : Nat, m < 256 → ∀ d : Nat, d < 8 → fX4_has (nI m) (nI d) = i01 (m.testBit d) := by decide +kernel
theorem withD9 : ∀ m : Nat, m < 256 → ∀ d : Nat, d < 8 → fX4_with (nI m) (nI d) = nI (m ||| 2 ^ d) ∧ (m ||| 2 ^ d) < 256 := by decide +kernel
theorem withE9 : ∀ m : Nat, m < 256 → ∀ d : Nat, d < 8 → ∀ e : Nat, e < 8 → (m ||| 2 ^ d).testBit e = (m.testBit e || decide (e = d)) := by decide +kernel
theorem woutD9 : ∀ m : Nat, m < 256 → ∀ d : Nat, d < 8 → fX4_without (nI m) (nI d) = nI (m &&& (255 ^^^ 2 ^ d)) ∧ (m &&& (255 ^^^ 2 ^ d)) < 256 := by decide +kernel
theorem woutE9 : ∀ m : Nat, m < 256 → ∀ d : Nat, d < 8 → ∀ e : Nat, e < 8 → (m &&& (255 ^^^ 2 ^ d)).testBit e = (m.testBit e && !decide (e = d)) := by decide +kernel
theorem bitC9 : ∀ m : Nat, m < 256 → fJ6_bitCount_0f7a4 (nI m) = fX5_bits (nI m) := by decide +kernel
theorem i01_inj {a b : Bool} (h : i01 a = i01 b) : a = b := by
  cases a <;> cases b <;> first | rfl | exact absurd h (by decide)
theorem mk_has {M : Int32} {n : Nat} {p : Nat → Int32} (h : MK M n p) {v : Int32} {d : Nat} (hv : v.toInt = d) (hd : d < 8) : fX4_has M v = if d < n then p d else 0 := by
  obtain ⟨m, hm, rfl, hb⟩ := h
  have e : v = nI d := Int32.toInt.inj (by rw [hv, nI_toInt (by omega)])
  rw [e, hasD9 m hm d hd]
  exact hb d hd
theorem mk_uniq {M N : Int32} {n : Nat} {p : Nat → Int32} (h : MK M n p) (g : MK N n p) : M = N := by
  obtain ⟨m, hm, rfl, hb⟩ := h
  obtain ⟨k, hk, rfl, hc⟩ := g
  have e : m = k := by
    apply Nat.eq_of_testBit_eq
    intro i
    by_cases hi : i < 8
    · exact i01_inj ((hb i hi).trans (hc i hi).symm)
    · have q : (2 : Nat) ^ 8 ≤ 2 ^ i := Nat.pow_le_pow_right (by decide) (by omega)
      rw [Nat.testBit_lt_two_pow (Nat.lt_of_lt_of_le hm q), Nat.testBit_lt_two_pow (Nat.lt_of_lt_of_le hk q)]
  rw [e]
theorem mk_ext {M : Int32} {n : Nat} {p q : Nat → Int32} (h : MK M n p) (e : ∀ d : Nat, d < n → p d = q d) : MK M n q := by
  obtain ⟨m, hm, rfl, hb⟩ := h
  refine ⟨m, hm, rfl, fun d hd => ?_⟩
  rw [hb d hd]
  split
  · exact e d (by assumption)
  · rfl
theorem mk_0 (p : Nat → Int32) : MK 0 0 p := ⟨0, by decide, by decide, fun d _ => by rw [if_neg (by omega)]; exact (by rw [Nat.zero_testBit]; rfl)⟩
/-- a bit set within -/
theorem mk_with {M : Int32} {n : Nat} {p : Nat → Int32} (h : MK M n p) (hn : n ≤ 8) {v : Int32} {d : Nat} (hv : v.toInt = d) (hd : d < n) : MK (fX4_with M v) n (upd p d 1) := by
  obtain ⟨m, hm, rfl, hb⟩ := h
  have e : v = nI d := Int32.toInt.inj (by rw [hv, nI_toInt (by omega)])
  refine ⟨m ||| 2 ^ d, (withD9 m hm d (by omega)).2, by rw [e]; exact (withD9 m hm d (by omega)).1, fun c hc => ?_⟩
  rw [withE9 m hm d (by omega) c hc]
  by_cases q : c = d
  · subst q
    rw [if_pos hd, pk_us, decide_eq_true rfl, Bool.or_true]; rfl
  · rw [decide_eq_false q, Bool.or_false, hb c hc, pk_un q]
theorem mk_wout {M : Int32} {n : Nat} {p : Nat → Int32} (h : MK M n p) (hn : n ≤ 8) {v : Int32} {d : Nat} (hv : v.toInt = d) (hd : d < n) : MK (fX4_without M v) n (upd p d 0) := by
  obtain ⟨m, hm, rfl, hb⟩ := h
  have e : v = nI d := Int32.toInt.inj (by rw [hv, nI_toInt (by omega)])
  refine ⟨m &&& (255 ^^^ 2 ^ d), (woutD9 m hm d (by omega)).2, by rw [e]; exact (woutD9 m hm d (by omega)).1, fun c hc => ?_⟩
  rw [woutE9 m hm d (by omega) c hc]
  by_cases q : c = d
  · subst q
    rw [if_pos hd, pk_us, decide_eq_true rfl]
    cases m.testBit c <;> rfl
  · rw [decide_eq_false q, pk_un q]
    have : (m.testBit c && !false) = m.testBit c := by cases m.testBit c <;> rfl
    rw [this]
    exact hb c hc
/-- sets that grow one by one -/
theorem mk_grow1 {M : Int32} {d : Nat} {p : Nat → Int32} (h : MK M d p) {v : Int32} (hv : v.toInt = d) (hd : d < 8) (hp : p d = 1) : MK (fX4_with M v) (d + 1) p := by
  have h1 : MK M (d + 1) (upd p d 0) := by
    obtain ⟨m, hm, rfl, hb⟩ := h
    refine ⟨m, hm, rfl, fun c hc => ?_⟩
    rw [hb c hc]
    by_cases q : c = d
    · subst q
      rw [if_neg (by omega), if_pos (by omega), pk_us]
    · rw [pk_un q]
      by_cases g : c < d
      · rw [if_pos g, if_pos (by omega)]
      · rw [if_neg g, if_neg (by omega)]
  refine mk_ext (mk_with h1 (by omega) hv (by omega)) (fun c hc => ?_)
  by_cases q : c = d
  · subst q
    rw [pk_us, hp]
  · rw [pk_un q, pk_un q]
theorem mk_grow0 {M : Int32} {d : Nat} {p : Nat → Int32} (h : MK M d p) (hp : p d = 0) : MK M (d + 1) p := by
  obtain ⟨m, hm, rfl, hb⟩ := h
  refine ⟨m, hm, rfl, fun c hc => ?_⟩
  rw [hb c hc]
  by_cases q : c = d
  · subst q
    rw [if_neg (by omega), if_pos (by omega), hp]
  · by_cases g : c < d
    · rw [if_pos g, if_pos (by omega)]
    · rw [if_neg g, if_neg (by omega)]
theorem mk_bits {M : Int32} {n : Nat} {p : Nat → Int32} (h : MK M n p) : fJ6_bitCount_0f7a4 M = fX5_bits M := by
  obtain ⟨m, hm, rfl, hb⟩ := h
  exact bitC9 m hm
theorem mk_bd {M : Int32} {n : Nat} {p : Nat → Int32} (h : MK M n p) : 0 ≤ M.toInt ∧ M.toInt < 256 := by
  obtain ⟨m, hm, rfl, hb⟩ := h
  rw [nI_toInt (by omega)]
  omega
/-- where a table of deeds lies in a row, and what may stand there -/
def of9 (t : Nat) : Nat := if t = 4 then 72 else 32 + 8 * t
def BD (t d : Nat) (x : Int) : Prop := if t = 0 then 0 ≤ x ∧ x ≤ 6 else if t = 1 then 0 ≤ x ∧ x ≤ 5 else if t = 2 then 1 ≤ x ∧ x ≤ 99 else if t = 3 then 0 ≤ x ∧ x ≤ 99 else -1 ≤ x ∧ x < d
/-- a chancery of the class says what a row of the reference says -/
def RC (σ : sg) (j : Nat) (r : Nat → Int32) (n : Nat) : Prop :=
  (n ≤ 8 ∧ r 0 = nI n ∧ rF σ (7 * j + 1) = nI n) ∧
  (rF σ (7 * j + 5) = r 1 ∧ 0 ≤ (r 1).toInt ∧ (r 1).toInt ≤ 40) ∧
  rF σ (7 * j + 4) = r 2 ∧ rF σ (7 * j + 6) = r 3 ∧
  MK (rF σ (7 * j + 2)) 6 (fun s => r (4 + s)) ∧ MK (rF σ (7 * j + 3)) 6 (fun s => r (16 + s)) ∧ MK (rF σ (7 * j)) n (fun d => r (64 + d)) ∧
  (∀ s : Nat, s < 6 → σ.1 (8 * j + 5) s = r (10 + s) ∧ 0 ≤ (r (10 + s)).toInt ∧ (r (10 + s)).toInt ≤ 99) ∧
  (∀ k : Nat, k < 10 → σ.1 (8 * j + 6) k = r (22 + k) ∧ -1 ≤ (r (22 + k)).toInt ∧ (r (22 + k)).toInt < n) ∧
  (∀ t d : Nat, t < 5 → d < n → σ.1 (8 * j + t) d = r (of9 t + d) ∧ BD t d (r (of9 t + d)).toInt)
theorem rAd {σ : sg} {b d : Nat} {v : Int32} (hv : v.toInt = d) : rA σ b v = σ.1 b d := by
  have h := clI (i := v) (by omega)
  have e : v.toNatClampNeg = d := by omega
  show σ.1 b v.toNatClampNeg = _
  rw [e]
theorem sAd {σ : sg} {b d : Nat} {v x : Int32} (hv : v.toInt = d) : sA σ b v x = (va_up σ.1 b (upd (σ.1 b) d x), σ.2) := by
  have h := clI (i := v) (by omega)
  have e : v.toNatClampNeg = d := by omega
  show (va_up σ.1 b (upd (σ.1 b) v.toNatClampNeg x), σ.2) = _
  rw [e]
theorem sAs {σ : sg} {b d : Nat} {v x : Int32} (hv : v.toInt = d) : (sA σ b v x).1 b = upd (σ.1 b) d x := by
  rw [sAd hv]; exact va_up_self _ _ _
theorem of_ge {t : Nat} (ht : t < 5) : 32 ≤ of9 t := by unfold of9; split <;> omega
theorem of_sep {t u d e : Nat} (ht : t < 5) (hu : u < 5) (hd : d < 8) (he : e < 8) (h : of9 t + d = of9 u + e) : t = u ∧ d = e := by
  unfold of9 at h
  split at h <;> split at h <;> omega
theorem of_no64 {t d e : Nat} (ht : t < 5) (hd : d < 8) (he : e < 8) : of9 t + d ≠ 64 + e := by
  unfold of9
  split <;> omega
/-- a table's place is written on both sides -/
theorem rcT {σ τ : sg} {j a n : Nat} (h : RC σ j (τ.1 a) n) {t d : Nat} (ht : t < 5) (hd : d < n) {v i x : Int32} (hv : v.toInt = d) (hi : i.toInt = (of9 t + d : Nat)) (hb : BD t d x.toInt) : RC (sA σ (8 * j + t) v x) j ((sA τ a i x).1 a) n := by
  obtain ⟨h1, h2, h3, h4, h5, h6, h7, h8, h9, h10⟩ := h
  have h0 := of_ge ht
  rw [sAs hi, sAd hv]
  refine ⟨⟨h1.1, by rw [pk_un (by omega)]; exact h1.2.1, h1.2.2⟩, by rw [pk_un (by omega)]; exact h2, by rw [pk_un (by omega)]; exact h3, by rw [pk_un (by omega)]; exact h4, mk_ext h5 (fun s hs => (pk_un (by omega)).symm), mk_ext h6 (fun s hs => (pk_un (by omega)).symm), mk_ext h7 (fun c hc => (pk_un (fun q => of_no64 ht (show d < 8 by omega) (show c < 8 by omega) q.symm)).symm), fun s hs => ?_, fun k hk => ?_, fun u c hu hc => ?_⟩
  · rw [pk_un (by omega)]
    show va_up σ.1 (8 * j + t) _ (8 * j + 5) s = _ ∧ _
    rw [va_up_ne _ _ (by omega)]
    exact h8 s hs
  · rw [pk_un (by omega)]
    show va_up σ.1 (8 * j + t) _ (8 * j + 6) k = _ ∧ _
    rw [va_up_ne _ _ (by omega)]
    exact h9 k hk
  · show va_up σ.1 (8 * j + t) _ (8 * j + u) c = _ ∧ _
    by_cases q : u = t
    · subst q
      rw [va_up_self]
      by_cases g : c = d
      · subst g
        rw [pk_us, pk_us]; exact ⟨rfl, hb⟩
      · rw [pk_un g, pk_un (by omega)]; exact h10 u c hu hc
    · rw [va_up_ne _ _ (by omega), pk_un (fun g => q (of_sep hu ht (by omega) (by omega) g).1)]
      exact h10 u c hu hc
theorem rcG {σ τ : sg} {j a n : Nat} (h : RC σ j (τ.1 a) n) {t d : Nat} (ht : t < 5) (hd : d < n) {v i : Int32} (hv : v.toInt = d) (hi : i.toInt = (of9 t + d : Nat)) : rA σ (8 * j + t) v = rA τ a i ∧ BD t d (rA τ a i).toInt := by
  rw [rAd hv, rAd hi]
  exact h.2.2.2.2.2.2.2.2.2 t d ht hd
/-- what a call on one chancery leaves as it was -/
def FD (j : Nat) (σ ρ : sg) : Prop := (∀ b : Nat, b < 8 * j ∨ 8 * j + 8 ≤ b → ρ.1 b = σ.1 b) ∧ (∀ i : Nat, i < 7 * j ∨ 7 * j + 7 ≤ i → rF ρ i = rF σ i)
def FM (a : Nat) (τ ρ : sg) : Prop := (∀ b : Nat, b ≠ a → b ≠ 6 → ρ.1 b = τ.1 b) ∧ ρ.2 = τ.2
theorem fd_rfl {j : Nat} {σ : sg} : FD j σ σ := ⟨fun _ _ => rfl, fun _ _ => rfl⟩
theorem fm_rfl {a : Nat} {σ : sg} : FM a σ σ := ⟨fun _ _ _ => rfl, rfl⟩
theorem fd_tr {j : Nat} {σ ρ μ : sg} (h : FD j σ ρ) (g : FD j ρ μ) : FD j σ μ := ⟨fun b hb => (g.1 b hb).trans (h.1 b hb), fun i hi => (g.2 i hi).trans (h.2 i hi)⟩
theorem fm_tr {a : Nat} {σ ρ μ : sg} (h : FM a σ ρ) (g : FM a ρ μ) : FM a σ μ := ⟨fun b hb hc => (g.1 b hb hc).trans (h.1 b hb hc), g.2.trans h.2⟩
theorem fd_A {j t : Nat} {σ : sg} {v x : Int32} (ht : t < 8) : FD j σ (sA σ (8 * j + t) v x) := ⟨fun b hb => sA_other (by omega), fun _ _ => rfl⟩
theorem fd_F {j t : Nat} {σ : sg} {x : Int32} (ht : t < 7) : FD j σ (sF9 σ (7 * j + t) x) := ⟨fun b hb => rfl, fun i hi => sF_other (by omega)⟩
theorem fm_A {a : Nat} {σ : sg} {v x : Int32} : FM a σ (sA σ a v x) := ⟨fun b hb _ => sA_other hb, rfl⟩
theorem fm_6 {a : Nat} {σ : sg} {v x : Int32} : FM a σ (sA σ 6 v x) := ⟨fun b _ hb => sA_other hb, rfl⟩
/-- a chancery is not touched by what leaves it -/
theorem rc_cong {σ ρ : sg} {j n : Nat} {r : Nat → Int32} (h : RC σ j r n) (g1 : ∀ t : Nat, t < 7 → ρ.1 (8 * j + t) = σ.1 (8 * j + t)) (g2 : ∀ t : Nat, t < 7 → rF ρ (7 * j + t) = rF σ (7 * j + t)) : RC ρ j r n := by
  obtain ⟨h1, h2, h3, h4, h5, h6, h7, h8, h9, h10⟩ := h
  have e0 : rF ρ (7 * j) = rF σ (7 * j) := g2 0 (by decide)
  refine ⟨by rw [g2 1 (by decide)]; exact h1, by rw [g2 5 (by decide)]; exact h2, by rw [g2 4 (by decide)]; exact h3, by rw [g2 6 (by decide)]; exact h4, by rw [g2 2 (by decide)]; exact h5, by rw [g2 3 (by decide)]; exact h6, by rw [e0]; exact h7, fun s hs => by rw [g1 5 (by decide)]; exact h8 s hs, fun k hk => by rw [g1 6 (by decide)]; exact h9 k hk, fun t d ht hd => by rw [g1 t (by omega)]; exact h10 t d ht hd⟩
theorem rc_fd {σ ρ : sg} {j i n : Nat} {r : Nat → Int32} (h : RC σ i r n) (g : FD j σ ρ) (hij : i ≠ j) : RC ρ i r n :=
  rc_cong h (fun t ht => g.1 _ (by omega)) (fun t ht => g.2 _ (by omega))
end EQ1
