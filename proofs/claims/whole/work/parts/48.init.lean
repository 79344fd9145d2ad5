section IN9
theorem mk_z {n : Nat} {p : Nat → Int32} (h : ∀ d : Nat, d < n → p d = 0) : MK 0 n p := ⟨0, by decide, by decide, fun d _ => by
  rw [Nat.zero_testBit]
  by_cases q : d < n
  · rw [if_pos q, h d q]; rfl
  · rw [if_neg q]; rfl⟩
/-- the reference's rows, new -/
def iX5 (τ : sg) : Prop := (∀ i : Nat, τ.2 i = 0) ∧ (τ.1 0 1 = 15 ∧ τ.1 0 3 = 1 ∧ (∀ i : Nat, i < 10 → τ.1 0 (22 + i) = -1) ∧ ∀ i : Nat, i ≠ 1 → i ≠ 3 → (i < 22 ∨ 32 ≤ i) → τ.1 0 i = 0) ∧ ∀ a i : Nat, a ≠ 0 → τ.1 a i = 0
theorem init_RG {dC : Nat → ClassId} {dI : Nat → Nat → Nat} {cI : ClassId} {kp vp : Nat → Nat} {tp h0 : Nat} {G : gT} {σ τ : sg} (h : iX4 dC dI cI kp vp tp h0 G σ) (g : iX5 τ) : RG σ τ ∧ WD σ ∧ WM τ := by
  obtain ⟨-, -, -, -, -, -, -, hF, hA, h6⟩ := h
  obtain ⟨gF, ⟨g1, g3, g22, gz⟩, gA⟩ := g
  have hz : ∀ i : Nat, i ≠ 5 → i ≠ 12 → i ≠ 19 → i ≠ 6 → i ≠ 13 → i ≠ 20 → rF σ i = 0 := fun i a1 a2 a3 a4 a5 a6 => by
    show σ.2 i = 0
    rw [hF, if_neg (by omega), if_neg (by omega)]
  have z0 : (0 : Int32).toInt = 0 := by decide
  have n1 : (-1 : Int32).toInt = -1 := by decide
  have p15 : (15 : Int32).toInt = 15 := by decide
  have hR0 : RC σ 0 (τ.1 0) 0 := by
    refine ⟨⟨by decide, ?_, ?_⟩, ⟨?_, ?_, ?_⟩, ?_, ?_, ?_, ?_, ?_, fun s hs => ⟨?_, ?_⟩, fun k hk => ⟨?_, ?_⟩, fun t d _ hd => absurd hd (Nat.not_lt_zero _)⟩
    · rw [gz 0 (by decide) (by decide) (by decide)]; decide
    · rw [hz _ (by decide) (by decide) (by decide) (by decide) (by decide) (by decide)]; decide
    · rw [g1]; exact (hF 5).trans (if_pos (Or.inl rfl))
    · rw [g1]; decide
    · rw [g1]; decide
    · rw [hz _ (by decide) (by decide) (by decide) (by decide) (by decide) (by decide), gz 2 (by decide) (by decide) (by decide)]
    · rw [g3]; exact (hF 6).trans ((if_neg (by decide)).trans (if_pos (Or.inl rfl)))
    · rw [hz _ (by decide) (by decide) (by decide) (by decide) (by decide) (by decide)]
      exact mk_z (fun d hd => gz _ (by omega) (by omega) (by omega))
    · rw [hz _ (by decide) (by decide) (by decide) (by decide) (by decide) (by decide)]
      exact mk_z (fun d hd => gz _ (by omega) (by omega) (by omega))
    · rw [hz _ (by decide) (by decide) (by decide) (by decide) (by decide) (by decide)]; exact mk_z (fun d hd => absurd hd (Nat.not_lt_zero _))
    · rw [gz _ (by omega) (by omega) (by omega)]; exact hA _ _ (by decide) (by decide) (by decide)
    · rw [gz _ (by omega) (by omega) (by omega), z0]; decide
    · rw [g22 k hk]; exact (h6 k hk).1
    · rw [g22 k hk, n1]; decide
  refine ⟨⟨⟨0, hR0⟩, ⟨?_, Or.inl ?_, fun q => ?_⟩, ⟨?_, ?_, ?_, fun k hk => ⟨?_, ?_⟩⟩, fun k hk => ?_, fun s hs => ⟨?_, ?_, ?_, ?_, fun i hi => ?_⟩⟩, ⟨fun j hj => ?_, fun j hj i => ?_, ?_, fun k hk => ?_, ?_⟩, ⟨fun a ha => ?_, ?_, fun k => ?_, ?_, ?_⟩⟩
  · rw [hz 21 (by decide) (by decide) (by decide) (by decide) (by decide) (by decide)]; exact gF 0
  · exact hz 21 (by decide) (by decide) (by decide) (by decide) (by decide) (by decide)
  · rw [hz 21 (by decide) (by decide) (by decide) (by decide) (by decide) (by decide)] at q
    exact absurd q (by decide)
  · rw [hz 22 (by decide) (by decide) (by decide) (by decide) (by decide) (by decide)]; exact (gF 1).symm
  · rw [show rF τ 1 = 0 from gF 1, z0]; decide
  · rw [show rF τ 1 = 0 from gF 1, z0]; decide
  · rw [gA 4 k (by decide)]; exact hA _ _ (by decide) (by decide) (by decide)
  · rw [gA 4 k (by decide), z0]; decide
  · rw [gA 5 k (by decide)]; exact hA _ _ (by decide) (by decide) (by decide)
  · rw [gA 7 s (by decide)]; exact hz _ (by omega) (by omega) (by omega) (by omega) (by omega) (by omega)
  · rw [gA 8 s (by decide)]; exact hz _ (by omega) (by omega) (by omega) (by omega) (by omega) (by omega)
  · rw [gA 8 s (by decide), z0]; decide
  · rw [gA 8 s (by decide), z0]; decide
  · rw [gA 9 _ (by decide)]; exact hA _ _ (by omega) (by omega) (by omega)
  · rw [hz _ (by omega) (by omega) (by omega) (by omega) (by omega) (by omega), z0]; decide
  · rw [hA _ _ (by omega) (by omega) (by omega), z0]; decide
  · rw [hz 22 (by decide) (by decide) (by decide) (by decide) (by decide) (by decide), z0]; decide
  · rw [hz _ (by omega) (by omega) (by omega) (by omega) (by omega) (by omega), z0]; decide
  · rw [hz 24 (by decide) (by decide) (by decide) (by decide) (by decide) (by decide), z0]; decide
  · by_cases e : a = 0
    · subst e
      refine ⟨?_, fun d hd => ?_, fun d hd => ?_, fun k hk => ?_⟩
      · rw [gz 0 (by decide) (by decide) (by decide), z0]; decide
      · rw [gz _ (by omega) (by omega) (by omega), z0]; decide
      · rw [gz 0 (by decide) (by decide) (by decide), z0] at hd; omega
      · rw [g22 k hk, n1]; decide
    · refine ⟨?_, fun d hd => ?_, fun d hd => ?_, fun k hk => ?_⟩
      · rw [gA _ _ e, z0]; decide
      · rw [gA _ _ e, z0]; decide
      · rw [gA _ _ e, z0] at hd; omega
      · rw [gA _ _ e, z0]; decide
  · rw [show rF τ 1 = 0 from gF 1, z0]; decide
  · rw [gA 8 k (by decide), z0]; decide
  · rw [show rF τ 3 = 0 from gF 3, z0]; decide
  · rw [show rF τ 4 = 0 from gF 4, z0]; decide
end IN9
