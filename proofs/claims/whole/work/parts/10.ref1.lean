def rmX5_within : Room := { frames := 0, cells := 0, slots := 0, locals := 0 }
def fX5_within (v0 : Int32) (v1 : Int32) (v2 : Int32) : Int32 := (if v0 < v1 then 0 else (if v2 < v0 then 0 else 1))
theorem b01_X5_within (a b c : Int32) : fX5_within a b c = 0 ∨ fX5_within a b c = 1 := by
  unfold fX5_within
  split
  · exact Or.inl rfl
  · split
    · exact Or.inl rfl
    · exact Or.inr rfl
theorem wi_t {v a b : Int32} (h : ¬ fX5_within v a b = 0) : a.toInt ≤ v.toInt ∧ v.toInt ≤ b.toInt := by
  unfold fX5_within at h
  split at h
  · exact absurd rfl h
  · rename_i h1
    split at h
    · exact absurd rfl h
    · rename_i h2; exact ⟨nltI h1, nltI h2⟩
def rmX5_isShelf : Room := { frames := 1, cells := 0, slots := 0, locals := 22 }
def fX5_isShelf (v0 : Int32) : Int32 := (fX5_within v0 0 5)
theorem b01_X5_isShelf (a : Int32) : fX5_isShelf a = 0 ∨ fX5_isShelf a = 1 := by
  exact b01_X5_within _ _ _
theorem wiS_t {v : Int32} (h : ¬ fX5_isShelf v = 0) : 0 ≤ v.toInt ∧ v.toInt ≤ 5 := wi_t h
def rmX5_isKind : Room := { frames := 1, cells := 0, slots := 0, locals := 22 }
def fX5_isKind (v0 : Int32) : Int32 := (fX5_within v0 0 6)
theorem b01_X5_isKind (a : Int32) : fX5_isKind a = 0 ∨ fX5_isKind a = 1 := by
  exact b01_X5_within _ _ _
theorem wiK_t {v : Int32} (h : ¬ fX5_isKind v = 0) : 0 ≤ v.toInt ∧ v.toInt ≤ 6 := wi_t h
def rmX5_isSheet : Room := { frames := 1, cells := 0, slots := 0, locals := 22 }
def fX5_isSheet (v0 : Int32) : Int32 := (fX5_within v0 0 3)
theorem b01_X5_isSheet (a : Int32) : fX5_isSheet a = 0 ∨ fX5_isSheet a = 1 := by
  exact b01_X5_within _ _ _
theorem wiH_t {v : Int32} (h : ¬ fX5_isSheet v = 0) : 0 ≤ v.toInt ∧ v.toInt ≤ 3 := wi_t h
def rmX5_isAhead : Room := { frames := 1, cells := 0, slots := 0, locals := 22 }
def fX5_isAhead (v0 : Int32) : Int32 := (fX5_within v0 1 100)
theorem b01_X5_isAhead (a : Int32) : fX5_isAhead a = 0 ∨ fX5_isAhead a = 1 := by
  exact b01_X5_within _ _ _
theorem wiA_t {v : Int32} (h : ¬ fX5_isAhead v = 0) : 1 ≤ v.toInt ∧ v.toInt ≤ 100 := wi_t h
def rmX5_above : Room := { frames := 0, cells := 0, slots := 0, locals := 0 }
def fX5_above (v0 : Int32) : Int32 := (if v0 = 0 then (-1) else (if v0 = 1 then 0 else (if v0 = 2 then 0 else (if v0 = 3 then 2 else (if v0 = 4 then 1 else (if v0 = 5 then 0 else (if v0 = 6 then 5 else 0)))))))
def depK (x : Int32) : Nat := if x < 0 then 0 else if x = 0 then 1 else if x = 3 ∨ x = 4 ∨ x = 6 then 3 else 2
theorem depLt (x : Int32) : depK x < 4 := by unfold depK; repeat (first | split | omega)
theorem depDec {x : Int32} (h : 0 ≤ x.toInt) : depK (fX5_above x) < depK x := by
  have h1 : ¬ x < 0 := fun q => by have := ltI q; have k0 : (0 : Int32).toInt = 0 := rfl; omega
  unfold fX5_above
  by_cases c0 : x = 0
  · subst c0; decide
  · by_cases c3 : x = 3
    · subst c3; decide
    · by_cases c4 : x = 4
      · subst c4; decide
      · by_cases c6 : x = 6
        · subst c6; decide
        · simp only [if_neg c0, if_neg c3, if_neg c4, if_neg c6, ite_self]; unfold depK; simp [h1, c0, c3, c4, c6]
def rmX5_isUnder : Room := { frames := 1, cells := 0, slots := 0, locals := 20 }
def LX5_isUnder_2 : Nat → Int32 → Int32 → Int32
  | 0, v1, v2 => v2
  | k + 1, v1, v2 => (if v2 < 0 then v2 else (if v2 = v1 then v2 else LX5_isUnder_2 k v1 (fX5_above v2)))
def fX5_isUnder (v0 : Int32) (v1 : Int32) : Int32 := bnd (LX5_isUnder_2 4 v1 v0) (fun r7 => (if r7 < 0 then 0 else 1))
def rmX5_softer : Room := { frames := 1, cells := 0, slots := 0, locals := 21 }
def fX5_softer (v0 : Int32) (v1 : Int32) : Int32 := (jmax 0 (jmin 99 (v0 + v1)))
theorem bitsD : ∀ n : Nat, n < 256 → 0 < n → 0 ≤ (nI n &&& (nI n - 1)).toInt ∧ (nI n &&& (nI n - 1)).toInt < (nI n).toInt := by decide +kernel
theorem bitsDec {x : Int32} (h1 : 0 < x.toInt) (h2 : x.toInt < 256) : 0 ≤ (x &&& (x - 1)).toInt ∧ (x &&& (x - 1)).toInt < x.toInt := by
  obtain ⟨n, hn, rfl⟩ := nI_of (x := x) (fun q => by have := ltI q; have k0 : (0 : Int32).toInt = 0 := rfl; omega)
  have h3 := nI_toInt hn
  exact bitsD n (by omega) (by omega)
def rmX5_bits : Room := { frames := 0, cells := 0, slots := 0, locals := 0 }
def LX5_bits_4 : Nat → Int32 → Int32 → Int32
  | 0, v1, v2 => v1
  | k + 1, v1, v2 => (if v2 ≤ 0 then v1 else LX5_bits_4 k (v1 + 1) (v2 &&& (v2 - 1)))
def fX5_bits (v0 : Int32) : Int32 := bnd (LX5_bits_4 257 0 v0) (fun r4 => r4)
def rmX5_sunAt : Room := { frames := 1, cells := 0, slots := 0, locals := 21 }
def fX5_sunAt (v0 : Int32) : Int32 := (if (jrem v0 24) < 6 then 0 else (if (jrem v0 24) < 20 then (28 - (4 * (jabs ((jrem v0 24) - 13)))) else 0))
def rmX5_feels : Room := { frames := 0, cells := 0, slots := 0, locals := 0 }
def fX5_feels (v0 : Int32) (v1 : Int32) : Int32 := (if v0 = 5 then ((2 * v1) / 3) else (if v0 = 6 then ((2 * v1) / 3) else (if v0 = 4 then (v1 - 4) else v1)))
def rmX5_stands : Room := { frames := 0, cells := 0, slots := 0, locals := 0 }
def fX5_stands (v0 : Int32) (v1 : Int32) : Int32 := (if v0 = 2 then (v1 - 8) else (if v0 = 3 then (v1 - 8) else (if v0 = 6 then (v1 - 5) else v1)))
def rmX5_runsAt : Room := { frames := 0, cells := 0, slots := 0, locals := 0 }
def fX5_runsAt (v0 : Int32) : Int32 := (if v0 = 1 then 20 else (if v0 = 4 then 20 else (if v0 = 3 then 5 else 10)))
def rmX5_cut : Room := { frames := 0, cells := 0, slots := 0, locals := 0 }
def fX5_cut (v0 : Int32) (v1 : Int32) : Int32 := (if v1 = 8 then v0.toInt8.toInt32 else (if v1 = 16 then v0.toInt16.toInt32 else v0))
def rmX5_row : Room := { frames := 0, cells := 0, slots := 0, locals := 0 }
def LX5_row_2 (a0 : Nat) (a1 : Nat) : Nat → Int32 → sg → sg
  | 0, v2, σ => σ
  | k + 1, v2, σ => (if 80 ≤ v2 then σ else bnd (sA σ a1 v2 (rA σ a0 v2)) (fun s2 => LX5_row_2 a0 a1 k (v2 + 1) s2))
def fX5_row (a0 : Nat) (a1 : Nat) (σ : sg) : sg := bnd (LX5_row_2 a0 a1 81 0 σ) (fun r7 => r7)
theorem row_L {a b : Nat} (hab : a ≠ b) : ∀ (k : Nat) (v : Int32) (σ : sg), 0 ≤ v.toInt → v.toInt ≤ 80 → (80 - v.toInt).toNat < k → (∀ c, c ≠ b → (LX5_row_2 a b k v σ).1 c = σ.1 c) ∧ (LX5_row_2 a b k v σ).2 = σ.2 ∧ (∀ i : Nat, v.toInt ≤ i → i < 80 → (LX5_row_2 a b k v σ).1 b i = σ.1 a i) ∧ (∀ i : Nat, (i : Int) < v.toInt ∨ 80 ≤ i → (LX5_row_2 a b k v σ).1 b i = σ.1 b i) := by
  intro k
  induction k with
  | zero => intro v σ h0 h1 h; exact absurd h (Nat.not_lt_zero _)
  | succ k ih =>
    intro v σ h0 h1 h
    have k80 : (80 : Int32).toInt = 80 := rfl
    have k1 : (1 : Int32).toInt = 1 := rfl
    rw [LX5_row_2]
    split
    · rename_i c
      have := leI c
      exact ⟨fun _ _ => rfl, rfl, fun i h2 h3 => by omega, fun _ _ => rfl⟩
    · rename_i c
      have hc := nleI c
      have e1 := addI (x := v) (y := 1) (by omega) (by omega)
      have hcl := clI h0
      obtain ⟨q1, q2, q3, q4⟩ := ih (v + 1) (sA σ b v (rA σ a v)) (by omega) (by omega) (by omega)
      have es : (sA σ b v (rA σ a v)).1 b = upd (σ.1 b) v.toNatClampNeg (σ.1 a v.toNatClampNeg) := sA_same
      refine ⟨fun d hd => ?_, q2, fun i h2 h3 => ?_, fun i h2 => ?_⟩
      · exact (q1 d hd).trans (sA_other hd)
      · by_cases hi : i = v.toNatClampNeg
        · subst hi
          refine (q4 _ (Or.inl (by omega))).trans ?_
          rw [es, pk_us]
        · refine (q3 i (by omega) h3).trans ?_
          rw [sA_other hab]
      · refine (q4 i (by omega)).trans ?_
        rw [es, pk_un (by omega)]
theorem row_o {a b c : Nat} {σ : sg} (hab : a ≠ b) (hc : c ≠ b) : (fX5_row a b σ).1 c = σ.1 c := by
  rw [fX5_row.eq_1]
  exact wf_bnd (P := fun T : sg => T.1 c = σ.1 c) (fun r e => by rw [e]; exact (row_L hab 81 0 σ (by decide) (by decide) (by decide)).1 c hc)
theorem row_F {a b : Nat} {σ : sg} (hab : a ≠ b) : (fX5_row a b σ).2 = σ.2 := by
  rw [fX5_row.eq_1]
  exact wf_bnd (P := fun T : sg => T.2 = σ.2) (fun r e => by rw [e]; exact (row_L hab 81 0 σ (by decide) (by decide) (by decide)).2.1)
theorem row_c {a b : Nat} {σ : sg} (hab : a ≠ b) {i : Nat} (hi : i < 80) : (fX5_row a b σ).1 b i = σ.1 a i := by
  rw [fX5_row.eq_1]
  exact wf_bnd (P := fun T : sg => T.1 b i = σ.1 a i) (fun r e => by rw [e]; exact (row_L hab 81 0 σ (by decide) (by decide) (by decide)).2.2.1 i (by show (0 : Int) ≤ i; omega) hi)
theorem wX5_row (a : Nat) (ha : a < 4) (b : Nat) (hb : b < 4) {σ : sg} (h : WM σ) (hab : a ≠ b) : WM (fX5_row a b σ) := by
  have e : ∀ k, rF (fX5_row a b σ) k = rF σ k := fun k => by show (fX5_row a b σ).2 k = σ.2 k; rw [row_F hab]
  have ha2 := h.1 a ha
  refine ⟨fun c hc => ?_, by rw [e]; exact h.2.1, fun k => by rw [row_o hab (by omega)]; exact h.2.2.1 k, by rw [e]; exact h.2.2.2.1, by rw [e]; exact h.2.2.2.2⟩
  by_cases q : c = b
  · subst q
    have e0 : (fX5_row a c σ).1 c 0 = σ.1 a 0 := row_c hab (by decide)
    refine ⟨by rw [e0]; exact ha2.1, fun d hd => ?_, fun d hd => ?_, fun d hd => ?_⟩
    · rw [row_c hab (by omega)]; exact ha2.2.1 d hd
    · rw [e0] at hd
      have := ha2.1
      rw [row_c hab (by omega)]; exact ha2.2.2.1 d hd
    · rw [row_c hab (by omega)]; exact ha2.2.2.2 d hd
  · rw [row_o hab q]; exact h.1 c hc
theorem row0 {a b : Nat} {σ r : sg} (hab : a ≠ b) (e : r = fX5_row a b σ) : (rA r b 0).toInt = (rA σ a 0).toInt ∧ (rA r a 0).toInt = (rA σ a 0).toInt := by
  subst e
  have e1 : rA (fX5_row a b σ) b 0 = rA σ a 0 := row_c hab (by decide)
  have e2 : rA (fX5_row a b σ) a 0 = rA σ a 0 := by show (fX5_row a b σ).1 a 0 = σ.1 a 0; rw [row_o hab hab]
  rw [e1, e2]; exact ⟨rfl, rfl⟩
theorem many6 {σ s1 : sg} {a b : Nat} {i x : Int32} (e : s1 = sA σ a i x) (h : b ≠ a) : (rA s1 b 0).toInt = (rA σ b 0).toInt := by
  subst e; rw [rA6 h]
def rmX5_finding : Room := { frames := 0, cells := 0, slots := 0, locals := 0 }
def fX5_finding (v1 : Int32) (σ : sg) : Int32 × sg := bnd (sA σ 5 v1 ((rA σ 5 v1) + 1)) (fun s1 => (((-1000001) - v1), s1))
def rmX5_isDeed : Room := { frames := 1, cells := 0, slots := 0, locals := 22 }
def fX5_isDeed (v1 : Int32) (σ : sg) : Int32 := (fX5_within v1 0 ((rA σ 0 0) - 1))
theorem b01_X5_isDeed (a : Int32) (σ : sg) : fX5_isDeed a σ = 0 ∨ fX5_isDeed a σ = 1 := by
  exact b01_X5_within _ _ _
theorem wiD_t {σ : sg} (hw : WM σ) {v : Int32} (h : ¬ fX5_isDeed v σ = 0) : 0 ≤ v.toInt ∧ v.toInt < (rA σ 0 0).toInt ∧ (rA σ 0 0).toInt ≤ 8 := by
  have h1 := wi_t h
  have h2 := wm_many hw (show 0 < 4 by decide)
  have h4 : (1 : Int32).toInt = 1 := rfl
  have h5 : (0 : Int32).toInt = 0 := rfl
  have h3 := subI (x := rA σ 0 0) (y := 1) (by omega) (by omega)
  rw [h3] at h1
  omega
def rmX5_isTime : Room := { frames := 0, cells := 0, slots := 0, locals := 0 }
def fX5_isTime (v1 : Int32) (σ : sg) : Int32 := (if 9999 < ((rA σ 0 2) + v1) then 0 else 1)
theorem b01_X5_isTime (h : Int32) (σ : sg) : fX5_isTime h σ = 0 ∨ fX5_isTime h σ = 1 := by
  unfold fX5_isTime
  split
  · exact Or.inl rfl
  · exact Or.inr rfl
def rmX5_heatOf : Room := { frames := 2, cells := 0, slots := 0, locals := 42 }
def fX5_heatOf (a0 : Nat) (v1 : Int32) (v2 : Int32) (σ : sg) : Int32 := (if (rA σ a0 (4 + v1)) = 1 then (if (rA σ a0 (10 + v1)) ≤ 0 then (if (rA σ a0 (16 + v1)) = 1 then (((((rA σ a0 1) + (fX5_sunAt v2)) - (6 * v1)) - 0) + 12) else (((((rA σ a0 1) + (fX5_sunAt v2)) - (6 * v1)) - 0) + 0)) else (if (rA σ a0 (16 + v1)) = 1 then (((((rA σ a0 1) + (fX5_sunAt v2)) - (6 * v1)) - 10) + 12) else (((((rA σ a0 1) + (fX5_sunAt v2)) - (6 * v1)) - 10) + 0))) else (if (rA σ a0 (10 + v1)) ≤ 0 then (if (rA σ a0 (16 + v1)) = 1 then (((((rA σ a0 1) + ((fX5_sunAt v2) / 2)) - (6 * v1)) - 0) + 12) else (((((rA σ a0 1) + ((fX5_sunAt v2) / 2)) - (6 * v1)) - 0) + 0)) else (if (rA σ a0 (16 + v1)) = 1 then (((((rA σ a0 1) + ((fX5_sunAt v2) / 2)) - (6 * v1)) - 10) + 12) else (((((rA σ a0 1) + ((fX5_sunAt v2) / 2)) - (6 * v1)) - 10) + 0))))
def rmX5_drops : Room := { frames := 2, cells := 0, slots := 0, locals := 42 }
def LX5_drops_2 (a0 : Nat) : Nat → Int32 → Int32 → sg → sg
  | 0, v1, v2, σ => σ
  | k + 1, v1, v2, σ => (if (rA σ a0 0) ≤ v2 then σ else (if (rA σ a0 (40 + v2)) = v1 then (if (rA σ a0 (64 + v2)) = 0 then bnd (sA σ a0 (56 + v2) (fX5_softer (rA σ a0 (56 + v2)) 3)) (fun s11 => LX5_drops_2 a0 k v1 (v2 + 1) s11) else LX5_drops_2 a0 k v1 (v2 + 1) σ) else LX5_drops_2 a0 k v1 (v2 + 1) σ))
def fX5_drops (a0 : Nat) (v1 : Int32) (σ : sg) : sg := bnd (LX5_drops_2 a0 9 v1 0 σ) (fun r22 => r22)
def rmX5_anHour : Room := { frames := 3, cells := 0, slots := 0, locals := 66 }
def LX5_anHour_2 (a1 : Nat) : Nat → Int32 → sg → sg
  | 0, v2, σ => σ
  | k + 1, v2, σ => (if 6 ≤ v2 then σ else bnd (sA σ 6 v2 (fX5_heatOf a1 v2 (rA σ a1 2) σ)) (fun s2 => LX5_anHour_2 a1 k (v2 + 1) s2))
def LX5_anHour_32 (a1 : Nat) : Nat → Int32 → Int32 → sg → Int32 × sg
  | 0, v2, v3, σ => (v2, σ)
  | k + 1, v2, v3, σ => (if (rA σ a1 0) ≤ v3 then (v2, σ) else (if (rA σ a1 (64 + v3)) = 0 then (if ((fX5_feels (rA σ a1 (32 + v3)) (rA σ 6 (rA σ a1 (40 + v3)))) - (fX5_stands (rA σ a1 (32 + v3)) (rA σ a1 (48 + v3)))) ≤ 0 then bnd (sA σ a1 (56 + v3) (fX5_softer (rA σ a1 (56 + v3)) (-1))) (fun s23 => (if (rA s23 a1 (56 + v3)) < (fX5_runsAt (rA σ a1 (32 + v3))) then LX5_anHour_32 a1 k v2 (v3 + 1) s23 else bnd (sA s23 a1 (64 + v3) 1) (fun s29 => bnd (fX5_drops a1 ((rA s29 a1 (40 + v3)) + 1) s29) (fun r35 => LX5_anHour_32 a1 k (v2 + 1) (v3 + 1) r35)))) else bnd (sA σ a1 (56 + v3) (fX5_softer (rA σ a1 (56 + v3)) ((fX5_feels (rA σ a1 (32 + v3)) (rA σ 6 (rA σ a1 (40 + v3)))) - (fX5_stands (rA σ a1 (32 + v3)) (rA σ a1 (48 + v3)))))) (fun s41 => (if (rA s41 a1 (56 + v3)) < (fX5_runsAt (rA σ a1 (32 + v3))) then LX5_anHour_32 a1 k v2 (v3 + 1) s41 else bnd (sA s41 a1 (64 + v3) 1) (fun s47 => bnd (fX5_drops a1 ((rA s47 a1 (40 + v3)) + 1) s47) (fun r53 => LX5_anHour_32 a1 k (v2 + 1) (v3 + 1) r53))))) else LX5_anHour_32 a1 k v2 (v3 + 1) σ))
def LX5_anHour_156 (a1 : Nat) : Nat → Int32 → Int32 → sg → sg
  | 0, v2, v3, σ => σ
  | k + 1, v2, v3, σ => (if 6 ≤ v3 then σ else (if (rA σ 6 v3) ≤ 20 then bnd (sA σ a1 (10 + v3) ((rA σ a1 (10 + v3)) - 0)) (fun s71 => LX5_anHour_156 a1 k v2 (v3 + 1) s71) else (if (rA σ a1 (10 + v3)) ≤ 0 then bnd (sA σ a1 (10 + v3) ((rA σ a1 (10 + v3)) - 0)) (fun s77 => LX5_anHour_156 a1 k v2 (v3 + 1) s77) else bnd (sA σ a1 (10 + v3) ((rA σ a1 (10 + v3)) - 1)) (fun s82 => LX5_anHour_156 a1 k v2 (v3 + 1) s82))))
def fX5_anHour (a1 : Nat) (σ : sg) : Int32 × sg := bnd (LX5_anHour_2 a1 7 0 σ) (fun r9 => bnd (LX5_anHour_32 a1 9 0 0 r9) (fun r65 => bnd (LX5_anHour_156 a1 7 r65.1 0 r65.2) (fun r93 => bnd (sA r93 a1 2 ((rA r93 a1 2) + 1)) (fun s96 => (r65.1, s96)))))
theorem many_drL {a b : Nat} : ∀ (k : Nat) (v w : Int32) (σ : sg), 0 ≤ w.toInt → w.toInt + k < 1000 → rA (LX5_drops_2 a k v w σ) b 0 = rA σ b 0 := by
  intro k
  induction k with
  | zero => intro v w σ _ _; rfl
  | succ k ih =>
    intro v w σ h0 h1
    have k1 : (1 : Int32).toInt = 1 := rfl
    have k56 : (56 : Int32).toInt = 56 := rfl
    have e1 := addI (x := w) (y := 1) (by omega) (by omega)
    have e2 := addI (x := 56) (y := w) (by omega) (by omega)
    rw [LX5_drops_2]
    split
    · rfl
    · split
      · split
        · exact (ih v (w + 1) _ (by omega) (by omega)).trans (rA0 (by omega))
        · exact ih v (w + 1) _ (by omega) (by omega)
      · exact ih v (w + 1) _ (by omega) (by omega)
theorem many_dr {a b : Nat} (v : Int32) (σ : sg) : rA (fX5_drops a v σ) b 0 = rA σ b 0 := by
  rw [fX5_drops.eq_1]
  exact wf_bnd (P := fun T : sg => rA T b 0 = rA σ b 0) (fun r e => by rw [e]; exact many_drL 9 v 0 σ (by decide) (by decide))
theorem many_a2 {a b : Nat} (hb : b ≠ 6) : ∀ (k : Nat) (v : Int32) (σ : sg), rA (LX5_anHour_2 a k v σ) b 0 = rA σ b 0 := by
  intro k
  induction k with
  | zero => intro v σ; rfl
  | succ k ih =>
    intro v σ
    rw [LX5_anHour_2]
    split
    · rfl
    · exact (ih _ _).trans (rA6 hb)
theorem many_a32 {a b : Nat} : ∀ (k : Nat) (v w : Int32) (σ : sg), 0 ≤ w.toInt → w.toInt + k < 1000 → rA (LX5_anHour_32 a k v w σ).2 b 0 = rA σ b 0 := by
  intro k
  induction k with
  | zero => intro v w σ _ _; rfl
  | succ k ih =>
    intro v w σ h0 h1
    have k1 : (1 : Int32).toInt = 1 := rfl
    have k56 : (56 : Int32).toInt = 56 := rfl
    have k64 : (64 : Int32).toInt = 64 := rfl
    have e1 := addI (x := w) (y := 1) (by omega) (by omega)
    have e2 := addI (x := 56) (y := w) (by omega) (by omega)
    have e3 := addI (x := 64) (y := w) (by omega) (by omega)
    rw [LX5_anHour_32]
    split
    · rfl
    · split
      · split
        · refine wf_bnd (P := fun T : Int32 × sg => rA T.2 b 0 = rA σ b 0) (fun s1 q1 => ?_)
          have f1 : rA s1 b 0 = rA σ b 0 := by rw [q1]; exact rA0 (by omega)
          split
          · exact (ih _ _ _ (by omega) (by omega)).trans f1
          · refine wf_bnd (P := fun T : Int32 × sg => rA T.2 b 0 = rA σ b 0) (fun s2 q2 => ?_)
            have f2 : rA s2 b 0 = rA s1 b 0 := by rw [q2]; exact rA0 (by omega)
            exact (ih _ _ _ (by omega) (by omega)).trans ((many_dr _ _).trans (f2.trans f1))
        · refine wf_bnd (P := fun T : Int32 × sg => rA T.2 b 0 = rA σ b 0) (fun s1 q1 => ?_)
          have f1 : rA s1 b 0 = rA σ b 0 := by rw [q1]; exact rA0 (by omega)
          split
          · exact (ih _ _ _ (by omega) (by omega)).trans f1
          · refine wf_bnd (P := fun T : Int32 × sg => rA T.2 b 0 = rA σ b 0) (fun s2 q2 => ?_)
            have f2 : rA s2 b 0 = rA s1 b 0 := by rw [q2]; exact rA0 (by omega)
            exact (ih _ _ _ (by omega) (by omega)).trans ((many_dr _ _).trans (f2.trans f1))
      · exact ih _ _ _ (by omega) (by omega)
theorem many_a156 {a b : Nat} : ∀ (k : Nat) (v w : Int32) (σ : sg), 0 ≤ w.toInt → w.toInt + k < 1000 → rA (LX5_anHour_156 a k v w σ) b 0 = rA σ b 0 := by
  intro k
  induction k with
  | zero => intro v w σ _ _; rfl
  | succ k ih =>
    intro v w σ h0 h1
    have k1 : (1 : Int32).toInt = 1 := rfl
    have k10 : (10 : Int32).toInt = 10 := rfl
    have e1 := addI (x := w) (y := 1) (by omega) (by omega)
    have e2 := addI (x := 10) (y := w) (by omega) (by omega)
    rw [LX5_anHour_156]
    split
    · rfl
    · split
      · exact (ih _ _ _ (by omega) (by omega)).trans (rA0 (by omega))
      · split
        · exact (ih _ _ _ (by omega) (by omega)).trans (rA0 (by omega))
        · exact (ih _ _ _ (by omega) (by omega)).trans (rA0 (by omega))
theorem many_ah {a b : Nat} (hb : b ≠ 6) (σ : sg) : rA (fX5_anHour a σ).2 b 0 = rA σ b 0 := by
  rw [fX5_anHour.eq_1]
  refine wf_bnd (P := fun T : Int32 × sg => rA T.2 b 0 = rA σ b 0) (fun r1 e1 => ?_)
  refine wf_bnd (P := fun T : Int32 × sg => rA T.2 b 0 = rA σ b 0) (fun r2 e2 => ?_)
  refine wf_bnd (P := fun T : Int32 × sg => rA T.2 b 0 = rA σ b 0) (fun r3 e3 => ?_)
  refine wf_bnd (P := fun T : Int32 × sg => rA T.2 b 0 = rA σ b 0) (fun s4 e4 => ?_)
  show rA s4 b 0 = rA σ b 0
  have q1 : rA r1 b 0 = rA σ b 0 := by rw [e1]; exact many_a2 hb 7 0 σ
  have q2 : rA r2.2 b 0 = rA r1 b 0 := by rw [e2]; exact many_a32 9 0 0 r1 (by decide) (by decide)
  have q3 : rA r3 b 0 = rA r2.2 b 0 := by rw [e3]; exact many_a156 7 _ 0 _ (by decide) (by decide)
  rw [e4, rA0 (by decide), q3, q2, q1]
theorem manyA {a : Nat} {σ : sg} {r : Int32 × sg} (ha : a < 4) (e : r = fX5_anHour a σ) : (rA r.2 a 0).toInt = (rA σ a 0).toInt := by
  subst e; rw [many_ah (by omega)]
theorem manyA0 {a : Nat} {σ : sg} {r : Int32 × sg} (e : r = fX5_anHour a σ) : (rA r.2 0 0).toInt = (rA σ 0 0).toInt := by
  subst e; rw [many_ah (by omega)]
def rmX5_holds : Room := { frames := 0, cells := 0, slots := 0, locals := 0 }
def LX5_holds_2 (a0 : Nat) : Nat → Int32 → sg → Int32
  | 0, v2, σ => v2
  | k + 1, v2, σ => (if v2 < 0 then v2 else (if (rA σ a0 (64 + v2)) = 0 then LX5_holds_2 a0 k (rA σ a0 (72 + v2)) σ else v2))
def fX5_holds (a0 : Nat) (v1 : Int32) (σ : sg) : Int32 := bnd (LX5_holds_2 a0 9 v1 σ) (fun r10 => (if 0 ≤ r10 then 0 else 1))
theorem b01_X5_holds (a : Nat) (d : Int32) (σ : sg) : fX5_holds a d σ = 0 ∨ fX5_holds a d σ = 1 := by
  unfold fX5_holds
  refine wf_bnd (P := fun x : Int32 => x = 0 ∨ x = 1) (fun r _ => ?_)
  split
  · exact Or.inl rfl
  · exact Or.inr rfl
def rmX5_holding : Room := { frames := 1, cells := 0, slots := 0, locals := 22 }
def LX5_holding_4 (a0 : Nat) : Nat → Int32 → Int32 → sg → Int32
  | 0, v1, v2, σ => v1
  | k + 1, v1, v2, σ => (if (rA σ a0 0) ≤ v2 then v1 else (if (fX5_holds a0 v2 σ) = 0 then LX5_holding_4 a0 k (v1 ||| 0) (v2 + 1) σ else LX5_holding_4 a0 k (v1 ||| (jshl 1 v2)) (v2 + 1) σ))
def fX5_holding (a0 : Nat) (σ : sg) : Int32 := bnd (LX5_holding_4 a0 9 0 0 σ) (fun r10 => r10)
theorem orD : ∀ n : Nat, n < 256 → ∀ d : Nat, d < 8 → 0 ≤ (nI n ||| jshl 1 (nI d)).toInt ∧ (nI n ||| jshl 1 (nI d)).toInt < 256 := by decide +kernel
theorem orB {x d : Int32} (h1 : 0 ≤ x.toInt) (h2 : x.toInt < 256) (h3 : 0 ≤ d.toInt) (h4 : d.toInt < 8) : 0 ≤ (x ||| jshl 1 d).toInt ∧ (x ||| jshl 1 d).toInt < 256 := by
  have k0 : (0 : Int32).toInt = 0 := rfl
  obtain ⟨n, hn, rfl⟩ := nI_of (x := x) (fun q => by have := ltI q; omega)
  obtain ⟨m, hm, rfl⟩ := nI_of (x := d) (fun q => by have := ltI q; omega)
  have e1 := nI_toInt hn
  have e2 := nI_toInt hm
  exact orD n (by omega) m (by omega)
theorem holdL {a : Nat} {σ : sg} (hm : (rA σ a 0).toInt ≤ 8) : ∀ (k : Nat) (v w : Int32), 0 ≤ w.toInt → w.toInt + k < 1000 → 0 ≤ v.toInt → v.toInt < 256 → 0 ≤ (LX5_holding_4 a k v w σ).toInt ∧ (LX5_holding_4 a k v w σ).toInt < 256 := by
  intro k
  induction k with
  | zero => intro v w _ _ h2 h3; exact ⟨h2, h3⟩
  | succ k ih =>
    intro v w h0 h1 h2 h3
    have k1 : (1 : Int32).toInt = 1 := rfl
    have e1 := addI (x := w) (y := 1) (by omega) (by omega)
    rw [LX5_holding_4]
    split
    · exact ⟨h2, h3⟩
    · rename_i c
      have hc := nleI c
      split
      · have e0 : v ||| 0 = v := by simp
        rw [e0]
        exact ih _ _ (by omega) (by omega) h2 h3
      · have ho := orB h2 h3 h0 (by omega)
        exact ih _ _ (by omega) (by omega) ho.1 ho.2
theorem holdB {a : Nat} {σ : sg} (hw : WM σ) (ha : a < 4) : 0 ≤ (fX5_holding a σ).toInt ∧ (fX5_holding a σ).toInt < 256 := by
  rw [fX5_holding.eq_1]
  exact wf_bnd (P := fun T : Int32 => 0 ≤ T.toInt ∧ T.toInt < 256) (fun r e => by rw [e]; exact holdL (wm_many hw ha).2 9 0 0 (by decide) (by decide) (by decide) (by decide))
def rmX5_ran : Room := { frames := 0, cells := 0, slots := 0, locals := 0 }
def LX5_ran_4 (a0 : Nat) : Nat → Int32 → Int32 → sg → Int32
  | 0, v1, v2, σ => v1
  | k + 1, v1, v2, σ => (if (rA σ a0 0) ≤ v2 then v1 else LX5_ran_4 a0 k (v1 ||| (jshl (rA σ a0 (64 + v2)) v2)) (v2 + 1) σ)
def fX5_ran (a0 : Nat) (σ : sg) : Int32 := bnd (LX5_ran_4 a0 9 0 0 σ) (fun r7 => r7)
def rmX5_sumOf : Room := { frames := 0, cells := 0, slots := 0, locals := 0 }
def LX5_sumOf_5 (a0 : Nat) : Nat → Int32 → Int32 → Int32 → Int32 → sg → Int32
  | 0, v1, v2, v3, v4, σ => v3
  | k + 1, v1, v2, v3, v4, σ => (if v2 ≤ v4 then v3 else LX5_sumOf_5 a0 k v1 v2 (v3 + (rA σ a0 (v1 + v4))) (v4 + 1) σ)
def fX5_sumOf (a0 : Nat) (v1 : Int32) (v2 : Int32) (σ : sg) : Int32 := bnd (LX5_sumOf_5 a0 9 v1 v2 0 0 σ) (fun r6 => r6)
def rmX5_holdingBehind : Room := { frames := 4, cells := 0, slots := 0, locals := 91 }
def LX5_holdingBehind_2 : Nat → Int32 → Int32 → sg → sg
  | 0, v1, v2, σ => σ
  | k + 1, v1, v2, σ => (if v1 ≤ v2 then σ else bnd (fX5_anHour 2 σ) (fun r2 => LX5_holdingBehind_2 k v1 (v2 + 1) r2.2))
def fX5_holdingBehind (v1 : Int32) (σ : sg) : Int32 × sg := bnd (LX5_holdingBehind_2 101 v1 0 σ) (fun r8 => ((fX5_holding 2 r8), r8))
theorem hbE {σ : sg} {h : Int32} {r : Int32 × sg} (e : r = fX5_holdingBehind h σ) : r.1 = fX5_holding 2 r.2 := by
  rw [e, fX5_holdingBehind.eq_1]
  exact wf_bnd (P := fun T : Int32 × sg => T.1 = fX5_holding 2 T.2) (fun r _ => rfl)
theorem hbB {σ : sg} {h : Int32} {r : Int32 × sg} (hw : WM r.2) (e : r = fX5_holdingBehind h σ) : 0 ≤ r.1.toInt ∧ r.1.toInt < 256 := by
  have e1 : r.1 = fX5_holding 2 r.2 := hbE e
  rw [e1]
  exact holdB hw (by decide)
theorem hbmL : ∀ (k : Nat) (v w : Int32) (σ : sg) (b : Nat), b ≠ 6 → rA (LX5_holdingBehind_2 k v w σ) b 0 = rA σ b 0 := by
  intro k
  induction k with
  | zero => intro v w σ b _; rfl
  | succ k ih =>
    intro v w σ b hb
    rw [LX5_holdingBehind_2]
    split
    · rfl
    · exact (ih _ _ _ b hb).trans (many_ah hb σ)
theorem hbm {σ : sg} {h : Int32} {r : Int32 × sg} (e : r = fX5_holdingBehind h σ) : (rA r.2 0 0).toInt = (rA σ 0 0).toInt ∧ (rA r.2 2 0).toInt = (rA σ 2 0).toInt := by
  subst e
  have e1 : ∀ b : Nat, b ≠ 6 → rA (fX5_holdingBehind h σ).2 b 0 = rA σ b 0 := fun b hb => by
    rw [fX5_holdingBehind.eq_1]
    exact wf_bnd (P := fun T : Int32 × sg => rA T.2 b 0 = rA σ b 0) (fun r e => by show rA r b 0 = rA σ b 0; rw [e]; exact hbmL 101 h 0 σ b hb)
  rw [e1 0 (by decide), e1 2 (by decide)]
  exact ⟨rfl, rfl⟩
def PLX5_row_2 (a0 : Nat) (a1 : Nat) : sg → Prop := fun r => True
set_option maxRecDepth 100000 in
set_option maxHeartbeats 4000000 in
theorem wX5_finding (v1 : Int32) {σ : sg} (hw : WM σ) (hb : 0 ≤ v1.toInt ∧ v1.toInt ≤ 6) : WMi (fX5_finding v1 σ) := by
  have km1000001 : ((-1000001) : Int32).toInt = -1000001 := rfl
  have k0 : (0 : Int32).toInt = 0 := rfl
  have k1 : (1 : Int32).toInt = 1 := rfl
  rw [show fX5_finding v1 σ = _ from fX5_finding.eq_1 ..]
  refine wf_bnd (fun s1 e2 => ?_)
  have hw3 : WM s1 := by rw [e2]; exact wmA hw (by omega)
  have m4 := many6 e2 (show 0 ≠ 5 by decide)
  exact hw3
def PLX5_drops_2 (a0 : Nat) : sg → Prop := fun r => (WM r) ∧ True
set_option maxRecDepth 100000 in
set_option maxHeartbeats 4000000 in
theorem wLX5_drops_2 (a0 : Nat) (ha0 : a0 < 4) : ∀ (k : Nat) (v1 v2 : Int32) (σ : sg) (hw : WM σ) (hv2 : 0 ≤ v2.toInt ∧ v2.toInt ≤ 8) (hmu : (8 - v2.toInt).toNat < k), PLX5_drops_2 a0 (LX5_drops_2 a0 k v1 v2 σ) := by
  intro k
  induction k with
  | zero => intro v1 v2 σ hw hv2 hmu; exact absurd hmu (Nat.not_lt_zero _)
  | succ k ih =>
    intro v1 v2 σ hw hv2 hmu
    have k0 : (0 : Int32).toInt = 0 := rfl
    have k1 : (1 : Int32).toInt = 1 := rfl
    have k3 : (3 : Int32).toInt = 3 := rfl
    have k40 : (40 : Int32).toInt = 40 := rfl
    have k56 : (56 : Int32).toInt = 56 := rfl
    have k64 : (64 : Int32).toInt = 64 := rfl
    rw [show LX5_drops_2 a0 (k + 1) v1 v2 σ = _ from LX5_drops_2.eq_2 ..]
    have w1 := wm_many hw ha0
    refine wf_ite (fun c2 => ?_) (fun c2 => ?_)
    · have i20 := leI c2
      exact ⟨hw, trivial⟩
    · have i21 := nleI c2
      have a3 := addI (x := 40) (y := v2) (by omega) (by omega)
      have w4 := wm_shelf hw ha0 v2 (by omega) (by omega)
      refine wf_ite (fun c5 => ?_) (fun c5 => ?_)
      · have i19 := eqI c5
        have a7 := addI (x := 64) (y := v2) (by omega) (by omega)
        refine wf_ite (fun c8 => ?_) (fun c8 => ?_)
        · have i17 := eqI c8
          have a10 := addI (x := 56) (y := v2) (by omega) (by omega)
          refine wf_bnd (fun s11 e12 => ?_)
          have hw13 : WM s11 := by rw [e12]; exact wmRn hw ha0 (by omega) (by omega) (by omega) (by omega)
          have m14 := mKeep e12 (by omega)
          have a15 := addI (x := v2) (y := 1) (by omega) (by omega)
          exact ih v1 (v2 + 1) s11 hw13 (by omega) (by omega)
        · have i16 := neI c8
          have a9 := addI (x := v2) (y := 1) (by omega) (by omega)
          exact ih v1 (v2 + 1) σ hw (by omega) (by omega)
      · have i18 := neI c5
        have a6 := addI (x := v2) (y := 1) (by omega) (by omega)
        exact ih v1 (v2 + 1) σ hw (by omega) (by omega)
set_option maxRecDepth 100000 in
set_option maxHeartbeats 4000000 in
theorem wX5_drops (a0 : Nat) (ha0 : a0 < 4) (v1 : Int32) {σ : sg} (hw : WM σ) : WM (fX5_drops a0 v1 σ) := by
  have k0 : (0 : Int32).toInt = 0 := rfl
  rw [show fX5_drops a0 v1 σ = _ from fX5_drops.eq_1 ..]
  refine wf_bnd (fun r22 e23 => ?_)
  obtain ⟨hw24, _⟩ := (show PLX5_drops_2 a0 r22 from by rw [e23]; exact wLX5_drops_2 a0 ha0 9 v1 0 σ hw (by omega) (by omega))
  exact hw24
def PLX5_anHour_2 (a1 : Nat) : sg → Prop := fun r => (WM r) ∧ True
set_option maxRecDepth 100000 in
set_option maxHeartbeats 4000000 in
theorem wLX5_anHour_2 (a1 : Nat) (ha1 : a1 < 4) : ∀ (k : Nat) (v2 : Int32) (σ : sg) (hw : WM σ) (hv2 : 0 ≤ v2.toInt ∧ v2.toInt ≤ 6) (hmu : (6 - v2.toInt).toNat < k), PLX5_anHour_2 a1 (LX5_anHour_2 a1 k v2 σ) := by
  intro k
  induction k with
  | zero => intro v2 σ hw hv2 hmu; exact absurd hmu (Nat.not_lt_zero _)
  | succ k ih =>
    intro v2 σ hw hv2 hmu
    have k0 : (0 : Int32).toInt = 0 := rfl
    have k1 : (1 : Int32).toInt = 1 := rfl
    have k2 : (2 : Int32).toInt = 2 := rfl
    have k6 : (6 : Int32).toInt = 6 := rfl
    rw [show LX5_anHour_2 a1 (k + 1) v2 σ = _ from LX5_anHour_2.eq_2 ..]
    refine wf_ite (fun c1 => ?_) (fun c1 => ?_)
    · have i7 := leI c1
      exact ⟨hw, trivial⟩
    · have i8 := nleI c1
      refine wf_bnd (fun s2 e3 => ?_)
      have hw4 : WM s2 := by rw [e3]; exact wmA hw (by omega)
      have m5 := many6 e3 (show 0 ≠ 6 by decide)
      have a6 := addI (x := v2) (y := 1) (by omega) (by omega)
      exact ih (v2 + 1) s2 hw4 (by omega) (by omega)
def PLX5_anHour_32 (a1 : Nat) : Int32 × sg → Prop := fun r => (WM r.2) ∧ True
set_option maxRecDepth 100000 in
set_option maxHeartbeats 4000000 in
theorem wLX5_anHour_32 (a1 : Nat) (ha1 : a1 < 4) : ∀ (k : Nat) (v2 v3 : Int32) (σ : sg) (hw : WM σ) (hv3 : 0 ≤ v3.toInt ∧ v3.toInt ≤ 8) (hmu : (8 - v3.toInt).toNat < k), PLX5_anHour_32 a1 (LX5_anHour_32 a1 k v2 v3 σ) := by
  intro k
  induction k with
  | zero => intro v2 v3 σ hw hv3 hmu; exact absurd hmu (Nat.not_lt_zero _)
  | succ k ih =>
    intro v2 v3 σ hw hv3 hmu
    have km1 : ((-1) : Int32).toInt = -1 := rfl
    have k0 : (0 : Int32).toInt = 0 := rfl
    have k1 : (1 : Int32).toInt = 1 := rfl
    have k32 : (32 : Int32).toInt = 32 := rfl
    have k40 : (40 : Int32).toInt = 40 := rfl
    have k48 : (48 : Int32).toInt = 48 := rfl
    have k56 : (56 : Int32).toInt = 56 := rfl
    have k64 : (64 : Int32).toInt = 64 := rfl
    rw [show LX5_anHour_32 a1 (k + 1) v2 v3 σ = _ from LX5_anHour_32.eq_2 ..]
    have w12 := wm_many hw ha1
    refine wf_ite (fun c13 => ?_) (fun c13 => ?_)
    · have i63 := leI c13
      exact ⟨hw, trivial⟩
    · have i64 := nleI c13
      have a14 := addI (x := 32) (y := v3) (by omega) (by omega)
      have a15 := addI (x := 40) (y := v3) (by omega) (by omega)
      have w16 := wm_shelf hw ha1 v3 (by omega) (by omega)
      have a17 := addI (x := 48) (y := v3) (by omega) (by omega)
      have a18 := addI (x := 64) (y := v3) (by omega) (by omega)
      refine wf_ite (fun c19 => ?_) (fun c19 => ?_)
      · have i62 := eqI c19
        have a21 := addI (x := 56) (y := v3) (by omega) (by omega)
        refine wf_ite (fun c22 => ?_) (fun c22 => ?_)
        · have i59 := leI c22
          refine wf_bnd (fun s23 e24 => ?_)
          have hw25 : WM s23 := by rw [e24]; exact wmRn hw ha1 (by omega) (by omega) (by omega) (by omega)
          have m26 := mKeep e24 (by omega)
          refine wf_ite (fun c27 => ?_) (fun c27 => ?_)
          · have i39 := ltI c27
            have a28 := addI (x := v3) (y := 1) (by omega) (by omega)
            exact ih v2 (v3 + 1) s23 hw25 (by omega) (by omega)
          · have i40 := nltI c27
            refine wf_bnd (fun s29 e30 => ?_)
            have hw31 : WM s29 := by rw [e30]; exact wmRn hw25 ha1 (by omega) (by omega) (by omega) (by omega)
            have m32 := mKeep e30 (by omega)
            have w33 := wm_shelf hw31 ha1 v3 (by omega) (by omega)
            have a34 := addI (x := (rA s29 a1 (40 + v3))) (y := 1) (by omega) (by omega)
            refine wf_bnd (fun r35 e36 => ?_)
            have hw37 : WM r35 := by rw [e36]; exact wX5_drops a1 ha1 ((rA s29 a1 (40 + v3)) + 1) hw31 
            have a38 := addI (x := v3) (y := 1) (by omega) (by omega)
            exact ih (v2 + 1) (v3 + 1) r35 hw37 (by omega) (by omega)
        · have i60 := nleI c22
          refine wf_bnd (fun s41 e42 => ?_)
          have hw43 : WM s41 := by rw [e42]; exact wmRn hw ha1 (by omega) (by omega) (by omega) (by omega)
          have m44 := mKeep e42 (by omega)
          refine wf_ite (fun c45 => ?_) (fun c45 => ?_)
          · have i57 := ltI c45
            have a46 := addI (x := v3) (y := 1) (by omega) (by omega)
            exact ih v2 (v3 + 1) s41 hw43 (by omega) (by omega)
          · have i58 := nltI c45
            refine wf_bnd (fun s47 e48 => ?_)
            have hw49 : WM s47 := by rw [e48]; exact wmRn hw43 ha1 (by omega) (by omega) (by omega) (by omega)
            have m50 := mKeep e48 (by omega)
            have w51 := wm_shelf hw49 ha1 v3 (by omega) (by omega)
            have a52 := addI (x := (rA s47 a1 (40 + v3))) (y := 1) (by omega) (by omega)
            refine wf_bnd (fun r53 e54 => ?_)
            have hw55 : WM r53 := by rw [e54]; exact wX5_drops a1 ha1 ((rA s47 a1 (40 + v3)) + 1) hw49 
            have a56 := addI (x := v3) (y := 1) (by omega) (by omega)
            exact ih (v2 + 1) (v3 + 1) r53 hw55 (by omega) (by omega)
      · have i61 := neI c19
        have a20 := addI (x := v3) (y := 1) (by omega) (by omega)
        exact ih v2 (v3 + 1) σ hw (by omega) (by omega)
def PLX5_anHour_156 (a1 : Nat) : sg → Prop := fun r => (WM r) ∧ True
set_option maxRecDepth 100000 in
set_option maxHeartbeats 4000000 in
theorem wLX5_anHour_156 (a1 : Nat) (ha1 : a1 < 4) : ∀ (k : Nat) (v2 v3 : Int32) (σ : sg) (hw : WM σ) (hv3 : 0 ≤ v3.toInt ∧ v3.toInt ≤ 6) (hmu : (6 - v3.toInt).toNat < k), PLX5_anHour_156 a1 (LX5_anHour_156 a1 k v2 v3 σ) := by
  intro k
  induction k with
  | zero => intro v2 v3 σ hw hv3 hmu; exact absurd hmu (Nat.not_lt_zero _)
  | succ k ih =>
    intro v2 v3 σ hw hv3 hmu
    have k0 : (0 : Int32).toInt = 0 := rfl
    have k1 : (1 : Int32).toInt = 1 := rfl
    have k6 : (6 : Int32).toInt = 6 := rfl
    have k10 : (10 : Int32).toInt = 10 := rfl
    have k20 : (20 : Int32).toInt = 20 := rfl
    rw [show LX5_anHour_156 a1 (k + 1) v2 v3 σ = _ from LX5_anHour_156.eq_2 ..]
    refine wf_ite (fun c68 => ?_) (fun c68 => ?_)
    · have i91 := leI c68
      exact ⟨hw, trivial⟩
    · have i92 := nleI c68
      have a69 := addI (x := 10) (y := v3) (by omega) (by omega)
      refine wf_ite (fun c70 => ?_) (fun c70 => ?_)
      · have i89 := leI c70
        refine wf_bnd (fun s71 e72 => ?_)
        have hw73 : WM s71 := by rw [e72]; exact wmRn hw ha1 (by omega) (by omega) (by omega) (by omega)
        have m74 := mKeep e72 (by omega)
        have a75 := addI (x := v3) (y := 1) (by omega) (by omega)
        exact ih v2 (v3 + 1) s71 hw73 (by omega) (by omega)
      · have i90 := nleI c70
        refine wf_ite (fun c76 => ?_) (fun c76 => ?_)
        · have i87 := leI c76
          refine wf_bnd (fun s77 e78 => ?_)
          have hw79 : WM s77 := by rw [e78]; exact wmRn hw ha1 (by omega) (by omega) (by omega) (by omega)
          have m80 := mKeep e78 (by omega)
          have a81 := addI (x := v3) (y := 1) (by omega) (by omega)
          exact ih v2 (v3 + 1) s77 hw79 (by omega) (by omega)
        · have i88 := nleI c76
          refine wf_bnd (fun s82 e83 => ?_)
          have hw84 : WM s82 := by rw [e83]; exact wmRn hw ha1 (by omega) (by omega) (by omega) (by omega)
          have m85 := mKeep e83 (by omega)
          have a86 := addI (x := v3) (y := 1) (by omega) (by omega)
          exact ih v2 (v3 + 1) s82 hw84 (by omega) (by omega)
set_option maxRecDepth 100000 in
set_option maxHeartbeats 4000000 in
theorem wX5_anHour (a1 : Nat) (ha1 : a1 < 4) {σ : sg} (hw : WM σ) : WMi (fX5_anHour a1 σ) := by
  have k0 : (0 : Int32).toInt = 0 := rfl
  have k1 : (1 : Int32).toInt = 1 := rfl
  have k2 : (2 : Int32).toInt = 2 := rfl
  rw [show fX5_anHour a1 σ = _ from fX5_anHour.eq_1 ..]
  refine wf_bnd (fun r9 e10 => ?_)
  obtain ⟨hw11, _⟩ := (show PLX5_anHour_2 a1 r9 from by rw [e10]; exact wLX5_anHour_2 a1 ha1 7 0 σ hw (by omega) (by omega))
  refine wf_bnd (fun r65 e66 => ?_)
  obtain ⟨hw67, _⟩ := (show PLX5_anHour_32 a1 r65 from by rw [e66]; exact wLX5_anHour_32 a1 ha1 9 0 0 r9 hw11 (by omega) (by omega))
  refine wf_bnd (fun r93 e94 => ?_)
  obtain ⟨hw95, _⟩ := (show PLX5_anHour_156 a1 r93 from by rw [e94]; exact wLX5_anHour_156 a1 ha1 7 r65.1 0 r65.2 hw67 (by omega) (by omega))
  refine wf_bnd (fun s96 e97 => ?_)
  have hw98 : WM s96 := by rw [e97]; exact wmRn hw95 ha1 (by omega) (by omega) (by omega) (by omega)
  have m99 := mKeep e97 (by omega)
  exact hw98
def PLX5_holdingBehind_2 : sg → Prop := fun r => (WM r) ∧ True
set_option maxRecDepth 100000 in
set_option maxHeartbeats 4000000 in
theorem wLX5_holdingBehind_2 : ∀ (k : Nat) (v1 v2 : Int32) (σ : sg) (hw : WM σ) (hv2 : 0 ≤ v2.toInt ∧ v2.toInt ≤ 100) (hn1 : v1.toInt ≤ 100) (hmu : (100 - v2.toInt).toNat < k), PLX5_holdingBehind_2 (LX5_holdingBehind_2 k v1 v2 σ) := by
  intro k
  induction k with
  | zero => intro v1 v2 σ hw hv2 hn1 hmu; exact absurd hmu (Nat.not_lt_zero _)
  | succ k ih =>
    intro v1 v2 σ hw hv2 hn1 hmu
    have k0 : (0 : Int32).toInt = 0 := rfl
    have k1 : (1 : Int32).toInt = 1 := rfl
    rw [show LX5_holdingBehind_2 (k + 1) v1 v2 σ = _ from LX5_holdingBehind_2.eq_2 ..]
    refine wf_ite (fun c1 => ?_) (fun c1 => ?_)
    · have i6 := leI c1
      exact ⟨hw, trivial⟩
    · have i7 := nleI c1
      refine wf_bnd (fun r2 e3 => ?_)
      have hw4 : WM r2.2 := by rw [e3]; exact wX5_anHour 2 (by decide) hw 
      have me3 := manyA (show 2 < 4 by decide) e3
      have ne3 := manyA0 e3
      have a5 := addI (x := v2) (y := 1) (by omega) (by omega)
      exact ih v1 (v2 + 1) r2.2 hw4 (by omega) (by omega) (by omega)
set_option maxRecDepth 100000 in
set_option maxHeartbeats 4000000 in
theorem wX5_holdingBehind (v1 : Int32) {σ : sg} (hw : WM σ) (hn : v1.toInt ≤ 100) : WMi (fX5_holdingBehind v1 σ) := by
  have k0 : (0 : Int32).toInt = 0 := rfl
  rw [show fX5_holdingBehind v1 σ = _ from fX5_holdingBehind.eq_1 ..]
  refine wf_bnd (fun r8 e9 => ?_)
  obtain ⟨hw10, _⟩ := (show PLX5_holdingBehind_2 r8 from by rw [e9]; exact wLX5_holdingBehind_2 101 v1 0 σ hw (by omega) (by omega) (by omega))
  exact hw10
theorem hdS_X5_within : yX5_within.cls ≠ "java/lang/invoke/MethodHandle" ∧ yX5_within.cls ≠ "java/lang/invoke/VarHandle" ∧ (parseMethodDescriptor yX5_within.desc).map (fun d => d.parameters.length) = some 3 := by decide +kernel
set_option maxRecDepth 100000 in
set_option maxHeartbeats 4000000 in
theorem kX5_within (l : Launch) {G : gT} (hN : wN G) (v0 : Int32) (v1 : Int32) (v2 : Int32) (σ : sg) : cM l yX5_within wsX5_within rmX5_within G [.int v0, .int v1, .int v2] σ (some (.int (fX5_within v0 v1 v2))) σ := by
  refine cM_of (maxL := 3) (ret := (some .boolean)) (cc := cX5_within) (fX5_within v0 v1 v2) RX5 hN (by decide +kernel) rfl rfl (Nat.le_of_ble_eq_true rfl) rfl ?_
  intro p e s m args below meth c K hr
  have k0 : (0 : Int32).toInt = 0 := rfl
  have k1 : (1 : Int32).toInt = 1 := rfl
  refine qq_st (lv' := [some (.int v0), some (.int v1), some (.int v2)]) rfl rfl rfl ?_
  refine qq_T (fX5_within.eq_1 ..) ?_
  refine q_iload_n (pc := 0) K dX5_within_0 rfl rfl ?_
  refine q_iload_n (pc := 1) K dX5_within_1 rfl rfl ?_
  refine q_icmp_lt (pc := 2) (tgt := 14) K dX5_within_2 (by decide) (fun c1 => ?_) (fun c1 => ?_)
  · have i5 := ltI c1
    refine q_iconst (pc := 14) (v := 0) K dX5_within_14 (by decide) ?_
    exact q_zretP K hr (Or.inl rfl) dX5_within_15
  · have i6 := nltI c1
    refine q_iload_n (pc := 5) K dX5_within_5 rfl rfl ?_
    refine q_iload_n (pc := 6) K dX5_within_6 rfl rfl ?_
    refine q_icmp_gt (pc := 7) (tgt := 14) K dX5_within_7 (by decide) (fun c2 => ?_) (fun c2 => ?_)
    · have i3 := ltI c2
      refine q_iconst (pc := 14) (v := 0) K dX5_within_14 (by decide) ?_
      exact q_zretP K hr (Or.inl rfl) dX5_within_15
    · have i4 := nltI c2
      refine q_iconst (pc := 10) (v := 1) K dX5_within_10 (by decide) ?_
      refine q_goto (pc := 11) (tgt := 15) K dX5_within_11 (by decide) ?_
      exact q_zretP K hr (Or.inr rfl) dX5_within_15
theorem hdS_X5_isShelf : yX5_isShelf.cls ≠ "java/lang/invoke/MethodHandle" ∧ yX5_isShelf.cls ≠ "java/lang/invoke/VarHandle" ∧ (parseMethodDescriptor yX5_isShelf.desc).map (fun d => d.parameters.length) = some 1 := by decide +kernel
set_option maxRecDepth 100000 in
set_option maxHeartbeats 4000000 in
theorem kX5_isShelf (l : Launch) {G : gT} (hN : wN G) (v0 : Int32) (σ : sg) : cM l yX5_isShelf wsX5_isShelf rmX5_isShelf G [.int v0] σ (some (.int (fX5_isShelf v0))) σ := by
  refine cM_of (maxL := 1) (ret := (some .boolean)) (cc := cX5_isShelf) (fX5_isShelf v0) RX5 hN (by decide +kernel) rfl rfl (Nat.le_of_ble_eq_true rfl) rfl ?_
  intro p e s m args below meth c K hr
  have k0 : (0 : Int32).toInt = 0 := rfl
  have k5 : (5 : Int32).toInt = 5 := rfl
  refine qq_st (lv' := [some (.int v0)]) rfl rfl rfl ?_
  refine qq_T (fX5_isShelf.eq_1 ..) ?_
  refine q_iload_n (pc := 0) K dX5_isShelf_0 rfl rfl ?_
  refine q_iconst (pc := 1) (v := 0) K dX5_isShelf_1 (by decide) ?_
  refine q_iconst (pc := 2) (v := 5) K dX5_isShelf_2 (by decide) ?_
  refine q_callSi (pc := 3) (rm := rmX5_within) K (kX5_within l hN v0 0 5 σ) gX5_isShelf_X5_within rfl hdS_X5_within ⟨Nat.le_of_ble_eq_true rfl, Nat.le_of_ble_eq_true rfl⟩ rfl rfl ⟨Nat.zero_le _, Nat.zero_le _⟩ rfl rfl (Nat.le_of_ble_eq_true rfl) dX5_isShelf_3 ?_
  exact q_zretP K hr (b01_X5_within _ _ _) dX5_isShelf_6
theorem hdS_X5_isKind : yX5_isKind.cls ≠ "java/lang/invoke/MethodHandle" ∧ yX5_isKind.cls ≠ "java/lang/invoke/VarHandle" ∧ (parseMethodDescriptor yX5_isKind.desc).map (fun d => d.parameters.length) = some 1 := by decide +kernel
set_option maxRecDepth 100000 in
set_option maxHeartbeats 4000000 in
theorem kX5_isKind (l : Launch) {G : gT} (hN : wN G) (v0 : Int32) (σ : sg) : cM l yX5_isKind wsX5_isKind rmX5_isKind G [.int v0] σ (some (.int (fX5_isKind v0))) σ := by
  refine cM_of (maxL := 1) (ret := (some .boolean)) (cc := cX5_isKind) (fX5_isKind v0) RX5 hN (by decide +kernel) rfl rfl (Nat.le_of_ble_eq_true rfl) rfl ?_
  intro p e s m args below meth c K hr
  have k0 : (0 : Int32).toInt = 0 := rfl
  have k6 : (6 : Int32).toInt = 6 := rfl
  refine qq_st (lv' := [some (.int v0)]) rfl rfl rfl ?_
  refine qq_T (fX5_isKind.eq_1 ..) ?_
  refine q_iload_n (pc := 0) K dX5_isKind_0 rfl rfl ?_
  refine q_iconst (pc := 1) (v := 0) K dX5_isKind_1 (by decide) ?_
  refine q_bipush (pc := 2) (v := 6) K dX5_isKind_2 (by decide) ?_
  refine q_callSi (pc := 4) (rm := rmX5_within) K (kX5_within l hN v0 0 6 σ) gX5_isKind_X5_within rfl hdS_X5_within ⟨Nat.le_of_ble_eq_true rfl, Nat.le_of_ble_eq_true rfl⟩ rfl rfl ⟨Nat.zero_le _, Nat.zero_le _⟩ rfl rfl (Nat.le_of_ble_eq_true rfl) dX5_isKind_4 ?_
  exact q_zretP K hr (b01_X5_within _ _ _) dX5_isKind_7
theorem hdS_X5_isSheet : yX5_isSheet.cls ≠ "java/lang/invoke/MethodHandle" ∧ yX5_isSheet.cls ≠ "java/lang/invoke/VarHandle" ∧ (parseMethodDescriptor yX5_isSheet.desc).map (fun d => d.parameters.length) = some 1 := by decide +kernel
set_option maxRecDepth 100000 in
set_option maxHeartbeats 4000000 in
theorem kX5_isSheet (l : Launch) {G : gT} (hN : wN G) (v0 : Int32) (σ : sg) : cM l yX5_isSheet wsX5_isSheet rmX5_isSheet G [.int v0] σ (some (.int (fX5_isSheet v0))) σ := by
  refine cM_of (maxL := 1) (ret := (some .boolean)) (cc := cX5_isSheet) (fX5_isSheet v0) RX5 hN (by decide +kernel) rfl rfl (Nat.le_of_ble_eq_true rfl) rfl ?_
  intro p e s m args below meth c K hr
  have k0 : (0 : Int32).toInt = 0 := rfl
  have k3 : (3 : Int32).toInt = 3 := rfl
  refine qq_st (lv' := [some (.int v0)]) rfl rfl rfl ?_
  refine qq_T (fX5_isSheet.eq_1 ..) ?_
  refine q_iload_n (pc := 0) K dX5_isSheet_0 rfl rfl ?_
  refine q_iconst (pc := 1) (v := 0) K dX5_isSheet_1 (by decide) ?_
  refine q_iconst (pc := 2) (v := 3) K dX5_isSheet_2 (by decide) ?_
  refine q_callSi (pc := 3) (rm := rmX5_within) K (kX5_within l hN v0 0 3 σ) gX5_isSheet_X5_within rfl hdS_X5_within ⟨Nat.le_of_ble_eq_true rfl, Nat.le_of_ble_eq_true rfl⟩ rfl rfl ⟨Nat.zero_le _, Nat.zero_le _⟩ rfl rfl (Nat.le_of_ble_eq_true rfl) dX5_isSheet_3 ?_
  exact q_zretP K hr (b01_X5_within _ _ _) dX5_isSheet_6
theorem hdS_X5_isAhead : yX5_isAhead.cls ≠ "java/lang/invoke/MethodHandle" ∧ yX5_isAhead.cls ≠ "java/lang/invoke/VarHandle" ∧ (parseMethodDescriptor yX5_isAhead.desc).map (fun d => d.parameters.length) = some 1 := by decide +kernel
set_option maxRecDepth 100000 in
set_option maxHeartbeats 4000000 in
theorem kX5_isAhead (l : Launch) {G : gT} (hN : wN G) (v0 : Int32) (σ : sg) : cM l yX5_isAhead wsX5_isAhead rmX5_isAhead G [.int v0] σ (some (.int (fX5_isAhead v0))) σ := by
  refine cM_of (maxL := 1) (ret := (some .boolean)) (cc := cX5_isAhead) (fX5_isAhead v0) RX5 hN (by decide +kernel) rfl rfl (Nat.le_of_ble_eq_true rfl) rfl ?_
  intro p e s m args below meth c K hr
  have k0 : (0 : Int32).toInt = 0 := rfl
  have k1 : (1 : Int32).toInt = 1 := rfl
  have k100 : (100 : Int32).toInt = 100 := rfl
  refine qq_st (lv' := [some (.int v0)]) rfl rfl rfl ?_
  refine qq_T (fX5_isAhead.eq_1 ..) ?_
  refine q_iload_n (pc := 0) K dX5_isAhead_0 rfl rfl ?_
  refine q_iconst (pc := 1) (v := 1) K dX5_isAhead_1 (by decide) ?_
  refine q_bipush (pc := 2) (v := 100) K dX5_isAhead_2 (by decide) ?_
  refine q_callSi (pc := 4) (rm := rmX5_within) K (kX5_within l hN v0 1 100 σ) gX5_isAhead_X5_within rfl hdS_X5_within ⟨Nat.le_of_ble_eq_true rfl, Nat.le_of_ble_eq_true rfl⟩ rfl rfl ⟨Nat.zero_le _, Nat.zero_le _⟩ rfl rfl (Nat.le_of_ble_eq_true rfl) dX5_isAhead_4 ?_
  exact q_zretP K hr (b01_X5_within _ _ _) dX5_isAhead_7
theorem hdS_X5_above : yX5_above.cls ≠ "java/lang/invoke/MethodHandle" ∧ yX5_above.cls ≠ "java/lang/invoke/VarHandle" ∧ (parseMethodDescriptor yX5_above.desc).map (fun d => d.parameters.length) = some 1 := by decide +kernel
set_option maxRecDepth 100000 in
set_option maxHeartbeats 4000000 in
theorem kX5_above (l : Launch) {G : gT} (hN : wN G) (v0 : Int32) (σ : sg) : cM l yX5_above wsX5_above rmX5_above G [.int v0] σ (some (.int (fX5_above v0))) σ := by
  refine cM_of (maxL := 1) (ret := (some .int)) (cc := cX5_above) (fX5_above v0) RX5 hN (by decide +kernel) rfl rfl (Nat.le_of_ble_eq_true rfl) rfl ?_
  intro p e s m args below meth c K hr
  have km1 : ((-1) : Int32).toInt = -1 := rfl
  have k0 : (0 : Int32).toInt = 0 := rfl
  have k1 : (1 : Int32).toInt = 1 := rfl
  have k2 : (2 : Int32).toInt = 2 := rfl
  have k3 : (3 : Int32).toInt = 3 := rfl
  have k4 : (4 : Int32).toInt = 4 := rfl
  have k5 : (5 : Int32).toInt = 5 := rfl
  have k6 : (6 : Int32).toInt = 6 := rfl
  refine qq_st (lv' := [some (.int v0)]) rfl rfl rfl ?_
  refine qq_T (fX5_above.eq_1 ..) ?_
  refine q_iload_n (pc := 0) K dX5_above_0 rfl rfl ?_
  refine q_case (v := 0) (fun c1 => ?_) (fun c1 => ?_)
  · have i20 := eqI c1
    refine q_tableIn (pc := 1) (tgt := 44) K dX5_above_1 c1 (by decide) (by decide) rfl (by decide) ?_
    refine q_iconst (pc := 44) (v := (-1)) K dX5_above_44 (by decide) ?_
    exact q_iretP K hr dX5_above_45
  · have i21 := neI c1
    refine q_case (v := 1) (fun c2 => ?_) (fun c2 => ?_)
    · have i18 := eqI c2
      refine q_tableIn (pc := 1) (tgt := 52) K dX5_above_1 c2 (by decide) (by decide) rfl (by decide) ?_
      refine q_iconst (pc := 52) (v := 0) K dX5_above_52 (by decide) ?_
      exact q_iretP K hr dX5_above_53
    · have i19 := neI c2
      refine q_case (v := 2) (fun c3 => ?_) (fun c3 => ?_)
      · have i16 := eqI c3
        refine q_tableIn (pc := 1) (tgt := 52) K dX5_above_1 c3 (by decide) (by decide) rfl (by decide) ?_
        refine q_iconst (pc := 52) (v := 0) K dX5_above_52 (by decide) ?_
        exact q_iretP K hr dX5_above_53
      · have i17 := neI c3
        refine q_case (v := 3) (fun c4 => ?_) (fun c4 => ?_)
        · have i14 := eqI c4
          refine q_tableIn (pc := 1) (tgt := 46) K dX5_above_1 c4 (by decide) (by decide) rfl (by decide) ?_
          refine q_iconst (pc := 46) (v := 2) K dX5_above_46 (by decide) ?_
          exact q_iretP K hr dX5_above_47
        · have i15 := neI c4
          refine q_case (v := 4) (fun c5 => ?_) (fun c5 => ?_)
          · have i12 := eqI c5
            refine q_tableIn (pc := 1) (tgt := 48) K dX5_above_1 c5 (by decide) (by decide) rfl (by decide) ?_
            refine q_iconst (pc := 48) (v := 1) K dX5_above_48 (by decide) ?_
            exact q_iretP K hr dX5_above_49
          · have i13 := neI c5
            refine q_case (v := 5) (fun c6 => ?_) (fun c6 => ?_)
            · have i10 := eqI c6
              refine q_tableIn (pc := 1) (tgt := 52) K dX5_above_1 c6 (by decide) (by decide) rfl (by decide) ?_
              refine q_iconst (pc := 52) (v := 0) K dX5_above_52 (by decide) ?_
              exact q_iretP K hr dX5_above_53
            · have i11 := neI c6
              refine q_case (v := 6) (fun c7 => ?_) (fun c7 => ?_)
              · have i8 := eqI c7
                refine q_tableIn (pc := 1) (tgt := 50) K dX5_above_1 c7 (by decide) (by decide) rfl (by decide) ?_
                refine q_iconst (pc := 50) (v := 5) K dX5_above_50 (by decide) ?_
                exact q_iretP K hr dX5_above_51
              · have i9 := neI c7
                refine q_tableOut (pc := 1) (tgt := 52) K dX5_above_1 (by omega) (by decide) ?_
                refine q_iconst (pc := 52) (v := 0) K dX5_above_52 (by decide) ?_
                exact q_iretP K hr dX5_above_53
theorem hdS_X5_isUnder : yX5_isUnder.cls ≠ "java/lang/invoke/MethodHandle" ∧ yX5_isUnder.cls ≠ "java/lang/invoke/VarHandle" ∧ (parseMethodDescriptor yX5_isUnder.desc).map (fun d => d.parameters.length) = some 2 := by decide +kernel
set_option maxRecDepth 100000 in
set_option maxHeartbeats 4000000 in
theorem lX5_isUnder_2 {p : Program} (l : Launch) {e : Env} {s : State} {m : MethodId} {args : Array Value} {below : List Frame} {meth : Method} {c : Code} {Q : State → Prop} {G : gT} (hN : wN G) (K : qK p s m args meth c cX5_isUnder 3 RX5 wsX5_isUnder G) : ∀ (k : Nat) (v1 v2 : Int32) (σ : sg) (hmu : depK v2 < k) {ρ : Type} {E : ρ → Prop} {f : Int32 → ρ} (hk : ∀ r : Int32, qq p l e (headSpec wsX5_isUnder rmX5_isUnder).room s m args below meth c Q 3 G E (f r) 19 [none, none, some (.int r)] [] σ), qq p l e (headSpec wsX5_isUnder rmX5_isUnder).room s m args below meth c Q 3 G E (bnd (LX5_isUnder_2 k v1 v2) f) 2 [none, some (.int v1), some (.int v2)] [] σ := by
  intro k
  induction k with
  | zero => intro v1 v2 σ hmu ρ E f hk; exact absurd hmu (Nat.not_lt_zero _)
  | succ k ih =>
    intro v1 v2 σ hmu ρ E f hk
    have k0 : (0 : Int32).toInt = 0 := rfl
    refine qq_in ?_
    refine qq_T (LX5_isUnder_2.eq_2 ..) ?_
    refine q_iload_n (pc := 2) K dX5_isUnder_2 rfl rfl ?_
    refine q_if_lt (pc := 3) (tgt := 19) K dX5_isUnder_3 (by decide) (fun c1 => ?_) (fun c1 => ?_)
    · have i5 := ltI c1
      refine qq_drop 1 (lv' := [none, none, some (.int v2)]) rfl ?_
      exact qq_leaf (hk v2)
    · have i6 := nltI c1
      refine q_iload_n (pc := 6) K dX5_isUnder_6 rfl rfl ?_
      refine q_iload_n (pc := 7) K dX5_isUnder_7 rfl rfl ?_
      refine q_icmp_eq (pc := 8) (tgt := 19) K dX5_isUnder_8 (by decide) (fun c2 => ?_) (fun c2 => ?_)
      · have i3 := eqI c2
        refine qq_drop 1 (lv' := [none, none, some (.int v2)]) rfl ?_
        exact qq_leaf (hk v2)
      · have i4 := neI c2
        refine q_iload_n (pc := 11) K dX5_isUnder_11 rfl rfl ?_
        refine q_callSi (pc := 12) (rm := rmX5_above) K (kX5_above l hN v2 σ) gX5_isUnder_X5_above rfl hdS_X5_above ⟨Nat.le_of_ble_eq_true rfl, Nat.le_of_ble_eq_true rfl⟩ rfl rfl ⟨Nat.zero_le _, Nat.zero_le _⟩ rfl rfl (Nat.le_of_ble_eq_true rfl) dX5_isUnder_12 ?_
        refine q_istore_n (pc := 15) (lv' := [none, some (.int v1), some (.int (fX5_above v2))]) K dX5_isUnder_15 rfl (by decide) (Nat.le_of_ble_eq_true rfl) rfl ?_
        refine q_goto (pc := 16) (tgt := 2) K dX5_isUnder_16 (by decide) ?_
        have bd := depDec (x := v2) (by omega)
        exact qq_out (ih v1 (fX5_above v2) σ  (by omega) hk)
set_option maxRecDepth 100000 in
set_option maxHeartbeats 4000000 in
theorem kX5_isUnder (l : Launch) {G : gT} (hN : wN G) (v0 : Int32) (v1 : Int32) (σ : sg) : cM l yX5_isUnder wsX5_isUnder rmX5_isUnder G [.int v0, .int v1] σ (some (.int (fX5_isUnder v0 v1))) σ := by
  refine cM_of (maxL := 3) (ret := (some .boolean)) (cc := cX5_isUnder) (fX5_isUnder v0 v1) RX5 hN (by decide +kernel) rfl rfl (Nat.le_of_ble_eq_true rfl) rfl ?_
  intro p e s m args below meth c K hr
  have k0 : (0 : Int32).toInt = 0 := rfl
  have k1 : (1 : Int32).toInt = 1 := rfl
  refine qq_st (lv' := [some (.int v0), some (.int v1), none]) rfl rfl rfl ?_
  refine qq_T (fX5_isUnder.eq_1 ..) ?_
  refine q_iload_n (pc := 0) K dX5_isUnder_0 rfl rfl ?_
  refine q_istore_n (pc := 1) (lv' := [some (.int v0), some (.int v1), some (.int v0)]) K dX5_isUnder_1 rfl (by decide) (Nat.le_of_ble_eq_true rfl) rfl ?_
  refine qq_drop 0 (lv' := [none, some (.int v1), some (.int v0)]) rfl ?_
  refine lX5_isUnder_2 l hN K 4 v1 v0 σ  (depLt _) (fun r7 => ?_)
  refine q_iload_n (pc := 19) K dX5_isUnder_19 rfl rfl ?_
  refine q_if_lt (pc := 20) (tgt := 27) K dX5_isUnder_20 (by decide) (fun c9 => ?_) (fun c9 => ?_)
  · have i10 := ltI c9
    refine q_iconst (pc := 27) (v := 0) K dX5_isUnder_27 (by decide) ?_
    exact q_zretP K hr (Or.inl rfl) dX5_isUnder_28
  · have i11 := nltI c9
    refine q_iconst (pc := 23) (v := 1) K dX5_isUnder_23 (by decide) ?_
    refine q_goto (pc := 24) (tgt := 28) K dX5_isUnder_24 (by decide) ?_
    exact q_zretP K hr (Or.inr rfl) dX5_isUnder_28
theorem hdS_X5_softer : yX5_softer.cls ≠ "java/lang/invoke/MethodHandle" ∧ yX5_softer.cls ≠ "java/lang/invoke/VarHandle" ∧ (parseMethodDescriptor yX5_softer.desc).map (fun d => d.parameters.length) = some 2 := by decide +kernel
theorem mX5_softer_l60 : Cond.methodLink RX5 60 Lib.Math.min.name ∈ wsX5_softer := List.mem_of_getElem? (i := 1) rfl
theorem mX5_softer_s60 : Cond.static Lib.Math.min.name ∈ wsX5_softer := List.mem_of_getElem? (i := 2) rfl
theorem mX5_softer_iM : Cond.initialized "java/lang/Math" ∈ wsX5_softer := List.mem_of_getElem? (i := 3) rfl
theorem mX5_softer_d60 : Cond.code Lib.Math.min.name Lib.Math.min.code 2 (some .int) ∈ wsX5_softer := List.mem_of_getElem? (i := 4) rfl
theorem mX5_softer_l64 : Cond.methodLink RX5 64 Lib.Math.max.name ∈ wsX5_softer := List.mem_of_getElem? (i := 5) rfl
theorem mX5_softer_s64 : Cond.static Lib.Math.max.name ∈ wsX5_softer := List.mem_of_getElem? (i := 6) rfl
theorem mX5_softer_d64 : Cond.code Lib.Math.max.name Lib.Math.max.code 2 (some .int) ∈ wsX5_softer := List.mem_of_getElem? (i := 7) rfl
set_option maxRecDepth 100000 in
set_option maxHeartbeats 4000000 in
theorem kX5_softer (l : Launch) {G : gT} (hN : wN G) (v0 : Int32) (v1 : Int32) (σ : sg) : cM l yX5_softer wsX5_softer rmX5_softer G [.int v0, .int v1] σ (some (.int (fX5_softer v0 v1))) σ := by
  refine cM_of (maxL := 2) (ret := (some .int)) (cc := cX5_softer) (fX5_softer v0 v1) RX5 hN (by decide +kernel) rfl rfl (Nat.le_of_ble_eq_true rfl) rfl ?_
  intro p e s m args below meth c K hr
  have k0 : (0 : Int32).toInt = 0 := rfl
  have k99 : (99 : Int32).toInt = 99 := rfl
  refine qq_st (lv' := [some (.int v0), some (.int v1)]) rfl rfl rfl ?_
  refine qq_T (fX5_softer.eq_1 ..) ?_
  refine q_iconst (pc := 0) (v := 0) K dX5_softer_0 (by decide) ?_
  refine q_bipush (pc := 1) (v := 99) K dX5_softer_1 (by decide) ?_
  refine q_iload_n (pc := 3) K dX5_softer_3 rfl rfl ?_
  refine q_iload_n (pc := 4) K dX5_softer_4 rfl rfl ?_
  refine q_iadd (pc := 5) K dX5_softer_5 ?_
  refine q_mmin (pc := 6) K mX5_softer_l60 mX5_softer_s60 mX5_softer_iM mX5_softer_d60 (Nat.le_of_ble_eq_true rfl) (Nat.le_of_ble_eq_true rfl) dX5_softer_6 ?_
  refine q_mmax (pc := 9) K mX5_softer_l64 mX5_softer_s64 mX5_softer_iM mX5_softer_d64 (Nat.le_of_ble_eq_true rfl) (Nat.le_of_ble_eq_true rfl) dX5_softer_9 ?_
  exact q_iretP K hr dX5_softer_12
theorem hdS_X5_bits : yX5_bits.cls ≠ "java/lang/invoke/MethodHandle" ∧ yX5_bits.cls ≠ "java/lang/invoke/VarHandle" ∧ (parseMethodDescriptor yX5_bits.desc).map (fun d => d.parameters.length) = some 1 := by decide +kernel
set_option maxRecDepth 100000 in
set_option maxHeartbeats 4000000 in
theorem lX5_bits_4 {p : Program} (l : Launch) {e : Env} {s : State} {m : MethodId} {args : Array Value} {below : List Frame} {meth : Method} {c : Code} {Q : State → Prop} {G : gT} (hN : wN G) (K : qK p s m args meth c cX5_bits 3 RX5 wsX5_bits G) : ∀ (k : Nat) (v1 v2 : Int32) (σ : sg) (hv2 : 0 ≤ v2.toInt ∧ v2.toInt < 256) (hmu : v2.toInt.toNat < k) {ρ : Type} {E : ρ → Prop} {f : Int32 → ρ} (hk : ∀ r : Int32, qq p l e (headSpec wsX5_bits rmX5_bits).room s m args below meth c Q 3 G E (f r) 20 [none, some (.int r), none] [] σ), qq p l e (headSpec wsX5_bits rmX5_bits).room s m args below meth c Q 3 G E (bnd (LX5_bits_4 k v1 v2) f) 4 [none, some (.int v1), some (.int v2)] [] σ := by
  intro k
  induction k with
  | zero => intro v1 v2 σ hv2 hmu ρ E f hk; exact absurd hmu (Nat.not_lt_zero _)
  | succ k ih =>
    intro v1 v2 σ hv2 hmu ρ E f hk
    have k0 : (0 : Int32).toInt = 0 := rfl
    have k1 : (1 : Int32).toInt = 1 := rfl
    refine qq_in ?_
    refine qq_T (LX5_bits_4.eq_2 ..) ?_
    refine q_iload_n (pc := 4) K dX5_bits_4 rfl rfl ?_
    refine q_if_le (pc := 5) (tgt := 20) K dX5_bits_5 (by decide) (fun c1 => ?_) (fun c1 => ?_)
    · have i2 := leI c1
      refine qq_drop 2 (lv' := [none, some (.int v1), none]) rfl ?_
      exact qq_leaf (hk v1)
    · have i3 := nleI c1
      refine q_iinc (pc := 8) (v := (v1 + 1)) (lv' := [none, some (.int (v1 + 1)), some (.int v2)]) K dX5_bits_8 rfl rfl (by decide) rfl ?_
      refine q_iload_n (pc := 11) K dX5_bits_11 rfl rfl ?_
      refine q_iload_n (pc := 12) K dX5_bits_12 rfl rfl ?_
      refine q_iconst (pc := 13) (v := 1) K dX5_bits_13 (by decide) ?_
      refine q_isub (pc := 14) K dX5_bits_14 ?_
      refine q_iand (pc := 15) K dX5_bits_15 ?_
      refine q_istore_n (pc := 16) (lv' := [none, some (.int (v1 + 1)), some (.int (v2 &&& (v2 - 1)))]) K dX5_bits_16 rfl (by decide) (Nat.le_of_ble_eq_true rfl) rfl ?_
      refine q_goto (pc := 17) (tgt := 4) K dX5_bits_17 (by decide) ?_
      have bd := bitsDec (x := v2) (by omega) (by omega)
      exact qq_out (ih (v1 + 1) (v2 &&& (v2 - 1)) σ (by omega) (by omega) hk)
set_option maxRecDepth 100000 in
set_option maxHeartbeats 4000000 in
theorem kX5_bits (l : Launch) {G : gT} (hN : wN G) (v0 : Int32) (σ : sg) (hb : 0 ≤ v0.toInt ∧ v0.toInt < 256) : cM l yX5_bits wsX5_bits rmX5_bits G [.int v0] σ (some (.int (fX5_bits v0))) σ := by
  refine cM_of (maxL := 3) (ret := (some .int)) (cc := cX5_bits) (fX5_bits v0) RX5 hN (by decide +kernel) rfl rfl (Nat.le_of_ble_eq_true rfl) rfl ?_
  intro p e s m args below meth c K hr
  have k0 : (0 : Int32).toInt = 0 := rfl
  refine qq_st (lv' := [some (.int v0), none, none]) rfl rfl rfl ?_
  refine qq_T (fX5_bits.eq_1 ..) ?_
  refine q_iconst (pc := 0) (v := 0) K dX5_bits_0 (by decide) ?_
  refine q_istore_n (pc := 1) (lv' := [some (.int v0), some (.int 0), none]) K dX5_bits_1 rfl (by decide) (Nat.le_of_ble_eq_true rfl) rfl ?_
  refine q_iload_n (pc := 2) K dX5_bits_2 rfl rfl ?_
  refine q_istore_n (pc := 3) (lv' := [some (.int v0), some (.int 0), some (.int v0)]) K dX5_bits_3 rfl (by decide) (Nat.le_of_ble_eq_true rfl) rfl ?_
  refine qq_drop 0 (lv' := [none, some (.int 0), some (.int v0)]) rfl ?_
  refine lX5_bits_4 l hN K 257 0 v0 σ (by omega) (by omega) (fun r4 => ?_)
  refine q_iload_n (pc := 20) K dX5_bits_20 rfl rfl ?_
  exact q_iretP K hr dX5_bits_21
theorem hdS_X5_sunAt : yX5_sunAt.cls ≠ "java/lang/invoke/MethodHandle" ∧ yX5_sunAt.cls ≠ "java/lang/invoke/VarHandle" ∧ (parseMethodDescriptor yX5_sunAt.desc).map (fun d => d.parameters.length) = some 1 := by decide +kernel
theorem mX5_sunAt_l52 : Cond.methodLink RX5 52 Lib.Math.abs.name ∈ wsX5_sunAt := List.mem_of_getElem? (i := 1) rfl
theorem mX5_sunAt_s52 : Cond.static Lib.Math.abs.name ∈ wsX5_sunAt := List.mem_of_getElem? (i := 2) rfl
theorem mX5_sunAt_iM : Cond.initialized "java/lang/Math" ∈ wsX5_sunAt := List.mem_of_getElem? (i := 3) rfl
theorem mX5_sunAt_d52 : Cond.code Lib.Math.abs.name Lib.Math.abs.code 1 (some .int) ∈ wsX5_sunAt := List.mem_of_getElem? (i := 4) rfl
set_option maxRecDepth 100000 in
set_option maxHeartbeats 4000000 in
theorem kX5_sunAt (l : Launch) {G : gT} (hN : wN G) (v0 : Int32) (σ : sg) : cM l yX5_sunAt wsX5_sunAt rmX5_sunAt G [.int v0] σ (some (.int (fX5_sunAt v0))) σ := by
  refine cM_of (maxL := 2) (ret := (some .int)) (cc := cX5_sunAt) (fX5_sunAt v0) RX5 hN (by decide +kernel) rfl rfl (Nat.le_of_ble_eq_true rfl) rfl ?_
  intro p e s m args below meth c K hr
  have k0 : (0 : Int32).toInt = 0 := rfl
  have k4 : (4 : Int32).toInt = 4 := rfl
  have k6 : (6 : Int32).toInt = 6 := rfl
  have k13 : (13 : Int32).toInt = 13 := rfl
  have k20 : (20 : Int32).toInt = 20 := rfl
  have k24 : (24 : Int32).toInt = 24 := rfl
  have k28 : (28 : Int32).toInt = 28 := rfl
  refine qq_st (lv' := [some (.int v0), none]) rfl rfl rfl ?_
  refine qq_T (fX5_sunAt.eq_1 ..) ?_
  refine q_iload_n (pc := 0) K dX5_sunAt_0 rfl rfl ?_
  refine q_bipush (pc := 1) (v := 24) K dX5_sunAt_1 (by decide) ?_
  refine q_irem (pc := 3) K dX5_sunAt_3 (by decide) ?_
  refine q_istore_n (pc := 4) (lv' := [some (.int v0), some (.int (jrem v0 24))]) K dX5_sunAt_4 rfl (by decide) (Nat.le_of_ble_eq_true rfl) rfl ?_
  refine q_iload_n (pc := 5) K dX5_sunAt_5 rfl rfl ?_
  refine q_bipush (pc := 6) (v := 6) K dX5_sunAt_6 (by decide) ?_
  refine q_icmp_lt (pc := 8) (tgt := 17) K dX5_sunAt_8 (by decide) (fun c1 => ?_) (fun c1 => ?_)
  · have i5 := ltI c1
    refine q_iconst (pc := 17) (v := 0) K dX5_sunAt_17 (by decide) ?_
    refine q_goto (pc := 18) (tgt := 33) K dX5_sunAt_18 (by decide) ?_
    exact q_iretP K hr dX5_sunAt_33
  · have i6 := nltI c1
    refine q_iload_n (pc := 11) K dX5_sunAt_11 rfl rfl ?_
    refine q_bipush (pc := 12) (v := 20) K dX5_sunAt_12 (by decide) ?_
    refine q_icmp_lt (pc := 14) (tgt := 21) K dX5_sunAt_14 (by decide) (fun c2 => ?_) (fun c2 => ?_)
    · have i3 := ltI c2
      refine q_bipush (pc := 21) (v := 28) K dX5_sunAt_21 (by decide) ?_
      refine q_iconst (pc := 23) (v := 4) K dX5_sunAt_23 (by decide) ?_
      refine q_iload_n (pc := 24) K dX5_sunAt_24 rfl rfl ?_
      refine q_bipush (pc := 25) (v := 13) K dX5_sunAt_25 (by decide) ?_
      refine q_isub (pc := 27) K dX5_sunAt_27 ?_
      refine q_mabs (pc := 28) K mX5_sunAt_l52 mX5_sunAt_s52 mX5_sunAt_iM mX5_sunAt_d52 (Nat.le_of_ble_eq_true rfl) (Nat.le_of_ble_eq_true rfl) dX5_sunAt_28 ?_
      refine q_imul (pc := 31) K dX5_sunAt_31 ?_
      refine q_isub (pc := 32) K dX5_sunAt_32 ?_
      exact q_iretP K hr dX5_sunAt_33
    · have i4 := nltI c2
      refine q_iconst (pc := 17) (v := 0) K dX5_sunAt_17 (by decide) ?_
      refine q_goto (pc := 18) (tgt := 33) K dX5_sunAt_18 (by decide) ?_
      exact q_iretP K hr dX5_sunAt_33
theorem hdS_X5_feels : yX5_feels.cls ≠ "java/lang/invoke/MethodHandle" ∧ yX5_feels.cls ≠ "java/lang/invoke/VarHandle" ∧ (parseMethodDescriptor yX5_feels.desc).map (fun d => d.parameters.length) = some 2 := by decide +kernel
set_option maxRecDepth 100000 in
set_option maxHeartbeats 4000000 in
theorem kX5_feels (l : Launch) {G : gT} (hN : wN G) (v0 : Int32) (v1 : Int32) (σ : sg) : cM l yX5_feels wsX5_feels rmX5_feels G [.int v0, .int v1] σ (some (.int (fX5_feels v0 v1))) σ := by
  refine cM_of (maxL := 2) (ret := (some .int)) (cc := cX5_feels) (fX5_feels v0 v1) RX5 hN (by decide +kernel) rfl rfl (Nat.le_of_ble_eq_true rfl) rfl ?_
  intro p e s m args below meth c K hr
  have k0 : (0 : Int32).toInt = 0 := rfl
  have k2 : (2 : Int32).toInt = 2 := rfl
  have k3 : (3 : Int32).toInt = 3 := rfl
  have k4 : (4 : Int32).toInt = 4 := rfl
  have k5 : (5 : Int32).toInt = 5 := rfl
  have k6 : (6 : Int32).toInt = 6 := rfl
  refine qq_st (lv' := [some (.int v0), some (.int v1)]) rfl rfl rfl ?_
  refine qq_T (fX5_feels.eq_1 ..) ?_
  refine q_iload_n (pc := 0) K dX5_feels_0 rfl rfl ?_
  refine q_iconst (pc := 1) (v := 5) K dX5_feels_1 (by decide) ?_
  refine q_icmp_eq (pc := 2) (tgt := 11) K dX5_feels_2 (by decide) (fun c1 => ?_) (fun c1 => ?_)
  · have i8 := eqI c1
    refine q_iconst (pc := 11) (v := 2) K dX5_feels_11 (by decide) ?_
    refine q_iload_n (pc := 12) K dX5_feels_12 rfl rfl ?_
    refine q_imul (pc := 13) K dX5_feels_13 ?_
    refine q_iconst (pc := 14) (v := 3) K dX5_feels_14 (by decide) ?_
    refine q_idiv (pc := 15) K dX5_feels_15 (by decide) ?_
    refine q_goto (pc := 16) (tgt := 31) K dX5_feels_16 (by decide) ?_
    exact q_iretP K hr dX5_feels_31
  · have i9 := neI c1
    refine q_iload_n (pc := 5) K dX5_feels_5 rfl rfl ?_
    refine q_bipush (pc := 6) (v := 6) K dX5_feels_6 (by decide) ?_
    refine q_icmp_ne (pc := 8) (tgt := 19) K dX5_feels_8 (by decide) (fun c2 => ?_) (fun c2 => ?_)
    · have i6 := neI c2
      refine q_iload_n (pc := 19) K dX5_feels_19 rfl rfl ?_
      refine q_iconst (pc := 20) (v := 4) K dX5_feels_20 (by decide) ?_
      refine q_icmp_ne (pc := 21) (tgt := 30) K dX5_feels_21 (by decide) (fun c3 => ?_) (fun c3 => ?_)
      · have i4 := neI c3
        refine q_iload_n (pc := 30) K dX5_feels_30 rfl rfl ?_
        exact q_iretP K hr dX5_feels_31
      · have i5 := eqI c3
        refine q_iload_n (pc := 24) K dX5_feels_24 rfl rfl ?_
        refine q_iconst (pc := 25) (v := 4) K dX5_feels_25 (by decide) ?_
        refine q_isub (pc := 26) K dX5_feels_26 ?_
        refine q_goto (pc := 27) (tgt := 31) K dX5_feels_27 (by decide) ?_
        exact q_iretP K hr dX5_feels_31
    · have i7 := eqI c2
      refine q_iconst (pc := 11) (v := 2) K dX5_feels_11 (by decide) ?_
      refine q_iload_n (pc := 12) K dX5_feels_12 rfl rfl ?_
      refine q_imul (pc := 13) K dX5_feels_13 ?_
      refine q_iconst (pc := 14) (v := 3) K dX5_feels_14 (by decide) ?_
      refine q_idiv (pc := 15) K dX5_feels_15 (by decide) ?_
      refine q_goto (pc := 16) (tgt := 31) K dX5_feels_16 (by decide) ?_
      exact q_iretP K hr dX5_feels_31
theorem hdS_X5_stands : yX5_stands.cls ≠ "java/lang/invoke/MethodHandle" ∧ yX5_stands.cls ≠ "java/lang/invoke/VarHandle" ∧ (parseMethodDescriptor yX5_stands.desc).map (fun d => d.parameters.length) = some 2 := by decide +kernel
set_option maxRecDepth 100000 in
set_option maxHeartbeats 4000000 in
theorem kX5_stands (l : Launch) {G : gT} (hN : wN G) (v0 : Int32) (v1 : Int32) (σ : sg) : cM l yX5_stands wsX5_stands rmX5_stands G [.int v0, .int v1] σ (some (.int (fX5_stands v0 v1))) σ := by
  refine cM_of (maxL := 2) (ret := (some .int)) (cc := cX5_stands) (fX5_stands v0 v1) RX5 hN (by decide +kernel) rfl rfl (Nat.le_of_ble_eq_true rfl) rfl ?_
  intro p e s m args below meth c K hr
  have k0 : (0 : Int32).toInt = 0 := rfl
  have k2 : (2 : Int32).toInt = 2 := rfl
  have k3 : (3 : Int32).toInt = 3 := rfl
  have k5 : (5 : Int32).toInt = 5 := rfl
  have k6 : (6 : Int32).toInt = 6 := rfl
  have k8 : (8 : Int32).toInt = 8 := rfl
  refine qq_st (lv' := [some (.int v0), some (.int v1)]) rfl rfl rfl ?_
  refine qq_T (fX5_stands.eq_1 ..) ?_
  refine q_iload_n (pc := 0) K dX5_stands_0 rfl rfl ?_
  refine q_iconst (pc := 1) (v := 2) K dX5_stands_1 (by decide) ?_
  refine q_icmp_eq (pc := 2) (tgt := 10) K dX5_stands_2 (by decide) (fun c1 => ?_) (fun c1 => ?_)
  · have i8 := eqI c1
    refine q_iload_n (pc := 10) K dX5_stands_10 rfl rfl ?_
    refine q_bipush (pc := 11) (v := 8) K dX5_stands_11 (by decide) ?_
    refine q_isub (pc := 13) K dX5_stands_13 ?_
    refine q_goto (pc := 14) (tgt := 30) K dX5_stands_14 (by decide) ?_
    exact q_iretP K hr dX5_stands_30
  · have i9 := neI c1
    refine q_iload_n (pc := 5) K dX5_stands_5 rfl rfl ?_
    refine q_iconst (pc := 6) (v := 3) K dX5_stands_6 (by decide) ?_
    refine q_icmp_ne (pc := 7) (tgt := 17) K dX5_stands_7 (by decide) (fun c2 => ?_) (fun c2 => ?_)
    · have i6 := neI c2
      refine q_iload_n (pc := 17) K dX5_stands_17 rfl rfl ?_
      refine q_bipush (pc := 18) (v := 6) K dX5_stands_18 (by decide) ?_
      refine q_icmp_ne (pc := 20) (tgt := 29) K dX5_stands_20 (by decide) (fun c3 => ?_) (fun c3 => ?_)
      · have i4 := neI c3
        refine q_iload_n (pc := 29) K dX5_stands_29 rfl rfl ?_
        exact q_iretP K hr dX5_stands_30
      · have i5 := eqI c3
        refine q_iload_n (pc := 23) K dX5_stands_23 rfl rfl ?_
        refine q_iconst (pc := 24) (v := 5) K dX5_stands_24 (by decide) ?_
        refine q_isub (pc := 25) K dX5_stands_25 ?_
        refine q_goto (pc := 26) (tgt := 30) K dX5_stands_26 (by decide) ?_
        exact q_iretP K hr dX5_stands_30
    · have i7 := eqI c2
      refine q_iload_n (pc := 10) K dX5_stands_10 rfl rfl ?_
      refine q_bipush (pc := 11) (v := 8) K dX5_stands_11 (by decide) ?_
      refine q_isub (pc := 13) K dX5_stands_13 ?_
      refine q_goto (pc := 14) (tgt := 30) K dX5_stands_14 (by decide) ?_
      exact q_iretP K hr dX5_stands_30
theorem hdS_X5_runsAt : yX5_runsAt.cls ≠ "java/lang/invoke/MethodHandle" ∧ yX5_runsAt.cls ≠ "java/lang/invoke/VarHandle" ∧ (parseMethodDescriptor yX5_runsAt.desc).map (fun d => d.parameters.length) = some 1 := by decide +kernel
set_option maxRecDepth 100000 in
set_option maxHeartbeats 4000000 in
theorem kX5_runsAt (l : Launch) {G : gT} (hN : wN G) (v0 : Int32) (σ : sg) : cM l yX5_runsAt wsX5_runsAt rmX5_runsAt G [.int v0] σ (some (.int (fX5_runsAt v0))) σ := by
  refine cM_of (maxL := 1) (ret := (some .int)) (cc := cX5_runsAt) (fX5_runsAt v0) RX5 hN (by decide +kernel) rfl rfl (Nat.le_of_ble_eq_true rfl) rfl ?_
  intro p e s m args below meth c K hr
  have k0 : (0 : Int32).toInt = 0 := rfl
  have k1 : (1 : Int32).toInt = 1 := rfl
  have k3 : (3 : Int32).toInt = 3 := rfl
  have k4 : (4 : Int32).toInt = 4 := rfl
  have k5 : (5 : Int32).toInt = 5 := rfl
  have k10 : (10 : Int32).toInt = 10 := rfl
  have k20 : (20 : Int32).toInt = 20 := rfl
  refine qq_st (lv' := [some (.int v0)]) rfl rfl rfl ?_
  refine qq_T (fX5_runsAt.eq_1 ..) ?_
  refine q_iload_n (pc := 0) K dX5_runsAt_0 rfl rfl ?_
  refine q_iconst (pc := 1) (v := 1) K dX5_runsAt_1 (by decide) ?_
  refine q_icmp_eq (pc := 2) (tgt := 10) K dX5_runsAt_2 (by decide) (fun c1 => ?_) (fun c1 => ?_)
  · have i8 := eqI c1
    refine q_bipush (pc := 10) (v := 20) K dX5_runsAt_10 (by decide) ?_
    refine q_goto (pc := 12) (tgt := 26) K dX5_runsAt_12 (by decide) ?_
    exact q_iretP K hr dX5_runsAt_26
  · have i9 := neI c1
    refine q_iload_n (pc := 5) K dX5_runsAt_5 rfl rfl ?_
    refine q_iconst (pc := 6) (v := 4) K dX5_runsAt_6 (by decide) ?_
    refine q_icmp_ne (pc := 7) (tgt := 15) K dX5_runsAt_7 (by decide) (fun c2 => ?_) (fun c2 => ?_)
    · have i6 := neI c2
      refine q_iload_n (pc := 15) K dX5_runsAt_15 rfl rfl ?_
      refine q_iconst (pc := 16) (v := 3) K dX5_runsAt_16 (by decide) ?_
      refine q_icmp_ne (pc := 17) (tgt := 24) K dX5_runsAt_17 (by decide) (fun c3 => ?_) (fun c3 => ?_)
      · have i4 := neI c3
        refine q_bipush (pc := 24) (v := 10) K dX5_runsAt_24 (by decide) ?_
        exact q_iretP K hr dX5_runsAt_26
      · have i5 := eqI c3
        refine q_iconst (pc := 20) (v := 5) K dX5_runsAt_20 (by decide) ?_
        refine q_goto (pc := 21) (tgt := 26) K dX5_runsAt_21 (by decide) ?_
        exact q_iretP K hr dX5_runsAt_26
    · have i7 := eqI c2
      refine q_bipush (pc := 10) (v := 20) K dX5_runsAt_10 (by decide) ?_
      refine q_goto (pc := 12) (tgt := 26) K dX5_runsAt_12 (by decide) ?_
      exact q_iretP K hr dX5_runsAt_26
theorem hdS_X5_cut : yX5_cut.cls ≠ "java/lang/invoke/MethodHandle" ∧ yX5_cut.cls ≠ "java/lang/invoke/VarHandle" ∧ (parseMethodDescriptor yX5_cut.desc).map (fun d => d.parameters.length) = some 2 := by decide +kernel
set_option maxRecDepth 100000 in
set_option maxHeartbeats 4000000 in
theorem kX5_cut (l : Launch) {G : gT} (hN : wN G) (v0 : Int32) (v1 : Int32) (σ : sg) : cM l yX5_cut wsX5_cut rmX5_cut G [.int v0, .int v1] σ (some (.int (fX5_cut v0 v1))) σ := by
  refine cM_of (maxL := 2) (ret := (some .int)) (cc := cX5_cut) (fX5_cut v0 v1) RX5 hN (by decide +kernel) rfl rfl (Nat.le_of_ble_eq_true rfl) rfl ?_
  intro p e s m args below meth c K hr
  have k0 : (0 : Int32).toInt = 0 := rfl
  have k8 : (8 : Int32).toInt = 8 := rfl
  have k16 : (16 : Int32).toInt = 16 := rfl
  refine qq_st (lv' := [some (.int v0), some (.int v1)]) rfl rfl rfl ?_
  refine qq_T (fX5_cut.eq_1 ..) ?_
  refine q_iload_n (pc := 0) K dX5_cut_0 rfl rfl ?_
  refine q_bipush (pc := 1) (v := 8) K dX5_cut_1 (by decide) ?_
  refine q_icmp_ne (pc := 3) (tgt := 11) K dX5_cut_3 (by decide) (fun c1 => ?_) (fun c1 => ?_)
  · have i5 := neI c1
    refine q_iload_n (pc := 11) K dX5_cut_11 rfl rfl ?_
    refine q_bipush (pc := 12) (v := 16) K dX5_cut_12 (by decide) ?_
    refine q_icmp_ne (pc := 14) (tgt := 22) K dX5_cut_14 (by decide) (fun c2 => ?_) (fun c2 => ?_)
    · have i3 := neI c2
      refine q_iload_n (pc := 22) K dX5_cut_22 rfl rfl ?_
      exact q_iretP K hr dX5_cut_23
    · have i4 := eqI c2
      refine q_iload_n (pc := 17) K dX5_cut_17 rfl rfl ?_
      refine q_i2s (pc := 18) K dX5_cut_18 ?_
      refine q_goto (pc := 19) (tgt := 23) K dX5_cut_19 (by decide) ?_
      exact q_iretP K hr dX5_cut_23
  · have i6 := eqI c1
    refine q_iload_n (pc := 6) K dX5_cut_6 rfl rfl ?_
    refine q_i2b (pc := 7) K dX5_cut_7 ?_
    refine q_goto (pc := 8) (tgt := 23) K dX5_cut_8 (by decide) ?_
    exact q_iretP K hr dX5_cut_23
theorem hdS_X5_row : yX5_row.cls ≠ "java/lang/invoke/MethodHandle" ∧ yX5_row.cls ≠ "java/lang/invoke/VarHandle" ∧ (parseMethodDescriptor yX5_row.desc).map (fun d => d.parameters.length) = some 2 := by decide +kernel
set_option maxRecDepth 100000 in
set_option maxHeartbeats 4000000 in
theorem lX5_row_2 {p : Program} (l : Launch) {e : Env} {s : State} {m : MethodId} {args : Array Value} {below : List Frame} {meth : Method} {c : Code} {Q : State → Prop} {G : gT} (hN : wN G) (hG : gfl G = false) (K : qK p s m args meth c cX5_row 3 RX5 wsX5_row G) (a0 : Nat) (ha0 : a0 < 4) (a1 : Nat) (ha1 : a1 < 4) : ∀ (k : Nat) (v2 : Int32) (σ : sg) (hv2 : 0 ≤ v2.toInt ∧ v2.toInt ≤ 80) (hmu : (80 - v2.toInt).toNat < k) {ρ : Type} {E : ρ → Prop} {f : sg → ρ} (hk : ∀ r : sg, qq p l e (headSpec wsX5_row rmX5_row).room s m args below meth c Q 3 G E (f r) 20 [none, none, none] [] r), qq p l e (headSpec wsX5_row rmX5_row).room s m args below meth c Q 3 G E (bnd (LX5_row_2 a0 a1 k v2 σ) f) 2 [some (.ref (gad G a0)), some (.ref (gad G a1)), some (.int v2)] [] σ := by
  intro k
  induction k with
  | zero => intro v2 σ hv2 hmu ρ E f hk; exact absurd hmu (Nat.not_lt_zero _)
  | succ k ih =>
    intro v2 σ hv2 hmu ρ E f hk
    have k0 : (0 : Int32).toInt = 0 := rfl
    have k1 : (1 : Int32).toInt = 1 := rfl
    have k80 : (80 : Int32).toInt = 80 := rfl
    refine qq_in ?_
    refine qq_T (LX5_row_2.eq_2 ..) ?_
    refine q_iload_n (pc := 2) K dX5_row_2 rfl rfl ?_
    refine q_bipush (pc := 3) (v := 80) K dX5_row_3 (by decide) ?_
    refine q_icmp_ge (pc := 5) (tgt := 20) K dX5_row_5 (by decide) (fun c1 => ?_) (fun c1 => ?_)
    · have i5 := leI c1
      refine qq_drop 0 (lv' := [none, some (.ref (gad G a1)), some (.int v2)]) rfl ?_
      refine qq_drop 1 (lv' := [none, none, some (.int v2)]) rfl ?_
      refine qq_drop 2 (lv' := [none, none, none]) rfl ?_
      exact qq_leaf (hk σ)
    · have i6 := nleI c1
      refine q_aload_n (pc := 8) K dX5_row_8 rfl rfl ?_
      refine q_iload_n (pc := 9) K dX5_row_9 rfl rfl ?_
      refine q_aload_n (pc := 10) K dX5_row_10 rfl rfl ?_
      refine q_iload_n (pc := 11) K dX5_row_11 rfl rfl ?_
      refine q_iald (pc := 12) (a := a0) K (by rw [wna_f hG]; omega) (vinN (wlm_r hG ha0) (by omega) (by omega)) dX5_row_12 ?_
      refine q_iast (pc := 13) (a := a1) K (by rw [wna_f hG]; omega) (vinN (wlm_r hG ha1) (by omega) (by omega)) dX5_row_13 (fun s2 e3 => ?_)
      refine q_iinc (pc := 14) (v := (v2 + 1)) (lv' := [some (.ref (gad G a0)), some (.ref (gad G a1)), some (.int (v2 + 1))]) K dX5_row_14 rfl rfl (by decide) rfl ?_
      refine q_goto (pc := 17) (tgt := 2) K dX5_row_17 (by decide) ?_
      have a4 := addI (x := v2) (y := 1) (by omega) (by omega)
      exact qq_out (ih (v2 + 1) s2 (by omega) (by omega) hk)
set_option maxRecDepth 100000 in
set_option maxHeartbeats 4000000 in
theorem kX5_row (l : Launch) {G : gT} (hN : wN G) (hG : gfl G = false) (a0 : Nat) (ha0 : a0 < 4) (a1 : Nat) (ha1 : a1 < 4) (σ : sg) (hne : a0 ≠ a1) : cM l yX5_row wsX5_row rmX5_row G [.ref (gad G a0), .ref (gad G a1)] σ none (fX5_row a0 a1 σ) := by
  refine cM_of (maxL := 3) (ret := none) (cc := cX5_row) (fX5_row a0 a1 σ) RX5 hN (by decide +kernel) rfl rfl (Nat.le_of_ble_eq_true rfl) rfl ?_
  intro p e s m args below meth c K hr
  have k0 : (0 : Int32).toInt = 0 := rfl
  refine qq_st (lv' := [some (.ref (gad G a0)), some (.ref (gad G a1)), none]) rfl rfl rfl ?_
  refine qq_T (fX5_row.eq_1 ..) ?_
  refine q_iconst (pc := 0) (v := 0) K dX5_row_0 (by decide) ?_
  refine q_istore_n (pc := 1) (lv' := [some (.ref (gad G a0)), some (.ref (gad G a1)), some (.int 0)]) K dX5_row_1 rfl (by decide) (Nat.le_of_ble_eq_true rfl) rfl ?_
  refine lX5_row_2 l hN hG K a0 ha0 a1 ha1 81 0 σ (by omega) (by omega) (fun r7 => ?_)
  exact q_vretW K hr dX5_row_20
theorem hdV_X5_finding : yX5_finding.cls = RX5 ∧ yX5_finding.cls ≠ "java/lang/invoke/MethodHandle" ∧ yX5_finding.cls ≠ "java/lang/invoke/VarHandle" ∧ (parseMethodDescriptor yX5_finding.desc).map (fun d => d.parameters.length) = some 1 := by decide +kernel
theorem mX5_finding_f25 : Cond.fieldLink RX5 25 "WaxTreatiesModel" "found" "[I" ∈ wsX5_finding := List.mem_of_getElem? (i := 1) rfl
theorem iwX5_finding_X5 : ∀ w ∈ wsX50, w ∈ wsX5_finding := fun w h => List.mem_cons_of_mem _ (List.mem_append_right _ h)
theorem mX5_finding_c43 : Cond.constant RX5 43 (-1000001) ∈ wsX5_finding := List.mem_of_getElem? (i := 2) rfl
set_option maxRecDepth 100000 in
set_option maxHeartbeats 4000000 in
theorem kX5_finding (l : Launch) {G : gT} (hN : wN G) (hG : gfl G = false) (v1 : Int32) (σ : sg) (hw : WM σ) (hb : 0 ≤ v1.toInt ∧ v1.toInt ≤ 6) : cM l yX5_finding wsX5_finding rmX5_finding G [.ref (gob G 0), .int v1] σ (some (.int (fX5_finding v1 σ).1)) (fX5_finding v1 σ).2 := by
  refine cM_of (maxL := 2) (ret := (some .int)) (cc := cX5_finding) (fX5_finding v1 σ) RX5 hN (by decide +kernel) rfl rfl (Nat.le_of_ble_eq_true rfl) rfl ?_
  intro p e s m args below meth c K hr
  have km1000001 : ((-1000001) : Int32).toInt = -1000001 := rfl
  have k0 : (0 : Int32).toInt = 0 := rfl
  have k1 : (1 : Int32).toInt = 1 := rfl
  refine qq_st (lv' := [some (.ref (gob G 0)), some (.int v1)]) rfl rfl rfl ?_
  refine qq_T (fX5_finding.eq_1 ..) ?_
  refine q_aload_n (pc := 0) K dX5_finding_0 rfl rfl ?_
  refine q_get (pc := 1) (o := 0) (f := 7) (v := .ref (gad G 5)) K (wO_m hG) vw_4 iwX5_finding_X5 (by decide) mX5_finding_f25 rfl dX5_finding_1 ?_
  refine q_iload_n (pc := 4) K dX5_finding_4 rfl rfl ?_
  refine q_dup2 (pc := 5) K dX5_finding_5 rfl rfl ?_
  refine q_iald (pc := 6) (a := 5) K (by rw [wna_f hG]; decide) (vinN (wlm (n := 7) hG 5 rfl) (by omega) (by omega)) dX5_finding_6 ?_
  refine q_iconst (pc := 7) (v := 1) K dX5_finding_7 (by decide) ?_
  refine q_iadd (pc := 8) K dX5_finding_8 ?_
  refine q_iast (pc := 9) (a := 5) K (by rw [wna_f hG]; decide) (vinN (wlm (n := 7) hG 5 rfl) (by omega) (by omega)) dX5_finding_9 (fun s1 e2 => ?_)
  have hw3 : WM s1 := by rw [e2]; exact wmA hw (by omega)
  have m4 := many6 e2 (show 0 ≠ 5 by decide)
  refine q_ldc (pc := 10) (v := (-1000001)) K dX5_finding_10 mX5_finding_c43 ?_
  refine q_iload_n (pc := 12) K dX5_finding_12 rfl rfl ?_
  refine q_isub (pc := 13) K dX5_finding_13 ?_
  exact q_iret K hr dX5_finding_14
theorem hdV_X5_isDeed : yX5_isDeed.cls = RX5 ∧ yX5_isDeed.cls ≠ "java/lang/invoke/MethodHandle" ∧ yX5_isDeed.cls ≠ "java/lang/invoke/VarHandle" ∧ (parseMethodDescriptor yX5_isDeed.desc).map (fun d => d.parameters.length) = some 1 := by decide +kernel
theorem mX5_isDeed_f9 : Cond.fieldLink RX5 9 "WaxTreatiesModel" "now" "[I" ∈ wsX5_isDeed := List.mem_of_getElem? (i := 1) rfl
theorem iwX5_isDeed_X5 : ∀ w ∈ wsX50, w ∈ wsX5_isDeed := fun w h => List.mem_cons_of_mem _ (List.mem_append_right _ h)
set_option maxRecDepth 100000 in
set_option maxHeartbeats 4000000 in
theorem kX5_isDeed (l : Launch) {G : gT} (hN : wN G) (hG : gfl G = false) (v1 : Int32) (σ : sg) (hw : WM σ) : cM l yX5_isDeed wsX5_isDeed rmX5_isDeed G [.ref (gob G 0), .int v1] σ (some (.int (fX5_isDeed v1 σ))) σ := by
  refine cM_of (maxL := 2) (ret := (some .boolean)) (cc := cX5_isDeed) (fX5_isDeed v1 σ) RX5 hN (by decide +kernel) rfl rfl (Nat.le_of_ble_eq_true rfl) rfl ?_
  intro p e s m args below meth c K hr
  have k0 : (0 : Int32).toInt = 0 := rfl
  have k1 : (1 : Int32).toInt = 1 := rfl
  refine qq_st (lv' := [some (.ref (gob G 0)), some (.int v1)]) rfl rfl rfl ?_
  refine qq_T (fX5_isDeed.eq_1 ..) ?_
  refine q_iload_n (pc := 0) K dX5_isDeed_0 rfl rfl ?_
  refine q_iconst (pc := 1) (v := 0) K dX5_isDeed_1 (by decide) ?_
  refine q_aload_n (pc := 2) K dX5_isDeed_2 rfl rfl ?_
  refine q_get (pc := 3) (o := 0) (f := 0) (v := .ref (gad G 0)) K (wO_m hG) vw_4 iwX5_isDeed_X5 (by decide) mX5_isDeed_f9 rfl dX5_isDeed_3 ?_
  refine q_iconst (pc := 6) (v := 0) K dX5_isDeed_6 (by decide) ?_
  refine q_iald (pc := 7) (a := 0) K (by rw [wna_f hG]; decide) (vinN (wlm (n := 80) hG 0 rfl) (by omega) (by omega)) dX5_isDeed_7 ?_
  have w1 := wm_many hw (show 0 < 4 by decide)
  refine q_iconst (pc := 8) (v := 1) K dX5_isDeed_8 (by decide) ?_
  refine q_isub (pc := 9) K dX5_isDeed_9 ?_
  have a2 := subI (x := (rA σ 0 0)) (y := 1) (by omega) (by omega)
  refine q_callSi (pc := 10) (rm := rmX5_within) K (kX5_within l hN v1 0 ((rA σ 0 0) - 1) σ) gX5_isDeed_X5_within rfl hdS_X5_within ⟨Nat.le_of_ble_eq_true rfl, Nat.le_of_ble_eq_true rfl⟩ rfl rfl ⟨Nat.zero_le _, Nat.zero_le _⟩ rfl rfl (Nat.le_of_ble_eq_true rfl) dX5_isDeed_10 ?_
  exact q_zretP K hr (b01_X5_within _ _ _) dX5_isDeed_13
theorem hdV_X5_isTime : yX5_isTime.cls = RX5 ∧ yX5_isTime.cls ≠ "java/lang/invoke/MethodHandle" ∧ yX5_isTime.cls ≠ "java/lang/invoke/VarHandle" ∧ (parseMethodDescriptor yX5_isTime.desc).map (fun d => d.parameters.length) = some 1 := by decide +kernel
theorem mX5_isTime_f9 : Cond.fieldLink RX5 9 "WaxTreatiesModel" "now" "[I" ∈ wsX5_isTime := List.mem_of_getElem? (i := 1) rfl
theorem iwX5_isTime_X5 : ∀ w ∈ wsX50, w ∈ wsX5_isTime := fun w h => List.mem_cons_of_mem _ (List.mem_append_right _ h)
set_option maxRecDepth 100000 in
set_option maxHeartbeats 4000000 in
theorem kX5_isTime (l : Launch) {G : gT} (hN : wN G) (hG : gfl G = false) (v1 : Int32) (σ : sg) (hw : WM σ) : cM l yX5_isTime wsX5_isTime rmX5_isTime G [.ref (gob G 0), .int v1] σ (some (.int (fX5_isTime v1 σ))) σ := by
  refine cM_of (maxL := 2) (ret := (some .boolean)) (cc := cX5_isTime) (fX5_isTime v1 σ) RX5 hN (by decide +kernel) rfl rfl (Nat.le_of_ble_eq_true rfl) rfl ?_
  intro p e s m args below meth c K hr
  have k0 : (0 : Int32).toInt = 0 := rfl
  have k1 : (1 : Int32).toInt = 1 := rfl
  have k2 : (2 : Int32).toInt = 2 := rfl
  have k9999 : (9999 : Int32).toInt = 9999 := rfl
  refine qq_st (lv' := [some (.ref (gob G 0)), some (.int v1)]) rfl rfl rfl ?_
  refine qq_T (fX5_isTime.eq_1 ..) ?_
  refine q_aload_n (pc := 0) K dX5_isTime_0 rfl rfl ?_
  refine q_get (pc := 1) (o := 0) (f := 0) (v := .ref (gad G 0)) K (wO_m hG) vw_4 iwX5_isTime_X5 (by decide) mX5_isTime_f9 rfl dX5_isTime_1 ?_
  refine q_iconst (pc := 4) (v := 2) K dX5_isTime_4 (by decide) ?_
  refine q_iald (pc := 5) (a := 0) K (by rw [wna_f hG]; decide) (vinN (wlm (n := 80) hG 0 rfl) (by omega) (by omega)) dX5_isTime_5 ?_
  refine q_iload_n (pc := 6) K dX5_isTime_6 rfl rfl ?_
  refine q_iadd (pc := 7) K dX5_isTime_7 ?_
  refine q_sipush (pc := 8) (v := 9999) K dX5_isTime_8 (by decide) ?_
  refine q_icmp_gt (pc := 11) (tgt := 18) K dX5_isTime_11 (by decide) (fun c1 => ?_) (fun c1 => ?_)
  · have i2 := ltI c1
    refine q_iconst (pc := 18) (v := 0) K dX5_isTime_18 (by decide) ?_
    exact q_zretP K hr (Or.inl rfl) dX5_isTime_19
  · have i3 := nltI c1
    refine q_iconst (pc := 14) (v := 1) K dX5_isTime_14 (by decide) ?_
    refine q_goto (pc := 15) (tgt := 19) K dX5_isTime_15 (by decide) ?_
    exact q_zretP K hr (Or.inr rfl) dX5_isTime_19
theorem hdS_X5_heatOf : yX5_heatOf.cls ≠ "java/lang/invoke/MethodHandle" ∧ yX5_heatOf.cls ≠ "java/lang/invoke/VarHandle" ∧ (parseMethodDescriptor yX5_heatOf.desc).map (fun d => d.parameters.length) = some 3 := by decide +kernel
set_option maxRecDepth 100000 in
set_option maxHeartbeats 4000000 in
theorem kX5_heatOf (l : Launch) {G : gT} (hN : wN G) (hG : gfl G = false) (a0 : Nat) (ha0 : a0 < 4) (v1 : Int32) (v2 : Int32) (σ : sg) (hw : WM σ) (hb : 0 ≤ v1.toInt ∧ v1.toInt ≤ 5) : cM l yX5_heatOf wsX5_heatOf rmX5_heatOf G [.ref (gad G a0), .int v1, .int v2] σ (some (.int (fX5_heatOf a0 v1 v2 σ))) σ := by
  refine cM_of (maxL := 5) (ret := (some .int)) (cc := cX5_heatOf) (fX5_heatOf a0 v1 v2 σ) RX5 hN (by decide +kernel) rfl rfl (Nat.le_of_ble_eq_true rfl) rfl ?_
  intro p e s m args below meth c K hr
  have k0 : (0 : Int32).toInt = 0 := rfl
  have k1 : (1 : Int32).toInt = 1 := rfl
  have k2 : (2 : Int32).toInt = 2 := rfl
  have k4 : (4 : Int32).toInt = 4 := rfl
  have k6 : (6 : Int32).toInt = 6 := rfl
  have k10 : (10 : Int32).toInt = 10 := rfl
  have k12 : (12 : Int32).toInt = 12 := rfl
  have k16 : (16 : Int32).toInt = 16 := rfl
  refine qq_st (lv' := [some (.ref (gad G a0)), some (.int v1), some (.int v2), none, none]) rfl rfl rfl ?_
  refine qq_T (fX5_heatOf.eq_1 ..) ?_
  refine q_iload_n (pc := 0) K dX5_heatOf_0 rfl rfl ?_
  refine q_callSi (pc := 1) (rm := rmX5_sunAt) K (kX5_sunAt l hN v2 σ) gX5_heatOf_X5_sunAt rfl hdS_X5_sunAt ⟨Nat.le_of_ble_eq_true rfl, Nat.le_of_ble_eq_true rfl⟩ rfl rfl ⟨Nat.zero_le _, Nat.zero_le _⟩ rfl rfl (Nat.le_of_ble_eq_true rfl) dX5_heatOf_1 ?_
  refine q_istore_n (pc := 4) (lv' := [some (.ref (gad G a0)), some (.int v1), some (.int v2), some (.int (fX5_sunAt v2)), none]) K dX5_heatOf_4 rfl (by decide) (Nat.le_of_ble_eq_true rfl) rfl ?_
  refine q_aload_n (pc := 5) K dX5_heatOf_5 rfl rfl ?_
  refine q_iconst (pc := 6) (v := 1) K dX5_heatOf_6 (by decide) ?_
  refine q_iald (pc := 7) (a := a0) K (by rw [wna_f hG]; omega) (vinN (wlm_r hG ha0) (by omega) (by omega)) dX5_heatOf_7 ?_
  refine q_aload_n (pc := 8) K dX5_heatOf_8 rfl rfl ?_
  refine q_iconst (pc := 9) (v := 4) K dX5_heatOf_9 (by decide) ?_
  refine q_iload_n (pc := 10) K dX5_heatOf_10 rfl rfl ?_
  refine q_iadd (pc := 11) K dX5_heatOf_11 ?_
  have a1 := addI (x := 4) (y := v1) (by omega) (by omega)
  refine q_iald (pc := 12) (a := a0) K (by rw [wna_f hG]; omega) (vinN (wlm_r hG ha0) (by omega) (by omega)) dX5_heatOf_12 ?_
  refine q_iconst (pc := 13) (v := 1) K dX5_heatOf_13 (by decide) ?_
  refine q_icmp_ne (pc := 14) (tgt := 21) K dX5_heatOf_14 (by decide) (fun c2 => ?_) (fun c2 => ?_)
  · have i27 := neI c2
    refine q_iload_n (pc := 21) K dX5_heatOf_21 rfl rfl ?_
    refine q_iconst (pc := 22) (v := 2) K dX5_heatOf_22 (by decide) ?_
    refine q_idiv (pc := 23) K dX5_heatOf_23 (by decide) ?_
    refine q_iadd (pc := 24) K dX5_heatOf_24 ?_
    refine q_bipush (pc := 25) (v := 6) K dX5_heatOf_25 (by decide) ?_
    refine q_iload_n (pc := 27) K dX5_heatOf_27 rfl rfl ?_
    refine q_imul (pc := 28) K dX5_heatOf_28 ?_
    refine q_isub (pc := 29) K dX5_heatOf_29 ?_
    refine q_istore (pc := 30) (lv' := [some (.ref (gad G a0)), some (.int v1), some (.int v2), some (.int (fX5_sunAt v2)), some (.int (((rA σ a0 1) + ((fX5_sunAt v2) / 2)) - (6 * v1)))]) K dX5_heatOf_30 (by decide) (Nat.le_of_ble_eq_true rfl) rfl ?_
    refine q_iload (pc := 32) K dX5_heatOf_32 rfl ?_
    refine q_aload_n (pc := 34) K dX5_heatOf_34 rfl rfl ?_
    refine q_bipush (pc := 35) (v := 10) K dX5_heatOf_35 (by decide) ?_
    refine q_iload_n (pc := 37) K dX5_heatOf_37 rfl rfl ?_
    refine q_iadd (pc := 38) K dX5_heatOf_38 ?_
    have a3 := addI (x := 10) (y := v1) (by omega) (by omega)
    refine q_iald (pc := 39) (a := a0) K (by rw [wna_f hG]; omega) (vinN (wlm_r hG ha0) (by omega) (by omega)) dX5_heatOf_39 ?_
    refine q_if_le (pc := 40) (tgt := 48) K dX5_heatOf_40 (by decide) (fun c4 => ?_) (fun c4 => ?_)
    · have i13 := leI c4
      refine q_iconst (pc := 48) (v := 0) K dX5_heatOf_48 (by decide) ?_
      refine q_isub (pc := 49) K dX5_heatOf_49 ?_
      refine q_istore (pc := 50) (lv' := [some (.ref (gad G a0)), some (.int v1), some (.int v2), some (.int (fX5_sunAt v2)), some (.int ((((rA σ a0 1) + ((fX5_sunAt v2) / 2)) - (6 * v1)) - 0))]) K dX5_heatOf_50 (by decide) (Nat.le_of_ble_eq_true rfl) rfl ?_
      refine q_iload (pc := 52) K dX5_heatOf_52 rfl ?_
      refine q_aload_n (pc := 54) K dX5_heatOf_54 rfl rfl ?_
      refine q_bipush (pc := 55) (v := 16) K dX5_heatOf_55 (by decide) ?_
      refine q_iload_n (pc := 57) K dX5_heatOf_57 rfl rfl ?_
      refine q_iadd (pc := 58) K dX5_heatOf_58 ?_
      have a5 := addI (x := 16) (y := v1) (by omega) (by omega)
      refine q_iald (pc := 59) (a := a0) K (by rw [wna_f hG]; omega) (vinN (wlm_r hG ha0) (by omega) (by omega)) dX5_heatOf_59 ?_
      refine q_iconst (pc := 60) (v := 1) K dX5_heatOf_60 (by decide) ?_
      refine q_icmp_ne (pc := 61) (tgt := 69) K dX5_heatOf_61 (by decide) (fun c6 => ?_) (fun c6 => ?_)
      · have i7 := neI c6
        refine q_iconst (pc := 69) (v := 0) K dX5_heatOf_69 (by decide) ?_
        refine q_iadd (pc := 70) K dX5_heatOf_70 ?_
        exact q_iretP K hr dX5_heatOf_71
      · have i8 := eqI c6
        refine q_bipush (pc := 64) (v := 12) K dX5_heatOf_64 (by decide) ?_
        refine q_goto (pc := 66) (tgt := 70) K dX5_heatOf_66 (by decide) ?_
        refine q_iadd (pc := 70) K dX5_heatOf_70 ?_
        exact q_iretP K hr dX5_heatOf_71
    · have i14 := nleI c4
      refine q_bipush (pc := 43) (v := 10) K dX5_heatOf_43 (by decide) ?_
      refine q_goto (pc := 45) (tgt := 49) K dX5_heatOf_45 (by decide) ?_
      refine q_isub (pc := 49) K dX5_heatOf_49 ?_
      refine q_istore (pc := 50) (lv' := [some (.ref (gad G a0)), some (.int v1), some (.int v2), some (.int (fX5_sunAt v2)), some (.int ((((rA σ a0 1) + ((fX5_sunAt v2) / 2)) - (6 * v1)) - 10))]) K dX5_heatOf_50 (by decide) (Nat.le_of_ble_eq_true rfl) rfl ?_
      refine q_iload (pc := 52) K dX5_heatOf_52 rfl ?_
      refine q_aload_n (pc := 54) K dX5_heatOf_54 rfl rfl ?_
      refine q_bipush (pc := 55) (v := 16) K dX5_heatOf_55 (by decide) ?_
      refine q_iload_n (pc := 57) K dX5_heatOf_57 rfl rfl ?_
      refine q_iadd (pc := 58) K dX5_heatOf_58 ?_
      have a9 := addI (x := 16) (y := v1) (by omega) (by omega)
      refine q_iald (pc := 59) (a := a0) K (by rw [wna_f hG]; omega) (vinN (wlm_r hG ha0) (by omega) (by omega)) dX5_heatOf_59 ?_
      refine q_iconst (pc := 60) (v := 1) K dX5_heatOf_60 (by decide) ?_
      refine q_icmp_ne (pc := 61) (tgt := 69) K dX5_heatOf_61 (by decide) (fun c10 => ?_) (fun c10 => ?_)
      · have i11 := neI c10
        refine q_iconst (pc := 69) (v := 0) K dX5_heatOf_69 (by decide) ?_
        refine q_iadd (pc := 70) K dX5_heatOf_70 ?_
        exact q_iretP K hr dX5_heatOf_71
      · have i12 := eqI c10
        refine q_bipush (pc := 64) (v := 12) K dX5_heatOf_64 (by decide) ?_
        refine q_goto (pc := 66) (tgt := 70) K dX5_heatOf_66 (by decide) ?_
        refine q_iadd (pc := 70) K dX5_heatOf_70 ?_
        exact q_iretP K hr dX5_heatOf_71
  · have i28 := eqI c2
    refine q_iload_n (pc := 17) K dX5_heatOf_17 rfl rfl ?_
    refine q_goto (pc := 18) (tgt := 24) K dX5_heatOf_18 (by decide) ?_
    refine q_iadd (pc := 24) K dX5_heatOf_24 ?_
    refine q_bipush (pc := 25) (v := 6) K dX5_heatOf_25 (by decide) ?_
    refine q_iload_n (pc := 27) K dX5_heatOf_27 rfl rfl ?_
    refine q_imul (pc := 28) K dX5_heatOf_28 ?_
    refine q_isub (pc := 29) K dX5_heatOf_29 ?_
    refine q_istore (pc := 30) (lv' := [some (.ref (gad G a0)), some (.int v1), some (.int v2), some (.int (fX5_sunAt v2)), some (.int (((rA σ a0 1) + (fX5_sunAt v2)) - (6 * v1)))]) K dX5_heatOf_30 (by decide) (Nat.le_of_ble_eq_true rfl) rfl ?_
    refine q_iload (pc := 32) K dX5_heatOf_32 rfl ?_
    refine q_aload_n (pc := 34) K dX5_heatOf_34 rfl rfl ?_
    refine q_bipush (pc := 35) (v := 10) K dX5_heatOf_35 (by decide) ?_
    refine q_iload_n (pc := 37) K dX5_heatOf_37 rfl rfl ?_
    refine q_iadd (pc := 38) K dX5_heatOf_38 ?_
    have a15 := addI (x := 10) (y := v1) (by omega) (by omega)
    refine q_iald (pc := 39) (a := a0) K (by rw [wna_f hG]; omega) (vinN (wlm_r hG ha0) (by omega) (by omega)) dX5_heatOf_39 ?_
    refine q_if_le (pc := 40) (tgt := 48) K dX5_heatOf_40 (by decide) (fun c16 => ?_) (fun c16 => ?_)
    · have i25 := leI c16
      refine q_iconst (pc := 48) (v := 0) K dX5_heatOf_48 (by decide) ?_
      refine q_isub (pc := 49) K dX5_heatOf_49 ?_
      refine q_istore (pc := 50) (lv' := [some (.ref (gad G a0)), some (.int v1), some (.int v2), some (.int (fX5_sunAt v2)), some (.int ((((rA σ a0 1) + (fX5_sunAt v2)) - (6 * v1)) - 0))]) K dX5_heatOf_50 (by decide) (Nat.le_of_ble_eq_true rfl) rfl ?_
      refine q_iload (pc := 52) K dX5_heatOf_52 rfl ?_
      refine q_aload_n (pc := 54) K dX5_heatOf_54 rfl rfl ?_
      refine q_bipush (pc := 55) (v := 16) K dX5_heatOf_55 (by decide) ?_
      refine q_iload_n (pc := 57) K dX5_heatOf_57 rfl rfl ?_
      refine q_iadd (pc := 58) K dX5_heatOf_58 ?_
      have a17 := addI (x := 16) (y := v1) (by omega) (by omega)
      refine q_iald (pc := 59) (a := a0) K (by rw [wna_f hG]; omega) (vinN (wlm_r hG ha0) (by omega) (by omega)) dX5_heatOf_59 ?_
      refine q_iconst (pc := 60) (v := 1) K dX5_heatOf_60 (by decide) ?_
      refine q_icmp_ne (pc := 61) (tgt := 69) K dX5_heatOf_61 (by decide) (fun c18 => ?_) (fun c18 => ?_)
      · have i19 := neI c18
        refine q_iconst (pc := 69) (v := 0) K dX5_heatOf_69 (by decide) ?_
        refine q_iadd (pc := 70) K dX5_heatOf_70 ?_
        exact q_iretP K hr dX5_heatOf_71
      · have i20 := eqI c18
        refine q_bipush (pc := 64) (v := 12) K dX5_heatOf_64 (by decide) ?_
        refine q_goto (pc := 66) (tgt := 70) K dX5_heatOf_66 (by decide) ?_
        refine q_iadd (pc := 70) K dX5_heatOf_70 ?_
        exact q_iretP K hr dX5_heatOf_71
    · have i26 := nleI c16
      refine q_bipush (pc := 43) (v := 10) K dX5_heatOf_43 (by decide) ?_
      refine q_goto (pc := 45) (tgt := 49) K dX5_heatOf_45 (by decide) ?_
      refine q_isub (pc := 49) K dX5_heatOf_49 ?_
      refine q_istore (pc := 50) (lv' := [some (.ref (gad G a0)), some (.int v1), some (.int v2), some (.int (fX5_sunAt v2)), some (.int ((((rA σ a0 1) + (fX5_sunAt v2)) - (6 * v1)) - 10))]) K dX5_heatOf_50 (by decide) (Nat.le_of_ble_eq_true rfl) rfl ?_
      refine q_iload (pc := 52) K dX5_heatOf_52 rfl ?_
      refine q_aload_n (pc := 54) K dX5_heatOf_54 rfl rfl ?_
      refine q_bipush (pc := 55) (v := 16) K dX5_heatOf_55 (by decide) ?_
      refine q_iload_n (pc := 57) K dX5_heatOf_57 rfl rfl ?_
      refine q_iadd (pc := 58) K dX5_heatOf_58 ?_
      have a21 := addI (x := 16) (y := v1) (by omega) (by omega)
      refine q_iald (pc := 59) (a := a0) K (by rw [wna_f hG]; omega) (vinN (wlm_r hG ha0) (by omega) (by omega)) dX5_heatOf_59 ?_
      refine q_iconst (pc := 60) (v := 1) K dX5_heatOf_60 (by decide) ?_
      refine q_icmp_ne (pc := 61) (tgt := 69) K dX5_heatOf_61 (by decide) (fun c22 => ?_) (fun c22 => ?_)
      · have i23 := neI c22
        refine q_iconst (pc := 69) (v := 0) K dX5_heatOf_69 (by decide) ?_
        refine q_iadd (pc := 70) K dX5_heatOf_70 ?_
        exact q_iretP K hr dX5_heatOf_71
      · have i24 := eqI c22
        refine q_bipush (pc := 64) (v := 12) K dX5_heatOf_64 (by decide) ?_
        refine q_goto (pc := 66) (tgt := 70) K dX5_heatOf_66 (by decide) ?_
        refine q_iadd (pc := 70) K dX5_heatOf_70 ?_
        exact q_iretP K hr dX5_heatOf_71
theorem hdS_X5_drops : yX5_drops.cls ≠ "java/lang/invoke/MethodHandle" ∧ yX5_drops.cls ≠ "java/lang/invoke/VarHandle" ∧ (parseMethodDescriptor yX5_drops.desc).map (fun d => d.parameters.length) = some 2 := by decide +kernel
set_option maxRecDepth 100000 in
set_option maxHeartbeats 4000000 in
theorem lX5_drops_2 {p : Program} (l : Launch) {e : Env} {s : State} {m : MethodId} {args : Array Value} {below : List Frame} {meth : Method} {c : Code} {Q : State → Prop} {G : gT} (hN : wN G) (hG : gfl G = false) (K : qK p s m args meth c cX5_drops 3 RX5 wsX5_drops G) (a0 : Nat) (ha0 : a0 < 4) : ∀ (k : Nat) (v1 v2 : Int32) (σ : sg) (hw : WM σ) (hv2 : 0 ≤ v2.toInt ∧ v2.toInt ≤ 8) (hmu : (8 - v2.toInt).toNat < k) {ρ : Type} {E : ρ → Prop} {f : sg → ρ} (hk : ∀ r : sg, (WM r) → qq p l e (headSpec wsX5_drops rmX5_drops).room s m args below meth c Q 3 G E (f r) 50 [none, none, none] [] r), qq p l e (headSpec wsX5_drops rmX5_drops).room s m args below meth c Q 3 G E (bnd (LX5_drops_2 a0 k v1 v2 σ) f) 2 [some (.ref (gad G a0)), some (.int v1), some (.int v2)] [] σ := by
  intro k
  induction k with
  | zero => intro v1 v2 σ hw hv2 hmu ρ E f hk; exact absurd hmu (Nat.not_lt_zero _)
  | succ k ih =>
    intro v1 v2 σ hw hv2 hmu ρ E f hk
    have k0 : (0 : Int32).toInt = 0 := rfl
    have k1 : (1 : Int32).toInt = 1 := rfl
    have k3 : (3 : Int32).toInt = 3 := rfl
    have k40 : (40 : Int32).toInt = 40 := rfl
    have k56 : (56 : Int32).toInt = 56 := rfl
    have k64 : (64 : Int32).toInt = 64 := rfl
    refine qq_in ?_
    refine qq_T (LX5_drops_2.eq_2 ..) ?_
    refine q_iload_n (pc := 2) K dX5_drops_2 rfl rfl ?_
    refine q_aload_n (pc := 3) K dX5_drops_3 rfl rfl ?_
    refine q_iconst (pc := 4) (v := 0) K dX5_drops_4 (by decide) ?_
    refine q_iald (pc := 5) (a := a0) K (by rw [wna_f hG]; omega) (vinN (wlm_r hG ha0) (by omega) (by omega)) dX5_drops_5 ?_
    have w1 := wm_many hw ha0
    refine q_icmp_ge (pc := 6) (tgt := 50) K dX5_drops_6 (by decide) (fun c2 => ?_) (fun c2 => ?_)
    · have i20 := leI c2
      refine qq_drop 0 (lv' := [none, some (.int v1), some (.int v2)]) rfl ?_
      refine qq_drop 1 (lv' := [none, none, some (.int v2)]) rfl ?_
      refine qq_drop 2 (lv' := [none, none, none]) rfl ?_
      exact qq_leaf (hk σ hw)
    · have i21 := nleI c2
      refine q_aload_n (pc := 9) K dX5_drops_9 rfl rfl ?_
      refine q_bipush (pc := 10) (v := 40) K dX5_drops_10 (by decide) ?_
      refine q_iload_n (pc := 12) K dX5_drops_12 rfl rfl ?_
      refine q_iadd (pc := 13) K dX5_drops_13 ?_
      have a3 := addI (x := 40) (y := v2) (by omega) (by omega)
      refine q_iald (pc := 14) (a := a0) K (by rw [wna_f hG]; omega) (vinN (wlm_r hG ha0) (by omega) (by omega)) dX5_drops_14 ?_
      have w4 := wm_shelf hw ha0 v2 (by omega) (by omega)
      refine q_iload_n (pc := 15) K dX5_drops_15 rfl rfl ?_
      refine q_icmp_ne (pc := 16) (tgt := 44) K dX5_drops_16 (by decide) (fun c5 => ?_) (fun c5 => ?_)
      · have i18 := neI c5
        refine q_iinc (pc := 44) (v := (v2 + 1)) (lv' := [some (.ref (gad G a0)), some (.int v1), some (.int (v2 + 1))]) K dX5_drops_44 rfl rfl (by decide) rfl ?_
        refine q_goto (pc := 47) (tgt := 2) K dX5_drops_47 (by decide) ?_
        have a6 := addI (x := v2) (y := 1) (by omega) (by omega)
        exact qq_out (ih v1 (v2 + 1) σ hw (by omega) (by omega) hk)
      · have i19 := eqI c5
        refine q_aload_n (pc := 19) K dX5_drops_19 rfl rfl ?_
        refine q_bipush (pc := 20) (v := 64) K dX5_drops_20 (by decide) ?_
        refine q_iload_n (pc := 22) K dX5_drops_22 rfl rfl ?_
        refine q_iadd (pc := 23) K dX5_drops_23 ?_
        have a7 := addI (x := 64) (y := v2) (by omega) (by omega)
        refine q_iald (pc := 24) (a := a0) K (by rw [wna_f hG]; omega) (vinN (wlm_r hG ha0) (by omega) (by omega)) dX5_drops_24 ?_
        refine q_if_ne (pc := 25) (tgt := 44) K dX5_drops_25 (by decide) (fun c8 => ?_) (fun c8 => ?_)
        · have i16 := neI c8
          refine q_iinc (pc := 44) (v := (v2 + 1)) (lv' := [some (.ref (gad G a0)), some (.int v1), some (.int (v2 + 1))]) K dX5_drops_44 rfl rfl (by decide) rfl ?_
          refine q_goto (pc := 47) (tgt := 2) K dX5_drops_47 (by decide) ?_
          have a9 := addI (x := v2) (y := 1) (by omega) (by omega)
          exact qq_out (ih v1 (v2 + 1) σ hw (by omega) (by omega) hk)
        · have i17 := eqI c8
          refine q_aload_n (pc := 28) K dX5_drops_28 rfl rfl ?_
          refine q_bipush (pc := 29) (v := 56) K dX5_drops_29 (by decide) ?_
          refine q_iload_n (pc := 31) K dX5_drops_31 rfl rfl ?_
          refine q_iadd (pc := 32) K dX5_drops_32 ?_
          refine q_aload_n (pc := 33) K dX5_drops_33 rfl rfl ?_
          refine q_bipush (pc := 34) (v := 56) K dX5_drops_34 (by decide) ?_
          refine q_iload_n (pc := 36) K dX5_drops_36 rfl rfl ?_
          refine q_iadd (pc := 37) K dX5_drops_37 ?_
          have a10 := addI (x := 56) (y := v2) (by omega) (by omega)
          refine q_iald (pc := 38) (a := a0) K (by rw [wna_f hG]; omega) (vinN (wlm_r hG ha0) (by omega) (by omega)) dX5_drops_38 ?_
          refine q_iconst (pc := 39) (v := 3) K dX5_drops_39 (by decide) ?_
          refine q_callSi (pc := 40) (rm := rmX5_softer) K (kX5_softer l hN (rA σ a0 (56 + v2)) 3 σ) gX5_drops_X5_softer rfl hdS_X5_softer ⟨Nat.le_of_ble_eq_true rfl, Nat.le_of_ble_eq_true rfl⟩ rfl rfl ⟨Nat.zero_le _, Nat.zero_le _⟩ rfl rfl (Nat.le_of_ble_eq_true rfl) dX5_drops_40 ?_
          refine q_iast (pc := 43) (a := a0) K (by rw [wna_f hG]; omega) (vinN (wlm_r hG ha0) (by omega) (by omega)) dX5_drops_43 (fun s11 e12 => ?_)
          have hw13 : WM s11 := by rw [e12]; exact wmRn hw ha0 (by omega) (by omega) (by omega) (by omega)
          have m14 := mKeep e12 (by omega)
          refine q_iinc (pc := 44) (v := (v2 + 1)) (lv' := [some (.ref (gad G a0)), some (.int v1), some (.int (v2 + 1))]) K dX5_drops_44 rfl rfl (by decide) rfl ?_
          refine q_goto (pc := 47) (tgt := 2) K dX5_drops_47 (by decide) ?_
          have a15 := addI (x := v2) (y := 1) (by omega) (by omega)
          exact qq_out (ih v1 (v2 + 1) s11 hw13 (by omega) (by omega) hk)
set_option maxRecDepth 100000 in
set_option maxHeartbeats 4000000 in
theorem kX5_drops (l : Launch) {G : gT} (hN : wN G) (hG : gfl G = false) (a0 : Nat) (ha0 : a0 < 4) (v1 : Int32) (σ : sg) (hw : WM σ) : cM l yX5_drops wsX5_drops rmX5_drops G [.ref (gad G a0), .int v1] σ none (fX5_drops a0 v1 σ) := by
  refine cM_of (maxL := 3) (ret := none) (cc := cX5_drops) (fX5_drops a0 v1 σ) RX5 hN (by decide +kernel) rfl rfl (Nat.le_of_ble_eq_true rfl) rfl ?_
  intro p e s m args below meth c K hr
  have k0 : (0 : Int32).toInt = 0 := rfl
  refine qq_st (lv' := [some (.ref (gad G a0)), some (.int v1), none]) rfl rfl rfl ?_
  refine qq_T (fX5_drops.eq_1 ..) ?_
  refine q_iconst (pc := 0) (v := 0) K dX5_drops_0 (by decide) ?_
  refine q_istore_n (pc := 1) (lv' := [some (.ref (gad G a0)), some (.int v1), some (.int 0)]) K dX5_drops_1 rfl (by decide) (Nat.le_of_ble_eq_true rfl) rfl ?_
  refine lX5_drops_2 l hN hG K a0 ha0 9 v1 0 σ hw (by omega) (by omega) (fun r22 hw24 => ?_)
  exact q_vretW K hr dX5_drops_50
theorem hdV_X5_anHour : yX5_anHour.cls = RX5 ∧ yX5_anHour.cls ≠ "java/lang/invoke/MethodHandle" ∧ yX5_anHour.cls ≠ "java/lang/invoke/VarHandle" ∧ (parseMethodDescriptor yX5_anHour.desc).map (fun d => d.parameters.length) = some 1 := by decide +kernel
theorem mX5_anHour_f28 : Cond.fieldLink RX5 28 "WaxTreatiesModel" "heats" "[I" ∈ wsX5_anHour := List.mem_of_getElem? (i := 1) rfl
theorem iwX5_anHour_X5 : ∀ w ∈ wsX50, w ∈ wsX5_anHour := fun w h => List.mem_cons_of_mem _ (List.mem_append_right _ h)
set_option maxRecDepth 100000 in
set_option maxHeartbeats 4000000 in
theorem lX5_anHour_2 {p : Program} (l : Launch) {e : Env} {s : State} {m : MethodId} {args : Array Value} {below : List Frame} {meth : Method} {c : Code} {Q : State → Prop} {G : gT} (hN : wN G) (hG : gfl G = false) (K : qK p s m args meth c cX5_anHour 6 RX5 wsX5_anHour G) (a1 : Nat) (ha1 : a1 < 4) : ∀ (k : Nat) (v2 : Int32) (σ : sg) (hw : WM σ) (hv2 : 0 ≤ v2.toInt ∧ v2.toInt ≤ 6) (hmu : (6 - v2.toInt).toNat < k) {ρ : Type} {E : ρ → Prop} {f : sg → ρ} (hk : ∀ r : sg, (WM r) → qq p l e (headSpec wsX5_anHour rmX5_anHour).room s m args below meth c Q 6 G E (f r) 28 [some (.ref (gob G 0)), some (.ref (gad G a1)), none, none, none, none] [] r), qq p l e (headSpec wsX5_anHour rmX5_anHour).room s m args below meth c Q 6 G E (bnd (LX5_anHour_2 a1 k v2 σ) f) 2 [some (.ref (gob G 0)), some (.ref (gad G a1)), some (.int v2), none, none, none] [] σ := by
  intro k
  induction k with
  | zero => intro v2 σ hw hv2 hmu ρ E f hk; exact absurd hmu (Nat.not_lt_zero _)
  | succ k ih =>
    intro v2 σ hw hv2 hmu ρ E f hk
    have k0 : (0 : Int32).toInt = 0 := rfl
    have k1 : (1 : Int32).toInt = 1 := rfl
    have k2 : (2 : Int32).toInt = 2 := rfl
    have k6 : (6 : Int32).toInt = 6 := rfl
    refine qq_in ?_
    refine qq_T (LX5_anHour_2.eq_2 ..) ?_
    refine q_iload_n (pc := 2) K dX5_anHour_2 rfl rfl ?_
    refine q_bipush (pc := 3) (v := 6) K dX5_anHour_3 (by decide) ?_
    refine q_icmp_ge (pc := 5) (tgt := 28) K dX5_anHour_5 (by decide) (fun c1 => ?_) (fun c1 => ?_)
    · have i7 := leI c1
      refine qq_drop 2 (lv' := [some (.ref (gob G 0)), some (.ref (gad G a1)), none, none, none, none]) rfl ?_
      exact qq_leaf (hk σ hw)
    · have i8 := nleI c1
      refine q_aload_n (pc := 8) K dX5_anHour_8 rfl rfl ?_
      refine q_get (pc := 9) (o := 0) (f := 8) (v := .ref (gad G 6)) K (wO_m hG) vw_4 iwX5_anHour_X5 (by decide) mX5_anHour_f28 rfl dX5_anHour_9 ?_
      refine q_iload_n (pc := 12) K dX5_anHour_12 rfl rfl ?_
      refine q_aload_n (pc := 13) K dX5_anHour_13 rfl rfl ?_
      refine q_iload_n (pc := 14) K dX5_anHour_14 rfl rfl ?_
      refine q_aload_n (pc := 15) K dX5_anHour_15 rfl rfl ?_
      refine q_iconst (pc := 16) (v := 2) K dX5_anHour_16 (by decide) ?_
      refine q_iald (pc := 17) (a := a1) K (by rw [wna_f hG]; omega) (vinN (wlm_r hG ha1) (by omega) (by omega)) dX5_anHour_17 ?_
      refine q_callSi (pc := 18) (rm := rmX5_heatOf) K (kX5_heatOf l hN hG a1 ha1 v2 (rA σ a1 2) σ hw (by omega)) gX5_anHour_X5_heatOf rfl hdS_X5_heatOf ⟨Nat.le_of_ble_eq_true rfl, Nat.le_of_ble_eq_true rfl⟩ rfl rfl ⟨Nat.zero_le _, Nat.zero_le _⟩ rfl rfl (Nat.le_of_ble_eq_true rfl) dX5_anHour_18 ?_
      refine q_iast (pc := 21) (a := 6) K (by rw [wna_f hG]; decide) (vinN (wlm (n := 6) hG 6 rfl) (by omega) (by omega)) dX5_anHour_21 (fun s2 e3 => ?_)
      have hw4 : WM s2 := by rw [e3]; exact wmA hw (by omega)
      have m5 := many6 e3 (show 0 ≠ 6 by decide)
      refine q_iinc (pc := 22) (v := (v2 + 1)) (lv' := [some (.ref (gob G 0)), some (.ref (gad G a1)), some (.int (v2 + 1)), none, none, none]) K dX5_anHour_22 rfl rfl (by decide) rfl ?_
      refine q_goto (pc := 25) (tgt := 2) K dX5_anHour_25 (by decide) ?_
      have a6 := addI (x := v2) (y := 1) (by omega) (by omega)
      exact qq_out (ih (v2 + 1) s2 hw4 (by omega) (by omega) hk)
set_option maxRecDepth 100000 in
set_option maxHeartbeats 4000000 in
theorem lX5_anHour_32 {p : Program} (l : Launch) {e : Env} {s : State} {m : MethodId} {args : Array Value} {below : List Frame} {meth : Method} {c : Code} {Q : State → Prop} {G : gT} (hN : wN G) (hG : gfl G = false) (K : qK p s m args meth c cX5_anHour 6 RX5 wsX5_anHour G) (a1 : Nat) (ha1 : a1 < 4) : ∀ (k : Nat) (v2 v3 : Int32) (σ : sg) (hw : WM σ) (hv3 : 0 ≤ v3.toInt ∧ v3.toInt ≤ 8) (hmu : (8 - v3.toInt).toNat < k) {ρ : Type} {E : ρ → Prop} {f : Int32 × sg → ρ} (hk : ∀ r : Int32 × sg, (WM r.2) → qq p l e (headSpec wsX5_anHour rmX5_anHour).room s m args below meth c Q 6 G E (f r) 154 [some (.ref (gob G 0)), some (.ref (gad G a1)), some (.int r.1), none, none, none] [] r.2), qq p l e (headSpec wsX5_anHour rmX5_anHour).room s m args below meth c Q 6 G E (bnd (LX5_anHour_32 a1 k v2 v3 σ) f) 32 [some (.ref (gob G 0)), some (.ref (gad G a1)), some (.int v2), some (.int v3), none, none] [] σ := by
  intro k
  induction k with
  | zero => intro v2 v3 σ hw hv3 hmu ρ E f hk; exact absurd hmu (Nat.not_lt_zero _)
  | succ k ih =>
    intro v2 v3 σ hw hv3 hmu ρ E f hk
    have km1 : ((-1) : Int32).toInt = -1 := rfl
    have k0 : (0 : Int32).toInt = 0 := rfl
    have k1 : (1 : Int32).toInt = 1 := rfl
    have k32 : (32 : Int32).toInt = 32 := rfl
    have k40 : (40 : Int32).toInt = 40 := rfl
    have k48 : (48 : Int32).toInt = 48 := rfl
    have k56 : (56 : Int32).toInt = 56 := rfl
    have k64 : (64 : Int32).toInt = 64 := rfl
    refine qq_in ?_
    refine qq_T (LX5_anHour_32.eq_2 ..) ?_
    refine q_iload_n (pc := 32) K dX5_anHour_32 rfl rfl ?_
    refine q_aload_n (pc := 33) K dX5_anHour_33 rfl rfl ?_
    refine q_iconst (pc := 34) (v := 0) K dX5_anHour_34 (by decide) ?_
    refine q_iald (pc := 35) (a := a1) K (by rw [wna_f hG]; omega) (vinN (wlm_r hG ha1) (by omega) (by omega)) dX5_anHour_35 ?_
    have w12 := wm_many hw ha1
    refine q_icmp_ge (pc := 36) (tgt := 154) K dX5_anHour_36 (by decide) (fun c13 => ?_) (fun c13 => ?_)
    · have i63 := leI c13
      refine qq_drop 3 (lv' := [some (.ref (gob G 0)), some (.ref (gad G a1)), some (.int v2), none, none, none]) rfl ?_
      exact qq_leaf (hk (v2, σ) hw)
    · have i64 := nleI c13
      refine q_aload_n (pc := 39) K dX5_anHour_39 rfl rfl ?_
      refine q_bipush (pc := 40) (v := 32) K dX5_anHour_40 (by decide) ?_
      refine q_iload_n (pc := 42) K dX5_anHour_42 rfl rfl ?_
      refine q_iadd (pc := 43) K dX5_anHour_43 ?_
      have a14 := addI (x := 32) (y := v3) (by omega) (by omega)
      refine q_iald (pc := 44) (a := a1) K (by rw [wna_f hG]; omega) (vinN (wlm_r hG ha1) (by omega) (by omega)) dX5_anHour_44 ?_
      refine q_istore (pc := 45) (lv' := [some (.ref (gob G 0)), some (.ref (gad G a1)), some (.int v2), some (.int v3), some (.int (rA σ a1 (32 + v3))), none]) K dX5_anHour_45 (by decide) (Nat.le_of_ble_eq_true rfl) rfl ?_
      refine q_iload (pc := 47) K dX5_anHour_47 rfl ?_
      refine q_aload_n (pc := 49) K dX5_anHour_49 rfl rfl ?_
      refine q_get (pc := 50) (o := 0) (f := 8) (v := .ref (gad G 6)) K (wO_m hG) vw_4 iwX5_anHour_X5 (by decide) mX5_anHour_f28 rfl dX5_anHour_50 ?_
      refine q_aload_n (pc := 53) K dX5_anHour_53 rfl rfl ?_
      refine q_bipush (pc := 54) (v := 40) K dX5_anHour_54 (by decide) ?_
      refine q_iload_n (pc := 56) K dX5_anHour_56 rfl rfl ?_
      refine q_iadd (pc := 57) K dX5_anHour_57 ?_
      have a15 := addI (x := 40) (y := v3) (by omega) (by omega)
      refine q_iald (pc := 58) (a := a1) K (by rw [wna_f hG]; omega) (vinN (wlm_r hG ha1) (by omega) (by omega)) dX5_anHour_58 ?_
      have w16 := wm_shelf hw ha1 v3 (by omega) (by omega)
      refine q_iald (pc := 59) (a := 6) K (by rw [wna_f hG]; decide) (vinN (wlm (n := 6) hG 6 rfl) (by omega) (by omega)) dX5_anHour_59 ?_
      refine q_callSi (pc := 60) (rm := rmX5_feels) K (kX5_feels l hN (rA σ a1 (32 + v3)) (rA σ 6 (rA σ a1 (40 + v3))) σ) gX5_anHour_X5_feels rfl hdS_X5_feels ⟨Nat.le_of_ble_eq_true rfl, Nat.le_of_ble_eq_true rfl⟩ rfl rfl ⟨Nat.zero_le _, Nat.zero_le _⟩ rfl rfl (Nat.le_of_ble_eq_true rfl) dX5_anHour_60 ?_
      refine q_iload (pc := 63) K dX5_anHour_63 rfl ?_
      refine q_aload_n (pc := 65) K dX5_anHour_65 rfl rfl ?_
      refine q_bipush (pc := 66) (v := 48) K dX5_anHour_66 (by decide) ?_
      refine q_iload_n (pc := 68) K dX5_anHour_68 rfl rfl ?_
      refine q_iadd (pc := 69) K dX5_anHour_69 ?_
      have a17 := addI (x := 48) (y := v3) (by omega) (by omega)
      refine q_iald (pc := 70) (a := a1) K (by rw [wna_f hG]; omega) (vinN (wlm_r hG ha1) (by omega) (by omega)) dX5_anHour_70 ?_
      refine q_callSi (pc := 71) (rm := rmX5_stands) K (kX5_stands l hN (rA σ a1 (32 + v3)) (rA σ a1 (48 + v3)) σ) gX5_anHour_X5_stands rfl hdS_X5_stands ⟨Nat.le_of_ble_eq_true rfl, Nat.le_of_ble_eq_true rfl⟩ rfl rfl ⟨Nat.zero_le _, Nat.zero_le _⟩ rfl rfl (Nat.le_of_ble_eq_true rfl) dX5_anHour_71 ?_
      refine q_isub (pc := 74) K dX5_anHour_74 ?_
      refine q_istore (pc := 75) (lv' := [some (.ref (gob G 0)), some (.ref (gad G a1)), some (.int v2), some (.int v3), some (.int (rA σ a1 (32 + v3))), some (.int ((fX5_feels (rA σ a1 (32 + v3)) (rA σ 6 (rA σ a1 (40 + v3)))) - (fX5_stands (rA σ a1 (32 + v3)) (rA σ a1 (48 + v3)))))]) K dX5_anHour_75 (by decide) (Nat.le_of_ble_eq_true rfl) rfl ?_
      refine q_aload_n (pc := 77) K dX5_anHour_77 rfl rfl ?_
      refine q_bipush (pc := 78) (v := 64) K dX5_anHour_78 (by decide) ?_
      refine q_iload_n (pc := 80) K dX5_anHour_80 rfl rfl ?_
      refine q_iadd (pc := 81) K dX5_anHour_81 ?_
      have a18 := addI (x := 64) (y := v3) (by omega) (by omega)
      refine q_iald (pc := 82) (a := a1) K (by rw [wna_f hG]; omega) (vinN (wlm_r hG ha1) (by omega) (by omega)) dX5_anHour_82 ?_
      refine q_if_ne (pc := 83) (tgt := 148) K dX5_anHour_83 (by decide) (fun c19 => ?_) (fun c19 => ?_)
      · have i61 := neI c19
        refine q_iinc (pc := 148) (v := (v3 + 1)) (lv' := [some (.ref (gob G 0)), some (.ref (gad G a1)), some (.int v2), some (.int (v3 + 1)), some (.int (rA σ a1 (32 + v3))), some (.int ((fX5_feels (rA σ a1 (32 + v3)) (rA σ 6 (rA σ a1 (40 + v3)))) - (fX5_stands (rA σ a1 (32 + v3)) (rA σ a1 (48 + v3)))))]) K dX5_anHour_148 rfl rfl (by decide) rfl ?_
        refine q_goto (pc := 151) (tgt := 32) K dX5_anHour_151 (by decide) ?_
        refine qq_drop 4 (lv' := [some (.ref (gob G 0)), some (.ref (gad G a1)), some (.int v2), some (.int (v3 + 1)), none, some (.int ((fX5_feels (rA σ a1 (32 + v3)) (rA σ 6 (rA σ a1 (40 + v3)))) - (fX5_stands (rA σ a1 (32 + v3)) (rA σ a1 (48 + v3)))))]) rfl ?_
        refine qq_drop 5 (lv' := [some (.ref (gob G 0)), some (.ref (gad G a1)), some (.int v2), some (.int (v3 + 1)), none, none]) rfl ?_
        have a20 := addI (x := v3) (y := 1) (by omega) (by omega)
        exact qq_out (ih v2 (v3 + 1) σ hw (by omega) (by omega) hk)
      · have i62 := eqI c19
        refine q_aload_n (pc := 86) K dX5_anHour_86 rfl rfl ?_
        refine q_bipush (pc := 87) (v := 56) K dX5_anHour_87 (by decide) ?_
        refine q_iload_n (pc := 89) K dX5_anHour_89 rfl rfl ?_
        refine q_iadd (pc := 90) K dX5_anHour_90 ?_
        refine q_aload_n (pc := 91) K dX5_anHour_91 rfl rfl ?_
        refine q_bipush (pc := 92) (v := 56) K dX5_anHour_92 (by decide) ?_
        refine q_iload_n (pc := 94) K dX5_anHour_94 rfl rfl ?_
        refine q_iadd (pc := 95) K dX5_anHour_95 ?_
        have a21 := addI (x := 56) (y := v3) (by omega) (by omega)
        refine q_iald (pc := 96) (a := a1) K (by rw [wna_f hG]; omega) (vinN (wlm_r hG ha1) (by omega) (by omega)) dX5_anHour_96 ?_
        refine q_iload (pc := 97) K dX5_anHour_97 rfl ?_
        refine q_if_le (pc := 99) (tgt := 107) K dX5_anHour_99 (by decide) (fun c22 => ?_) (fun c22 => ?_)
        · have i59 := leI c22
          refine q_iconst (pc := 107) (v := (-1)) K dX5_anHour_107 (by decide) ?_
          refine q_callSi (pc := 108) (rm := rmX5_softer) K (kX5_softer l hN (rA σ a1 (56 + v3)) (-1) σ) gX5_anHour_X5_softer rfl hdS_X5_softer ⟨Nat.le_of_ble_eq_true rfl, Nat.le_of_ble_eq_true rfl⟩ rfl rfl ⟨Nat.zero_le _, Nat.zero_le _⟩ rfl rfl (Nat.le_of_ble_eq_true rfl) dX5_anHour_108 ?_
          refine q_iast (pc := 111) (a := a1) K (by rw [wna_f hG]; omega) (vinN (wlm_r hG ha1) (by omega) (by omega)) dX5_anHour_111 (fun s23 e24 => ?_)
          have hw25 : WM s23 := by rw [e24]; exact wmRn hw ha1 (by omega) (by omega) (by omega) (by omega)
          have m26 := mKeep e24 (by omega)
          refine q_aload_n (pc := 112) K dX5_anHour_112 rfl rfl ?_
          refine q_bipush (pc := 113) (v := 56) K dX5_anHour_113 (by decide) ?_
          refine q_iload_n (pc := 115) K dX5_anHour_115 rfl rfl ?_
          refine q_iadd (pc := 116) K dX5_anHour_116 ?_
          refine q_iald (pc := 117) (a := a1) K (by rw [wna_f hG]; omega) (vinN (wlm_r hG ha1) (by omega) (by omega)) dX5_anHour_117 ?_
          refine q_iload (pc := 118) K dX5_anHour_118 rfl ?_
          refine q_callSi (pc := 120) (rm := rmX5_runsAt) K (kX5_runsAt l hN (rA σ a1 (32 + v3)) s23) gX5_anHour_X5_runsAt rfl hdS_X5_runsAt ⟨Nat.le_of_ble_eq_true rfl, Nat.le_of_ble_eq_true rfl⟩ rfl rfl ⟨Nat.zero_le _, Nat.zero_le _⟩ rfl rfl (Nat.le_of_ble_eq_true rfl) dX5_anHour_120 ?_
          refine q_icmp_lt (pc := 123) (tgt := 148) K dX5_anHour_123 (by decide) (fun c27 => ?_) (fun c27 => ?_)
          · have i39 := ltI c27
            refine q_iinc (pc := 148) (v := (v3 + 1)) (lv' := [some (.ref (gob G 0)), some (.ref (gad G a1)), some (.int v2), some (.int (v3 + 1)), some (.int (rA σ a1 (32 + v3))), some (.int ((fX5_feels (rA σ a1 (32 + v3)) (rA σ 6 (rA σ a1 (40 + v3)))) - (fX5_stands (rA σ a1 (32 + v3)) (rA σ a1 (48 + v3)))))]) K dX5_anHour_148 rfl rfl (by decide) rfl ?_
            refine q_goto (pc := 151) (tgt := 32) K dX5_anHour_151 (by decide) ?_
            refine qq_drop 4 (lv' := [some (.ref (gob G 0)), some (.ref (gad G a1)), some (.int v2), some (.int (v3 + 1)), none, some (.int ((fX5_feels (rA σ a1 (32 + v3)) (rA σ 6 (rA σ a1 (40 + v3)))) - (fX5_stands (rA σ a1 (32 + v3)) (rA σ a1 (48 + v3)))))]) rfl ?_
            refine qq_drop 5 (lv' := [some (.ref (gob G 0)), some (.ref (gad G a1)), some (.int v2), some (.int (v3 + 1)), none, none]) rfl ?_
            have a28 := addI (x := v3) (y := 1) (by omega) (by omega)
            exact qq_out (ih v2 (v3 + 1) s23 hw25 (by omega) (by omega) hk)
          · have i40 := nltI c27
            refine q_aload_n (pc := 126) K dX5_anHour_126 rfl rfl ?_
            refine q_bipush (pc := 127) (v := 64) K dX5_anHour_127 (by decide) ?_
            refine q_iload_n (pc := 129) K dX5_anHour_129 rfl rfl ?_
            refine q_iadd (pc := 130) K dX5_anHour_130 ?_
            refine q_iconst (pc := 131) (v := 1) K dX5_anHour_131 (by decide) ?_
            refine q_iast (pc := 132) (a := a1) K (by rw [wna_f hG]; omega) (vinN (wlm_r hG ha1) (by omega) (by omega)) dX5_anHour_132 (fun s29 e30 => ?_)
            have hw31 : WM s29 := by rw [e30]; exact wmRn hw25 ha1 (by omega) (by omega) (by omega) (by omega)
            have m32 := mKeep e30 (by omega)
            refine q_iinc (pc := 133) (v := (v2 + 1)) (lv' := [some (.ref (gob G 0)), some (.ref (gad G a1)), some (.int (v2 + 1)), some (.int v3), some (.int (rA σ a1 (32 + v3))), some (.int ((fX5_feels (rA σ a1 (32 + v3)) (rA σ 6 (rA σ a1 (40 + v3)))) - (fX5_stands (rA σ a1 (32 + v3)) (rA σ a1 (48 + v3)))))]) K dX5_anHour_133 rfl rfl (by decide) rfl ?_
            refine q_aload_n (pc := 136) K dX5_anHour_136 rfl rfl ?_
            refine q_aload_n (pc := 137) K dX5_anHour_137 rfl rfl ?_
            refine q_bipush (pc := 138) (v := 40) K dX5_anHour_138 (by decide) ?_
            refine q_iload_n (pc := 140) K dX5_anHour_140 rfl rfl ?_
            refine q_iadd (pc := 141) K dX5_anHour_141 ?_
            refine q_iald (pc := 142) (a := a1) K (by rw [wna_f hG]; omega) (vinN (wlm_r hG ha1) (by omega) (by omega)) dX5_anHour_142 ?_
            have w33 := wm_shelf hw31 ha1 v3 (by omega) (by omega)
            refine q_iconst (pc := 143) (v := 1) K dX5_anHour_143 (by decide) ?_
            refine q_iadd (pc := 144) K dX5_anHour_144 ?_
            have a34 := addI (x := (rA s29 a1 (40 + v3))) (y := 1) (by omega) (by omega)
            refine q_callSv (pc := 145) (rm := rmX5_drops) K (kX5_drops l hN hG a1 ha1 ((rA s29 a1 (40 + v3)) + 1) s29 hw31) gX5_anHour_X5_drops rfl hdS_X5_drops ⟨Nat.le_of_ble_eq_true rfl, Nat.le_of_ble_eq_true rfl⟩ rfl rfl ⟨Nat.zero_le _, Nat.zero_le _⟩ rfl rfl (Nat.le_of_ble_eq_true rfl) dX5_anHour_145 ?_
            refine qq_nmV (fun r35 e36 => ?_)
            have hw37 : WM r35 := by rw [e36]; exact wX5_drops a1 ha1 ((rA s29 a1 (40 + v3)) + 1) hw31 
            refine q_iinc (pc := 148) (v := (v3 + 1)) (lv' := [some (.ref (gob G 0)), some (.ref (gad G a1)), some (.int (v2 + 1)), some (.int (v3 + 1)), some (.int (rA σ a1 (32 + v3))), some (.int ((fX5_feels (rA σ a1 (32 + v3)) (rA σ 6 (rA σ a1 (40 + v3)))) - (fX5_stands (rA σ a1 (32 + v3)) (rA σ a1 (48 + v3)))))]) K dX5_anHour_148 rfl rfl (by decide) rfl ?_
            refine q_goto (pc := 151) (tgt := 32) K dX5_anHour_151 (by decide) ?_
            refine qq_drop 4 (lv' := [some (.ref (gob G 0)), some (.ref (gad G a1)), some (.int (v2 + 1)), some (.int (v3 + 1)), none, some (.int ((fX5_feels (rA σ a1 (32 + v3)) (rA σ 6 (rA σ a1 (40 + v3)))) - (fX5_stands (rA σ a1 (32 + v3)) (rA σ a1 (48 + v3)))))]) rfl ?_
            refine qq_drop 5 (lv' := [some (.ref (gob G 0)), some (.ref (gad G a1)), some (.int (v2 + 1)), some (.int (v3 + 1)), none, none]) rfl ?_
            have a38 := addI (x := v3) (y := 1) (by omega) (by omega)
            exact qq_out (ih (v2 + 1) (v3 + 1) r35 hw37 (by omega) (by omega) hk)
        · have i60 := nleI c22
          refine q_iload (pc := 102) K dX5_anHour_102 rfl ?_
          refine q_goto (pc := 104) (tgt := 108) K dX5_anHour_104 (by decide) ?_
          refine q_callSi (pc := 108) (rm := rmX5_softer) K (kX5_softer l hN (rA σ a1 (56 + v3)) ((fX5_feels (rA σ a1 (32 + v3)) (rA σ 6 (rA σ a1 (40 + v3)))) - (fX5_stands (rA σ a1 (32 + v3)) (rA σ a1 (48 + v3)))) σ) gX5_anHour_X5_softer rfl hdS_X5_softer ⟨Nat.le_of_ble_eq_true rfl, Nat.le_of_ble_eq_true rfl⟩ rfl rfl ⟨Nat.zero_le _, Nat.zero_le _⟩ rfl rfl (Nat.le_of_ble_eq_true rfl) dX5_anHour_108 ?_
          refine q_iast (pc := 111) (a := a1) K (by rw [wna_f hG]; omega) (vinN (wlm_r hG ha1) (by omega) (by omega)) dX5_anHour_111 (fun s41 e42 => ?_)
          have hw43 : WM s41 := by rw [e42]; exact wmRn hw ha1 (by omega) (by omega) (by omega) (by omega)
          have m44 := mKeep e42 (by omega)
          refine q_aload_n (pc := 112) K dX5_anHour_112 rfl rfl ?_
          refine q_bipush (pc := 113) (v := 56) K dX5_anHour_113 (by decide) ?_
          refine q_iload_n (pc := 115) K dX5_anHour_115 rfl rfl ?_
          refine q_iadd (pc := 116) K dX5_anHour_116 ?_
          refine q_iald (pc := 117) (a := a1) K (by rw [wna_f hG]; omega) (vinN (wlm_r hG ha1) (by omega) (by omega)) dX5_anHour_117 ?_
          refine q_iload (pc := 118) K dX5_anHour_118 rfl ?_
          refine q_callSi (pc := 120) (rm := rmX5_runsAt) K (kX5_runsAt l hN (rA σ a1 (32 + v3)) s41) gX5_anHour_X5_runsAt rfl hdS_X5_runsAt ⟨Nat.le_of_ble_eq_true rfl, Nat.le_of_ble_eq_true rfl⟩ rfl rfl ⟨Nat.zero_le _, Nat.zero_le _⟩ rfl rfl (Nat.le_of_ble_eq_true rfl) dX5_anHour_120 ?_
          refine q_icmp_lt (pc := 123) (tgt := 148) K dX5_anHour_123 (by decide) (fun c45 => ?_) (fun c45 => ?_)
          · have i57 := ltI c45
            refine q_iinc (pc := 148) (v := (v3 + 1)) (lv' := [some (.ref (gob G 0)), some (.ref (gad G a1)), some (.int v2), some (.int (v3 + 1)), some (.int (rA σ a1 (32 + v3))), some (.int ((fX5_feels (rA σ a1 (32 + v3)) (rA σ 6 (rA σ a1 (40 + v3)))) - (fX5_stands (rA σ a1 (32 + v3)) (rA σ a1 (48 + v3)))))]) K dX5_anHour_148 rfl rfl (by decide) rfl ?_
            refine q_goto (pc := 151) (tgt := 32) K dX5_anHour_151 (by decide) ?_
            refine qq_drop 4 (lv' := [some (.ref (gob G 0)), some (.ref (gad G a1)), some (.int v2), some (.int (v3 + 1)), none, some (.int ((fX5_feels (rA σ a1 (32 + v3)) (rA σ 6 (rA σ a1 (40 + v3)))) - (fX5_stands (rA σ a1 (32 + v3)) (rA σ a1 (48 + v3)))))]) rfl ?_
            refine qq_drop 5 (lv' := [some (.ref (gob G 0)), some (.ref (gad G a1)), some (.int v2), some (.int (v3 + 1)), none, none]) rfl ?_
            have a46 := addI (x := v3) (y := 1) (by omega) (by omega)
            exact qq_out (ih v2 (v3 + 1) s41 hw43 (by omega) (by omega) hk)
          · have i58 := nltI c45
            refine q_aload_n (pc := 126) K dX5_anHour_126 rfl rfl ?_
            refine q_bipush (pc := 127) (v := 64) K dX5_anHour_127 (by decide) ?_
            refine q_iload_n (pc := 129) K dX5_anHour_129 rfl rfl ?_
            refine q_iadd (pc := 130) K dX5_anHour_130 ?_
            refine q_iconst (pc := 131) (v := 1) K dX5_anHour_131 (by decide) ?_
            refine q_iast (pc := 132) (a := a1) K (by rw [wna_f hG]; omega) (vinN (wlm_r hG ha1) (by omega) (by omega)) dX5_anHour_132 (fun s47 e48 => ?_)
            have hw49 : WM s47 := by rw [e48]; exact wmRn hw43 ha1 (by omega) (by omega) (by omega) (by omega)
            have m50 := mKeep e48 (by omega)
            refine q_iinc (pc := 133) (v := (v2 + 1)) (lv' := [some (.ref (gob G 0)), some (.ref (gad G a1)), some (.int (v2 + 1)), some (.int v3), some (.int (rA σ a1 (32 + v3))), some (.int ((fX5_feels (rA σ a1 (32 + v3)) (rA σ 6 (rA σ a1 (40 + v3)))) - (fX5_stands (rA σ a1 (32 + v3)) (rA σ a1 (48 + v3)))))]) K dX5_anHour_133 rfl rfl (by decide) rfl ?_
            refine q_aload_n (pc := 136) K dX5_anHour_136 rfl rfl ?_
            refine q_aload_n (pc := 137) K dX5_anHour_137 rfl rfl ?_
            refine q_bipush (pc := 138) (v := 40) K dX5_anHour_138 (by decide) ?_
            refine q_iload_n (pc := 140) K dX5_anHour_140 rfl rfl ?_
            refine q_iadd (pc := 141) K dX5_anHour_141 ?_
            refine q_iald (pc := 142) (a := a1) K (by rw [wna_f hG]; omega) (vinN (wlm_r hG ha1) (by omega) (by omega)) dX5_anHour_142 ?_
            have w51 := wm_shelf hw49 ha1 v3 (by omega) (by omega)
            refine q_iconst (pc := 143) (v := 1) K dX5_anHour_143 (by decide) ?_
            refine q_iadd (pc := 144) K dX5_anHour_144 ?_
            have a52 := addI (x := (rA s47 a1 (40 + v3))) (y := 1) (by omega) (by omega)
            refine q_callSv (pc := 145) (rm := rmX5_drops) K (kX5_drops l hN hG a1 ha1 ((rA s47 a1 (40 + v3)) + 1) s47 hw49) gX5_anHour_X5_drops rfl hdS_X5_drops ⟨Nat.le_of_ble_eq_true rfl, Nat.le_of_ble_eq_true rfl⟩ rfl rfl ⟨Nat.zero_le _, Nat.zero_le _⟩ rfl rfl (Nat.le_of_ble_eq_true rfl) dX5_anHour_145 ?_
            refine qq_nmV (fun r53 e54 => ?_)
            have hw55 : WM r53 := by rw [e54]; exact wX5_drops a1 ha1 ((rA s47 a1 (40 + v3)) + 1) hw49 
            refine q_iinc (pc := 148) (v := (v3 + 1)) (lv' := [some (.ref (gob G 0)), some (.ref (gad G a1)), some (.int (v2 + 1)), some (.int (v3 + 1)), some (.int (rA σ a1 (32 + v3))), some (.int ((fX5_feels (rA σ a1 (32 + v3)) (rA σ 6 (rA σ a1 (40 + v3)))) - (fX5_stands (rA σ a1 (32 + v3)) (rA σ a1 (48 + v3)))))]) K dX5_anHour_148 rfl rfl (by decide) rfl ?_
            refine q_goto (pc := 151) (tgt := 32) K dX5_anHour_151 (by decide) ?_
            refine qq_drop 4 (lv' := [some (.ref (gob G 0)), some (.ref (gad G a1)), some (.int (v2 + 1)), some (.int (v3 + 1)), none, some (.int ((fX5_feels (rA σ a1 (32 + v3)) (rA σ 6 (rA σ a1 (40 + v3)))) - (fX5_stands (rA σ a1 (32 + v3)) (rA σ a1 (48 + v3)))))]) rfl ?_
            refine qq_drop 5 (lv' := [some (.ref (gob G 0)), some (.ref (gad G a1)), some (.int (v2 + 1)), some (.int (v3 + 1)), none, none]) rfl ?_
            have a56 := addI (x := v3) (y := 1) (by omega) (by omega)
            exact qq_out (ih (v2 + 1) (v3 + 1) r53 hw55 (by omega) (by omega) hk)
set_option maxRecDepth 100000 in
set_option maxHeartbeats 4000000 in
theorem lX5_anHour_156 {p : Program} (l : Launch) {e : Env} {s : State} {m : MethodId} {args : Array Value} {below : List Frame} {meth : Method} {c : Code} {Q : State → Prop} {G : gT} (hN : wN G) (hG : gfl G = false) (K : qK p s m args meth c cX5_anHour 6 RX5 wsX5_anHour G) (a1 : Nat) (ha1 : a1 < 4) : ∀ (k : Nat) (v2 v3 : Int32) (σ : sg) (hw : WM σ) (hv3 : 0 ≤ v3.toInt ∧ v3.toInt ≤ 6) (hmu : (6 - v3.toInt).toNat < k) {ρ : Type} {E : ρ → Prop} {f : sg → ρ} (hk : ∀ r : sg, (WM r) → qq p l e (headSpec wsX5_anHour rmX5_anHour).room s m args below meth c Q 6 G E (f r) 202 [none, some (.ref (gad G a1)), some (.int v2), none, none, none] [] r), qq p l e (headSpec wsX5_anHour rmX5_anHour).room s m args below meth c Q 6 G E (bnd (LX5_anHour_156 a1 k v2 v3 σ) f) 156 [some (.ref (gob G 0)), some (.ref (gad G a1)), some (.int v2), some (.int v3), none, none] [] σ := by
  intro k
  induction k with
  | zero => intro v2 v3 σ hw hv3 hmu ρ E f hk; exact absurd hmu (Nat.not_lt_zero _)
  | succ k ih =>
    intro v2 v3 σ hw hv3 hmu ρ E f hk
    have k0 : (0 : Int32).toInt = 0 := rfl
    have k1 : (1 : Int32).toInt = 1 := rfl
    have k6 : (6 : Int32).toInt = 6 := rfl
    have k10 : (10 : Int32).toInt = 10 := rfl
    have k20 : (20 : Int32).toInt = 20 := rfl
    refine qq_in ?_
    refine qq_T (LX5_anHour_156.eq_2 ..) ?_
    refine q_iload_n (pc := 156) K dX5_anHour_156 rfl rfl ?_
    refine q_bipush (pc := 157) (v := 6) K dX5_anHour_157 (by decide) ?_
    refine q_icmp_ge (pc := 159) (tgt := 202) K dX5_anHour_159 (by decide) (fun c68 => ?_) (fun c68 => ?_)
    · have i91 := leI c68
      refine qq_drop 0 (lv' := [none, some (.ref (gad G a1)), some (.int v2), some (.int v3), none, none]) rfl ?_
      refine qq_drop 3 (lv' := [none, some (.ref (gad G a1)), some (.int v2), none, none, none]) rfl ?_
      exact qq_leaf (hk σ hw)
    · have i92 := nleI c68
      refine q_aload_n (pc := 162) K dX5_anHour_162 rfl rfl ?_
      refine q_bipush (pc := 163) (v := 10) K dX5_anHour_163 (by decide) ?_
      refine q_iload_n (pc := 165) K dX5_anHour_165 rfl rfl ?_
      refine q_iadd (pc := 166) K dX5_anHour_166 ?_
      refine q_dup2 (pc := 167) K dX5_anHour_167 rfl rfl ?_
      have a69 := addI (x := 10) (y := v3) (by omega) (by omega)
      refine q_iald (pc := 168) (a := a1) K (by rw [wna_f hG]; omega) (vinN (wlm_r hG ha1) (by omega) (by omega)) dX5_anHour_168 ?_
      refine q_aload_n (pc := 169) K dX5_anHour_169 rfl rfl ?_
      refine q_get (pc := 170) (o := 0) (f := 8) (v := .ref (gad G 6)) K (wO_m hG) vw_4 iwX5_anHour_X5 (by decide) mX5_anHour_f28 rfl dX5_anHour_170 ?_
      refine q_iload_n (pc := 173) K dX5_anHour_173 rfl rfl ?_
      refine q_iald (pc := 174) (a := 6) K (by rw [wna_f hG]; decide) (vinN (wlm (n := 6) hG 6 rfl) (by omega) (by omega)) dX5_anHour_174 ?_
      refine q_bipush (pc := 175) (v := 20) K dX5_anHour_175 (by decide) ?_
      refine q_icmp_le (pc := 177) (tgt := 193) K dX5_anHour_177 (by decide) (fun c70 => ?_) (fun c70 => ?_)
      · have i89 := leI c70
        refine q_iconst (pc := 193) (v := 0) K dX5_anHour_193 (by decide) ?_
        refine q_isub (pc := 194) K dX5_anHour_194 ?_
        refine q_iast (pc := 195) (a := a1) K (by rw [wna_f hG]; omega) (vinN (wlm_r hG ha1) (by omega) (by omega)) dX5_anHour_195 (fun s71 e72 => ?_)
        have hw73 : WM s71 := by rw [e72]; exact wmRn hw ha1 (by omega) (by omega) (by omega) (by omega)
        have m74 := mKeep e72 (by omega)
        refine q_iinc (pc := 196) (v := (v3 + 1)) (lv' := [some (.ref (gob G 0)), some (.ref (gad G a1)), some (.int v2), some (.int (v3 + 1)), none, none]) K dX5_anHour_196 rfl rfl (by decide) rfl ?_
        refine q_goto (pc := 199) (tgt := 156) K dX5_anHour_199 (by decide) ?_
        have a75 := addI (x := v3) (y := 1) (by omega) (by omega)
        exact qq_out (ih v2 (v3 + 1) s71 hw73 (by omega) (by omega) hk)
      · have i90 := nleI c70
        refine q_aload_n (pc := 180) K dX5_anHour_180 rfl rfl ?_
        refine q_bipush (pc := 181) (v := 10) K dX5_anHour_181 (by decide) ?_
        refine q_iload_n (pc := 183) K dX5_anHour_183 rfl rfl ?_
        refine q_iadd (pc := 184) K dX5_anHour_184 ?_
        refine q_iald (pc := 185) (a := a1) K (by rw [wna_f hG]; omega) (vinN (wlm_r hG ha1) (by omega) (by omega)) dX5_anHour_185 ?_
        refine q_if_le (pc := 186) (tgt := 193) K dX5_anHour_186 (by decide) (fun c76 => ?_) (fun c76 => ?_)
        · have i87 := leI c76
          refine q_iconst (pc := 193) (v := 0) K dX5_anHour_193 (by decide) ?_
          refine q_isub (pc := 194) K dX5_anHour_194 ?_
          refine q_iast (pc := 195) (a := a1) K (by rw [wna_f hG]; omega) (vinN (wlm_r hG ha1) (by omega) (by omega)) dX5_anHour_195 (fun s77 e78 => ?_)
          have hw79 : WM s77 := by rw [e78]; exact wmRn hw ha1 (by omega) (by omega) (by omega) (by omega)
          have m80 := mKeep e78 (by omega)
          refine q_iinc (pc := 196) (v := (v3 + 1)) (lv' := [some (.ref (gob G 0)), some (.ref (gad G a1)), some (.int v2), some (.int (v3 + 1)), none, none]) K dX5_anHour_196 rfl rfl (by decide) rfl ?_
          refine q_goto (pc := 199) (tgt := 156) K dX5_anHour_199 (by decide) ?_
          have a81 := addI (x := v3) (y := 1) (by omega) (by omega)
          exact qq_out (ih v2 (v3 + 1) s77 hw79 (by omega) (by omega) hk)
        · have i88 := nleI c76
          refine q_iconst (pc := 189) (v := 1) K dX5_anHour_189 (by decide) ?_
          refine q_goto (pc := 190) (tgt := 194) K dX5_anHour_190 (by decide) ?_
          refine q_isub (pc := 194) K dX5_anHour_194 ?_
          refine q_iast (pc := 195) (a := a1) K (by rw [wna_f hG]; omega) (vinN (wlm_r hG ha1) (by omega) (by omega)) dX5_anHour_195 (fun s82 e83 => ?_)
          have hw84 : WM s82 := by rw [e83]; exact wmRn hw ha1 (by omega) (by omega) (by omega) (by omega)
          have m85 := mKeep e83 (by omega)
          refine q_iinc (pc := 196) (v := (v3 + 1)) (lv' := [some (.ref (gob G 0)), some (.ref (gad G a1)), some (.int v2), some (.int (v3 + 1)), none, none]) K dX5_anHour_196 rfl rfl (by decide) rfl ?_
          refine q_goto (pc := 199) (tgt := 156) K dX5_anHour_199 (by decide) ?_
          have a86 := addI (x := v3) (y := 1) (by omega) (by omega)
          exact qq_out (ih v2 (v3 + 1) s82 hw84 (by omega) (by omega) hk)
set_option maxRecDepth 100000 in
set_option maxHeartbeats 4000000 in
theorem kX5_anHour (l : Launch) {G : gT} (hN : wN G) (hG : gfl G = false) (a1 : Nat) (ha1 : a1 < 4) (σ : sg) (hw : WM σ) : cM l yX5_anHour wsX5_anHour rmX5_anHour G [.ref (gob G 0), .ref (gad G a1)] σ (some (.int (fX5_anHour a1 σ).1)) (fX5_anHour a1 σ).2 := by
  refine cM_of (maxL := 6) (ret := (some .int)) (cc := cX5_anHour) (fX5_anHour a1 σ) RX5 hN (by decide +kernel) rfl rfl (Nat.le_of_ble_eq_true rfl) rfl ?_
  intro p e s m args below meth c K hr
  have k0 : (0 : Int32).toInt = 0 := rfl
  have k1 : (1 : Int32).toInt = 1 := rfl
  have k2 : (2 : Int32).toInt = 2 := rfl
  refine qq_st (lv' := [some (.ref (gob G 0)), some (.ref (gad G a1)), none, none, none, none]) rfl rfl rfl ?_
  refine qq_T (fX5_anHour.eq_1 ..) ?_
  refine q_iconst (pc := 0) (v := 0) K dX5_anHour_0 (by decide) ?_
  refine q_istore_n (pc := 1) (lv' := [some (.ref (gob G 0)), some (.ref (gad G a1)), some (.int 0), none, none, none]) K dX5_anHour_1 rfl (by decide) (Nat.le_of_ble_eq_true rfl) rfl ?_
  refine lX5_anHour_2 l hN hG K a1 ha1 7 0 σ hw (by omega) (by omega) (fun r9 hw11 => ?_)
  refine q_iconst (pc := 28) (v := 0) K dX5_anHour_28 (by decide) ?_
  refine q_istore_n (pc := 29) (lv' := [some (.ref (gob G 0)), some (.ref (gad G a1)), some (.int 0), none, none, none]) K dX5_anHour_29 rfl (by decide) (Nat.le_of_ble_eq_true rfl) rfl ?_
  refine q_iconst (pc := 30) (v := 0) K dX5_anHour_30 (by decide) ?_
  refine q_istore_n (pc := 31) (lv' := [some (.ref (gob G 0)), some (.ref (gad G a1)), some (.int 0), some (.int 0), none, none]) K dX5_anHour_31 rfl (by decide) (Nat.le_of_ble_eq_true rfl) rfl ?_
  refine lX5_anHour_32 l hN hG K a1 ha1 9 0 0 r9 hw11 (by omega) (by omega) (fun r65 hw67 => ?_)
  refine q_iconst (pc := 154) (v := 0) K dX5_anHour_154 (by decide) ?_
  refine q_istore_n (pc := 155) (lv' := [some (.ref (gob G 0)), some (.ref (gad G a1)), some (.int r65.1), some (.int 0), none, none]) K dX5_anHour_155 rfl (by decide) (Nat.le_of_ble_eq_true rfl) rfl ?_
  refine lX5_anHour_156 l hN hG K a1 ha1 7 r65.1 0 r65.2 hw67 (by omega) (by omega) (fun r93 hw95 => ?_)
  refine q_aload_n (pc := 202) K dX5_anHour_202 rfl rfl ?_
  refine q_iconst (pc := 203) (v := 2) K dX5_anHour_203 (by decide) ?_
  refine q_dup2 (pc := 204) K dX5_anHour_204 rfl rfl ?_
  refine q_iald (pc := 205) (a := a1) K (by rw [wna_f hG]; omega) (vinN (wlm_r hG ha1) (by omega) (by omega)) dX5_anHour_205 ?_
  refine q_iconst (pc := 206) (v := 1) K dX5_anHour_206 (by decide) ?_
  refine q_iadd (pc := 207) K dX5_anHour_207 ?_
  refine q_iast (pc := 208) (a := a1) K (by rw [wna_f hG]; omega) (vinN (wlm_r hG ha1) (by omega) (by omega)) dX5_anHour_208 (fun s96 e97 => ?_)
  have hw98 : WM s96 := by rw [e97]; exact wmRn hw95 ha1 (by omega) (by omega) (by omega) (by omega)
  have m99 := mKeep e97 (by omega)
  refine q_iload_n (pc := 209) K dX5_anHour_209 rfl rfl ?_
  exact q_iret K hr dX5_anHour_210
theorem hdS_X5_holds : yX5_holds.cls ≠ "java/lang/invoke/MethodHandle" ∧ yX5_holds.cls ≠ "java/lang/invoke/VarHandle" ∧ (parseMethodDescriptor yX5_holds.desc).map (fun d => d.parameters.length) = some 2 := by decide +kernel
set_option maxRecDepth 100000 in
set_option maxHeartbeats 4000000 in
theorem lX5_holds_2 {p : Program} (l : Launch) {e : Env} {s : State} {m : MethodId} {args : Array Value} {below : List Frame} {meth : Method} {c : Code} {Q : State → Prop} {G : gT} (hN : wN G) (hG : gfl G = false) (K : qK p s m args meth c cX5_holds 3 RX5 wsX5_holds G) (a0 : Nat) (ha0 : a0 < 4) : ∀ (k : Nat) (v2 : Int32) (σ : sg) (hw : WM σ) (hd : -1 ≤ v2.toInt ∧ v2.toInt < (rA σ a0 0).toInt) (hmu : (v2.toInt + 1).toNat < k) {ρ : Type} {E : ρ → Prop} {f : Int32 → ρ} (hk : ∀ r : Int32, (-1 ≤ r.toInt ∧ r.toInt < (rA σ a0 0).toInt) → qq p l e (headSpec wsX5_holds rmX5_holds).room s m args below meth c Q 3 G E (f r) 25 [none, none, some (.int r)] [] σ), qq p l e (headSpec wsX5_holds rmX5_holds).room s m args below meth c Q 3 G E (bnd (LX5_holds_2 a0 k v2 σ) f) 2 [some (.ref (gad G a0)), none, some (.int v2)] [] σ := by
  intro k
  induction k with
  | zero => intro v2 σ hw hd hmu ρ E f hk; exact absurd hmu (Nat.not_lt_zero _)
  | succ k ih =>
    intro v2 σ hw hd hmu ρ E f hk
    have k0 : (0 : Int32).toInt = 0 := rfl
    have k64 : (64 : Int32).toInt = 64 := rfl
    have k72 : (72 : Int32).toInt = 72 := rfl
    have q0 := wm_many hw ha0
    refine qq_in ?_
    refine qq_T (LX5_holds_2.eq_2 ..) ?_
    refine q_iload_n (pc := 2) K dX5_holds_2 rfl rfl ?_
    refine q_if_lt (pc := 3) (tgt := 25) K dX5_holds_3 (by decide) (fun c1 => ?_) (fun c1 => ?_)
    · have i8 := ltI c1
      refine qq_drop 0 (lv' := [none, none, some (.int v2)]) rfl ?_
      exact qq_leaf (hk v2 (by omega))
    · have i9 := nltI c1
      refine q_aload_n (pc := 6) K dX5_holds_6 rfl rfl ?_
      refine q_bipush (pc := 7) (v := 64) K dX5_holds_7 (by decide) ?_
      refine q_iload_n (pc := 9) K dX5_holds_9 rfl rfl ?_
      refine q_iadd (pc := 10) K dX5_holds_10 ?_
      have a2 := addI (x := 64) (y := v2) (by omega) (by omega)
      refine q_iald (pc := 11) (a := a0) K (by rw [wna_f hG]; omega) (vinN (wlm_r hG ha0) (by omega) (by omega)) dX5_holds_11 ?_
      refine q_if_ne (pc := 12) (tgt := 25) K dX5_holds_12 (by decide) (fun c3 => ?_) (fun c3 => ?_)
      · have i6 := neI c3
        refine qq_drop 0 (lv' := [none, none, some (.int v2)]) rfl ?_
        exact qq_leaf (hk v2 (by omega))
      · have i7 := eqI c3
        refine q_aload_n (pc := 15) K dX5_holds_15 rfl rfl ?_
        refine q_bipush (pc := 16) (v := 72) K dX5_holds_16 (by decide) ?_
        refine q_iload_n (pc := 18) K dX5_holds_18 rfl rfl ?_
        refine q_iadd (pc := 19) K dX5_holds_19 ?_
        have a4 := addI (x := 72) (y := v2) (by omega) (by omega)
        refine q_iald (pc := 20) (a := a0) K (by rw [wna_f hG]; omega) (vinN (wlm_r hG ha0) (by omega) (by omega)) dX5_holds_20 ?_
        have w5 := wm_on hw ha0 v2 (by omega) (by omega)
        refine q_istore_n (pc := 21) (lv' := [some (.ref (gad G a0)), none, some (.int (rA σ a0 (72 + v2)))]) K dX5_holds_21 rfl (by decide) (Nat.le_of_ble_eq_true rfl) rfl ?_
        refine q_goto (pc := 22) (tgt := 2) K dX5_holds_22 (by decide) ?_
        exact qq_out (ih (rA σ a0 (72 + v2)) σ hw (by omega) (by omega) hk)
set_option maxRecDepth 100000 in
set_option maxHeartbeats 4000000 in
theorem kX5_holds (l : Launch) {G : gT} (hN : wN G) (hG : gfl G = false) (a0 : Nat) (ha0 : a0 < 4) (v1 : Int32) (σ : sg) (hw : WM σ) (hd : -1 ≤ v1.toInt ∧ v1.toInt < (rA σ a0 0).toInt) : cM l yX5_holds wsX5_holds rmX5_holds G [.ref (gad G a0), .int v1] σ (some (.int (fX5_holds a0 v1 σ))) σ := by
  refine cM_of (maxL := 3) (ret := (some .boolean)) (cc := cX5_holds) (fX5_holds a0 v1 σ) RX5 hN (by decide +kernel) rfl rfl (Nat.le_of_ble_eq_true rfl) rfl ?_
  intro p e s m args below meth c K hr
  have k0 : (0 : Int32).toInt = 0 := rfl
  have k1 : (1 : Int32).toInt = 1 := rfl
  refine qq_st (lv' := [some (.ref (gad G a0)), some (.int v1), none]) rfl rfl rfl ?_
  refine qq_T (fX5_holds.eq_1 ..) ?_
  have q0 := wm_many hw ha0
  refine q_iload_n (pc := 0) K dX5_holds_0 rfl rfl ?_
  refine q_istore_n (pc := 1) (lv' := [some (.ref (gad G a0)), some (.int v1), some (.int v1)]) K dX5_holds_1 rfl (by decide) (Nat.le_of_ble_eq_true rfl) rfl ?_
  refine qq_drop 1 (lv' := [some (.ref (gad G a0)), none, some (.int v1)]) rfl ?_
  refine lX5_holds_2 l hN hG K a0 ha0 9 v1 σ hw (by omega) (by omega) (fun r10 x12 => ?_)
  refine q_iload_n (pc := 25) K dX5_holds_25 rfl rfl ?_
  refine q_if_ge (pc := 26) (tgt := 33) K dX5_holds_26 (by decide) (fun c13 => ?_) (fun c13 => ?_)
  · have i14 := leI c13
    refine q_iconst (pc := 33) (v := 0) K dX5_holds_33 (by decide) ?_
    exact q_zretP K hr (Or.inl rfl) dX5_holds_34
  · have i15 := nleI c13
    refine q_iconst (pc := 29) (v := 1) K dX5_holds_29 (by decide) ?_
    refine q_goto (pc := 30) (tgt := 34) K dX5_holds_30 (by decide) ?_
    exact q_zretP K hr (Or.inr rfl) dX5_holds_34
theorem hdS_X5_holding : yX5_holding.cls ≠ "java/lang/invoke/MethodHandle" ∧ yX5_holding.cls ≠ "java/lang/invoke/VarHandle" ∧ (parseMethodDescriptor yX5_holding.desc).map (fun d => d.parameters.length) = some 1 := by decide +kernel
set_option maxRecDepth 100000 in
set_option maxHeartbeats 4000000 in
theorem lX5_holding_4 {p : Program} (l : Launch) {e : Env} {s : State} {m : MethodId} {args : Array Value} {below : List Frame} {meth : Method} {c : Code} {Q : State → Prop} {G : gT} (hN : wN G) (hG : gfl G = false) (K : qK p s m args meth c cX5_holding 3 RX5 wsX5_holding G) (a0 : Nat) (ha0 : a0 < 4) : ∀ (k : Nat) (v1 v2 : Int32) (σ : sg) (hw : WM σ) (hv2 : 0 ≤ v2.toInt ∧ v2.toInt ≤ 8) (hmu : (8 - v2.toInt).toNat < k) {ρ : Type} {E : ρ → Prop} {f : Int32 → ρ} (hk : ∀ r : Int32, qq p l e (headSpec wsX5_holding rmX5_holding).room s m args below meth c Q 3 G E (f r) 35 [none, some (.int r), none] [] σ), qq p l e (headSpec wsX5_holding rmX5_holding).room s m args below meth c Q 3 G E (bnd (LX5_holding_4 a0 k v1 v2 σ) f) 4 [some (.ref (gad G a0)), some (.int v1), some (.int v2)] [] σ := by
  intro k
  induction k with
  | zero => intro v1 v2 σ hw hv2 hmu ρ E f hk; exact absurd hmu (Nat.not_lt_zero _)
  | succ k ih =>
    intro v1 v2 σ hw hv2 hmu ρ E f hk
    have k0 : (0 : Int32).toInt = 0 := rfl
    have k1 : (1 : Int32).toInt = 1 := rfl
    refine qq_in ?_
    refine qq_T (LX5_holding_4.eq_2 ..) ?_
    refine q_iload_n (pc := 4) K dX5_holding_4 rfl rfl ?_
    refine q_aload_n (pc := 5) K dX5_holding_5 rfl rfl ?_
    refine q_iconst (pc := 6) (v := 0) K dX5_holding_6 (by decide) ?_
    refine q_iald (pc := 7) (a := a0) K (by rw [wna_f hG]; omega) (vinN (wlm_r hG ha0) (by omega) (by omega)) dX5_holding_7 ?_
    have w1 := wm_many hw ha0
    refine q_icmp_ge (pc := 8) (tgt := 35) K dX5_holding_8 (by decide) (fun c2 => ?_) (fun c2 => ?_)
    · have i8 := leI c2
      refine qq_drop 0 (lv' := [none, some (.int v1), some (.int v2)]) rfl ?_
      refine qq_drop 2 (lv' := [none, some (.int v1), none]) rfl ?_
      exact qq_leaf (hk v1)
    · have i9 := nleI c2
      refine q_iload_n (pc := 11) K dX5_holding_11 rfl rfl ?_
      refine q_aload_n (pc := 12) K dX5_holding_12 rfl rfl ?_
      refine q_iload_n (pc := 13) K dX5_holding_13 rfl rfl ?_
      refine q_callSi (pc := 14) (rm := rmX5_holds) K (kX5_holds l hN hG a0 ha0 v2 σ hw (by omega)) gX5_holding_X5_holds rfl hdS_X5_holds ⟨Nat.le_of_ble_eq_true rfl, Nat.le_of_ble_eq_true rfl⟩ rfl rfl ⟨Nat.zero_le _, Nat.zero_le _⟩ rfl rfl (Nat.le_of_ble_eq_true rfl) dX5_holding_14 ?_
      refine q_if_eq (pc := 17) (tgt := 26) K dX5_holding_17 (by decide) (fun c3 => ?_) (fun c3 => ?_)
      · have i6 := eqI c3
        refine q_iconst (pc := 26) (v := 0) K dX5_holding_26 (by decide) ?_
        refine q_ior (pc := 27) K dX5_holding_27 ?_
        refine q_istore_n (pc := 28) (lv' := [some (.ref (gad G a0)), some (.int (v1 ||| 0)), some (.int v2)]) K dX5_holding_28 rfl (by decide) (Nat.le_of_ble_eq_true rfl) rfl ?_
        refine q_iinc (pc := 29) (v := (v2 + 1)) (lv' := [some (.ref (gad G a0)), some (.int (v1 ||| 0)), some (.int (v2 + 1))]) K dX5_holding_29 rfl rfl (by decide) rfl ?_
        refine q_goto (pc := 32) (tgt := 4) K dX5_holding_32 (by decide) ?_
        have a4 := addI (x := v2) (y := 1) (by omega) (by omega)
        exact qq_out (ih (v1 ||| 0) (v2 + 1) σ hw (by omega) (by omega) hk)
      · have i7 := neI c3
        refine q_iconst (pc := 20) (v := 1) K dX5_holding_20 (by decide) ?_
        refine q_iload_n (pc := 21) K dX5_holding_21 rfl rfl ?_
        refine q_ishl (pc := 22) K dX5_holding_22 ?_
        refine q_goto (pc := 23) (tgt := 27) K dX5_holding_23 (by decide) ?_
        refine q_ior (pc := 27) K dX5_holding_27 ?_
        refine q_istore_n (pc := 28) (lv' := [some (.ref (gad G a0)), some (.int (v1 ||| (jshl 1 v2))), some (.int v2)]) K dX5_holding_28 rfl (by decide) (Nat.le_of_ble_eq_true rfl) rfl ?_
        refine q_iinc (pc := 29) (v := (v2 + 1)) (lv' := [some (.ref (gad G a0)), some (.int (v1 ||| (jshl 1 v2))), some (.int (v2 + 1))]) K dX5_holding_29 rfl rfl (by decide) rfl ?_
        refine q_goto (pc := 32) (tgt := 4) K dX5_holding_32 (by decide) ?_
        have a5 := addI (x := v2) (y := 1) (by omega) (by omega)
        exact qq_out (ih (v1 ||| (jshl 1 v2)) (v2 + 1) σ hw (by omega) (by omega) hk)
set_option maxRecDepth 100000 in
set_option maxHeartbeats 4000000 in
theorem kX5_holding (l : Launch) {G : gT} (hN : wN G) (hG : gfl G = false) (a0 : Nat) (ha0 : a0 < 4) (σ : sg) (hw : WM σ) : cM l yX5_holding wsX5_holding rmX5_holding G [.ref (gad G a0)] σ (some (.int (fX5_holding a0 σ))) σ := by
  refine cM_of (maxL := 3) (ret := (some .int)) (cc := cX5_holding) (fX5_holding a0 σ) RX5 hN (by decide +kernel) rfl rfl (Nat.le_of_ble_eq_true rfl) rfl ?_
  intro p e s m args below meth c K hr
  have k0 : (0 : Int32).toInt = 0 := rfl
  refine qq_st (lv' := [some (.ref (gad G a0)), none, none]) rfl rfl rfl ?_
  refine qq_T (fX5_holding.eq_1 ..) ?_
  refine q_iconst (pc := 0) (v := 0) K dX5_holding_0 (by decide) ?_
  refine q_istore_n (pc := 1) (lv' := [some (.ref (gad G a0)), some (.int 0), none]) K dX5_holding_1 rfl (by decide) (Nat.le_of_ble_eq_true rfl) rfl ?_
  refine q_iconst (pc := 2) (v := 0) K dX5_holding_2 (by decide) ?_
  refine q_istore_n (pc := 3) (lv' := [some (.ref (gad G a0)), some (.int 0), some (.int 0)]) K dX5_holding_3 rfl (by decide) (Nat.le_of_ble_eq_true rfl) rfl ?_
  refine lX5_holding_4 l hN hG K a0 ha0 9 0 0 σ hw (by omega) (by omega) (fun r10 => ?_)
  refine q_iload_n (pc := 35) K dX5_holding_35 rfl rfl ?_
  exact q_iretP K hr dX5_holding_36
theorem hdS_X5_ran : yX5_ran.cls ≠ "java/lang/invoke/MethodHandle" ∧ yX5_ran.cls ≠ "java/lang/invoke/VarHandle" ∧ (parseMethodDescriptor yX5_ran.desc).map (fun d => d.parameters.length) = some 1 := by decide +kernel
set_option maxRecDepth 100000 in
set_option maxHeartbeats 4000000 in
theorem lX5_ran_4 {p : Program} (l : Launch) {e : Env} {s : State} {m : MethodId} {args : Array Value} {below : List Frame} {meth : Method} {c : Code} {Q : State → Prop} {G : gT} (hN : wN G) (hG : gfl G = false) (K : qK p s m args meth c cX5_ran 3 RX5 wsX5_ran G) (a0 : Nat) (ha0 : a0 < 4) : ∀ (k : Nat) (v1 v2 : Int32) (σ : sg) (hw : WM σ) (hv2 : 0 ≤ v2.toInt ∧ v2.toInt ≤ 8) (hmu : (8 - v2.toInt).toNat < k) {ρ : Type} {E : ρ → Prop} {f : Int32 → ρ} (hk : ∀ r : Int32, qq p l e (headSpec wsX5_ran rmX5_ran).room s m args below meth c Q 3 G E (f r) 28 [none, some (.int r), none] [] σ), qq p l e (headSpec wsX5_ran rmX5_ran).room s m args below meth c Q 3 G E (bnd (LX5_ran_4 a0 k v1 v2 σ) f) 4 [some (.ref (gad G a0)), some (.int v1), some (.int v2)] [] σ := by
  intro k
  induction k with
  | zero => intro v1 v2 σ hw hv2 hmu ρ E f hk; exact absurd hmu (Nat.not_lt_zero _)
  | succ k ih =>
    intro v1 v2 σ hw hv2 hmu ρ E f hk
    have k0 : (0 : Int32).toInt = 0 := rfl
    have k1 : (1 : Int32).toInt = 1 := rfl
    have k64 : (64 : Int32).toInt = 64 := rfl
    refine qq_in ?_
    refine qq_T (LX5_ran_4.eq_2 ..) ?_
    refine q_iload_n (pc := 4) K dX5_ran_4 rfl rfl ?_
    refine q_aload_n (pc := 5) K dX5_ran_5 rfl rfl ?_
    refine q_iconst (pc := 6) (v := 0) K dX5_ran_6 (by decide) ?_
    refine q_iald (pc := 7) (a := a0) K (by rw [wna_f hG]; omega) (vinN (wlm_r hG ha0) (by omega) (by omega)) dX5_ran_7 ?_
    have w1 := wm_many hw ha0
    refine q_icmp_ge (pc := 8) (tgt := 28) K dX5_ran_8 (by decide) (fun c2 => ?_) (fun c2 => ?_)
    · have i5 := leI c2
      refine qq_drop 0 (lv' := [none, some (.int v1), some (.int v2)]) rfl ?_
      refine qq_drop 2 (lv' := [none, some (.int v1), none]) rfl ?_
      exact qq_leaf (hk v1)
    · have i6 := nleI c2
      refine q_iload_n (pc := 11) K dX5_ran_11 rfl rfl ?_
      refine q_aload_n (pc := 12) K dX5_ran_12 rfl rfl ?_
      refine q_bipush (pc := 13) (v := 64) K dX5_ran_13 (by decide) ?_
      refine q_iload_n (pc := 15) K dX5_ran_15 rfl rfl ?_
      refine q_iadd (pc := 16) K dX5_ran_16 ?_
      have a3 := addI (x := 64) (y := v2) (by omega) (by omega)
      refine q_iald (pc := 17) (a := a0) K (by rw [wna_f hG]; omega) (vinN (wlm_r hG ha0) (by omega) (by omega)) dX5_ran_17 ?_
      refine q_iload_n (pc := 18) K dX5_ran_18 rfl rfl ?_
      refine q_ishl (pc := 19) K dX5_ran_19 ?_
      refine q_ior (pc := 20) K dX5_ran_20 ?_
      refine q_istore_n (pc := 21) (lv' := [some (.ref (gad G a0)), some (.int (v1 ||| (jshl (rA σ a0 (64 + v2)) v2))), some (.int v2)]) K dX5_ran_21 rfl (by decide) (Nat.le_of_ble_eq_true rfl) rfl ?_
      refine q_iinc (pc := 22) (v := (v2 + 1)) (lv' := [some (.ref (gad G a0)), some (.int (v1 ||| (jshl (rA σ a0 (64 + v2)) v2))), some (.int (v2 + 1))]) K dX5_ran_22 rfl rfl (by decide) rfl ?_
      refine q_goto (pc := 25) (tgt := 4) K dX5_ran_25 (by decide) ?_
      have a4 := addI (x := v2) (y := 1) (by omega) (by omega)
      exact qq_out (ih (v1 ||| (jshl (rA σ a0 (64 + v2)) v2)) (v2 + 1) σ hw (by omega) (by omega) hk)
set_option maxRecDepth 100000 in
set_option maxHeartbeats 4000000 in
theorem kX5_ran (l : Launch) {G : gT} (hN : wN G) (hG : gfl G = false) (a0 : Nat) (ha0 : a0 < 4) (σ : sg) (hw : WM σ) : cM l yX5_ran wsX5_ran rmX5_ran G [.ref (gad G a0)] σ (some (.int (fX5_ran a0 σ))) σ := by
  refine cM_of (maxL := 3) (ret := (some .int)) (cc := cX5_ran) (fX5_ran a0 σ) RX5 hN (by decide +kernel) rfl rfl (Nat.le_of_ble_eq_true rfl) rfl ?_
  intro p e s m args below meth c K hr
  have k0 : (0 : Int32).toInt = 0 := rfl
  refine qq_st (lv' := [some (.ref (gad G a0)), none, none]) rfl rfl rfl ?_
  refine qq_T (fX5_ran.eq_1 ..) ?_
  refine q_iconst (pc := 0) (v := 0) K dX5_ran_0 (by decide) ?_
  refine q_istore_n (pc := 1) (lv' := [some (.ref (gad G a0)), some (.int 0), none]) K dX5_ran_1 rfl (by decide) (Nat.le_of_ble_eq_true rfl) rfl ?_
  refine q_iconst (pc := 2) (v := 0) K dX5_ran_2 (by decide) ?_
  refine q_istore_n (pc := 3) (lv' := [some (.ref (gad G a0)), some (.int 0), some (.int 0)]) K dX5_ran_3 rfl (by decide) (Nat.le_of_ble_eq_true rfl) rfl ?_
  refine lX5_ran_4 l hN hG K a0 ha0 9 0 0 σ hw (by omega) (by omega) (fun r7 => ?_)
  refine q_iload_n (pc := 28) K dX5_ran_28 rfl rfl ?_
  exact q_iretP K hr dX5_ran_29
theorem hdS_X5_sumOf : yX5_sumOf.cls ≠ "java/lang/invoke/MethodHandle" ∧ yX5_sumOf.cls ≠ "java/lang/invoke/VarHandle" ∧ (parseMethodDescriptor yX5_sumOf.desc).map (fun d => d.parameters.length) = some 3 := by decide +kernel
set_option maxRecDepth 100000 in
set_option maxHeartbeats 4000000 in
theorem lX5_sumOf_5 {p : Program} (l : Launch) {e : Env} {s : State} {m : MethodId} {args : Array Value} {below : List Frame} {meth : Method} {c : Code} {Q : State → Prop} {G : gT} (hN : wN G) (hG : gfl G = false) (K : qK p s m args meth c cX5_sumOf 5 RX5 wsX5_sumOf G) (a0 : Nat) (ha0 : a0 < 4) : ∀ (k : Nat) (v1 v2 v3 v4 : Int32) (σ : sg) (hw : WM σ) (hv4 : 0 ≤ v4.toInt ∧ v4.toInt ≤ 8) (hb : 0 ≤ v1.toInt ∧ v1.toInt ≤ 60 ∧ v2.toInt ≤ 8) (hmu : (8 - v4.toInt).toNat < k) {ρ : Type} {E : ρ → Prop} {f : Int32 → ρ} (hk : ∀ r : Int32, qq p l e (headSpec wsX5_sumOf rmX5_sumOf).room s m args below meth c Q 5 G E (f r) 26 [none, none, none, some (.int r), none] [] σ), qq p l e (headSpec wsX5_sumOf rmX5_sumOf).room s m args below meth c Q 5 G E (bnd (LX5_sumOf_5 a0 k v1 v2 v3 v4 σ) f) 5 [some (.ref (gad G a0)), some (.int v1), some (.int v2), some (.int v3), some (.int v4)] [] σ := by
  intro k
  induction k with
  | zero => intro v1 v2 v3 v4 σ hw hv4 hb hmu ρ E f hk; exact absurd hmu (Nat.not_lt_zero _)
  | succ k ih =>
    intro v1 v2 v3 v4 σ hw hv4 hb hmu ρ E f hk
    have k0 : (0 : Int32).toInt = 0 := rfl
    have k1 : (1 : Int32).toInt = 1 := rfl
    refine qq_in ?_
    refine qq_T (LX5_sumOf_5.eq_2 ..) ?_
    refine q_iload (pc := 5) K dX5_sumOf_5 rfl ?_
    refine q_iload_n (pc := 7) K dX5_sumOf_7 rfl rfl ?_
    refine q_icmp_ge (pc := 8) (tgt := 26) K dX5_sumOf_8 (by decide) (fun c1 => ?_) (fun c1 => ?_)
    · have i4 := leI c1
      refine qq_drop 0 (lv' := [none, some (.int v1), some (.int v2), some (.int v3), some (.int v4)]) rfl ?_
      refine qq_drop 1 (lv' := [none, none, some (.int v2), some (.int v3), some (.int v4)]) rfl ?_
      refine qq_drop 2 (lv' := [none, none, none, some (.int v3), some (.int v4)]) rfl ?_
      refine qq_drop 4 (lv' := [none, none, none, some (.int v3), none]) rfl ?_
      exact qq_leaf (hk v3)
    · have i5 := nleI c1
      refine q_iload_n (pc := 11) K dX5_sumOf_11 rfl rfl ?_
      refine q_aload_n (pc := 12) K dX5_sumOf_12 rfl rfl ?_
      refine q_iload_n (pc := 13) K dX5_sumOf_13 rfl rfl ?_
      refine q_iload (pc := 14) K dX5_sumOf_14 rfl ?_
      refine q_iadd (pc := 16) K dX5_sumOf_16 ?_
      have a2 := addI (x := v1) (y := v4) (by omega) (by omega)
      refine q_iald (pc := 17) (a := a0) K (by rw [wna_f hG]; omega) (vinN (wlm_r hG ha0) (by omega) (by omega)) dX5_sumOf_17 ?_
      refine q_iadd (pc := 18) K dX5_sumOf_18 ?_
      refine q_istore_n (pc := 19) (lv' := [some (.ref (gad G a0)), some (.int v1), some (.int v2), some (.int (v3 + (rA σ a0 (v1 + v4)))), some (.int v4)]) K dX5_sumOf_19 rfl (by decide) (Nat.le_of_ble_eq_true rfl) rfl ?_
      refine q_iinc (pc := 20) (v := (v4 + 1)) (lv' := [some (.ref (gad G a0)), some (.int v1), some (.int v2), some (.int (v3 + (rA σ a0 (v1 + v4)))), some (.int (v4 + 1))]) K dX5_sumOf_20 rfl rfl (by decide) rfl ?_
      refine q_goto (pc := 23) (tgt := 5) K dX5_sumOf_23 (by decide) ?_
      have a3 := addI (x := v4) (y := 1) (by omega) (by omega)
      exact qq_out (ih v1 v2 (v3 + (rA σ a0 (v1 + v4))) (v4 + 1) σ hw (by omega) (by omega) (by omega) hk)
set_option maxRecDepth 100000 in
set_option maxHeartbeats 4000000 in
theorem kX5_sumOf (l : Launch) {G : gT} (hN : wN G) (hG : gfl G = false) (a0 : Nat) (ha0 : a0 < 4) (v1 : Int32) (v2 : Int32) (σ : sg) (hw : WM σ) (hb : 0 ≤ v1.toInt ∧ v1.toInt ≤ 60 ∧ v2.toInt ≤ 8) : cM l yX5_sumOf wsX5_sumOf rmX5_sumOf G [.ref (gad G a0), .int v1, .int v2] σ (some (.int (fX5_sumOf a0 v1 v2 σ))) σ := by
  refine cM_of (maxL := 5) (ret := (some .int)) (cc := cX5_sumOf) (fX5_sumOf a0 v1 v2 σ) RX5 hN (by decide +kernel) rfl rfl (Nat.le_of_ble_eq_true rfl) rfl ?_
  intro p e s m args below meth c K hr
  have k0 : (0 : Int32).toInt = 0 := rfl
  refine qq_st (lv' := [some (.ref (gad G a0)), some (.int v1), some (.int v2), none, none]) rfl rfl rfl ?_
  refine qq_T (fX5_sumOf.eq_1 ..) ?_
  refine q_iconst (pc := 0) (v := 0) K dX5_sumOf_0 (by decide) ?_
  refine q_istore_n (pc := 1) (lv' := [some (.ref (gad G a0)), some (.int v1), some (.int v2), some (.int 0), none]) K dX5_sumOf_1 rfl (by decide) (Nat.le_of_ble_eq_true rfl) rfl ?_
  refine q_iconst (pc := 2) (v := 0) K dX5_sumOf_2 (by decide) ?_
  refine q_istore (pc := 3) (lv' := [some (.ref (gad G a0)), some (.int v1), some (.int v2), some (.int 0), some (.int 0)]) K dX5_sumOf_3 (by decide) (Nat.le_of_ble_eq_true rfl) rfl ?_
  refine lX5_sumOf_5 l hN hG K a0 ha0 9 v1 v2 0 0 σ hw (by omega) (by omega) (by omega) (fun r6 => ?_)
  refine q_iload_n (pc := 26) K dX5_sumOf_26 rfl rfl ?_
  exact q_iretP K hr dX5_sumOf_27
theorem hdV_X5_holdingBehind : yX5_holdingBehind.cls = RX5 ∧ yX5_holdingBehind.cls ≠ "java/lang/invoke/MethodHandle" ∧ yX5_holdingBehind.cls ≠ "java/lang/invoke/VarHandle" ∧ (parseMethodDescriptor yX5_holdingBehind.desc).map (fun d => d.parameters.length) = some 1 := by decide +kernel
theorem mX5_holdingBehind_f16 : Cond.fieldLink RX5 16 "WaxTreatiesModel" "tried" "[I" ∈ wsX5_holdingBehind := List.mem_of_getElem? (i := 1) rfl
theorem iwX5_holdingBehind_X5 : ∀ w ∈ wsX50, w ∈ wsX5_holdingBehind := fun w h => List.mem_cons_of_mem _ (List.mem_append_right _ h)
set_option maxRecDepth 100000 in
set_option maxHeartbeats 4000000 in
theorem lX5_holdingBehind_2 {p : Program} (l : Launch) {e : Env} {s : State} {m : MethodId} {args : Array Value} {below : List Frame} {meth : Method} {c : Code} {Q : State → Prop} {G : gT} (hN : wN G) (hG : gfl G = false) (K : qK p s m args meth c cX5_holdingBehind 4 RX5 wsX5_holdingBehind G) : ∀ (k : Nat) (v1 v2 : Int32) (σ : sg) (hw : WM σ) (hv2 : 0 ≤ v2.toInt ∧ v2.toInt ≤ 100) (hn1 : v1.toInt ≤ 100) (hmu : (100 - v2.toInt).toNat < k) {ρ : Type} {E : ρ → Prop} {f : sg → ρ} (hk : ∀ r : sg, (WM r) → qq p l e (headSpec wsX5_holdingBehind rmX5_holdingBehind).room s m args below meth c Q 4 G E (f r) 22 [some (.ref (gob G 0)), none, none, none] [] r), qq p l e (headSpec wsX5_holdingBehind rmX5_holdingBehind).room s m args below meth c Q 4 G E (bnd (LX5_holdingBehind_2 k v1 v2 σ) f) 2 [some (.ref (gob G 0)), some (.int v1), some (.int v2), none] [] σ := by
  intro k
  induction k with
  | zero => intro v1 v2 σ hw hv2 hn1 hmu ρ E f hk; exact absurd hmu (Nat.not_lt_zero _)
  | succ k ih =>
    intro v1 v2 σ hw hv2 hn1 hmu ρ E f hk
    have k0 : (0 : Int32).toInt = 0 := rfl
    have k1 : (1 : Int32).toInt = 1 := rfl
    refine qq_in ?_
    refine qq_T (LX5_holdingBehind_2.eq_2 ..) ?_
    refine q_iload_n (pc := 2) K dX5_holdingBehind_2 rfl rfl ?_
    refine q_iload_n (pc := 3) K dX5_holdingBehind_3 rfl rfl ?_
    refine q_icmp_ge (pc := 4) (tgt := 22) K dX5_holdingBehind_4 (by decide) (fun c1 => ?_) (fun c1 => ?_)
    · have i6 := leI c1
      refine qq_drop 1 (lv' := [some (.ref (gob G 0)), none, some (.int v2), none]) rfl ?_
      refine qq_drop 2 (lv' := [some (.ref (gob G 0)), none, none, none]) rfl ?_
      exact qq_leaf (hk σ hw)
    · have i7 := nleI c1
      refine q_aload_n (pc := 7) K dX5_holdingBehind_7 rfl rfl ?_
      refine q_aload_n (pc := 8) K dX5_holdingBehind_8 rfl rfl ?_
      refine q_get (pc := 9) (o := 0) (f := 2) (v := .ref (gad G 2)) K (wO_m hG) vw_4 iwX5_holdingBehind_X5 (by decide) mX5_holdingBehind_f16 rfl dX5_holdingBehind_9 ?_
      refine q_callVi (pc := 12) (o := 0) (rm := rmX5_anHour) K (kX5_anHour l hN hG 2 (by decide) σ hw) gX5_holdingBehind_X5_anHour rfl hdV_X5_anHour ⟨Nat.le_of_ble_eq_true rfl, Nat.le_of_ble_eq_true rfl⟩ rfl rfl ⟨Nat.zero_le _, Nat.zero_le _⟩ (wO_m hG) vw_4 rfl rfl (Nat.le_of_ble_eq_true rfl) dX5_holdingBehind_12 ?_
      refine qq_nmI (fun r2 e3 => ?_)
      have hw4 : WM r2.2 := by rw [e3]; exact wX5_anHour 2 (by decide) hw 
      have me3 := manyA (show 2 < 4 by decide) e3
      have ne3 := manyA0 e3
      refine q_istore_n (pc := 15) (lv' := [some (.ref (gob G 0)), some (.int v1), some (.int v2), some (.int r2.1)]) K dX5_holdingBehind_15 rfl (by decide) (Nat.le_of_ble_eq_true rfl) rfl ?_
      refine q_iinc (pc := 16) (v := (v2 + 1)) (lv' := [some (.ref (gob G 0)), some (.int v1), some (.int (v2 + 1)), some (.int r2.1)]) K dX5_holdingBehind_16 rfl rfl (by decide) rfl ?_
      refine q_goto (pc := 19) (tgt := 2) K dX5_holdingBehind_19 (by decide) ?_
      refine qq_drop 3 (lv' := [some (.ref (gob G 0)), some (.int v1), some (.int (v2 + 1)), none]) rfl ?_
      have a5 := addI (x := v2) (y := 1) (by omega) (by omega)
      exact qq_out (ih v1 (v2 + 1) r2.2 hw4 (by omega) (by omega) (by omega) hk)
set_option maxRecDepth 100000 in
set_option maxHeartbeats 4000000 in
theorem kX5_holdingBehind (l : Launch) {G : gT} (hN : wN G) (hG : gfl G = false) (v1 : Int32) (σ : sg) (hw : WM σ) (hn : v1.toInt ≤ 100) : cM l yX5_holdingBehind wsX5_holdingBehind rmX5_holdingBehind G [.ref (gob G 0), .int v1] σ (some (.int (fX5_holdingBehind v1 σ).1)) (fX5_holdingBehind v1 σ).2 := by
  refine cM_of (maxL := 4) (ret := (some .int)) (cc := cX5_holdingBehind) (fX5_holdingBehind v1 σ) RX5 hN (by decide +kernel) rfl rfl (Nat.le_of_ble_eq_true rfl) rfl ?_
  intro p e s m args below meth c K hr
  have k0 : (0 : Int32).toInt = 0 := rfl
  refine qq_st (lv' := [some (.ref (gob G 0)), some (.int v1), none, none]) rfl rfl rfl ?_
  refine qq_T (fX5_holdingBehind.eq_1 ..) ?_
  refine q_iconst (pc := 0) (v := 0) K dX5_holdingBehind_0 (by decide) ?_
  refine q_istore_n (pc := 1) (lv' := [some (.ref (gob G 0)), some (.int v1), some (.int 0), none]) K dX5_holdingBehind_1 rfl (by decide) (Nat.le_of_ble_eq_true rfl) rfl ?_
  refine lX5_holdingBehind_2 l hN hG K 101 v1 0 σ hw (by omega) (by omega) (by omega) (fun r8 hw10 => ?_)
  refine q_aload_n (pc := 22) K dX5_holdingBehind_22 rfl rfl ?_
  refine q_get (pc := 23) (o := 0) (f := 2) (v := .ref (gad G 2)) K (wO_m hG) vw_4 iwX5_holdingBehind_X5 (by decide) mX5_holdingBehind_f16 rfl dX5_holdingBehind_23 ?_
  refine q_callSi (pc := 26) (rm := rmX5_holding) K (kX5_holding l hN hG 2 (by decide) r8 hw10) gX5_holdingBehind_X5_holding rfl hdS_X5_holding ⟨Nat.le_of_ble_eq_true rfl, Nat.le_of_ble_eq_true rfl⟩ rfl rfl ⟨Nat.zero_le _, Nat.zero_le _⟩ rfl rfl (Nat.le_of_ble_eq_true rfl) dX5_holdingBehind_26 ?_
  exact q_iret K hr dX5_holdingBehind_29
