def rmX4_isWithin : Room := { frames := 0, cells := 0, slots := 0, locals := 0 }
def fX4_isWithin (v0 : Int32) (v1 : Int32) (v2 : Int32) : Int32 := (if v0 < v1 then 0 else (if v2 < v0 then 0 else 1))
theorem b01_X4_isWithin (a b c : Int32) : fX4_isWithin a b c = 0 ∨ fX4_isWithin a b c = 1 := by
  unfold fX4_isWithin
  split
  · exact Or.inl rfl
  · split
    · exact Or.inl rfl
    · exact Or.inr rfl
theorem isW_t {v a b : Int32} (h : ¬ fX4_isWithin v a b = 0) : a.toInt ≤ v.toInt ∧ v.toInt ≤ b.toInt := by
  unfold fX4_isWithin at h
  split at h
  · exact absurd rfl h
  · rename_i h1
    split at h
    · exact absurd rfl h
    · rename_i h2; exact ⟨nltI h1, nltI h2⟩
theorem isW_f {v a b : Int32} (h : fX4_isWithin v a b = 0) : v.toInt < a.toInt ∨ b.toInt < v.toInt := by
  unfold fX4_isWithin at h
  split at h
  · rename_i h1; exact Or.inl (ltI h1)
  · split at h
    · rename_i h2; exact Or.inr (ltI h2)
    · exact absurd h (by decide)
def rmX4_isShelf : Room := { frames := 1, cells := 0, slots := 0, locals := 22 }
def fX4_isShelf (v0 : Int32) : Int32 := (fX4_isWithin v0 0 5)
theorem b01_X4_isShelf (a : Int32) : fX4_isShelf a = 0 ∨ fX4_isShelf a = 1 := by
  exact b01_X4_isWithin _ _ _
theorem isS_t {v : Int32} (h : ¬ fX4_isShelf v = 0) : 0 ≤ v.toInt ∧ v.toInt ≤ 5 := isW_t h
def rmX4_isSheet : Room := { frames := 1, cells := 0, slots := 0, locals := 22 }
def fX4_isSheet (v0 : Int32) : Int32 := (fX4_isWithin v0 0 3)
theorem b01_X4_isSheet (a : Int32) : fX4_isSheet a = 0 ∨ fX4_isSheet a = 1 := by
  exact b01_X4_isWithin _ _ _
theorem isH_t {v : Int32} (h : ¬ fX4_isSheet v = 0) : 0 ≤ v.toInt ∧ v.toInt ≤ 3 := isW_t h
def rmX4_isWax : Room := { frames := 1, cells := 0, slots := 0, locals := 22 }
def fX4_isWax (v0 : Int32) : Int32 := (fX4_isWithin v0 1 99)
theorem b01_X4_isWax (a : Int32) : fX4_isWax a = 0 ∨ fX4_isWax a = 1 := by
  exact b01_X4_isWithin _ _ _
theorem isX_t {v : Int32} (h : ¬ fX4_isWax v = 0) : 1 ≤ v.toInt ∧ v.toInt ≤ 99 := isW_t h
def rmX4_has : Room := { frames := 0, cells := 0, slots := 0, locals := 0 }
def fX4_has (v0 : Int32) (v1 : Int32) : Int32 := (if ((jshr v0 v1) &&& 1) = 1 then 1 else 0)
theorem b01_X4_has (a b : Int32) : fX4_has a b = 0 ∨ fX4_has a b = 1 := by
  unfold fX4_has
  split
  · exact Or.inr rfl
  · exact Or.inl rfl
def rmX4_with : Room := { frames := 0, cells := 0, slots := 0, locals := 0 }
def fX4_with (v0 : Int32) (v1 : Int32) : Int32 := (v0 ||| (jshl 1 v1))
def rmX4_without : Room := { frames := 0, cells := 0, slots := 0, locals := 0 }
def fX4_without (v0 : Int32) (v1 : Int32) : Int32 := (v0 &&& ((jshl 1 v1) ^^^ (-1)))
def rmX1_isKind : Room := { frames := 1, cells := 0, slots := 0, locals := 22 }
def fX1_isKind (v0 : Int32) : Int32 := (fX4_isWithin v0 0 6)
theorem b01_X1_isKind (a : Int32) : fX1_isKind a = 0 ∨ fX1_isKind a = 1 := by
  exact b01_X4_isWithin _ _ _
theorem isK_t {v : Int32} (h : ¬ fX1_isKind v = 0) : 0 ≤ v.toInt ∧ v.toInt ≤ 6 := isW_t h
def rmX1_feels : Room := { frames := 0, cells := 0, slots := 0, locals := 0 }
def fX1_feels (v0 : Int32) (v1 : Int32) : Int32 := (if v0 = 4 then (v1 - 4) else (if v0 = 5 then ((v1 * 2) / 3) else (if v0 = 6 then ((v1 * 2) / 3) else v1)))
def rmX1_stands : Room := { frames := 0, cells := 0, slots := 0, locals := 0 }
def fX1_stands (v0 : Int32) (v1 : Int32) : Int32 := (if v0 = 2 then (v1 - 8) else (if v0 = 3 then (v1 - 8) else (if v0 = 4 then v1 else (if v0 = 5 then v1 else (if v0 = 6 then (v1 - 5) else v1)))))
def rmX1_runsAt : Room := { frames := 0, cells := 0, slots := 0, locals := 0 }
def fX1_runsAt (v0 : Int32) : Int32 := (if v0 = 1 then 20 else (if v0 = 2 then 10 else (if v0 = 3 then 5 else (if v0 = 4 then 20 else 10))))
def rmX2_isMissing : Room := { frames := 0, cells := 0, slots := 0, locals := 0 }
def fX2_isMissing (j : Nat) (σ : sg) : Int32 := (if (rF σ (27 + 2 * j)) = 0 then 1 else 0)
theorem b01_X2_isMissing (j : Nat) (σ : sg) : fX2_isMissing j σ = 0 ∨ fX2_isMissing j σ = 1 := by
  unfold fX2_isMissing
  split
  · exact Or.inr rfl
  · exact Or.inl rfl
def rmX2_makeAnew : Room := { frames := 0, cells := 0, slots := 0, locals := 0 }
def LX2_makeAnew_20 (j : Nat) : Nat → Int32 → sg → sg
  | 0, v3, σ => σ
  | k + 1, v3, σ => (if 40 ≤ v3 then σ else bnd (sA σ (25 + j) v3 0) (fun s9 => LX2_makeAnew_20 j k (v3 + 1) s9))
def fX2_makeAnew (j : Nat) (v1 : Int32) (v2 : Int32) (σ : sg) : sg := bnd (sF9 σ (27 + 2 * j) v1) (fun s1 => (if v1 = 0 then bnd (sF9 s1 (28 + 2 * j) 0) (fun s18 => bnd (LX2_makeAnew_20 j 41 0 s18) (fun r21 => r21)) else bnd (sF9 s1 (28 + 2 * j) v2) (fun s5 => bnd (LX2_makeAnew_20 j 41 0 s5) (fun r15 => r15))))
def rmX2_hasRange : Room := { frames := 0, cells := 0, slots := 0, locals := 0 }
def fX2_hasRange (j : Nat) (v1 : Int32) (v2 : Int32) (σ : sg) : Int32 := (if v1 < 0 then 0 else (if v2 < 0 then 0 else (if ((rF σ (28 + 2 * j)) - v2) < v1 then 0 else 1)))
theorem b01_X2_hasRange (j : Nat) (a b : Int32) (σ : sg) : fX2_hasRange j a b σ = 0 ∨ fX2_hasRange j a b σ = 1 := by
  unfold fX2_hasRange
  split
  · exact Or.inl rfl
  · split
    · exact Or.inl rfl
    · split
      · exact Or.inl rfl
      · exact Or.inr rfl
theorem hR_t {σ : sg} (hw : WD σ) {j : Nat} (hj : j < 4) {a n : Int32} (h : ¬ fX2_hasRange j a n σ = 0) : 0 ≤ a.toInt ∧ 0 ≤ n.toInt ∧ a.toInt + n.toInt ≤ 40 := by
  have h2 := wd_size hw hj
  have k0 : (0 : Int32).toInt = 0 := rfl
  unfold fX2_hasRange at h
  split at h
  · exact absurd rfl h
  · rename_i c1
    split at h
    · exact absurd rfl h
    · rename_i c2
      split at h
      · exact absurd rfl h
      · rename_i c3
        have i1 := nltI c1
        have i2 := nltI c2
        have i3 := nltI c3
        have q := Int32.toInt_lt n
        have e := subI (x := rF σ (28 + 2 * j)) (y := n) (by omega) (by omega)
        omega
def rmX2_lowestBits : Room := { frames := 0, cells := 0, slots := 0, locals := 0 }
def fX2_lowestBits (j : Nat) (v1 : Int32) (σ : sg) : Int32 := (if (rF σ (27 + 2 * j)) = 8 then v1.toInt8.toInt32 else (if (rF σ (27 + 2 * j)) = 16 then v1.toInt16.toInt32 else v1))
def rmX0_isDeed : Room := { frames := 1, cells := 0, slots := 0, locals := 22 }
def fX0_isDeed (j : Nat) (v1 : Int32) (σ : sg) : Int32 := (fX4_isWithin v1 0 ((rF σ (7 * j + 1)) - 1))
theorem b01_X0_isDeed (j : Nat) (a : Int32) (σ : sg) : fX0_isDeed j a σ = 0 ∨ fX0_isDeed j a σ = 1 := by
  exact b01_X4_isWithin _ _ _
theorem isD_t {σ : sg} (hw : WD σ) {j : Nat} (hj : j < 3) {v : Int32} (h : ¬ fX0_isDeed j v σ = 0) : 0 ≤ v.toInt ∧ v.toInt < (rF σ (7 * j + 1)).toInt ∧ (rF σ (7 * j + 1)).toInt ≤ 8 := by
  have h1 := isW_t h
  have h2 := wd_deeds hw hj
  have h3 := subI (x := rF σ (7 * j + 1)) (y := 1) (by have : (1 : Int32).toInt = 1 := rfl; omega) (by have : (1 : Int32).toInt = 1 := rfl; omega)
  have h4 : (1 : Int32).toInt = 1 := rfl
  have h5 : (0 : Int32).toInt = 0 := rfl
  rw [h3] at h1
  omega
def rmX0_isFull : Room := { frames := 0, cells := 0, slots := 0, locals := 0 }
def fX0_isFull (j : Nat) (σ : sg) : Int32 := (if (rF σ (7 * j + 1)) < 8 then 0 else 1)
theorem b01_X0_isFull (j : Nat) (σ : sg) : fX0_isFull j σ = 0 ∨ fX0_isFull j σ = 1 := by
  unfold fX0_isFull
  split
  · exact Or.inl rfl
  · exact Or.inr rfl
theorem isF_f {j : Nat} {σ : sg} (h : fX0_isFull j σ = 0) : (rF σ (7 * j + 1)).toInt < 8 := by
  unfold fX0_isFull at h
  split at h
  · rename_i h1; exact ltI h1
  · exact absurd h (by decide)
def rmX0_sunAt : Room := { frames := 1, cells := 0, slots := 0, locals := 21 }
def fX0_sunAt (v0 : Int32) : Int32 := (if (jrem v0 24) < 6 then 0 else (if (jrem v0 24) < 20 then (28 - (4 * (jabs ((jrem v0 24) - 13)))) else 0))
def rmX0_heatUnder : Room := { frames := 1, cells := 0, slots := 0, locals := 21 }
def fX0_heatUnder (j : Nat) (v1 : Int32) (v2 : Int32) (σ : sg) : Int32 := (if (fX4_has (rF σ (7 * j + 2)) v2) = 0 then (if (rA σ (8 * j + 5) v2) ≤ 0 then (if (fX4_has (rF σ (7 * j + 3)) v2) = 0 then (((rF σ (7 * j + 5)) - (6 * v2)) + (v1 / 2)) else ((((rF σ (7 * j + 5)) - (6 * v2)) + (v1 / 2)) + 12)) else (if (fX4_has (rF σ (7 * j + 3)) v2) = 0 then ((((rF σ (7 * j + 5)) - (6 * v2)) + (v1 / 2)) + (-10)) else (((((rF σ (7 * j + 5)) - (6 * v2)) + (v1 / 2)) + (-10)) + 12))) else (if (rA σ (8 * j + 5) v2) ≤ 0 then (if (fX4_has (rF σ (7 * j + 3)) v2) = 0 then (((rF σ (7 * j + 5)) - (6 * v2)) + v1) else ((((rF σ (7 * j + 5)) - (6 * v2)) + v1) + 12)) else (if (fX4_has (rF σ (7 * j + 3)) v2) = 0 then ((((rF σ (7 * j + 5)) - (6 * v2)) + v1) + (-10)) else (((((rF σ (7 * j + 5)) - (6 * v2)) + v1) + (-10)) + 12))))
def rmX0_heatOf : Room := { frames := 2, cells := 0, slots := 0, locals := 44 }
def fX0_heatOf (j : Nat) (v1 : Int32) (v2 : Int32) (σ : sg) : Int32 := (fX0_heatUnder j (fX0_sunAt v2) v1 σ)
def rmX0_hasRun : Room := { frames := 1, cells := 0, slots := 0, locals := 21 }
def fX0_hasRun (j : Nat) (v1 : Int32) (σ : sg) : Int32 := (fX4_has (rF σ (7 * j)) v1)
theorem b01_X0_hasRun (j : Nat) (a : Int32) (σ : sg) : fX0_hasRun j a σ = 0 ∨ fX0_hasRun j a σ = 1 := by
  exact b01_X4_has _ _
def rmX0_peaces : Room := { frames := 1, cells := 0, slots := 0, locals := 21 }
def LX0_peaces_4 (j : Nat) : Nat → Int32 → Int32 → Int32 → sg → Int32
  | 0, v1, v2, v3, σ => v2
  | k + 1, v1, v2, v3, σ => (if (rF σ (7 * j + 1)) ≤ v3 then v2 else (if (rA σ (8 * j + 4) v3) = (-1) then (if (fX4_has v1 v3) = 0 then LX0_peaces_4 j k v1 (fX4_with v2 v3) (v3 + 1) σ else LX0_peaces_4 j k v1 v2 (v3 + 1) σ) else (if (fX4_has v2 (rA σ (8 * j + 4) v3)) = 0 then LX0_peaces_4 j k v1 v2 (v3 + 1) σ else (if (fX4_has v1 v3) = 0 then LX0_peaces_4 j k v1 (fX4_with v2 v3) (v3 + 1) σ else LX0_peaces_4 j k v1 v2 (v3 + 1) σ))))
def fX0_peaces (j : Nat) (v1 : Int32) (σ : sg) : Int32 := bnd (LX0_peaces_4 j 9 v1 0 0 σ) (fun r22 => r22)
def rmX0_peaceHolds : Room := { frames := 2, cells := 0, slots := 0, locals := 45 }
def fX0_peaceHolds (j : Nat) (v1 : Int32) (σ : sg) : Int32 := (fX4_has (fX0_peaces j (rF σ (7 * j)) σ) v1)
theorem b01_X0_peaceHolds (j : Nat) (a : Int32) (σ : sg) : fX0_peaceHolds j a σ = 0 ∨ fX0_peaceHolds j a σ = 1 := by
  exact b01_X4_has _ _
def rmX0_softens : Room := { frames := 1, cells := 0, slots := 0, locals := 21 }
def fX0_softens (j : Nat) (v1 : Int32) (σ : sg) : Int32 × sg := (if ((fX1_feels (rA σ (8 * j) v1) (rA σ (8 * j + 7) (rA σ (8 * j + 1) v1))) - (fX1_stands (rA σ (8 * j) v1) (rA σ (8 * j + 2) v1))) ≤ 0 then bnd (sA σ (8 * j + 3) v1 (jmax 0 ((rA σ (8 * j + 3) v1) - 1))) (fun s3 => (if (rA s3 (8 * j + 3) v1) < (fX1_runsAt (rA s3 (8 * j) v1)) then (0, s3) else (1, s3))) else bnd (sA σ (8 * j + 3) v1 (jmin 99 ((rA σ (8 * j + 3) v1) + ((fX1_feels (rA σ (8 * j) v1) (rA σ (8 * j + 7) (rA σ (8 * j + 1) v1))) - (fX1_stands (rA σ (8 * j) v1) (rA σ (8 * j + 2) v1)))))) (fun s9 => (if (rA s9 (8 * j + 3) v1) < (fX1_runsAt (rA s9 (8 * j) v1)) then (0, s9) else (1, s9))))
def rmX0_dropOn : Room := { frames := 1, cells := 0, slots := 0, locals := 21 }
def LX0_dropOn_2 (j : Nat) : Nat → Int32 → Int32 → sg → sg
  | 0, v1, v2, σ => σ
  | k + 1, v1, v2, σ => (if (rF σ (7 * j + 1)) ≤ v2 then σ else (if (rA σ (8 * j + 1) v2) = v1 then (if (fX4_has (rF σ (7 * j)) v2) = 0 then bnd (sA σ (8 * j + 3) v2 (jmin 99 ((rA σ (8 * j + 3) v2) + 3))) (fun s8 => LX0_dropOn_2 j k v1 (v2 + 1) s8) else LX0_dropOn_2 j k v1 (v2 + 1) σ) else LX0_dropOn_2 j k v1 (v2 + 1) σ))
def fX0_dropOn (j : Nat) (v1 : Int32) (σ : sg) : sg := bnd (LX0_dropOn_2 j 9 v1 0 σ) (fun r18 => r18)
def rmX0_passHour : Room := { frames := 2, cells := 0, slots := 0, locals := 44 }
def LX0_passHour_10 (j : Nat) : Nat → Int32 → Int32 → sg → sg
  | 0, v1, v2, σ => σ
  | k + 1, v1, v2, σ => (if 6 ≤ v2 then σ else bnd (sA σ (8 * j + 7) v2 (fX0_heatUnder j v1 v2 σ)) (fun s2 => LX0_passHour_10 j k v1 (v2 + 1) s2))
def LX0_passHour_38 (j : Nat) : Nat → Int32 → Int32 → sg → Int32 × sg
  | 0, v2, v3, σ => (v2, σ)
  | k + 1, v2, v3, σ => (if (rF σ (7 * j + 1)) ≤ v3 then (v2, σ) else (if (fX4_has (rF σ (7 * j)) v3) = 0 then bnd (fX0_softens j v3 σ) (fun r15 => (if r15.1 = 0 then LX0_passHour_38 j k v2 (v3 + 1) r15.2 else bnd (sF9 r15.2 (7 * j) (fX4_with (rF r15.2 (7 * j)) v3)) (fun s20 => bnd (fX0_dropOn j ((rA s20 (8 * j + 1) v3) + 1) s20) (fun r25 => LX0_passHour_38 j k (v2 + 1) (v3 + 1) r25)))) else LX0_passHour_38 j k v2 (v3 + 1) σ))
def LX0_passHour_100 (j : Nat) : Nat → Int32 → Int32 → sg → sg
  | 0, v2, v3, σ => σ
  | k + 1, v2, v3, σ => (if 6 ≤ v3 then σ else (if (rA σ (8 * j + 7) v3) ≤ 20 then LX0_passHour_100 j k v2 (v3 + 1) σ else (if (rA σ (8 * j + 5) v3) ≤ 0 then LX0_passHour_100 j k v2 (v3 + 1) σ else bnd (sA σ (8 * j + 5) v3 ((rA σ (8 * j + 5) v3) - 1)) (fun s43 => LX0_passHour_100 j k v2 (v3 + 1) s43))))
def fX0_passHour (j : Nat) (σ : sg) : Int32 × sg := bnd (LX0_passHour_10 j 7 (fX0_sunAt (rF σ (7 * j + 4))) 0 σ) (fun r8 => bnd (LX0_passHour_38 j 9 0 0 r8) (fun r35 => bnd (LX0_passHour_100 j 7 r35.1 0 r35.2) (fun r53 => bnd (sF9 r53 (7 * j + 4) ((rF r53 (7 * j + 4)) + 1)) (fun s56 => (r35.1, s56)))))
def rmX0_pass : Room := { frames := 3, cells := 0, slots := 0, locals := 67 }
def LX0_pass_4 (j : Nat) : Nat → Int32 → Int32 → Int32 → sg → Int32 × sg
  | 0, v1, v2, v3, σ => (v2, σ)
  | k + 1, v1, v2, v3, σ => (if v1 ≤ v3 then (v2, σ) else bnd (fX0_passHour j σ) (fun r2 => LX0_pass_4 j k v1 (v2 + r2.1) (v3 + 1) r2.2))
def fX0_pass (j : Nat) (v1 : Int32) (σ : sg) : Int32 × sg := bnd (LX0_pass_4 j 101 v1 0 0 σ) (fun r8 => (r8.1, r8.2))
def PLX2_makeAnew_20 (j : Nat) : sg → Prop := fun r => (WD r) ∧ True
set_option maxRecDepth 100000 in
set_option maxHeartbeats 4000000 in
theorem wLX2_makeAnew_20 (j : Nat) (hj : j < 4) : ∀ (k : Nat) (v3 : Int32) (σ : sg) (hw : WD σ) (hv3 : 0 ≤ v3.toInt ∧ v3.toInt ≤ 40) (hmu : (40 - v3.toInt).toNat < k), PLX2_makeAnew_20 j (LX2_makeAnew_20 j k v3 σ) := by
  intro k
  induction k with
  | zero => intro v3 σ hw hv3 hmu; exact absurd hmu (Nat.not_lt_zero _)
  | succ k ih =>
    intro v3 σ hw hv3 hmu
    have k0 : (0 : Int32).toInt = 0 := rfl
    have k1 : (1 : Int32).toInt = 1 := rfl
    have k40 : (40 : Int32).toInt = 40 := rfl
    rw [show LX2_makeAnew_20 j (k + 1) v3 σ = _ from LX2_makeAnew_20.eq_2 ..]
    refine wf_ite (fun c8 => ?_) (fun c8 => ?_)
    · have i13 := leI c8
      exact ⟨hw, trivial⟩
    · have i14 := nleI c8
      refine wf_bnd (fun s9 e10 => ?_)
      have hw11 : WD s9 := by rw [e10]; exact wdA hw (by have := hj; omega)
      have a12 := addI (x := v3) (y := 1) (by omega) (by omega)
      exact ih (v3 + 1) s9 hw11 (by omega) (by omega)
set_option maxRecDepth 100000 in
set_option maxHeartbeats 4000000 in
theorem wX2_makeAnew (j : Nat) (hj : j < 4) (v1 : Int32) (v2 : Int32) {σ : sg} (hw : WD σ) (hs : 0 ≤ v2.toInt ∧ v2.toInt ≤ 40) : WD (fX2_makeAnew j v1 v2 σ) := by
  have k0 : (0 : Int32).toInt = 0 := rfl
  rw [show fX2_makeAnew j v1 v2 σ = _ from fX2_makeAnew.eq_1 ..]
  refine wf_bnd (fun s1 e2 => ?_)
  have hw3 : WD s1 := by rw [e2]; exact wdF hw (by have := hj; omega)
  refine wf_ite (fun c4 => ?_) (fun c4 => ?_)
  · have i25 := eqI c4
    refine wf_bnd (fun s18 e19 => ?_)
    have hw20 : WD s18 := by rw [e19]; exact wdFs hw3 hj (by omega) (by omega)
    refine wf_bnd (fun r21 e22 => ?_)
    obtain ⟨hw23, _⟩ := (show PLX2_makeAnew_20 j r21 from by rw [e22]; exact wLX2_makeAnew_20 j hj 41 0 s18 hw20 (by omega) (by omega))
    exact hw23
  · have i24 := neI c4
    refine wf_bnd (fun s5 e6 => ?_)
    have hw7 : WD s5 := by rw [e6]; exact wdFs hw3 hj (by omega) (by omega)
    refine wf_bnd (fun r15 e16 => ?_)
    obtain ⟨hw17, _⟩ := (show PLX2_makeAnew_20 j r15 from by rw [e16]; exact wLX2_makeAnew_20 j hj 41 0 s5 hw7 (by omega) (by omega))
    exact hw17
set_option maxRecDepth 100000 in
set_option maxHeartbeats 4000000 in
theorem wX0_softens (j : Nat) (hj : j < 3) (v1 : Int32) {σ : sg} (hw : WD σ) (hb : 0 ≤ v1.toInt ∧ v1.toInt ≤ 7) : WDi (fX0_softens j v1 σ) := by
  have k0 : (0 : Int32).toInt = 0 := rfl
  have k1 : (1 : Int32).toInt = 1 := rfl
  have k99 : (99 : Int32).toInt = 99 := rfl
  rw [show fX0_softens j v1 σ = _ from fX0_softens.eq_1 ..]
  have w1 := wd_shelf hw hj v1
  refine wf_ite (fun c2 => ?_) (fun c2 => ?_)
  · have i15 := leI c2
    refine wf_bnd (fun s3 e4 => ?_)
    have hw5 : WD s3 := by rw [e4]; exact wdA hw (by have := hj; omega)
    refine wf_ite (fun c6 => ?_) (fun c6 => ?_)
    · have i7 := ltI c6
      exact hw5
    · have i8 := nltI c6
      exact hw5
  · have i16 := nleI c2
    refine wf_bnd (fun s9 e10 => ?_)
    have hw11 : WD s9 := by rw [e10]; exact wdA hw (by have := hj; omega)
    refine wf_ite (fun c12 => ?_) (fun c12 => ?_)
    · have i13 := ltI c12
      exact hw11
    · have i14 := nltI c12
      exact hw11
def PLX0_dropOn_2 (j : Nat) : sg → Prop := fun r => (WD r) ∧ True
set_option maxRecDepth 100000 in
set_option maxHeartbeats 4000000 in
theorem wLX0_dropOn_2 (j : Nat) (hj : j < 3) : ∀ (k : Nat) (v1 v2 : Int32) (σ : sg) (hw : WD σ) (hv2 : 0 ≤ v2.toInt ∧ v2.toInt ≤ 8) (hmu : (8 - v2.toInt).toNat < k), PLX0_dropOn_2 j (LX0_dropOn_2 j k v1 v2 σ) := by
  intro k
  induction k with
  | zero => intro v1 v2 σ hw hv2 hmu; exact absurd hmu (Nat.not_lt_zero _)
  | succ k ih =>
    intro v1 v2 σ hw hv2 hmu
    have k0 : (0 : Int32).toInt = 0 := rfl
    have k1 : (1 : Int32).toInt = 1 := rfl
    have k3 : (3 : Int32).toInt = 3 := rfl
    have k99 : (99 : Int32).toInt = 99 := rfl
    rw [show LX0_dropOn_2 j (k + 1) v1 v2 σ = _ from LX0_dropOn_2.eq_2 ..]
    have w1 := wd_deeds hw hj
    refine wf_ite (fun c2 => ?_) (fun c2 => ?_)
    · have i16 := leI c2
      exact ⟨hw, trivial⟩
    · have i17 := nleI c2
      have w3 := wd_shelf hw hj v2
      refine wf_ite (fun c4 => ?_) (fun c4 => ?_)
      · have i15 := eqI c4
        refine wf_ite (fun c6 => ?_) (fun c6 => ?_)
        · have i13 := eqI c6
          refine wf_bnd (fun s8 e9 => ?_)
          have hw10 : WD s8 := by rw [e9]; exact wdA hw (by have := hj; omega)
          have a11 := addI (x := v2) (y := 1) (by omega) (by omega)
          exact ih v1 (v2 + 1) s8 hw10 (by omega) (by omega)
        · have i12 := neI c6
          have a7 := addI (x := v2) (y := 1) (by omega) (by omega)
          exact ih v1 (v2 + 1) σ hw (by omega) (by omega)
      · have i14 := neI c4
        have a5 := addI (x := v2) (y := 1) (by omega) (by omega)
        exact ih v1 (v2 + 1) σ hw (by omega) (by omega)
set_option maxRecDepth 100000 in
set_option maxHeartbeats 4000000 in
theorem wX0_dropOn (j : Nat) (hj : j < 3) (v1 : Int32) {σ : sg} (hw : WD σ) : WD (fX0_dropOn j v1 σ) := by
  have k0 : (0 : Int32).toInt = 0 := rfl
  rw [show fX0_dropOn j v1 σ = _ from fX0_dropOn.eq_1 ..]
  refine wf_bnd (fun r18 e19 => ?_)
  obtain ⟨hw20, _⟩ := (show PLX0_dropOn_2 j r18 from by rw [e19]; exact wLX0_dropOn_2 j hj 9 v1 0 σ hw (by omega) (by omega))
  exact hw20
def PLX0_passHour_10 (j : Nat) : sg → Prop := fun r => (WD r) ∧ True
set_option maxRecDepth 100000 in
set_option maxHeartbeats 4000000 in
theorem wLX0_passHour_10 (j : Nat) (hj : j < 3) : ∀ (k : Nat) (v1 v2 : Int32) (σ : sg) (hw : WD σ) (hv2 : 0 ≤ v2.toInt ∧ v2.toInt ≤ 6) (hmu : (6 - v2.toInt).toNat < k), PLX0_passHour_10 j (LX0_passHour_10 j k v1 v2 σ) := by
  intro k
  induction k with
  | zero => intro v1 v2 σ hw hv2 hmu; exact absurd hmu (Nat.not_lt_zero _)
  | succ k ih =>
    intro v1 v2 σ hw hv2 hmu
    have k0 : (0 : Int32).toInt = 0 := rfl
    have k1 : (1 : Int32).toInt = 1 := rfl
    have k6 : (6 : Int32).toInt = 6 := rfl
    rw [show LX0_passHour_10 j (k + 1) v1 v2 σ = _ from LX0_passHour_10.eq_2 ..]
    refine wf_ite (fun c1 => ?_) (fun c1 => ?_)
    · have i6 := leI c1
      exact ⟨hw, trivial⟩
    · have i7 := nleI c1
      refine wf_bnd (fun s2 e3 => ?_)
      have hw4 : WD s2 := by rw [e3]; exact wdA hw (by have := hj; omega)
      have a5 := addI (x := v2) (y := 1) (by omega) (by omega)
      exact ih v1 (v2 + 1) s2 hw4 (by omega) (by omega)
def PLX0_passHour_38 (j : Nat) : Int32 × sg → Prop := fun r => (WD r.2) ∧ True
set_option maxRecDepth 100000 in
set_option maxHeartbeats 4000000 in
theorem wLX0_passHour_38 (j : Nat) (hj : j < 3) : ∀ (k : Nat) (v2 v3 : Int32) (σ : sg) (hw : WD σ) (hv3 : 0 ≤ v3.toInt ∧ v3.toInt ≤ 8) (hmu : (8 - v3.toInt).toNat < k), PLX0_passHour_38 j (LX0_passHour_38 j k v2 v3 σ) := by
  intro k
  induction k with
  | zero => intro v2 v3 σ hw hv3 hmu; exact absurd hmu (Nat.not_lt_zero _)
  | succ k ih =>
    intro v2 v3 σ hw hv3 hmu
    have k0 : (0 : Int32).toInt = 0 := rfl
    have k1 : (1 : Int32).toInt = 1 := rfl
    rw [show LX0_passHour_38 j (k + 1) v2 v3 σ = _ from LX0_passHour_38.eq_2 ..]
    have w11 := wd_deeds hw hj
    refine wf_ite (fun c12 => ?_) (fun c12 => ?_)
    · have i33 := leI c12
      exact ⟨hw, trivial⟩
    · have i34 := nleI c12
      refine wf_ite (fun c13 => ?_) (fun c13 => ?_)
      · have i32 := eqI c13
        refine wf_bnd (fun r15 e16 => ?_)
        have hw17 : WD r15.2 := by rw [e16]; exact wX0_softens j hj v3 hw (by omega)
        refine wf_ite (fun c18 => ?_) (fun c18 => ?_)
        · have i29 := eqI c18
          have a19 := addI (x := v3) (y := 1) (by omega) (by omega)
          exact ih v2 (v3 + 1) r15.2 hw17 (by omega) (by omega)
        · have i30 := neI c18
          refine wf_bnd (fun s20 e21 => ?_)
          have hw22 : WD s20 := by rw [e21]; exact wdF hw17 (by have := hj; omega)
          have w23 := wd_shelf hw22 hj v3
          have a24 := addI (x := (rA s20 (8 * j + 1) v3)) (y := 1) (by omega) (by omega)
          refine wf_bnd (fun r25 e26 => ?_)
          have hw27 : WD r25 := by rw [e26]; exact wX0_dropOn j hj ((rA s20 (8 * j + 1) v3) + 1) hw22 
          have a28 := addI (x := v3) (y := 1) (by omega) (by omega)
          exact ih (v2 + 1) (v3 + 1) r25 hw27 (by omega) (by omega)
      · have i31 := neI c13
        have a14 := addI (x := v3) (y := 1) (by omega) (by omega)
        exact ih v2 (v3 + 1) σ hw (by omega) (by omega)
def PLX0_passHour_100 (j : Nat) : sg → Prop := fun r => (WD r) ∧ True
set_option maxRecDepth 100000 in
set_option maxHeartbeats 4000000 in
theorem wLX0_passHour_100 (j : Nat) (hj : j < 3) : ∀ (k : Nat) (v2 v3 : Int32) (σ : sg) (hw : WD σ) (hv3 : 0 ≤ v3.toInt ∧ v3.toInt ≤ 6) (hmu : (6 - v3.toInt).toNat < k), PLX0_passHour_100 j (LX0_passHour_100 j k v2 v3 σ) := by
  intro k
  induction k with
  | zero => intro v2 v3 σ hw hv3 hmu; exact absurd hmu (Nat.not_lt_zero _)
  | succ k ih =>
    intro v2 v3 σ hw hv3 hmu
    have k0 : (0 : Int32).toInt = 0 := rfl
    have k1 : (1 : Int32).toInt = 1 := rfl
    have k6 : (6 : Int32).toInt = 6 := rfl
    have k20 : (20 : Int32).toInt = 20 := rfl
    rw [show LX0_passHour_100 j (k + 1) v2 v3 σ = _ from LX0_passHour_100.eq_2 ..]
    refine wf_ite (fun c38 => ?_) (fun c38 => ?_)
    · have i51 := leI c38
      exact ⟨hw, trivial⟩
    · have i52 := nleI c38
      refine wf_ite (fun c39 => ?_) (fun c39 => ?_)
      · have i49 := leI c39
        have a40 := addI (x := v3) (y := 1) (by omega) (by omega)
        exact ih v2 (v3 + 1) σ hw (by omega) (by omega)
      · have i50 := nleI c39
        refine wf_ite (fun c41 => ?_) (fun c41 => ?_)
        · have i47 := leI c41
          have a42 := addI (x := v3) (y := 1) (by omega) (by omega)
          exact ih v2 (v3 + 1) σ hw (by omega) (by omega)
        · have i48 := nleI c41
          refine wf_bnd (fun s43 e44 => ?_)
          have hw45 : WD s43 := by rw [e44]; exact wdA hw (by have := hj; omega)
          have a46 := addI (x := v3) (y := 1) (by omega) (by omega)
          exact ih v2 (v3 + 1) s43 hw45 (by omega) (by omega)
set_option maxRecDepth 100000 in
set_option maxHeartbeats 4000000 in
theorem wX0_passHour (j : Nat) (hj : j < 3) {σ : sg} (hw : WD σ) : WDi (fX0_passHour j σ) := by
  have k0 : (0 : Int32).toInt = 0 := rfl
  have k1 : (1 : Int32).toInt = 1 := rfl
  rw [show fX0_passHour j σ = _ from fX0_passHour.eq_1 ..]
  refine wf_bnd (fun r8 e9 => ?_)
  obtain ⟨hw10, _⟩ := (show PLX0_passHour_10 j r8 from by rw [e9]; exact wLX0_passHour_10 j hj 7 (fX0_sunAt (rF σ (7 * j + 4))) 0 σ hw (by omega) (by omega))
  refine wf_bnd (fun r35 e36 => ?_)
  obtain ⟨hw37, _⟩ := (show PLX0_passHour_38 j r35 from by rw [e36]; exact wLX0_passHour_38 j hj 9 0 0 r8 hw10 (by omega) (by omega))
  refine wf_bnd (fun r53 e54 => ?_)
  obtain ⟨hw55, _⟩ := (show PLX0_passHour_100 j r53 from by rw [e54]; exact wLX0_passHour_100 j hj 7 r35.1 0 r35.2 hw37 (by omega) (by omega))
  refine wf_bnd (fun s56 e57 => ?_)
  have hw58 : WD s56 := by rw [e57]; exact wdF hw55 (by have := hj; omega)
  exact hw58
def PLX0_pass_4 (j : Nat) : Int32 × sg → Prop := fun r => (WD r.2) ∧ True
set_option maxRecDepth 100000 in
set_option maxHeartbeats 4000000 in
theorem wLX0_pass_4 (j : Nat) (hj : j < 3) : ∀ (k : Nat) (v1 v2 v3 : Int32) (σ : sg) (hw : WD σ) (hv3 : 0 ≤ v3.toInt ∧ v3.toInt ≤ 100) (hn1 : v1.toInt ≤ 100) (hmu : (100 - v3.toInt).toNat < k), PLX0_pass_4 j (LX0_pass_4 j k v1 v2 v3 σ) := by
  intro k
  induction k with
  | zero => intro v1 v2 v3 σ hw hv3 hn1 hmu; exact absurd hmu (Nat.not_lt_zero _)
  | succ k ih =>
    intro v1 v2 v3 σ hw hv3 hn1 hmu
    have k0 : (0 : Int32).toInt = 0 := rfl
    have k1 : (1 : Int32).toInt = 1 := rfl
    rw [show LX0_pass_4 j (k + 1) v1 v2 v3 σ = _ from LX0_pass_4.eq_2 ..]
    refine wf_ite (fun c1 => ?_) (fun c1 => ?_)
    · have i6 := leI c1
      exact ⟨hw, trivial⟩
    · have i7 := nleI c1
      refine wf_bnd (fun r2 e3 => ?_)
      have hw4 : WD r2.2 := by rw [e3]; exact wX0_passHour j hj hw 
      have a5 := addI (x := v3) (y := 1) (by omega) (by omega)
      exact ih v1 (v2 + r2.1) (v3 + 1) r2.2 hw4 (by omega) (by omega) (by omega)
set_option maxRecDepth 100000 in
set_option maxHeartbeats 4000000 in
theorem wX0_pass (j : Nat) (hj : j < 3) (v1 : Int32) {σ : sg} (hw : WD σ) (hn : v1.toInt ≤ 100) : WDi (fX0_pass j v1 σ) := by
  have k0 : (0 : Int32).toInt = 0 := rfl
  rw [show fX0_pass j v1 σ = _ from fX0_pass.eq_1 ..]
  refine wf_bnd (fun r8 e9 => ?_)
  obtain ⟨hw10, _⟩ := (show PLX0_pass_4 j r8 from by rw [e9]; exact wLX0_pass_4 j hj 101 v1 0 0 σ hw (by omega) (by omega) (by omega))
  exact hw10
theorem hdS_X4_isWithin : yX4_isWithin.cls ≠ "java/lang/invoke/MethodHandle" ∧ yX4_isWithin.cls ≠ "java/lang/invoke/VarHandle" ∧ (parseMethodDescriptor yX4_isWithin.desc).map (fun d => d.parameters.length) = some 3 := by decide +kernel
set_option maxRecDepth 100000 in
set_option maxHeartbeats 4000000 in
theorem kX4_isWithin (l : Launch) {G : gT} (hN : wN G) (v0 : Int32) (v1 : Int32) (v2 : Int32) (σ : sg) : cM l yX4_isWithin wsX4_isWithin rmX4_isWithin G [.int v0, .int v1, .int v2] σ (some (.int (fX4_isWithin v0 v1 v2))) σ := by
  refine cM_of (maxL := 3) (ret := (some .boolean)) (cc := cX4_isWithin) (fX4_isWithin v0 v1 v2) RX4 hN (by decide +kernel) rfl rfl (Nat.le_of_ble_eq_true rfl) rfl ?_
  intro p e s m args below meth c K hr
  have k0 : (0 : Int32).toInt = 0 := rfl
  have k1 : (1 : Int32).toInt = 1 := rfl
  refine qq_st (lv' := [some (.int v0), some (.int v1), some (.int v2)]) rfl rfl rfl ?_
  refine qq_T (fX4_isWithin.eq_1 ..) ?_
  refine q_iload_n (pc := 0) K dX4_isWithin_0 rfl rfl ?_
  refine q_iload_n (pc := 1) K dX4_isWithin_1 rfl rfl ?_
  refine q_icmp_lt (pc := 2) (tgt := 14) K dX4_isWithin_2 (by decide) (fun c1 => ?_) (fun c1 => ?_)
  · have i5 := ltI c1
    refine q_iconst (pc := 14) (v := 0) K dX4_isWithin_14 (by decide) ?_
    exact q_zretP K hr (Or.inl rfl) dX4_isWithin_15
  · have i6 := nltI c1
    refine q_iload_n (pc := 5) K dX4_isWithin_5 rfl rfl ?_
    refine q_iload_n (pc := 6) K dX4_isWithin_6 rfl rfl ?_
    refine q_icmp_gt (pc := 7) (tgt := 14) K dX4_isWithin_7 (by decide) (fun c2 => ?_) (fun c2 => ?_)
    · have i3 := ltI c2
      refine q_iconst (pc := 14) (v := 0) K dX4_isWithin_14 (by decide) ?_
      exact q_zretP K hr (Or.inl rfl) dX4_isWithin_15
    · have i4 := nltI c2
      refine q_iconst (pc := 10) (v := 1) K dX4_isWithin_10 (by decide) ?_
      refine q_goto (pc := 11) (tgt := 15) K dX4_isWithin_11 (by decide) ?_
      exact q_zretP K hr (Or.inr rfl) dX4_isWithin_15
theorem hdS_X4_isShelf : yX4_isShelf.cls ≠ "java/lang/invoke/MethodHandle" ∧ yX4_isShelf.cls ≠ "java/lang/invoke/VarHandle" ∧ (parseMethodDescriptor yX4_isShelf.desc).map (fun d => d.parameters.length) = some 1 := by decide +kernel
set_option maxRecDepth 100000 in
set_option maxHeartbeats 4000000 in
theorem kX4_isShelf (l : Launch) {G : gT} (hN : wN G) (v0 : Int32) (σ : sg) : cM l yX4_isShelf wsX4_isShelf rmX4_isShelf G [.int v0] σ (some (.int (fX4_isShelf v0))) σ := by
  refine cM_of (maxL := 1) (ret := (some .boolean)) (cc := cX4_isShelf) (fX4_isShelf v0) RX4 hN (by decide +kernel) rfl rfl (Nat.le_of_ble_eq_true rfl) rfl ?_
  intro p e s m args below meth c K hr
  have k0 : (0 : Int32).toInt = 0 := rfl
  have k5 : (5 : Int32).toInt = 5 := rfl
  refine qq_st (lv' := [some (.int v0)]) rfl rfl rfl ?_
  refine qq_T (fX4_isShelf.eq_1 ..) ?_
  refine q_iload_n (pc := 0) K dX4_isShelf_0 rfl rfl ?_
  refine q_iconst (pc := 1) (v := 0) K dX4_isShelf_1 (by decide) ?_
  refine q_iconst (pc := 2) (v := 5) K dX4_isShelf_2 (by decide) ?_
  refine q_callSi (pc := 3) (rm := rmX4_isWithin) K (kX4_isWithin l hN v0 0 5 σ) gX4_isShelf_X4_isWithin rfl hdS_X4_isWithin ⟨Nat.le_of_ble_eq_true rfl, Nat.le_of_ble_eq_true rfl⟩ rfl rfl ⟨Nat.zero_le _, Nat.zero_le _⟩ rfl rfl (Nat.le_of_ble_eq_true rfl) dX4_isShelf_3 ?_
  exact q_zretP K hr (b01_X4_isWithin _ _ _) dX4_isShelf_6
theorem hdS_X4_isSheet : yX4_isSheet.cls ≠ "java/lang/invoke/MethodHandle" ∧ yX4_isSheet.cls ≠ "java/lang/invoke/VarHandle" ∧ (parseMethodDescriptor yX4_isSheet.desc).map (fun d => d.parameters.length) = some 1 := by decide +kernel
set_option maxRecDepth 100000 in
set_option maxHeartbeats 4000000 in
theorem kX4_isSheet (l : Launch) {G : gT} (hN : wN G) (v0 : Int32) (σ : sg) : cM l yX4_isSheet wsX4_isSheet rmX4_isSheet G [.int v0] σ (some (.int (fX4_isSheet v0))) σ := by
  refine cM_of (maxL := 1) (ret := (some .boolean)) (cc := cX4_isSheet) (fX4_isSheet v0) RX4 hN (by decide +kernel) rfl rfl (Nat.le_of_ble_eq_true rfl) rfl ?_
  intro p e s m args below meth c K hr
  have k0 : (0 : Int32).toInt = 0 := rfl
  have k3 : (3 : Int32).toInt = 3 := rfl
  refine qq_st (lv' := [some (.int v0)]) rfl rfl rfl ?_
  refine qq_T (fX4_isSheet.eq_1 ..) ?_
  refine q_iload_n (pc := 0) K dX4_isSheet_0 rfl rfl ?_
  refine q_iconst (pc := 1) (v := 0) K dX4_isSheet_1 (by decide) ?_
  refine q_iconst (pc := 2) (v := 3) K dX4_isSheet_2 (by decide) ?_
  refine q_callSi (pc := 3) (rm := rmX4_isWithin) K (kX4_isWithin l hN v0 0 3 σ) gX4_isSheet_X4_isWithin rfl hdS_X4_isWithin ⟨Nat.le_of_ble_eq_true rfl, Nat.le_of_ble_eq_true rfl⟩ rfl rfl ⟨Nat.zero_le _, Nat.zero_le _⟩ rfl rfl (Nat.le_of_ble_eq_true rfl) dX4_isSheet_3 ?_
  exact q_zretP K hr (b01_X4_isWithin _ _ _) dX4_isSheet_6
theorem hdS_X4_isWax : yX4_isWax.cls ≠ "java/lang/invoke/MethodHandle" ∧ yX4_isWax.cls ≠ "java/lang/invoke/VarHandle" ∧ (parseMethodDescriptor yX4_isWax.desc).map (fun d => d.parameters.length) = some 1 := by decide +kernel
set_option maxRecDepth 100000 in
set_option maxHeartbeats 4000000 in
theorem kX4_isWax (l : Launch) {G : gT} (hN : wN G) (v0 : Int32) (σ : sg) : cM l yX4_isWax wsX4_isWax rmX4_isWax G [.int v0] σ (some (.int (fX4_isWax v0))) σ := by
  refine cM_of (maxL := 1) (ret := (some .boolean)) (cc := cX4_isWax) (fX4_isWax v0) RX4 hN (by decide +kernel) rfl rfl (Nat.le_of_ble_eq_true rfl) rfl ?_
  intro p e s m args below meth c K hr
  have k0 : (0 : Int32).toInt = 0 := rfl
  have k1 : (1 : Int32).toInt = 1 := rfl
  have k99 : (99 : Int32).toInt = 99 := rfl
  refine qq_st (lv' := [some (.int v0)]) rfl rfl rfl ?_
  refine qq_T (fX4_isWax.eq_1 ..) ?_
  refine q_iload_n (pc := 0) K dX4_isWax_0 rfl rfl ?_
  refine q_iconst (pc := 1) (v := 1) K dX4_isWax_1 (by decide) ?_
  refine q_bipush (pc := 2) (v := 99) K dX4_isWax_2 (by decide) ?_
  refine q_callSi (pc := 4) (rm := rmX4_isWithin) K (kX4_isWithin l hN v0 1 99 σ) gX4_isWax_X4_isWithin rfl hdS_X4_isWithin ⟨Nat.le_of_ble_eq_true rfl, Nat.le_of_ble_eq_true rfl⟩ rfl rfl ⟨Nat.zero_le _, Nat.zero_le _⟩ rfl rfl (Nat.le_of_ble_eq_true rfl) dX4_isWax_4 ?_
  exact q_zretP K hr (b01_X4_isWithin _ _ _) dX4_isWax_7
theorem hdS_X4_has : yX4_has.cls ≠ "java/lang/invoke/MethodHandle" ∧ yX4_has.cls ≠ "java/lang/invoke/VarHandle" ∧ (parseMethodDescriptor yX4_has.desc).map (fun d => d.parameters.length) = some 2 := by decide +kernel
set_option maxRecDepth 100000 in
set_option maxHeartbeats 4000000 in
theorem kX4_has (l : Launch) {G : gT} (hN : wN G) (v0 : Int32) (v1 : Int32) (σ : sg) : cM l yX4_has wsX4_has rmX4_has G [.int v0, .int v1] σ (some (.int (fX4_has v0 v1))) σ := by
  refine cM_of (maxL := 2) (ret := (some .boolean)) (cc := cX4_has) (fX4_has v0 v1) RX4 hN (by decide +kernel) rfl rfl (Nat.le_of_ble_eq_true rfl) rfl ?_
  intro p e s m args below meth c K hr
  have k0 : (0 : Int32).toInt = 0 := rfl
  have k1 : (1 : Int32).toInt = 1 := rfl
  refine qq_st (lv' := [some (.int v0), some (.int v1)]) rfl rfl rfl ?_
  refine qq_T (fX4_has.eq_1 ..) ?_
  refine q_iload_n (pc := 0) K dX4_has_0 rfl rfl ?_
  refine q_iload_n (pc := 1) K dX4_has_1 rfl rfl ?_
  refine q_ishr (pc := 2) K dX4_has_2 ?_
  refine q_iconst (pc := 3) (v := 1) K dX4_has_3 (by decide) ?_
  refine q_iand (pc := 4) K dX4_has_4 ?_
  refine q_iconst (pc := 5) (v := 1) K dX4_has_5 (by decide) ?_
  refine q_icmp_ne (pc := 6) (tgt := 13) K dX4_has_6 (by decide) (fun c1 => ?_) (fun c1 => ?_)
  · have i2 := neI c1
    refine q_iconst (pc := 13) (v := 0) K dX4_has_13 (by decide) ?_
    exact q_zretP K hr (Or.inl rfl) dX4_has_14
  · have i3 := eqI c1
    refine q_iconst (pc := 9) (v := 1) K dX4_has_9 (by decide) ?_
    refine q_goto (pc := 10) (tgt := 14) K dX4_has_10 (by decide) ?_
    exact q_zretP K hr (Or.inr rfl) dX4_has_14
theorem hdS_X4_with : yX4_with.cls ≠ "java/lang/invoke/MethodHandle" ∧ yX4_with.cls ≠ "java/lang/invoke/VarHandle" ∧ (parseMethodDescriptor yX4_with.desc).map (fun d => d.parameters.length) = some 2 := by decide +kernel
set_option maxRecDepth 100000 in
set_option maxHeartbeats 4000000 in
theorem kX4_with (l : Launch) {G : gT} (hN : wN G) (v0 : Int32) (v1 : Int32) (σ : sg) : cM l yX4_with wsX4_with rmX4_with G [.int v0, .int v1] σ (some (.int (fX4_with v0 v1))) σ := by
  refine cM_of (maxL := 2) (ret := (some .int)) (cc := cX4_with) (fX4_with v0 v1) RX4 hN (by decide +kernel) rfl rfl (Nat.le_of_ble_eq_true rfl) rfl ?_
  intro p e s m args below meth c K hr
  have k0 : (0 : Int32).toInt = 0 := rfl
  have k1 : (1 : Int32).toInt = 1 := rfl
  refine qq_st (lv' := [some (.int v0), some (.int v1)]) rfl rfl rfl ?_
  refine qq_T (fX4_with.eq_1 ..) ?_
  refine q_iload_n (pc := 0) K dX4_with_0 rfl rfl ?_
  refine q_iconst (pc := 1) (v := 1) K dX4_with_1 (by decide) ?_
  refine q_iload_n (pc := 2) K dX4_with_2 rfl rfl ?_
  refine q_ishl (pc := 3) K dX4_with_3 ?_
  refine q_ior (pc := 4) K dX4_with_4 ?_
  exact q_iretP K hr dX4_with_5
theorem hdS_X4_without : yX4_without.cls ≠ "java/lang/invoke/MethodHandle" ∧ yX4_without.cls ≠ "java/lang/invoke/VarHandle" ∧ (parseMethodDescriptor yX4_without.desc).map (fun d => d.parameters.length) = some 2 := by decide +kernel
set_option maxRecDepth 100000 in
set_option maxHeartbeats 4000000 in
theorem kX4_without (l : Launch) {G : gT} (hN : wN G) (v0 : Int32) (v1 : Int32) (σ : sg) : cM l yX4_without wsX4_without rmX4_without G [.int v0, .int v1] σ (some (.int (fX4_without v0 v1))) σ := by
  refine cM_of (maxL := 2) (ret := (some .int)) (cc := cX4_without) (fX4_without v0 v1) RX4 hN (by decide +kernel) rfl rfl (Nat.le_of_ble_eq_true rfl) rfl ?_
  intro p e s m args below meth c K hr
  have km1 : ((-1) : Int32).toInt = -1 := rfl
  have k0 : (0 : Int32).toInt = 0 := rfl
  have k1 : (1 : Int32).toInt = 1 := rfl
  refine qq_st (lv' := [some (.int v0), some (.int v1)]) rfl rfl rfl ?_
  refine qq_T (fX4_without.eq_1 ..) ?_
  refine q_iload_n (pc := 0) K dX4_without_0 rfl rfl ?_
  refine q_iconst (pc := 1) (v := 1) K dX4_without_1 (by decide) ?_
  refine q_iload_n (pc := 2) K dX4_without_2 rfl rfl ?_
  refine q_ishl (pc := 3) K dX4_without_3 ?_
  refine q_iconst (pc := 4) (v := (-1)) K dX4_without_4 (by decide) ?_
  refine q_ixor (pc := 5) K dX4_without_5 ?_
  refine q_iand (pc := 6) K dX4_without_6 ?_
  exact q_iretP K hr dX4_without_7
theorem hdS_X1_isKind : yX1_isKind.cls ≠ "java/lang/invoke/MethodHandle" ∧ yX1_isKind.cls ≠ "java/lang/invoke/VarHandle" ∧ (parseMethodDescriptor yX1_isKind.desc).map (fun d => d.parameters.length) = some 1 := by decide +kernel
theorem mX1_isKind_iX4 : Cond.initialized RX4 ∈ wsX1_isKind := List.mem_of_getElem? (i := 2) rfl
theorem mX1_isKind_stX4_isWithin : Cond.static yX4_isWithin ∈ wsX1_isKind := List.mem_of_getElem? (i := 1) rfl
set_option maxRecDepth 100000 in
set_option maxHeartbeats 4000000 in
theorem kX1_isKind (l : Launch) {G : gT} (hN : wN G) (v0 : Int32) (σ : sg) : cM l yX1_isKind wsX1_isKind rmX1_isKind G [.int v0] σ (some (.int (fX1_isKind v0))) σ := by
  refine cM_of (maxL := 1) (ret := (some .boolean)) (cc := cX1_isKind) (fX1_isKind v0) RX1 hN (by decide +kernel) rfl rfl (Nat.le_of_ble_eq_true rfl) rfl ?_
  intro p e s m args below meth c K hr
  have k0 : (0 : Int32).toInt = 0 := rfl
  have k6 : (6 : Int32).toInt = 6 := rfl
  refine qq_st (lv' := [some (.int v0)]) rfl rfl rfl ?_
  refine qq_T (fX1_isKind.eq_1 ..) ?_
  refine q_iload_n (pc := 0) K dX1_isKind_0 rfl rfl ?_
  refine q_iconst (pc := 1) (v := 0) K dX1_isKind_1 (by decide) ?_
  refine q_bipush (pc := 2) (v := 6) K dX1_isKind_2 (by decide) ?_
  refine q_callNi (pc := 4) (rm := rmX4_isWithin) K (kX4_isWithin l hN v0 0 6 σ) gX1_isKind_X4_isWithin_n9 (nS_4 K.2.2.2.2.2.2.2.2.1) mX1_isKind_iX4 mX1_isKind_stX4_isWithin rfl hdS_X4_isWithin ⟨Nat.le_of_ble_eq_true rfl, Nat.le_of_ble_eq_true rfl⟩ rfl rfl ⟨Nat.zero_le _, Nat.zero_le _⟩ rfl rfl (Nat.le_of_ble_eq_true rfl) dX1_isKind_4 ?_
  exact q_zretP K hr (b01_X4_isWithin _ _ _) dX1_isKind_7
theorem hdS_X1_feels : yX1_feels.cls ≠ "java/lang/invoke/MethodHandle" ∧ yX1_feels.cls ≠ "java/lang/invoke/VarHandle" ∧ (parseMethodDescriptor yX1_feels.desc).map (fun d => d.parameters.length) = some 2 := by decide +kernel
set_option maxRecDepth 100000 in
set_option maxHeartbeats 4000000 in
theorem kX1_feels (l : Launch) {G : gT} (hN : wN G) (v0 : Int32) (v1 : Int32) (σ : sg) : cM l yX1_feels wsX1_feels rmX1_feels G [.int v0, .int v1] σ (some (.int (fX1_feels v0 v1))) σ := by
  refine cM_of (maxL := 2) (ret := (some .int)) (cc := cX1_feels) (fX1_feels v0 v1) RX1 hN (by decide +kernel) rfl rfl (Nat.le_of_ble_eq_true rfl) rfl ?_
  intro p e s m args below meth c K hr
  have k0 : (0 : Int32).toInt = 0 := rfl
  have k2 : (2 : Int32).toInt = 2 := rfl
  have k3 : (3 : Int32).toInt = 3 := rfl
  have k4 : (4 : Int32).toInt = 4 := rfl
  have k5 : (5 : Int32).toInt = 5 := rfl
  have k6 : (6 : Int32).toInt = 6 := rfl
  refine qq_st (lv' := [some (.int v0), some (.int v1)]) rfl rfl rfl ?_
  refine qq_T (fX1_feels.eq_1 ..) ?_
  refine q_iload_n (pc := 0) K dX1_feels_0 rfl rfl ?_
  refine q_case (v := 4) (fun c1 => ?_) (fun c1 => ?_)
  · have i8 := eqI c1
    refine q_tableIn (pc := 1) (tgt := 28) K dX1_feels_1 c1 (by decide) (by decide) rfl (by decide) ?_
    refine q_iload_n (pc := 28) K dX1_feels_28 rfl rfl ?_
    refine q_iconst (pc := 29) (v := 4) K dX1_feels_29 (by decide) ?_
    refine q_isub (pc := 30) K dX1_feels_30 ?_
    exact q_iretP K hr dX1_feels_31
  · have i9 := neI c1
    refine q_case (v := 5) (fun c2 => ?_) (fun c2 => ?_)
    · have i6 := eqI c2
      refine q_tableIn (pc := 1) (tgt := 32) K dX1_feels_1 c2 (by decide) (by decide) rfl (by decide) ?_
      refine q_iload_n (pc := 32) K dX1_feels_32 rfl rfl ?_
      refine q_iconst (pc := 33) (v := 2) K dX1_feels_33 (by decide) ?_
      refine q_imul (pc := 34) K dX1_feels_34 ?_
      refine q_iconst (pc := 35) (v := 3) K dX1_feels_35 (by decide) ?_
      refine q_idiv (pc := 36) K dX1_feels_36 (by decide) ?_
      exact q_iretP K hr dX1_feels_37
    · have i7 := neI c2
      refine q_case (v := 6) (fun c3 => ?_) (fun c3 => ?_)
      · have i4 := eqI c3
        refine q_tableIn (pc := 1) (tgt := 32) K dX1_feels_1 c3 (by decide) (by decide) rfl (by decide) ?_
        refine q_iload_n (pc := 32) K dX1_feels_32 rfl rfl ?_
        refine q_iconst (pc := 33) (v := 2) K dX1_feels_33 (by decide) ?_
        refine q_imul (pc := 34) K dX1_feels_34 ?_
        refine q_iconst (pc := 35) (v := 3) K dX1_feels_35 (by decide) ?_
        refine q_idiv (pc := 36) K dX1_feels_36 (by decide) ?_
        exact q_iretP K hr dX1_feels_37
      · have i5 := neI c3
        refine q_tableOut (pc := 1) (tgt := 38) K dX1_feels_1 (by omega) (by decide) ?_
        refine q_iload_n (pc := 38) K dX1_feels_38 rfl rfl ?_
        exact q_iretP K hr dX1_feels_39
theorem hdS_X1_stands : yX1_stands.cls ≠ "java/lang/invoke/MethodHandle" ∧ yX1_stands.cls ≠ "java/lang/invoke/VarHandle" ∧ (parseMethodDescriptor yX1_stands.desc).map (fun d => d.parameters.length) = some 2 := by decide +kernel
set_option maxRecDepth 100000 in
set_option maxHeartbeats 4000000 in
theorem kX1_stands (l : Launch) {G : gT} (hN : wN G) (v0 : Int32) (v1 : Int32) (σ : sg) : cM l yX1_stands wsX1_stands rmX1_stands G [.int v0, .int v1] σ (some (.int (fX1_stands v0 v1))) σ := by
  refine cM_of (maxL := 2) (ret := (some .int)) (cc := cX1_stands) (fX1_stands v0 v1) RX1 hN (by decide +kernel) rfl rfl (Nat.le_of_ble_eq_true rfl) rfl ?_
  intro p e s m args below meth c K hr
  have k0 : (0 : Int32).toInt = 0 := rfl
  have k2 : (2 : Int32).toInt = 2 := rfl
  have k3 : (3 : Int32).toInt = 3 := rfl
  have k4 : (4 : Int32).toInt = 4 := rfl
  have k5 : (5 : Int32).toInt = 5 := rfl
  have k6 : (6 : Int32).toInt = 6 := rfl
  have k8 : (8 : Int32).toInt = 8 := rfl
  refine qq_st (lv' := [some (.int v0), some (.int v1)]) rfl rfl rfl ?_
  refine qq_T (fX1_stands.eq_1 ..) ?_
  refine q_iload_n (pc := 0) K dX1_stands_0 rfl rfl ?_
  refine q_case (v := 2) (fun c1 => ?_) (fun c1 => ?_)
  · have i14 := eqI c1
    refine q_tableIn (pc := 1) (tgt := 36) K dX1_stands_1 c1 (by decide) (by decide) rfl (by decide) ?_
    refine q_iload_n (pc := 36) K dX1_stands_36 rfl rfl ?_
    refine q_bipush (pc := 37) (v := 8) K dX1_stands_37 (by decide) ?_
    refine q_isub (pc := 39) K dX1_stands_39 ?_
    exact q_iretP K hr dX1_stands_40
  · have i15 := neI c1
    refine q_case (v := 3) (fun c2 => ?_) (fun c2 => ?_)
    · have i12 := eqI c2
      refine q_tableIn (pc := 1) (tgt := 36) K dX1_stands_1 c2 (by decide) (by decide) rfl (by decide) ?_
      refine q_iload_n (pc := 36) K dX1_stands_36 rfl rfl ?_
      refine q_bipush (pc := 37) (v := 8) K dX1_stands_37 (by decide) ?_
      refine q_isub (pc := 39) K dX1_stands_39 ?_
      exact q_iretP K hr dX1_stands_40
    · have i13 := neI c2
      refine q_case (v := 4) (fun c3 => ?_) (fun c3 => ?_)
      · have i10 := eqI c3
        refine q_tableIn (pc := 1) (tgt := 45) K dX1_stands_1 c3 (by decide) (by decide) rfl (by decide) ?_
        refine q_iload_n (pc := 45) K dX1_stands_45 rfl rfl ?_
        exact q_iretP K hr dX1_stands_46
      · have i11 := neI c3
        refine q_case (v := 5) (fun c4 => ?_) (fun c4 => ?_)
        · have i8 := eqI c4
          refine q_tableIn (pc := 1) (tgt := 45) K dX1_stands_1 c4 (by decide) (by decide) rfl (by decide) ?_
          refine q_iload_n (pc := 45) K dX1_stands_45 rfl rfl ?_
          exact q_iretP K hr dX1_stands_46
        · have i9 := neI c4
          refine q_case (v := 6) (fun c5 => ?_) (fun c5 => ?_)
          · have i6 := eqI c5
            refine q_tableIn (pc := 1) (tgt := 41) K dX1_stands_1 c5 (by decide) (by decide) rfl (by decide) ?_
            refine q_iload_n (pc := 41) K dX1_stands_41 rfl rfl ?_
            refine q_iconst (pc := 42) (v := 5) K dX1_stands_42 (by decide) ?_
            refine q_isub (pc := 43) K dX1_stands_43 ?_
            exact q_iretP K hr dX1_stands_44
          · have i7 := neI c5
            refine q_tableOut (pc := 1) (tgt := 45) K dX1_stands_1 (by omega) (by decide) ?_
            refine q_iload_n (pc := 45) K dX1_stands_45 rfl rfl ?_
            exact q_iretP K hr dX1_stands_46
theorem hdS_X1_runsAt : yX1_runsAt.cls ≠ "java/lang/invoke/MethodHandle" ∧ yX1_runsAt.cls ≠ "java/lang/invoke/VarHandle" ∧ (parseMethodDescriptor yX1_runsAt.desc).map (fun d => d.parameters.length) = some 1 := by decide +kernel
set_option maxRecDepth 100000 in
set_option maxHeartbeats 4000000 in
theorem kX1_runsAt (l : Launch) {G : gT} (hN : wN G) (v0 : Int32) (σ : sg) : cM l yX1_runsAt wsX1_runsAt rmX1_runsAt G [.int v0] σ (some (.int (fX1_runsAt v0))) σ := by
  refine cM_of (maxL := 1) (ret := (some .int)) (cc := cX1_runsAt) (fX1_runsAt v0) RX1 hN (by decide +kernel) rfl rfl (Nat.le_of_ble_eq_true rfl) rfl ?_
  intro p e s m args below meth c K hr
  have k0 : (0 : Int32).toInt = 0 := rfl
  have k1 : (1 : Int32).toInt = 1 := rfl
  have k2 : (2 : Int32).toInt = 2 := rfl
  have k3 : (3 : Int32).toInt = 3 := rfl
  have k4 : (4 : Int32).toInt = 4 := rfl
  have k5 : (5 : Int32).toInt = 5 := rfl
  have k10 : (10 : Int32).toInt = 10 := rfl
  have k20 : (20 : Int32).toInt = 20 := rfl
  refine qq_st (lv' := [some (.int v0)]) rfl rfl rfl ?_
  refine qq_T (fX1_runsAt.eq_1 ..) ?_
  refine q_iload_n (pc := 0) K dX1_runsAt_0 rfl rfl ?_
  refine q_case (v := 1) (fun c1 => ?_) (fun c1 => ?_)
  · have i11 := eqI c1
    refine q_tableIn (pc := 1) (tgt := 32) K dX1_runsAt_1 c1 (by decide) (by decide) rfl (by decide) ?_
    refine q_bipush (pc := 32) (v := 20) K dX1_runsAt_32 (by decide) ?_
    exact q_iretP K hr dX1_runsAt_34
  · have i12 := neI c1
    refine q_case (v := 2) (fun c2 => ?_) (fun c2 => ?_)
    · have i9 := eqI c2
      refine q_tableIn (pc := 1) (tgt := 37) K dX1_runsAt_1 c2 (by decide) (by decide) rfl (by decide) ?_
      refine q_bipush (pc := 37) (v := 10) K dX1_runsAt_37 (by decide) ?_
      exact q_iretP K hr dX1_runsAt_39
    · have i10 := neI c2
      refine q_case (v := 3) (fun c3 => ?_) (fun c3 => ?_)
      · have i7 := eqI c3
        refine q_tableIn (pc := 1) (tgt := 35) K dX1_runsAt_1 c3 (by decide) (by decide) rfl (by decide) ?_
        refine q_iconst (pc := 35) (v := 5) K dX1_runsAt_35 (by decide) ?_
        exact q_iretP K hr dX1_runsAt_36
      · have i8 := neI c3
        refine q_case (v := 4) (fun c4 => ?_) (fun c4 => ?_)
        · have i5 := eqI c4
          refine q_tableIn (pc := 1) (tgt := 32) K dX1_runsAt_1 c4 (by decide) (by decide) rfl (by decide) ?_
          refine q_bipush (pc := 32) (v := 20) K dX1_runsAt_32 (by decide) ?_
          exact q_iretP K hr dX1_runsAt_34
        · have i6 := neI c4
          refine q_tableOut (pc := 1) (tgt := 37) K dX1_runsAt_1 (by omega) (by decide) ?_
          refine q_bipush (pc := 37) (v := 10) K dX1_runsAt_37 (by decide) ?_
          exact q_iretP K hr dX1_runsAt_39
theorem hdV_X2_isMissing : yX2_isMissing.cls = RX2 ∧ yX2_isMissing.cls ≠ "java/lang/invoke/MethodHandle" ∧ yX2_isMissing.cls ≠ "java/lang/invoke/VarHandle" ∧ (parseMethodDescriptor yX2_isMissing.desc).map (fun d => d.parameters.length) = some 0 := by decide +kernel
theorem mX2_isMissing_f15 : Cond.fieldLink RX2 15 "WaxTreaties$Sheet" "bits" "I" ∈ wsX2_isMissing := List.mem_of_getElem? (i := 1) rfl
theorem iwX2_isMissing_X2 : ∀ w ∈ wsX20, w ∈ wsX2_isMissing := fun w h => List.mem_cons_of_mem _ (List.mem_append_right _ h)
set_option maxRecDepth 100000 in
set_option maxHeartbeats 4000000 in
theorem kX2_isMissing (l : Launch) {G : gT} (hN : wN G) (hG : gfl G = true) (j : Nat) (hj : j < 4) (σ : sg) (hw : WD σ) : cM l yX2_isMissing wsX2_isMissing rmX2_isMissing G [.ref (gob G (5 + j))] σ (some (.int (fX2_isMissing j σ))) σ := by
  refine cM_of (maxL := 1) (ret := (some .boolean)) (cc := cX2_isMissing) (fX2_isMissing j σ) RX2 hN (by decide +kernel) rfl rfl (Nat.le_of_ble_eq_true rfl) rfl ?_
  intro p e s m args below meth c K hr
  have k0 : (0 : Int32).toInt = 0 := rfl
  have k1 : (1 : Int32).toInt = 1 := rfl
  refine qq_st (lv' := [some (.ref (gob G (5 + j)))]) rfl rfl rfl ?_
  refine qq_T (fX2_isMissing.eq_1 ..) ?_
  refine q_aload_n (pc := 0) K dX2_isMissing_0 rfl rfl ?_
  refine q_get (pc := 1) (o := (5 + j)) (f := 1) (v := .int (rF σ (27 + 2 * j))) K (wO_sh hG hj) vw_1 iwX2_isMissing_X2 (by decide) mX2_isMissing_f15 rfl dX2_isMissing_1 ?_
  refine q_if_ne (pc := 4) (tgt := 11) K dX2_isMissing_4 (by decide) (fun c1 => ?_) (fun c1 => ?_)
  · have i2 := neI c1
    refine q_iconst (pc := 11) (v := 0) K dX2_isMissing_11 (by decide) ?_
    exact q_zretP K hr (Or.inl rfl) dX2_isMissing_12
  · have i3 := eqI c1
    refine q_iconst (pc := 7) (v := 1) K dX2_isMissing_7 (by decide) ?_
    refine q_goto (pc := 8) (tgt := 12) K dX2_isMissing_8 (by decide) ?_
    exact q_zretP K hr (Or.inr rfl) dX2_isMissing_12
theorem hdV_X2_makeAnew : yX2_makeAnew.cls = RX2 ∧ yX2_makeAnew.cls ≠ "java/lang/invoke/MethodHandle" ∧ yX2_makeAnew.cls ≠ "java/lang/invoke/VarHandle" ∧ (parseMethodDescriptor yX2_makeAnew.desc).map (fun d => d.parameters.length) = some 2 := by decide +kernel
theorem mX2_makeAnew_f15 : Cond.fieldLink RX2 15 "WaxTreaties$Sheet" "bits" "I" ∈ wsX2_makeAnew := List.mem_of_getElem? (i := 1) rfl
theorem iwX2_makeAnew_X2 : ∀ w ∈ wsX20, w ∈ wsX2_makeAnew := fun w h => List.mem_cons_of_mem _ (List.mem_append_right _ h)
theorem mX2_makeAnew_f19 : Cond.fieldLink RX2 19 "WaxTreaties$Sheet" "size" "I" ∈ wsX2_makeAnew := List.mem_of_getElem? (i := 2) rfl
theorem mX2_makeAnew_f9 : Cond.fieldLink RX2 9 "WaxTreaties$Sheet" "numbers" "[I" ∈ wsX2_makeAnew := List.mem_of_getElem? (i := 3) rfl
set_option maxRecDepth 100000 in
set_option maxHeartbeats 4000000 in
theorem lX2_makeAnew_20 {p : Program} (l : Launch) {e : Env} {s : State} {m : MethodId} {args : Array Value} {below : List Frame} {meth : Method} {c : Code} {Q : State → Prop} {G : gT} (hN : wN G) (hG : gfl G = true) (K : qK p s m args meth c cX2_makeAnew 4 RX2 wsX2_makeAnew G) (j : Nat) (hj : j < 4) : ∀ (k : Nat) (v3 : Int32) (σ : sg) (hw : WD σ) (hv3 : 0 ≤ v3.toInt ∧ v3.toInt ≤ 40) (hmu : (40 - v3.toInt).toNat < k) {ρ : Type} {E : ρ → Prop} {f : sg → ρ} (hk : ∀ r : sg, (WD r) → qq p l e (headSpec wsX2_makeAnew rmX2_makeAnew).room s m args below meth c Q 4 G E (f r) 39 [none, none, none, none] [] r), qq p l e (headSpec wsX2_makeAnew rmX2_makeAnew).room s m args below meth c Q 4 G E (bnd (LX2_makeAnew_20 j k v3 σ) f) 20 [some (.ref (gob G (5 + j))), none, none, some (.int v3)] [] σ := by
  intro k
  induction k with
  | zero => intro v3 σ hw hv3 hmu ρ E f hk; exact absurd hmu (Nat.not_lt_zero _)
  | succ k ih =>
    intro v3 σ hw hv3 hmu ρ E f hk
    have k0 : (0 : Int32).toInt = 0 := rfl
    have k1 : (1 : Int32).toInt = 1 := rfl
    have k40 : (40 : Int32).toInt = 40 := rfl
    refine qq_in ?_
    refine qq_T (LX2_makeAnew_20.eq_2 ..) ?_
    refine q_iload_n (pc := 20) K dX2_makeAnew_20 rfl rfl ?_
    refine q_bipush (pc := 21) (v := 40) K dX2_makeAnew_21 (by decide) ?_
    refine q_icmp_ge (pc := 23) (tgt := 39) K dX2_makeAnew_23 (by decide) (fun c8 => ?_) (fun c8 => ?_)
    · have i13 := leI c8
      refine qq_drop 0 (lv' := [none, none, none, some (.int v3)]) rfl ?_
      refine qq_drop 3 (lv' := [none, none, none, none]) rfl ?_
      exact qq_leaf (hk σ hw)
    · have i14 := nleI c8
      refine q_aload_n (pc := 26) K dX2_makeAnew_26 rfl rfl ?_
      refine q_get (pc := 27) (o := (5 + j)) (f := 0) (v := .ref (gad G (25 + j))) K (wO_sh hG hj) vw_1 iwX2_makeAnew_X2 (by decide) mX2_makeAnew_f9 rfl dX2_makeAnew_27 ?_
      refine q_iload_n (pc := 30) K dX2_makeAnew_30 rfl rfl ?_
      refine q_iconst (pc := 31) (v := 0) K dX2_makeAnew_31 (by decide) ?_
      refine q_iast (pc := 32) (a := 25 + j) K (by rw [wna_t hG]; have := hj; omega) (vinN (wls hG hj) (by omega) (by omega)) dX2_makeAnew_32 (fun s9 e10 => ?_)
      have hw11 : WD s9 := by rw [e10]; exact wdA hw (by have := hj; omega)
      refine q_iinc (pc := 33) (v := (v3 + 1)) (lv' := [some (.ref (gob G (5 + j))), none, none, some (.int (v3 + 1))]) K dX2_makeAnew_33 rfl rfl (by decide) rfl ?_
      refine q_goto (pc := 36) (tgt := 20) K dX2_makeAnew_36 (by decide) ?_
      have a12 := addI (x := v3) (y := 1) (by omega) (by omega)
      exact qq_out (ih (v3 + 1) s9 hw11 (by omega) (by omega) hk)
set_option maxRecDepth 100000 in
set_option maxHeartbeats 4000000 in
theorem kX2_makeAnew (l : Launch) {G : gT} (hN : wN G) (hG : gfl G = true) (j : Nat) (hj : j < 4) (v1 : Int32) (v2 : Int32) (σ : sg) (hw : WD σ) (hs : 0 ≤ v2.toInt ∧ v2.toInt ≤ 40) : cM l yX2_makeAnew wsX2_makeAnew rmX2_makeAnew G [.ref (gob G (5 + j)), .int v1, .int v2] σ none (fX2_makeAnew j v1 v2 σ) := by
  refine cM_of (maxL := 4) (ret := none) (cc := cX2_makeAnew) (fX2_makeAnew j v1 v2 σ) RX2 hN (by decide +kernel) rfl rfl (Nat.le_of_ble_eq_true rfl) rfl ?_
  intro p e s m args below meth c K hr
  have k0 : (0 : Int32).toInt = 0 := rfl
  refine qq_st (lv' := [some (.ref (gob G (5 + j))), some (.int v1), some (.int v2), none]) rfl rfl rfl ?_
  refine qq_T (fX2_makeAnew.eq_1 ..) ?_
  refine q_aload_n (pc := 0) K dX2_makeAnew_0 rfl rfl ?_
  refine q_iload_n (pc := 1) K dX2_makeAnew_1 rfl rfl ?_
  refine q_put (pc := 2) (o := (5 + j)) (f := 1) (i := (27 + 2 * j)) (ty := .int) K tyX2 tyX2_ok nmX2 (wO_sh hG hj) vw_1 iwX2_makeAnew_X2 (by decide) mX2_makeAnew_f15 rfl (tyX2_ok 1 (by decide)) rfl rfl (Nat.le_of_ble_eq_true rfl) (wP_sh1 hG hj _) dX2_makeAnew_2 (fun s1 e2 => ?_)
  have hw3 : WD s1 := by rw [e2]; exact wdF hw (by have := hj; omega)
  refine q_aload_n (pc := 5) K dX2_makeAnew_5 rfl rfl ?_
  refine q_iload_n (pc := 6) K dX2_makeAnew_6 rfl rfl ?_
  refine q_if_ne (pc := 7) (tgt := 14) K dX2_makeAnew_7 (by decide) (fun c4 => ?_) (fun c4 => ?_)
  · have i24 := neI c4
    refine q_iload_n (pc := 14) K dX2_makeAnew_14 rfl rfl ?_
    refine q_put (pc := 15) (o := (5 + j)) (f := 2) (i := (28 + 2 * j)) (ty := .int) K tyX2 tyX2_ok nmX2 (wO_sh hG hj) vw_1 iwX2_makeAnew_X2 (by decide) mX2_makeAnew_f19 rfl (tyX2_ok 2 (by decide)) rfl rfl (Nat.le_of_ble_eq_true rfl) (wP_sh2 hG hj _) dX2_makeAnew_15 (fun s5 e6 => ?_)
    have hw7 : WD s5 := by rw [e6]; exact wdFs hw3 hj (by omega) (by omega)
    refine q_iconst (pc := 18) (v := 0) K dX2_makeAnew_18 (by decide) ?_
    refine q_istore_n (pc := 19) (lv' := [some (.ref (gob G (5 + j))), some (.int v1), some (.int v2), some (.int 0)]) K dX2_makeAnew_19 rfl (by decide) (Nat.le_of_ble_eq_true rfl) rfl ?_
    refine qq_drop 1 (lv' := [some (.ref (gob G (5 + j))), none, some (.int v2), some (.int 0)]) rfl ?_
    refine qq_drop 2 (lv' := [some (.ref (gob G (5 + j))), none, none, some (.int 0)]) rfl ?_
    refine lX2_makeAnew_20 l hN hG K j hj 41 0 s5 hw7 (by omega) (by omega) (fun r15 hw17 => ?_)
    exact q_vretW K hr dX2_makeAnew_39
  · have i25 := eqI c4
    refine q_iconst (pc := 10) (v := 0) K dX2_makeAnew_10 (by decide) ?_
    refine q_goto (pc := 11) (tgt := 15) K dX2_makeAnew_11 (by decide) ?_
    refine q_put (pc := 15) (o := (5 + j)) (f := 2) (i := (28 + 2 * j)) (ty := .int) K tyX2 tyX2_ok nmX2 (wO_sh hG hj) vw_1 iwX2_makeAnew_X2 (by decide) mX2_makeAnew_f19 rfl (tyX2_ok 2 (by decide)) rfl rfl (Nat.le_of_ble_eq_true rfl) (wP_sh2 hG hj _) dX2_makeAnew_15 (fun s18 e19 => ?_)
    have hw20 : WD s18 := by rw [e19]; exact wdFs hw3 hj (by omega) (by omega)
    refine q_iconst (pc := 18) (v := 0) K dX2_makeAnew_18 (by decide) ?_
    refine q_istore_n (pc := 19) (lv' := [some (.ref (gob G (5 + j))), some (.int v1), some (.int v2), some (.int 0)]) K dX2_makeAnew_19 rfl (by decide) (Nat.le_of_ble_eq_true rfl) rfl ?_
    refine qq_drop 1 (lv' := [some (.ref (gob G (5 + j))), none, some (.int v2), some (.int 0)]) rfl ?_
    refine qq_drop 2 (lv' := [some (.ref (gob G (5 + j))), none, none, some (.int 0)]) rfl ?_
    refine lX2_makeAnew_20 l hN hG K j hj 41 0 s18 hw20 (by omega) (by omega) (fun r21 hw23 => ?_)
    exact q_vretW K hr dX2_makeAnew_39
theorem hdV_X2_hasRange : yX2_hasRange.cls = RX2 ∧ yX2_hasRange.cls ≠ "java/lang/invoke/MethodHandle" ∧ yX2_hasRange.cls ≠ "java/lang/invoke/VarHandle" ∧ (parseMethodDescriptor yX2_hasRange.desc).map (fun d => d.parameters.length) = some 2 := by decide +kernel
theorem mX2_hasRange_f19 : Cond.fieldLink RX2 19 "WaxTreaties$Sheet" "size" "I" ∈ wsX2_hasRange := List.mem_of_getElem? (i := 1) rfl
theorem iwX2_hasRange_X2 : ∀ w ∈ wsX20, w ∈ wsX2_hasRange := fun w h => List.mem_cons_of_mem _ (List.mem_append_right _ h)
set_option maxRecDepth 100000 in
set_option maxHeartbeats 4000000 in
theorem kX2_hasRange (l : Launch) {G : gT} (hN : wN G) (hG : gfl G = true) (j : Nat) (hj : j < 4) (v1 : Int32) (v2 : Int32) (σ : sg) (hw : WD σ) : cM l yX2_hasRange wsX2_hasRange rmX2_hasRange G [.ref (gob G (5 + j)), .int v1, .int v2] σ (some (.int (fX2_hasRange j v1 v2 σ))) σ := by
  refine cM_of (maxL := 3) (ret := (some .boolean)) (cc := cX2_hasRange) (fX2_hasRange j v1 v2 σ) RX2 hN (by decide +kernel) rfl rfl (Nat.le_of_ble_eq_true rfl) rfl ?_
  intro p e s m args below meth c K hr
  have k0 : (0 : Int32).toInt = 0 := rfl
  have k1 : (1 : Int32).toInt = 1 := rfl
  refine qq_st (lv' := [some (.ref (gob G (5 + j))), some (.int v1), some (.int v2)]) rfl rfl rfl ?_
  refine qq_T (fX2_hasRange.eq_1 ..) ?_
  refine q_iload_n (pc := 0) K dX2_hasRange_0 rfl rfl ?_
  refine q_if_lt (pc := 1) (tgt := 22) K dX2_hasRange_1 (by decide) (fun c1 => ?_) (fun c1 => ?_)
  · have i9 := ltI c1
    refine q_iconst (pc := 22) (v := 0) K dX2_hasRange_22 (by decide) ?_
    exact q_zretP K hr (Or.inl rfl) dX2_hasRange_23
  · have i10 := nltI c1
    refine q_iload_n (pc := 4) K dX2_hasRange_4 rfl rfl ?_
    refine q_if_lt (pc := 5) (tgt := 22) K dX2_hasRange_5 (by decide) (fun c2 => ?_) (fun c2 => ?_)
    · have i7 := ltI c2
      refine q_iconst (pc := 22) (v := 0) K dX2_hasRange_22 (by decide) ?_
      exact q_zretP K hr (Or.inl rfl) dX2_hasRange_23
    · have i8 := nltI c2
      refine q_iload_n (pc := 8) K dX2_hasRange_8 rfl rfl ?_
      refine q_aload_n (pc := 9) K dX2_hasRange_9 rfl rfl ?_
      refine q_get (pc := 10) (o := (5 + j)) (f := 2) (v := .int (rF σ (28 + 2 * j))) K (wO_sh hG hj) vw_1 iwX2_hasRange_X2 (by decide) mX2_hasRange_f19 rfl dX2_hasRange_10 ?_
      have w3 := wd_size hw hj
      refine q_iload_n (pc := 13) K dX2_hasRange_13 rfl rfl ?_
      refine q_isub (pc := 14) K dX2_hasRange_14 ?_
      refine q_icmp_gt (pc := 15) (tgt := 22) K dX2_hasRange_15 (by decide) (fun c4 => ?_) (fun c4 => ?_)
      · have i5 := ltI c4
        refine q_iconst (pc := 22) (v := 0) K dX2_hasRange_22 (by decide) ?_
        exact q_zretP K hr (Or.inl rfl) dX2_hasRange_23
      · have i6 := nltI c4
        refine q_iconst (pc := 18) (v := 1) K dX2_hasRange_18 (by decide) ?_
        refine q_goto (pc := 19) (tgt := 23) K dX2_hasRange_19 (by decide) ?_
        exact q_zretP K hr (Or.inr rfl) dX2_hasRange_23
theorem hdV_X2_lowestBits : yX2_lowestBits.cls = RX2 ∧ yX2_lowestBits.cls ≠ "java/lang/invoke/MethodHandle" ∧ yX2_lowestBits.cls ≠ "java/lang/invoke/VarHandle" ∧ (parseMethodDescriptor yX2_lowestBits.desc).map (fun d => d.parameters.length) = some 1 := by decide +kernel
theorem mX2_lowestBits_f15 : Cond.fieldLink RX2 15 "WaxTreaties$Sheet" "bits" "I" ∈ wsX2_lowestBits := List.mem_of_getElem? (i := 1) rfl
theorem iwX2_lowestBits_X2 : ∀ w ∈ wsX20, w ∈ wsX2_lowestBits := fun w h => List.mem_cons_of_mem _ (List.mem_append_right _ h)
set_option maxRecDepth 100000 in
set_option maxHeartbeats 4000000 in
theorem kX2_lowestBits (l : Launch) {G : gT} (hN : wN G) (hG : gfl G = true) (j : Nat) (hj : j < 4) (v1 : Int32) (σ : sg) (hw : WD σ) : cM l yX2_lowestBits wsX2_lowestBits rmX2_lowestBits G [.ref (gob G (5 + j)), .int v1] σ (some (.int (fX2_lowestBits j v1 σ))) σ := by
  refine cM_of (maxL := 2) (ret := (some .int)) (cc := cX2_lowestBits) (fX2_lowestBits j v1 σ) RX2 hN (by decide +kernel) rfl rfl (Nat.le_of_ble_eq_true rfl) rfl ?_
  intro p e s m args below meth c K hr
  have k0 : (0 : Int32).toInt = 0 := rfl
  have k8 : (8 : Int32).toInt = 8 := rfl
  have k16 : (16 : Int32).toInt = 16 := rfl
  refine qq_st (lv' := [some (.ref (gob G (5 + j))), some (.int v1)]) rfl rfl rfl ?_
  refine qq_T (fX2_lowestBits.eq_1 ..) ?_
  refine q_aload_n (pc := 0) K dX2_lowestBits_0 rfl rfl ?_
  refine q_get (pc := 1) (o := (5 + j)) (f := 1) (v := .int (rF σ (27 + 2 * j))) K (wO_sh hG hj) vw_1 iwX2_lowestBits_X2 (by decide) mX2_lowestBits_f15 rfl dX2_lowestBits_1 ?_
  refine q_bipush (pc := 4) (v := 8) K dX2_lowestBits_4 (by decide) ?_
  refine q_icmp_ne (pc := 6) (tgt := 12) K dX2_lowestBits_6 (by decide) (fun c1 => ?_) (fun c1 => ?_)
  · have i5 := neI c1
    refine q_aload_n (pc := 12) K dX2_lowestBits_12 rfl rfl ?_
    refine q_get (pc := 13) (o := (5 + j)) (f := 1) (v := .int (rF σ (27 + 2 * j))) K (wO_sh hG hj) vw_1 iwX2_lowestBits_X2 (by decide) mX2_lowestBits_f15 rfl dX2_lowestBits_13 ?_
    refine q_bipush (pc := 16) (v := 16) K dX2_lowestBits_16 (by decide) ?_
    refine q_icmp_ne (pc := 18) (tgt := 26) K dX2_lowestBits_18 (by decide) (fun c2 => ?_) (fun c2 => ?_)
    · have i3 := neI c2
      refine q_iload_n (pc := 26) K dX2_lowestBits_26 rfl rfl ?_
      exact q_iretP K hr dX2_lowestBits_27
    · have i4 := eqI c2
      refine q_iload_n (pc := 21) K dX2_lowestBits_21 rfl rfl ?_
      refine q_i2s (pc := 22) K dX2_lowestBits_22 ?_
      refine q_goto (pc := 23) (tgt := 27) K dX2_lowestBits_23 (by decide) ?_
      exact q_iretP K hr dX2_lowestBits_27
  · have i6 := eqI c1
    refine q_iload_n (pc := 9) K dX2_lowestBits_9 rfl rfl ?_
    refine q_i2b (pc := 10) K dX2_lowestBits_10 ?_
    exact q_iretP K hr dX2_lowestBits_11
theorem hdV_X0_isDeed : yX0_isDeed.cls = RX0 ∧ yX0_isDeed.cls ≠ "java/lang/invoke/MethodHandle" ∧ yX0_isDeed.cls ≠ "java/lang/invoke/VarHandle" ∧ (parseMethodDescriptor yX0_isDeed.desc).map (fun d => d.parameters.length) = some 1 := by decide +kernel
theorem mX0_isDeed_f37 : Cond.fieldLink RX0 37 "WaxTreaties$Chancery" "deeds" "I" ∈ wsX0_isDeed := List.mem_of_getElem? (i := 1) rfl
theorem iwX0_isDeed_X0 : ∀ w ∈ wsX00, w ∈ wsX0_isDeed := fun w h => List.mem_cons_of_mem _ (List.mem_append_right _ h)
theorem mX0_isDeed_iX4 : Cond.initialized RX4 ∈ wsX0_isDeed := List.mem_of_getElem? (i := 3) rfl
theorem mX0_isDeed_stX4_isWithin : Cond.static yX4_isWithin ∈ wsX0_isDeed := List.mem_of_getElem? (i := 2) rfl
set_option maxRecDepth 100000 in
set_option maxHeartbeats 4000000 in
theorem kX0_isDeed (l : Launch) {G : gT} (hN : wN G) (hG : gfl G = true) (j : Nat) (hj : j < 3) (v1 : Int32) (σ : sg) (hw : WD σ) : cM l yX0_isDeed wsX0_isDeed rmX0_isDeed G [.ref (gob G j), .int v1] σ (some (.int (fX0_isDeed j v1 σ))) σ := by
  refine cM_of (maxL := 2) (ret := (some .boolean)) (cc := cX0_isDeed) (fX0_isDeed j v1 σ) RX0 hN (by decide +kernel) rfl rfl (Nat.le_of_ble_eq_true rfl) rfl ?_
  intro p e s m args below meth c K hr
  have k0 : (0 : Int32).toInt = 0 := rfl
  have k1 : (1 : Int32).toInt = 1 := rfl
  refine qq_st (lv' := [some (.ref (gob G j)), some (.int v1)]) rfl rfl rfl ?_
  refine qq_T (fX0_isDeed.eq_1 ..) ?_
  refine q_iload_n (pc := 0) K dX0_isDeed_0 rfl rfl ?_
  refine q_iconst (pc := 1) (v := 0) K dX0_isDeed_1 (by decide) ?_
  refine q_aload_n (pc := 2) K dX0_isDeed_2 rfl rfl ?_
  refine q_get (pc := 3) (o := j) (f := 8) (v := .int (rF σ (7 * j + 1))) K (wO_ch hG hj) vw_0 iwX0_isDeed_X0 (by decide) mX0_isDeed_f37 rfl dX0_isDeed_3 ?_
  have w1 := wd_deeds hw hj
  refine q_iconst (pc := 6) (v := 1) K dX0_isDeed_6 (by decide) ?_
  refine q_isub (pc := 7) K dX0_isDeed_7 ?_
  have a2 := subI (x := (rF σ (7 * j + 1))) (y := 1) (by omega) (by omega)
  refine q_callNi (pc := 8) (rm := rmX4_isWithin) K (kX4_isWithin l hN v1 0 ((rF σ (7 * j + 1)) - 1) σ) gX0_isDeed_X4_isWithin_n64 (nS_0 K.2.2.2.2.2.2.2.2.1) mX0_isDeed_iX4 mX0_isDeed_stX4_isWithin rfl hdS_X4_isWithin ⟨Nat.le_of_ble_eq_true rfl, Nat.le_of_ble_eq_true rfl⟩ rfl rfl ⟨Nat.zero_le _, Nat.zero_le _⟩ rfl rfl (Nat.le_of_ble_eq_true rfl) dX0_isDeed_8 ?_
  exact q_zretP K hr (b01_X4_isWithin _ _ _) dX0_isDeed_11
theorem hdV_X0_isFull : yX0_isFull.cls = RX0 ∧ yX0_isFull.cls ≠ "java/lang/invoke/MethodHandle" ∧ yX0_isFull.cls ≠ "java/lang/invoke/VarHandle" ∧ (parseMethodDescriptor yX0_isFull.desc).map (fun d => d.parameters.length) = some 0 := by decide +kernel
theorem mX0_isFull_f37 : Cond.fieldLink RX0 37 "WaxTreaties$Chancery" "deeds" "I" ∈ wsX0_isFull := List.mem_of_getElem? (i := 1) rfl
theorem iwX0_isFull_X0 : ∀ w ∈ wsX00, w ∈ wsX0_isFull := fun w h => List.mem_cons_of_mem _ (List.mem_append_right _ h)
set_option maxRecDepth 100000 in
set_option maxHeartbeats 4000000 in
theorem kX0_isFull (l : Launch) {G : gT} (hN : wN G) (hG : gfl G = true) (j : Nat) (hj : j < 3) (σ : sg) (hw : WD σ) : cM l yX0_isFull wsX0_isFull rmX0_isFull G [.ref (gob G j)] σ (some (.int (fX0_isFull j σ))) σ := by
  refine cM_of (maxL := 1) (ret := (some .boolean)) (cc := cX0_isFull) (fX0_isFull j σ) RX0 hN (by decide +kernel) rfl rfl (Nat.le_of_ble_eq_true rfl) rfl ?_
  intro p e s m args below meth c K hr
  have k0 : (0 : Int32).toInt = 0 := rfl
  have k1 : (1 : Int32).toInt = 1 := rfl
  have k8 : (8 : Int32).toInt = 8 := rfl
  refine qq_st (lv' := [some (.ref (gob G j))]) rfl rfl rfl ?_
  refine qq_T (fX0_isFull.eq_1 ..) ?_
  refine q_aload_n (pc := 0) K dX0_isFull_0 rfl rfl ?_
  refine q_get (pc := 1) (o := j) (f := 8) (v := .int (rF σ (7 * j + 1))) K (wO_ch hG hj) vw_0 iwX0_isFull_X0 (by decide) mX0_isFull_f37 rfl dX0_isFull_1 ?_
  have w1 := wd_deeds hw hj
  refine q_bipush (pc := 4) (v := 8) K dX0_isFull_4 (by decide) ?_
  refine q_icmp_lt (pc := 6) (tgt := 13) K dX0_isFull_6 (by decide) (fun c2 => ?_) (fun c2 => ?_)
  · have i3 := ltI c2
    refine q_iconst (pc := 13) (v := 0) K dX0_isFull_13 (by decide) ?_
    exact q_zretP K hr (Or.inl rfl) dX0_isFull_14
  · have i4 := nltI c2
    refine q_iconst (pc := 9) (v := 1) K dX0_isFull_9 (by decide) ?_
    refine q_goto (pc := 10) (tgt := 14) K dX0_isFull_10 (by decide) ?_
    exact q_zretP K hr (Or.inr rfl) dX0_isFull_14
theorem hdS_X0_sunAt : yX0_sunAt.cls ≠ "java/lang/invoke/MethodHandle" ∧ yX0_sunAt.cls ≠ "java/lang/invoke/VarHandle" ∧ (parseMethodDescriptor yX0_sunAt.desc).map (fun d => d.parameters.length) = some 1 := by decide +kernel
theorem mX0_sunAt_l85 : Cond.methodLink RX0 85 Lib.Math.abs.name ∈ wsX0_sunAt := List.mem_of_getElem? (i := 1) rfl
theorem mX0_sunAt_s85 : Cond.static Lib.Math.abs.name ∈ wsX0_sunAt := List.mem_of_getElem? (i := 2) rfl
theorem mX0_sunAt_iM : Cond.initialized "java/lang/Math" ∈ wsX0_sunAt := List.mem_of_getElem? (i := 3) rfl
theorem mX0_sunAt_d85 : Cond.code Lib.Math.abs.name Lib.Math.abs.code 1 (some .int) ∈ wsX0_sunAt := List.mem_of_getElem? (i := 4) rfl
set_option maxRecDepth 100000 in
set_option maxHeartbeats 4000000 in
theorem kX0_sunAt (l : Launch) {G : gT} (hN : wN G) (v0 : Int32) (σ : sg) : cM l yX0_sunAt wsX0_sunAt rmX0_sunAt G [.int v0] σ (some (.int (fX0_sunAt v0))) σ := by
  refine cM_of (maxL := 2) (ret := (some .int)) (cc := cX0_sunAt) (fX0_sunAt v0) RX0 hN (by decide +kernel) rfl rfl (Nat.le_of_ble_eq_true rfl) rfl ?_
  intro p e s m args below meth c K hr
  have k0 : (0 : Int32).toInt = 0 := rfl
  have k4 : (4 : Int32).toInt = 4 := rfl
  have k6 : (6 : Int32).toInt = 6 := rfl
  have k13 : (13 : Int32).toInt = 13 := rfl
  have k20 : (20 : Int32).toInt = 20 := rfl
  have k24 : (24 : Int32).toInt = 24 := rfl
  have k28 : (28 : Int32).toInt = 28 := rfl
  refine qq_st (lv' := [some (.int v0), none]) rfl rfl rfl ?_
  refine qq_T (fX0_sunAt.eq_1 ..) ?_
  refine q_iload_n (pc := 0) K dX0_sunAt_0 rfl rfl ?_
  refine q_bipush (pc := 1) (v := 24) K dX0_sunAt_1 (by decide) ?_
  refine q_irem (pc := 3) K dX0_sunAt_3 (by decide) ?_
  refine q_istore_n (pc := 4) (lv' := [some (.int v0), some (.int (jrem v0 24))]) K dX0_sunAt_4 rfl (by decide) (Nat.le_of_ble_eq_true rfl) rfl ?_
  refine q_iload_n (pc := 5) K dX0_sunAt_5 rfl rfl ?_
  refine q_bipush (pc := 6) (v := 6) K dX0_sunAt_6 (by decide) ?_
  refine q_icmp_lt (pc := 8) (tgt := 17) K dX0_sunAt_8 (by decide) (fun c1 => ?_) (fun c1 => ?_)
  · have i5 := ltI c1
    refine q_iconst (pc := 17) (v := 0) K dX0_sunAt_17 (by decide) ?_
    refine q_goto (pc := 18) (tgt := 33) K dX0_sunAt_18 (by decide) ?_
    exact q_iretP K hr dX0_sunAt_33
  · have i6 := nltI c1
    refine q_iload_n (pc := 11) K dX0_sunAt_11 rfl rfl ?_
    refine q_bipush (pc := 12) (v := 20) K dX0_sunAt_12 (by decide) ?_
    refine q_icmp_lt (pc := 14) (tgt := 21) K dX0_sunAt_14 (by decide) (fun c2 => ?_) (fun c2 => ?_)
    · have i3 := ltI c2
      refine q_bipush (pc := 21) (v := 28) K dX0_sunAt_21 (by decide) ?_
      refine q_iconst (pc := 23) (v := 4) K dX0_sunAt_23 (by decide) ?_
      refine q_iload_n (pc := 24) K dX0_sunAt_24 rfl rfl ?_
      refine q_bipush (pc := 25) (v := 13) K dX0_sunAt_25 (by decide) ?_
      refine q_isub (pc := 27) K dX0_sunAt_27 ?_
      refine q_mabs (pc := 28) K mX0_sunAt_l85 mX0_sunAt_s85 mX0_sunAt_iM mX0_sunAt_d85 (Nat.le_of_ble_eq_true rfl) (Nat.le_of_ble_eq_true rfl) dX0_sunAt_28 ?_
      refine q_imul (pc := 31) K dX0_sunAt_31 ?_
      refine q_isub (pc := 32) K dX0_sunAt_32 ?_
      exact q_iretP K hr dX0_sunAt_33
    · have i4 := nltI c2
      refine q_iconst (pc := 17) (v := 0) K dX0_sunAt_17 (by decide) ?_
      refine q_goto (pc := 18) (tgt := 33) K dX0_sunAt_18 (by decide) ?_
      exact q_iretP K hr dX0_sunAt_33
theorem hdV_X0_heatUnder : yX0_heatUnder.cls = RX0 ∧ yX0_heatUnder.cls ≠ "java/lang/invoke/MethodHandle" ∧ yX0_heatUnder.cls ≠ "java/lang/invoke/VarHandle" ∧ (parseMethodDescriptor yX0_heatUnder.desc).map (fun d => d.parameters.length) = some 2 := by decide +kernel
theorem mX0_heatUnder_f49 : Cond.fieldLink RX0 49 "WaxTreaties$Chancery" "summer" "I" ∈ wsX0_heatUnder := List.mem_of_getElem? (i := 1) rfl
theorem iwX0_heatUnder_X0 : ∀ w ∈ wsX00, w ∈ wsX0_heatUnder := fun w h => List.mem_cons_of_mem _ (List.mem_append_right _ h)
theorem mX0_heatUnder_f40 : Cond.fieldLink RX0 40 "WaxTreaties$Chancery" "open" "I" ∈ wsX0_heatUnder := List.mem_of_getElem? (i := 2) rfl
theorem mX0_heatUnder_iX4 : Cond.initialized RX4 ∈ wsX0_heatUnder := List.mem_of_getElem? (i := 6) rfl
theorem mX0_heatUnder_stX4_has : Cond.static yX4_has ∈ wsX0_heatUnder := List.mem_of_getElem? (i := 5) rfl
theorem mX0_heatUnder_f27 : Cond.fieldLink RX0 27 "WaxTreaties$Chancery" "ice" "[I" ∈ wsX0_heatUnder := List.mem_of_getElem? (i := 3) rfl
theorem mX0_heatUnder_f43 : Cond.fieldLink RX0 43 "WaxTreaties$Chancery" "candles" "I" ∈ wsX0_heatUnder := List.mem_of_getElem? (i := 4) rfl
set_option maxRecDepth 100000 in
set_option maxHeartbeats 4000000 in
theorem kX0_heatUnder (l : Launch) {G : gT} (hN : wN G) (hG : gfl G = true) (j : Nat) (hj : j < 3) (v1 : Int32) (v2 : Int32) (σ : sg) (hw : WD σ) (hb : 0 ≤ v2.toInt ∧ v2.toInt ≤ 5) : cM l yX0_heatUnder wsX0_heatUnder rmX0_heatUnder G [.ref (gob G j), .int v1, .int v2] σ (some (.int (fX0_heatUnder j v1 v2 σ))) σ := by
  refine cM_of (maxL := 4) (ret := (some .int)) (cc := cX0_heatUnder) (fX0_heatUnder j v1 v2 σ) RX0 hN (by decide +kernel) rfl rfl (Nat.le_of_ble_eq_true rfl) rfl ?_
  intro p e s m args below meth c K hr
  have km10 : ((-10) : Int32).toInt = -10 := rfl
  have k0 : (0 : Int32).toInt = 0 := rfl
  have k2 : (2 : Int32).toInt = 2 := rfl
  have k6 : (6 : Int32).toInt = 6 := rfl
  have k12 : (12 : Int32).toInt = 12 := rfl
  refine qq_st (lv' := [some (.ref (gob G j)), some (.int v1), some (.int v2), none]) rfl rfl rfl ?_
  refine qq_T (fX0_heatUnder.eq_1 ..) ?_
  refine q_aload_n (pc := 0) K dX0_heatUnder_0 rfl rfl ?_
  refine q_get (pc := 1) (o := j) (f := 12) (v := .int (rF σ (7 * j + 5))) K (wO_ch hG hj) vw_0 iwX0_heatUnder_X0 (by decide) mX0_heatUnder_f49 rfl dX0_heatUnder_1 ?_
  refine q_bipush (pc := 4) (v := 6) K dX0_heatUnder_4 (by decide) ?_
  refine q_iload_n (pc := 6) K dX0_heatUnder_6 rfl rfl ?_
  refine q_imul (pc := 7) K dX0_heatUnder_7 ?_
  refine q_isub (pc := 8) K dX0_heatUnder_8 ?_
  refine q_aload_n (pc := 9) K dX0_heatUnder_9 rfl rfl ?_
  refine q_get (pc := 10) (o := j) (f := 9) (v := .int (rF σ (7 * j + 2))) K (wO_ch hG hj) vw_0 iwX0_heatUnder_X0 (by decide) mX0_heatUnder_f40 rfl dX0_heatUnder_10 ?_
  refine q_iload_n (pc := 13) K dX0_heatUnder_13 rfl rfl ?_
  refine q_callNi (pc := 14) (rm := rmX4_has) K (kX4_has l hN (rF σ (7 * j + 2)) v2 σ) gX0_heatUnder_X4_has_n95 (nS_3 K.2.2.2.2.2.2.2.2.1) mX0_heatUnder_iX4 mX0_heatUnder_stX4_has rfl hdS_X4_has ⟨Nat.le_of_ble_eq_true rfl, Nat.le_of_ble_eq_true rfl⟩ rfl rfl ⟨Nat.zero_le _, Nat.zero_le _⟩ rfl rfl (Nat.le_of_ble_eq_true rfl) dX0_heatUnder_14 ?_
  refine q_if_eq (pc := 17) (tgt := 24) K dX0_heatUnder_17 (by decide) (fun c1 => ?_) (fun c1 => ?_)
  · have i20 := eqI c1
    refine q_iload_n (pc := 24) K dX0_heatUnder_24 rfl rfl ?_
    refine q_iconst (pc := 25) (v := 2) K dX0_heatUnder_25 (by decide) ?_
    refine q_idiv (pc := 26) K dX0_heatUnder_26 (by decide) ?_
    refine q_iadd (pc := 27) K dX0_heatUnder_27 ?_
    refine q_istore_n (pc := 28) (lv' := [some (.ref (gob G j)), some (.int v1), some (.int v2), some (.int (((rF σ (7 * j + 5)) - (6 * v2)) + (v1 / 2)))]) K dX0_heatUnder_28 rfl (by decide) (Nat.le_of_ble_eq_true rfl) rfl ?_
    refine q_aload_n (pc := 29) K dX0_heatUnder_29 rfl rfl ?_
    refine q_get (pc := 30) (o := j) (f := 5) (v := .ref (gad G (8 * j + 5))) K (wO_ch hG hj) vw_0 iwX0_heatUnder_X0 (by decide) mX0_heatUnder_f27 rfl dX0_heatUnder_30 ?_
    refine q_iload_n (pc := 33) K dX0_heatUnder_33 rfl rfl ?_
    refine q_iald (pc := 34) (a := 8 * j + 5) K (by rw [wna_t hG]; have := hj; omega) (vinN (wlc5 hG hj) (by omega) (by omega)) dX0_heatUnder_34 ?_
    refine q_if_le (pc := 35) (tgt := 41) K dX0_heatUnder_35 (by decide) (fun c2 => ?_) (fun c2 => ?_)
    · have i9 := leI c2
      refine q_aload_n (pc := 41) K dX0_heatUnder_41 rfl rfl ?_
      refine q_get (pc := 42) (o := j) (f := 10) (v := .int (rF σ (7 * j + 3))) K (wO_ch hG hj) vw_0 iwX0_heatUnder_X0 (by decide) mX0_heatUnder_f43 rfl dX0_heatUnder_42 ?_
      refine q_iload_n (pc := 45) K dX0_heatUnder_45 rfl rfl ?_
      refine q_callNi (pc := 46) (rm := rmX4_has) K (kX4_has l hN (rF σ (7 * j + 3)) v2 σ) gX0_heatUnder_X4_has_n95 (nS_3 K.2.2.2.2.2.2.2.2.1) mX0_heatUnder_iX4 mX0_heatUnder_stX4_has rfl hdS_X4_has ⟨Nat.le_of_ble_eq_true rfl, Nat.le_of_ble_eq_true rfl⟩ rfl rfl ⟨Nat.zero_le _, Nat.zero_le _⟩ rfl rfl (Nat.le_of_ble_eq_true rfl) dX0_heatUnder_46 ?_
      refine q_if_eq (pc := 49) (tgt := 55) K dX0_heatUnder_49 (by decide) (fun c3 => ?_) (fun c3 => ?_)
      · have i4 := eqI c3
        refine q_iload_n (pc := 55) K dX0_heatUnder_55 rfl rfl ?_
        exact q_iretP K hr dX0_heatUnder_56
      · have i5 := neI c3
        refine q_iinc (pc := 52) (v := ((((rF σ (7 * j + 5)) - (6 * v2)) + (v1 / 2)) + 12)) (lv' := [some (.ref (gob G j)), some (.int v1), some (.int v2), some (.int ((((rF σ (7 * j + 5)) - (6 * v2)) + (v1 / 2)) + 12))]) K dX0_heatUnder_52 rfl rfl (by decide) rfl ?_
        refine q_iload_n (pc := 55) K dX0_heatUnder_55 rfl rfl ?_
        exact q_iretP K hr dX0_heatUnder_56
    · have i10 := nleI c2
      refine q_iinc (pc := 38) (v := ((((rF σ (7 * j + 5)) - (6 * v2)) + (v1 / 2)) + (-10))) (lv' := [some (.ref (gob G j)), some (.int v1), some (.int v2), some (.int ((((rF σ (7 * j + 5)) - (6 * v2)) + (v1 / 2)) + (-10)))]) K dX0_heatUnder_38 rfl rfl (by decide) rfl ?_
      refine q_aload_n (pc := 41) K dX0_heatUnder_41 rfl rfl ?_
      refine q_get (pc := 42) (o := j) (f := 10) (v := .int (rF σ (7 * j + 3))) K (wO_ch hG hj) vw_0 iwX0_heatUnder_X0 (by decide) mX0_heatUnder_f43 rfl dX0_heatUnder_42 ?_
      refine q_iload_n (pc := 45) K dX0_heatUnder_45 rfl rfl ?_
      refine q_callNi (pc := 46) (rm := rmX4_has) K (kX4_has l hN (rF σ (7 * j + 3)) v2 σ) gX0_heatUnder_X4_has_n95 (nS_3 K.2.2.2.2.2.2.2.2.1) mX0_heatUnder_iX4 mX0_heatUnder_stX4_has rfl hdS_X4_has ⟨Nat.le_of_ble_eq_true rfl, Nat.le_of_ble_eq_true rfl⟩ rfl rfl ⟨Nat.zero_le _, Nat.zero_le _⟩ rfl rfl (Nat.le_of_ble_eq_true rfl) dX0_heatUnder_46 ?_
      refine q_if_eq (pc := 49) (tgt := 55) K dX0_heatUnder_49 (by decide) (fun c6 => ?_) (fun c6 => ?_)
      · have i7 := eqI c6
        refine q_iload_n (pc := 55) K dX0_heatUnder_55 rfl rfl ?_
        exact q_iretP K hr dX0_heatUnder_56
      · have i8 := neI c6
        refine q_iinc (pc := 52) (v := (((((rF σ (7 * j + 5)) - (6 * v2)) + (v1 / 2)) + (-10)) + 12)) (lv' := [some (.ref (gob G j)), some (.int v1), some (.int v2), some (.int (((((rF σ (7 * j + 5)) - (6 * v2)) + (v1 / 2)) + (-10)) + 12))]) K dX0_heatUnder_52 rfl rfl (by decide) rfl ?_
        refine q_iload_n (pc := 55) K dX0_heatUnder_55 rfl rfl ?_
        exact q_iretP K hr dX0_heatUnder_56
  · have i21 := neI c1
    refine q_iload_n (pc := 20) K dX0_heatUnder_20 rfl rfl ?_
    refine q_goto (pc := 21) (tgt := 27) K dX0_heatUnder_21 (by decide) ?_
    refine q_iadd (pc := 27) K dX0_heatUnder_27 ?_
    refine q_istore_n (pc := 28) (lv' := [some (.ref (gob G j)), some (.int v1), some (.int v2), some (.int (((rF σ (7 * j + 5)) - (6 * v2)) + v1))]) K dX0_heatUnder_28 rfl (by decide) (Nat.le_of_ble_eq_true rfl) rfl ?_
    refine q_aload_n (pc := 29) K dX0_heatUnder_29 rfl rfl ?_
    refine q_get (pc := 30) (o := j) (f := 5) (v := .ref (gad G (8 * j + 5))) K (wO_ch hG hj) vw_0 iwX0_heatUnder_X0 (by decide) mX0_heatUnder_f27 rfl dX0_heatUnder_30 ?_
    refine q_iload_n (pc := 33) K dX0_heatUnder_33 rfl rfl ?_
    refine q_iald (pc := 34) (a := 8 * j + 5) K (by rw [wna_t hG]; have := hj; omega) (vinN (wlc5 hG hj) (by omega) (by omega)) dX0_heatUnder_34 ?_
    refine q_if_le (pc := 35) (tgt := 41) K dX0_heatUnder_35 (by decide) (fun c11 => ?_) (fun c11 => ?_)
    · have i18 := leI c11
      refine q_aload_n (pc := 41) K dX0_heatUnder_41 rfl rfl ?_
      refine q_get (pc := 42) (o := j) (f := 10) (v := .int (rF σ (7 * j + 3))) K (wO_ch hG hj) vw_0 iwX0_heatUnder_X0 (by decide) mX0_heatUnder_f43 rfl dX0_heatUnder_42 ?_
      refine q_iload_n (pc := 45) K dX0_heatUnder_45 rfl rfl ?_
      refine q_callNi (pc := 46) (rm := rmX4_has) K (kX4_has l hN (rF σ (7 * j + 3)) v2 σ) gX0_heatUnder_X4_has_n95 (nS_3 K.2.2.2.2.2.2.2.2.1) mX0_heatUnder_iX4 mX0_heatUnder_stX4_has rfl hdS_X4_has ⟨Nat.le_of_ble_eq_true rfl, Nat.le_of_ble_eq_true rfl⟩ rfl rfl ⟨Nat.zero_le _, Nat.zero_le _⟩ rfl rfl (Nat.le_of_ble_eq_true rfl) dX0_heatUnder_46 ?_
      refine q_if_eq (pc := 49) (tgt := 55) K dX0_heatUnder_49 (by decide) (fun c12 => ?_) (fun c12 => ?_)
      · have i13 := eqI c12
        refine q_iload_n (pc := 55) K dX0_heatUnder_55 rfl rfl ?_
        exact q_iretP K hr dX0_heatUnder_56
      · have i14 := neI c12
        refine q_iinc (pc := 52) (v := ((((rF σ (7 * j + 5)) - (6 * v2)) + v1) + 12)) (lv' := [some (.ref (gob G j)), some (.int v1), some (.int v2), some (.int ((((rF σ (7 * j + 5)) - (6 * v2)) + v1) + 12))]) K dX0_heatUnder_52 rfl rfl (by decide) rfl ?_
        refine q_iload_n (pc := 55) K dX0_heatUnder_55 rfl rfl ?_
        exact q_iretP K hr dX0_heatUnder_56
    · have i19 := nleI c11
      refine q_iinc (pc := 38) (v := ((((rF σ (7 * j + 5)) - (6 * v2)) + v1) + (-10))) (lv' := [some (.ref (gob G j)), some (.int v1), some (.int v2), some (.int ((((rF σ (7 * j + 5)) - (6 * v2)) + v1) + (-10)))]) K dX0_heatUnder_38 rfl rfl (by decide) rfl ?_
      refine q_aload_n (pc := 41) K dX0_heatUnder_41 rfl rfl ?_
      refine q_get (pc := 42) (o := j) (f := 10) (v := .int (rF σ (7 * j + 3))) K (wO_ch hG hj) vw_0 iwX0_heatUnder_X0 (by decide) mX0_heatUnder_f43 rfl dX0_heatUnder_42 ?_
      refine q_iload_n (pc := 45) K dX0_heatUnder_45 rfl rfl ?_
      refine q_callNi (pc := 46) (rm := rmX4_has) K (kX4_has l hN (rF σ (7 * j + 3)) v2 σ) gX0_heatUnder_X4_has_n95 (nS_3 K.2.2.2.2.2.2.2.2.1) mX0_heatUnder_iX4 mX0_heatUnder_stX4_has rfl hdS_X4_has ⟨Nat.le_of_ble_eq_true rfl, Nat.le_of_ble_eq_true rfl⟩ rfl rfl ⟨Nat.zero_le _, Nat.zero_le _⟩ rfl rfl (Nat.le_of_ble_eq_true rfl) dX0_heatUnder_46 ?_
      refine q_if_eq (pc := 49) (tgt := 55) K dX0_heatUnder_49 (by decide) (fun c15 => ?_) (fun c15 => ?_)
      · have i16 := eqI c15
        refine q_iload_n (pc := 55) K dX0_heatUnder_55 rfl rfl ?_
        exact q_iretP K hr dX0_heatUnder_56
      · have i17 := neI c15
        refine q_iinc (pc := 52) (v := (((((rF σ (7 * j + 5)) - (6 * v2)) + v1) + (-10)) + 12)) (lv' := [some (.ref (gob G j)), some (.int v1), some (.int v2), some (.int (((((rF σ (7 * j + 5)) - (6 * v2)) + v1) + (-10)) + 12))]) K dX0_heatUnder_52 rfl rfl (by decide) rfl ?_
        refine q_iload_n (pc := 55) K dX0_heatUnder_55 rfl rfl ?_
        exact q_iretP K hr dX0_heatUnder_56
theorem hdV_X0_heatOf : yX0_heatOf.cls = RX0 ∧ yX0_heatOf.cls ≠ "java/lang/invoke/MethodHandle" ∧ yX0_heatOf.cls ≠ "java/lang/invoke/VarHandle" ∧ (parseMethodDescriptor yX0_heatOf.desc).map (fun d => d.parameters.length) = some 2 := by decide +kernel
set_option maxRecDepth 100000 in
set_option maxHeartbeats 4000000 in
theorem kX0_heatOf (l : Launch) {G : gT} (hN : wN G) (hG : gfl G = true) (j : Nat) (hj : j < 3) (v1 : Int32) (v2 : Int32) (σ : sg) (hw : WD σ) (hb : 0 ≤ v1.toInt ∧ v1.toInt ≤ 5) : cM l yX0_heatOf wsX0_heatOf rmX0_heatOf G [.ref (gob G j), .int v1, .int v2] σ (some (.int (fX0_heatOf j v1 v2 σ))) σ := by
  refine cM_of (maxL := 3) (ret := (some .int)) (cc := cX0_heatOf) (fX0_heatOf j v1 v2 σ) RX0 hN (by decide +kernel) rfl rfl (Nat.le_of_ble_eq_true rfl) rfl ?_
  intro p e s m args below meth c K hr
  have k0 : (0 : Int32).toInt = 0 := rfl
  refine qq_st (lv' := [some (.ref (gob G j)), some (.int v1), some (.int v2)]) rfl rfl rfl ?_
  refine qq_T (fX0_heatOf.eq_1 ..) ?_
  refine q_aload_n (pc := 0) K dX0_heatOf_0 rfl rfl ?_
  refine q_iload_n (pc := 1) K dX0_heatOf_1 rfl rfl ?_
  refine q_callSi (pc := 2) (rm := rmX0_sunAt) K (kX0_sunAt l hN v2 σ) gX0_heatOf_X0_sunAt rfl hdS_X0_sunAt ⟨Nat.le_of_ble_eq_true rfl, Nat.le_of_ble_eq_true rfl⟩ rfl rfl ⟨Nat.zero_le _, Nat.zero_le _⟩ rfl rfl (Nat.le_of_ble_eq_true rfl) dX0_heatOf_2 ?_
  refine q_iload_n (pc := 5) K dX0_heatOf_5 rfl rfl ?_
  refine q_callVi (pc := 6) (o := j) (rm := rmX0_heatUnder) K (kX0_heatUnder l hN hG j hj (fX0_sunAt v2) v1 σ hw (by omega)) gX0_heatOf_X0_heatUnder rfl hdV_X0_heatUnder ⟨Nat.le_of_ble_eq_true rfl, Nat.le_of_ble_eq_true rfl⟩ rfl rfl ⟨Nat.zero_le _, Nat.zero_le _⟩ (wO_ch hG hj) vw_0 rfl rfl (Nat.le_of_ble_eq_true rfl) dX0_heatOf_6 ?_
  exact q_iretP K hr dX0_heatOf_9
theorem hdV_X0_hasRun : yX0_hasRun.cls = RX0 ∧ yX0_hasRun.cls ≠ "java/lang/invoke/MethodHandle" ∧ yX0_hasRun.cls ≠ "java/lang/invoke/VarHandle" ∧ (parseMethodDescriptor yX0_hasRun.desc).map (fun d => d.parameters.length) = some 1 := by decide +kernel
theorem mX0_hasRun_f33 : Cond.fieldLink RX0 33 "WaxTreaties$Chancery" "run" "I" ∈ wsX0_hasRun := List.mem_of_getElem? (i := 1) rfl
theorem iwX0_hasRun_X0 : ∀ w ∈ wsX00, w ∈ wsX0_hasRun := fun w h => List.mem_cons_of_mem _ (List.mem_append_right _ h)
theorem mX0_hasRun_iX4 : Cond.initialized RX4 ∈ wsX0_hasRun := List.mem_of_getElem? (i := 3) rfl
theorem mX0_hasRun_stX4_has : Cond.static yX4_has ∈ wsX0_hasRun := List.mem_of_getElem? (i := 2) rfl
set_option maxRecDepth 100000 in
set_option maxHeartbeats 4000000 in
theorem kX0_hasRun (l : Launch) {G : gT} (hN : wN G) (hG : gfl G = true) (j : Nat) (hj : j < 3) (v1 : Int32) (σ : sg) (hw : WD σ) : cM l yX0_hasRun wsX0_hasRun rmX0_hasRun G [.ref (gob G j), .int v1] σ (some (.int (fX0_hasRun j v1 σ))) σ := by
  refine cM_of (maxL := 2) (ret := (some .boolean)) (cc := cX0_hasRun) (fX0_hasRun j v1 σ) RX0 hN (by decide +kernel) rfl rfl (Nat.le_of_ble_eq_true rfl) rfl ?_
  intro p e s m args below meth c K hr
  have k0 : (0 : Int32).toInt = 0 := rfl
  refine qq_st (lv' := [some (.ref (gob G j)), some (.int v1)]) rfl rfl rfl ?_
  refine qq_T (fX0_hasRun.eq_1 ..) ?_
  refine q_aload_n (pc := 0) K dX0_hasRun_0 rfl rfl ?_
  refine q_get (pc := 1) (o := j) (f := 7) (v := .int (rF σ (7 * j))) K (wO_ch hG hj) vw_0 iwX0_hasRun_X0 (by decide) mX0_hasRun_f33 rfl dX0_hasRun_1 ?_
  refine q_iload_n (pc := 4) K dX0_hasRun_4 rfl rfl ?_
  refine q_callNi (pc := 5) (rm := rmX4_has) K (kX4_has l hN (rF σ (7 * j)) v1 σ) gX0_hasRun_X4_has_n95 (nS_3 K.2.2.2.2.2.2.2.2.1) mX0_hasRun_iX4 mX0_hasRun_stX4_has rfl hdS_X4_has ⟨Nat.le_of_ble_eq_true rfl, Nat.le_of_ble_eq_true rfl⟩ rfl rfl ⟨Nat.zero_le _, Nat.zero_le _⟩ rfl rfl (Nat.le_of_ble_eq_true rfl) dX0_hasRun_5 ?_
  exact q_zretP K hr (b01_X4_has _ _) dX0_hasRun_8
theorem hdV_X0_peaces : yX0_peaces.cls = RX0 ∧ yX0_peaces.cls ≠ "java/lang/invoke/MethodHandle" ∧ yX0_peaces.cls ≠ "java/lang/invoke/VarHandle" ∧ (parseMethodDescriptor yX0_peaces.desc).map (fun d => d.parameters.length) = some 1 := by decide +kernel
theorem mX0_peaces_f37 : Cond.fieldLink RX0 37 "WaxTreaties$Chancery" "deeds" "I" ∈ wsX0_peaces := List.mem_of_getElem? (i := 1) rfl
theorem iwX0_peaces_X0 : ∀ w ∈ wsX00, w ∈ wsX0_peaces := fun w h => List.mem_cons_of_mem _ (List.mem_append_right _ h)
theorem mX0_peaces_f24 : Cond.fieldLink RX0 24 "WaxTreaties$Chancery" "hangsOn" "[I" ∈ wsX0_peaces := List.mem_of_getElem? (i := 2) rfl
theorem mX0_peaces_iX4 : Cond.initialized RX4 ∈ wsX0_peaces := List.mem_of_getElem? (i := 4) rfl
theorem mX0_peaces_stX4_has : Cond.static yX4_has ∈ wsX0_peaces := List.mem_of_getElem? (i := 3) rfl
theorem mX0_peaces_stX4_with : Cond.static yX4_with ∈ wsX0_peaces := List.mem_of_getElem? (i := 6) rfl
set_option maxRecDepth 100000 in
set_option maxHeartbeats 4000000 in
theorem lX0_peaces_4 {p : Program} (l : Launch) {e : Env} {s : State} {m : MethodId} {args : Array Value} {below : List Frame} {meth : Method} {c : Code} {Q : State → Prop} {G : gT} (hN : wN G) (hG : gfl G = true) (K : qK p s m args meth c cX0_peaces 5 RX0 wsX0_peaces G) (j : Nat) (hj : j < 3) : ∀ (k : Nat) (v1 v2 v3 : Int32) (σ : sg) (hw : WD σ) (hv3 : 0 ≤ v3.toInt ∧ v3.toInt ≤ 8) (hmu : (8 - v3.toInt).toNat < k) {ρ : Type} {E : ρ → Prop} {f : Int32 → ρ} (hk : ∀ r : Int32, qq p l e (headSpec wsX0_peaces rmX0_peaces).room s m args below meth c Q 5 G E (f r) 67 [none, none, some (.int r), none, none] [] σ), qq p l e (headSpec wsX0_peaces rmX0_peaces).room s m args below meth c Q 5 G E (bnd (LX0_peaces_4 j k v1 v2 v3 σ) f) 4 [some (.ref (gob G j)), some (.int v1), some (.int v2), some (.int v3), none] [] σ := by
  intro k
  induction k with
  | zero => intro v1 v2 v3 σ hw hv3 hmu ρ E f hk; exact absurd hmu (Nat.not_lt_zero _)
  | succ k ih =>
    intro v1 v2 v3 σ hw hv3 hmu ρ E f hk
    have km1 : ((-1) : Int32).toInt = -1 := rfl
    have k0 : (0 : Int32).toInt = 0 := rfl
    have k1 : (1 : Int32).toInt = 1 := rfl
    refine qq_in ?_
    refine qq_T (LX0_peaces_4.eq_2 ..) ?_
    refine q_iload_n (pc := 4) K dX0_peaces_4 rfl rfl ?_
    refine q_aload_n (pc := 5) K dX0_peaces_5 rfl rfl ?_
    refine q_get (pc := 6) (o := j) (f := 8) (v := .int (rF σ (7 * j + 1))) K (wO_ch hG hj) vw_0 iwX0_peaces_X0 (by decide) mX0_peaces_f37 rfl dX0_peaces_6 ?_
    have w1 := wd_deeds hw hj
    refine q_icmp_ge (pc := 9) (tgt := 67) K dX0_peaces_9 (by decide) (fun c2 => ?_) (fun c2 => ?_)
    · have i20 := leI c2
      refine qq_drop 0 (lv' := [none, some (.int v1), some (.int v2), some (.int v3), none]) rfl ?_
      refine qq_drop 1 (lv' := [none, none, some (.int v2), some (.int v3), none]) rfl ?_
      refine qq_drop 3 (lv' := [none, none, some (.int v2), none, none]) rfl ?_
      exact qq_leaf (hk v2)
    · have i21 := nleI c2
      refine q_aload_n (pc := 12) K dX0_peaces_12 rfl rfl ?_
      refine q_get (pc := 13) (o := j) (f := 4) (v := .ref (gad G (8 * j + 4))) K (wO_ch hG hj) vw_0 iwX0_peaces_X0 (by decide) mX0_peaces_f24 rfl dX0_peaces_13 ?_
      refine q_iload_n (pc := 16) K dX0_peaces_16 rfl rfl ?_
      refine q_iald (pc := 17) (a := 8 * j + 4) K (by rw [wna_t hG]; have := hj; omega) (vinN (wlc4 hG hj) (by omega) (by omega)) dX0_peaces_17 ?_
      refine q_iconst (pc := 18) (v := (-1)) K dX0_peaces_18 (by decide) ?_
      refine q_icmp_eq (pc := 19) (tgt := 35) K dX0_peaces_19 (by decide) (fun c3 => ?_) (fun c3 => ?_)
      · have i18 := eqI c3
        refine q_iconst (pc := 35) (v := 1) K dX0_peaces_35 (by decide) ?_
        refine q_goto (pc := 36) (tgt := 40) K dX0_peaces_36 (by decide) ?_
        refine q_istore (pc := 40) (lv' := [some (.ref (gob G j)), some (.int v1), some (.int v2), some (.int v3), some (.int 1)]) K dX0_peaces_40 (by decide) (Nat.le_of_ble_eq_true rfl) rfl ?_
        refine q_iload (pc := 42) K dX0_peaces_42 rfl ?_
        refine q_if_eq_f (pc := 44) (tgt := 61) K (by decide) dX0_peaces_44 (by decide) ?_
        refine q_iload_n (pc := 47) K dX0_peaces_47 rfl rfl ?_
        refine q_iload_n (pc := 48) K dX0_peaces_48 rfl rfl ?_
        refine q_callNi (pc := 49) (rm := rmX4_has) K (kX4_has l hN v1 v3 σ) gX0_peaces_X4_has_n95 (nS_3 K.2.2.2.2.2.2.2.2.1) mX0_peaces_iX4 mX0_peaces_stX4_has rfl hdS_X4_has ⟨Nat.le_of_ble_eq_true rfl, Nat.le_of_ble_eq_true rfl⟩ rfl rfl ⟨Nat.zero_le _, Nat.zero_le _⟩ rfl rfl (Nat.le_of_ble_eq_true rfl) dX0_peaces_49 ?_
        refine q_if_ne (pc := 52) (tgt := 61) K dX0_peaces_52 (by decide) (fun c4 => ?_) (fun c4 => ?_)
        · have i7 := neI c4
          refine q_iinc (pc := 61) (v := (v3 + 1)) (lv' := [some (.ref (gob G j)), some (.int v1), some (.int v2), some (.int (v3 + 1)), some (.int 1)]) K dX0_peaces_61 rfl rfl (by decide) rfl ?_
          refine q_goto (pc := 64) (tgt := 4) K dX0_peaces_64 (by decide) ?_
          refine qq_drop 4 (lv' := [some (.ref (gob G j)), some (.int v1), some (.int v2), some (.int (v3 + 1)), none]) rfl ?_
          have a5 := addI (x := v3) (y := 1) (by omega) (by omega)
          exact qq_out (ih v1 v2 (v3 + 1) σ hw (by omega) (by omega) hk)
        · have i8 := eqI c4
          refine q_iload_n (pc := 55) K dX0_peaces_55 rfl rfl ?_
          refine q_iload_n (pc := 56) K dX0_peaces_56 rfl rfl ?_
          refine q_callNi (pc := 57) (rm := rmX4_with) K (kX4_with l hN v2 v3 σ) gX0_peaces_X4_with_n72 (nS_1 K.2.2.2.2.2.2.2.2.1) mX0_peaces_iX4 mX0_peaces_stX4_with rfl hdS_X4_with ⟨Nat.le_of_ble_eq_true rfl, Nat.le_of_ble_eq_true rfl⟩ rfl rfl ⟨Nat.zero_le _, Nat.zero_le _⟩ rfl rfl (Nat.le_of_ble_eq_true rfl) dX0_peaces_57 ?_
          refine q_istore_n (pc := 60) (lv' := [some (.ref (gob G j)), some (.int v1), some (.int (fX4_with v2 v3)), some (.int v3), some (.int 1)]) K dX0_peaces_60 rfl (by decide) (Nat.le_of_ble_eq_true rfl) rfl ?_
          refine q_iinc (pc := 61) (v := (v3 + 1)) (lv' := [some (.ref (gob G j)), some (.int v1), some (.int (fX4_with v2 v3)), some (.int (v3 + 1)), some (.int 1)]) K dX0_peaces_61 rfl rfl (by decide) rfl ?_
          refine q_goto (pc := 64) (tgt := 4) K dX0_peaces_64 (by decide) ?_
          refine qq_drop 4 (lv' := [some (.ref (gob G j)), some (.int v1), some (.int (fX4_with v2 v3)), some (.int (v3 + 1)), none]) rfl ?_
          have a6 := addI (x := v3) (y := 1) (by omega) (by omega)
          exact qq_out (ih v1 (fX4_with v2 v3) (v3 + 1) σ hw (by omega) (by omega) hk)
      · have i19 := neI c3
        refine q_iload_n (pc := 22) K dX0_peaces_22 rfl rfl ?_
        refine q_aload_n (pc := 23) K dX0_peaces_23 rfl rfl ?_
        refine q_get (pc := 24) (o := j) (f := 4) (v := .ref (gad G (8 * j + 4))) K (wO_ch hG hj) vw_0 iwX0_peaces_X0 (by decide) mX0_peaces_f24 rfl dX0_peaces_24 ?_
        refine q_iload_n (pc := 27) K dX0_peaces_27 rfl rfl ?_
        refine q_iald (pc := 28) (a := 8 * j + 4) K (by rw [wna_t hG]; have := hj; omega) (vinN (wlc4 hG hj) (by omega) (by omega)) dX0_peaces_28 ?_
        refine q_callNi (pc := 29) (rm := rmX4_has) K (kX4_has l hN v2 (rA σ (8 * j + 4) v3) σ) gX0_peaces_X4_has_n95 (nS_3 K.2.2.2.2.2.2.2.2.1) mX0_peaces_iX4 mX0_peaces_stX4_has rfl hdS_X4_has ⟨Nat.le_of_ble_eq_true rfl, Nat.le_of_ble_eq_true rfl⟩ rfl rfl ⟨Nat.zero_le _, Nat.zero_le _⟩ rfl rfl (Nat.le_of_ble_eq_true rfl) dX0_peaces_29 ?_
        refine q_if_eq (pc := 32) (tgt := 39) K dX0_peaces_32 (by decide) (fun c9 => ?_) (fun c9 => ?_)
        · have i16 := eqI c9
          refine q_iconst (pc := 39) (v := 0) K dX0_peaces_39 (by decide) ?_
          refine q_istore (pc := 40) (lv' := [some (.ref (gob G j)), some (.int v1), some (.int v2), some (.int v3), some (.int 0)]) K dX0_peaces_40 (by decide) (Nat.le_of_ble_eq_true rfl) rfl ?_
          refine q_iload (pc := 42) K dX0_peaces_42 rfl ?_
          refine q_if_eq_t (pc := 44) (tgt := 61) K (by decide) dX0_peaces_44 (by decide) ?_
          refine q_iinc (pc := 61) (v := (v3 + 1)) (lv' := [some (.ref (gob G j)), some (.int v1), some (.int v2), some (.int (v3 + 1)), some (.int 0)]) K dX0_peaces_61 rfl rfl (by decide) rfl ?_
          refine q_goto (pc := 64) (tgt := 4) K dX0_peaces_64 (by decide) ?_
          refine qq_drop 4 (lv' := [some (.ref (gob G j)), some (.int v1), some (.int v2), some (.int (v3 + 1)), none]) rfl ?_
          have a10 := addI (x := v3) (y := 1) (by omega) (by omega)
          exact qq_out (ih v1 v2 (v3 + 1) σ hw (by omega) (by omega) hk)
        · have i17 := neI c9
          refine q_iconst (pc := 35) (v := 1) K dX0_peaces_35 (by decide) ?_
          refine q_goto (pc := 36) (tgt := 40) K dX0_peaces_36 (by decide) ?_
          refine q_istore (pc := 40) (lv' := [some (.ref (gob G j)), some (.int v1), some (.int v2), some (.int v3), some (.int 1)]) K dX0_peaces_40 (by decide) (Nat.le_of_ble_eq_true rfl) rfl ?_
          refine q_iload (pc := 42) K dX0_peaces_42 rfl ?_
          refine q_if_eq_f (pc := 44) (tgt := 61) K (by decide) dX0_peaces_44 (by decide) ?_
          refine q_iload_n (pc := 47) K dX0_peaces_47 rfl rfl ?_
          refine q_iload_n (pc := 48) K dX0_peaces_48 rfl rfl ?_
          refine q_callNi (pc := 49) (rm := rmX4_has) K (kX4_has l hN v1 v3 σ) gX0_peaces_X4_has_n95 (nS_3 K.2.2.2.2.2.2.2.2.1) mX0_peaces_iX4 mX0_peaces_stX4_has rfl hdS_X4_has ⟨Nat.le_of_ble_eq_true rfl, Nat.le_of_ble_eq_true rfl⟩ rfl rfl ⟨Nat.zero_le _, Nat.zero_le _⟩ rfl rfl (Nat.le_of_ble_eq_true rfl) dX0_peaces_49 ?_
          refine q_if_ne (pc := 52) (tgt := 61) K dX0_peaces_52 (by decide) (fun c11 => ?_) (fun c11 => ?_)
          · have i14 := neI c11
            refine q_iinc (pc := 61) (v := (v3 + 1)) (lv' := [some (.ref (gob G j)), some (.int v1), some (.int v2), some (.int (v3 + 1)), some (.int 1)]) K dX0_peaces_61 rfl rfl (by decide) rfl ?_
            refine q_goto (pc := 64) (tgt := 4) K dX0_peaces_64 (by decide) ?_
            refine qq_drop 4 (lv' := [some (.ref (gob G j)), some (.int v1), some (.int v2), some (.int (v3 + 1)), none]) rfl ?_
            have a12 := addI (x := v3) (y := 1) (by omega) (by omega)
            exact qq_out (ih v1 v2 (v3 + 1) σ hw (by omega) (by omega) hk)
          · have i15 := eqI c11
            refine q_iload_n (pc := 55) K dX0_peaces_55 rfl rfl ?_
            refine q_iload_n (pc := 56) K dX0_peaces_56 rfl rfl ?_
            refine q_callNi (pc := 57) (rm := rmX4_with) K (kX4_with l hN v2 v3 σ) gX0_peaces_X4_with_n72 (nS_1 K.2.2.2.2.2.2.2.2.1) mX0_peaces_iX4 mX0_peaces_stX4_with rfl hdS_X4_with ⟨Nat.le_of_ble_eq_true rfl, Nat.le_of_ble_eq_true rfl⟩ rfl rfl ⟨Nat.zero_le _, Nat.zero_le _⟩ rfl rfl (Nat.le_of_ble_eq_true rfl) dX0_peaces_57 ?_
            refine q_istore_n (pc := 60) (lv' := [some (.ref (gob G j)), some (.int v1), some (.int (fX4_with v2 v3)), some (.int v3), some (.int 1)]) K dX0_peaces_60 rfl (by decide) (Nat.le_of_ble_eq_true rfl) rfl ?_
            refine q_iinc (pc := 61) (v := (v3 + 1)) (lv' := [some (.ref (gob G j)), some (.int v1), some (.int (fX4_with v2 v3)), some (.int (v3 + 1)), some (.int 1)]) K dX0_peaces_61 rfl rfl (by decide) rfl ?_
            refine q_goto (pc := 64) (tgt := 4) K dX0_peaces_64 (by decide) ?_
            refine qq_drop 4 (lv' := [some (.ref (gob G j)), some (.int v1), some (.int (fX4_with v2 v3)), some (.int (v3 + 1)), none]) rfl ?_
            have a13 := addI (x := v3) (y := 1) (by omega) (by omega)
            exact qq_out (ih v1 (fX4_with v2 v3) (v3 + 1) σ hw (by omega) (by omega) hk)
set_option maxRecDepth 100000 in
set_option maxHeartbeats 4000000 in
theorem kX0_peaces (l : Launch) {G : gT} (hN : wN G) (hG : gfl G = true) (j : Nat) (hj : j < 3) (v1 : Int32) (σ : sg) (hw : WD σ) : cM l yX0_peaces wsX0_peaces rmX0_peaces G [.ref (gob G j), .int v1] σ (some (.int (fX0_peaces j v1 σ))) σ := by
  refine cM_of (maxL := 5) (ret := (some .int)) (cc := cX0_peaces) (fX0_peaces j v1 σ) RX0 hN (by decide +kernel) rfl rfl (Nat.le_of_ble_eq_true rfl) rfl ?_
  intro p e s m args below meth c K hr
  have k0 : (0 : Int32).toInt = 0 := rfl
  refine qq_st (lv' := [some (.ref (gob G j)), some (.int v1), none, none, none]) rfl rfl rfl ?_
  refine qq_T (fX0_peaces.eq_1 ..) ?_
  refine q_iconst (pc := 0) (v := 0) K dX0_peaces_0 (by decide) ?_
  refine q_istore_n (pc := 1) (lv' := [some (.ref (gob G j)), some (.int v1), some (.int 0), none, none]) K dX0_peaces_1 rfl (by decide) (Nat.le_of_ble_eq_true rfl) rfl ?_
  refine q_iconst (pc := 2) (v := 0) K dX0_peaces_2 (by decide) ?_
  refine q_istore_n (pc := 3) (lv' := [some (.ref (gob G j)), some (.int v1), some (.int 0), some (.int 0), none]) K dX0_peaces_3 rfl (by decide) (Nat.le_of_ble_eq_true rfl) rfl ?_
  refine lX0_peaces_4 l hN hG K j hj 9 v1 0 0 σ hw (by omega) (by omega) (fun r22 => ?_)
  refine q_iload_n (pc := 67) K dX0_peaces_67 rfl rfl ?_
  exact q_iretP K hr dX0_peaces_68
theorem hdV_X0_peaceHolds : yX0_peaceHolds.cls = RX0 ∧ yX0_peaceHolds.cls ≠ "java/lang/invoke/MethodHandle" ∧ yX0_peaceHolds.cls ≠ "java/lang/invoke/VarHandle" ∧ (parseMethodDescriptor yX0_peaceHolds.desc).map (fun d => d.parameters.length) = some 1 := by decide +kernel
theorem mX0_peaceHolds_f33 : Cond.fieldLink RX0 33 "WaxTreaties$Chancery" "run" "I" ∈ wsX0_peaceHolds := List.mem_of_getElem? (i := 1) rfl
theorem iwX0_peaceHolds_X0 : ∀ w ∈ wsX00, w ∈ wsX0_peaceHolds := fun w h => List.mem_cons_of_mem _ (List.mem_append_right _ h)
theorem mX0_peaceHolds_iX4 : Cond.initialized RX4 ∈ wsX0_peaceHolds := List.mem_of_getElem? (i := 10) rfl
theorem mX0_peaceHolds_stX4_has : Cond.static yX4_has ∈ wsX0_peaceHolds := List.mem_of_getElem? (i := 9) rfl
set_option maxRecDepth 100000 in
set_option maxHeartbeats 4000000 in
theorem kX0_peaceHolds (l : Launch) {G : gT} (hN : wN G) (hG : gfl G = true) (j : Nat) (hj : j < 3) (v1 : Int32) (σ : sg) (hw : WD σ) : cM l yX0_peaceHolds wsX0_peaceHolds rmX0_peaceHolds G [.ref (gob G j), .int v1] σ (some (.int (fX0_peaceHolds j v1 σ))) σ := by
  refine cM_of (maxL := 2) (ret := (some .boolean)) (cc := cX0_peaceHolds) (fX0_peaceHolds j v1 σ) RX0 hN (by decide +kernel) rfl rfl (Nat.le_of_ble_eq_true rfl) rfl ?_
  intro p e s m args below meth c K hr
  have k0 : (0 : Int32).toInt = 0 := rfl
  refine qq_st (lv' := [some (.ref (gob G j)), some (.int v1)]) rfl rfl rfl ?_
  refine qq_T (fX0_peaceHolds.eq_1 ..) ?_
  refine q_aload_n (pc := 0) K dX0_peaceHolds_0 rfl rfl ?_
  refine q_aload_n (pc := 1) K dX0_peaceHolds_1 rfl rfl ?_
  refine q_get (pc := 2) (o := j) (f := 7) (v := .int (rF σ (7 * j))) K (wO_ch hG hj) vw_0 iwX0_peaceHolds_X0 (by decide) mX0_peaceHolds_f33 rfl dX0_peaceHolds_2 ?_
  refine q_callVi (pc := 5) (o := j) (rm := rmX0_peaces) K (kX0_peaces l hN hG j hj (rF σ (7 * j)) σ hw) gX0_peaceHolds_X0_peaces rfl hdV_X0_peaces ⟨Nat.le_of_ble_eq_true rfl, Nat.le_of_ble_eq_true rfl⟩ rfl rfl ⟨Nat.zero_le _, Nat.zero_le _⟩ (wO_ch hG hj) vw_0 rfl rfl (Nat.le_of_ble_eq_true rfl) dX0_peaceHolds_5 ?_
  refine q_iload_n (pc := 8) K dX0_peaceHolds_8 rfl rfl ?_
  refine q_callNi (pc := 9) (rm := rmX4_has) K (kX4_has l hN (fX0_peaces j (rF σ (7 * j)) σ) v1 σ) gX0_peaceHolds_X4_has_n95 (nS_3 K.2.2.2.2.2.2.2.2.1) mX0_peaceHolds_iX4 mX0_peaceHolds_stX4_has rfl hdS_X4_has ⟨Nat.le_of_ble_eq_true rfl, Nat.le_of_ble_eq_true rfl⟩ rfl rfl ⟨Nat.zero_le _, Nat.zero_le _⟩ rfl rfl (Nat.le_of_ble_eq_true rfl) dX0_peaceHolds_9 ?_
  exact q_zretP K hr (b01_X4_has _ _) dX0_peaceHolds_12
theorem hdV_X0_softens : yX0_softens.cls = RX0 ∧ yX0_softens.cls ≠ "java/lang/invoke/MethodHandle" ∧ yX0_softens.cls ≠ "java/lang/invoke/VarHandle" ∧ (parseMethodDescriptor yX0_softens.desc).map (fun d => d.parameters.length) = some 1 := by decide +kernel
theorem mX0_softens_f9 : Cond.fieldLink RX0 9 "WaxTreaties$Chancery" "kind" "[I" ∈ wsX0_softens := List.mem_of_getElem? (i := 1) rfl
theorem iwX0_softens_X0 : ∀ w ∈ wsX00, w ∈ wsX0_softens := fun w h => List.mem_cons_of_mem _ (List.mem_append_right _ h)
theorem mX0_softens_f55 : Cond.fieldLink RX0 55 "WaxTreaties$Chancery" "heats" "[I" ∈ wsX0_softens := List.mem_of_getElem? (i := 2) rfl
theorem mX0_softens_f15 : Cond.fieldLink RX0 15 "WaxTreaties$Chancery" "shelf" "[I" ∈ wsX0_softens := List.mem_of_getElem? (i := 3) rfl
theorem mX0_softens_f18 : Cond.fieldLink RX0 18 "WaxTreaties$Chancery" "wax" "[I" ∈ wsX0_softens := List.mem_of_getElem? (i := 4) rfl
theorem mX0_softens_f21 : Cond.fieldLink RX0 21 "WaxTreaties$Chancery" "soft" "[I" ∈ wsX0_softens := List.mem_of_getElem? (i := 5) rfl
theorem mX0_softens_l125 : Cond.methodLink RX0 125 Lib.Math.max.name ∈ wsX0_softens := List.mem_of_getElem? (i := 10) rfl
theorem mX0_softens_s125 : Cond.static Lib.Math.max.name ∈ wsX0_softens := List.mem_of_getElem? (i := 11) rfl
theorem mX0_softens_iM : Cond.initialized "java/lang/Math" ∈ wsX0_softens := List.mem_of_getElem? (i := 8) rfl
theorem mX0_softens_d125 : Cond.code Lib.Math.max.name Lib.Math.max.code 2 (some .int) ∈ wsX0_softens := List.mem_of_getElem? (i := 12) rfl
theorem mX0_softens_l79 : Cond.methodLink RX0 79 Lib.Math.min.name ∈ wsX0_softens := List.mem_of_getElem? (i := 6) rfl
theorem mX0_softens_s79 : Cond.static Lib.Math.min.name ∈ wsX0_softens := List.mem_of_getElem? (i := 7) rfl
theorem mX0_softens_d79 : Cond.code Lib.Math.min.name Lib.Math.min.code 2 (some .int) ∈ wsX0_softens := List.mem_of_getElem? (i := 9) rfl
set_option maxRecDepth 100000 in
set_option maxHeartbeats 4000000 in
theorem kX0_softens (l : Launch) {G : gT} (hN : wN G) (hG : gfl G = true) (j : Nat) (hj : j < 3) (v1 : Int32) (σ : sg) (hw : WD σ) (hb : 0 ≤ v1.toInt ∧ v1.toInt ≤ 7) : cM l yX0_softens wsX0_softens rmX0_softens G [.ref (gob G j), .int v1] σ (some (.int (fX0_softens j v1 σ).1)) (fX0_softens j v1 σ).2 := by
  refine cM_of (maxL := 3) (ret := (some .boolean)) (cc := cX0_softens) (fX0_softens j v1 σ) RX0 hN (by decide +kernel) rfl rfl (Nat.le_of_ble_eq_true rfl) rfl ?_
  intro p e s m args below meth c K hr
  have k0 : (0 : Int32).toInt = 0 := rfl
  have k1 : (1 : Int32).toInt = 1 := rfl
  have k99 : (99 : Int32).toInt = 99 := rfl
  refine qq_st (lv' := [some (.ref (gob G j)), some (.int v1), none]) rfl rfl rfl ?_
  refine qq_T (fX0_softens.eq_1 ..) ?_
  refine q_aload_n (pc := 0) K dX0_softens_0 rfl rfl ?_
  refine q_get (pc := 1) (o := j) (f := 0) (v := .ref (gad G (8 * j))) K (wO_ch hG hj) vw_0 iwX0_softens_X0 (by decide) mX0_softens_f9 rfl dX0_softens_1 ?_
  refine q_iload_n (pc := 4) K dX0_softens_4 rfl rfl ?_
  refine q_iald (pc := 5) (a := 8 * j) K (by rw [wna_t hG]; have := hj; omega) (vinN (wlc0 hG hj) (by omega) (by omega)) dX0_softens_5 ?_
  refine q_aload_n (pc := 6) K dX0_softens_6 rfl rfl ?_
  refine q_get (pc := 7) (o := j) (f := 14) (v := .ref (gad G (8 * j + 7))) K (wO_ch hG hj) vw_0 iwX0_softens_X0 (by decide) mX0_softens_f55 rfl dX0_softens_7 ?_
  refine q_aload_n (pc := 10) K dX0_softens_10 rfl rfl ?_
  refine q_get (pc := 11) (o := j) (f := 1) (v := .ref (gad G (8 * j + 1))) K (wO_ch hG hj) vw_0 iwX0_softens_X0 (by decide) mX0_softens_f15 rfl dX0_softens_11 ?_
  refine q_iload_n (pc := 14) K dX0_softens_14 rfl rfl ?_
  refine q_iald (pc := 15) (a := 8 * j + 1) K (by rw [wna_t hG]; have := hj; omega) (vinN (wlc1 hG hj) (by omega) (by omega)) dX0_softens_15 ?_
  have w1 := wd_shelf hw hj v1
  refine q_iald (pc := 16) (a := 8 * j + 7) K (by rw [wna_t hG]; have := hj; omega) (vinN (wlc7 hG hj) (by omega) (by omega)) dX0_softens_16 ?_
  refine q_callSi (pc := 17) (rm := rmX1_feels) K (kX1_feels l hN (rA σ (8 * j) v1) (rA σ (8 * j + 7) (rA σ (8 * j + 1) v1)) σ) gX0_softens_X1_feels rfl hdS_X1_feels ⟨Nat.le_of_ble_eq_true rfl, Nat.le_of_ble_eq_true rfl⟩ rfl rfl ⟨Nat.zero_le _, Nat.zero_le _⟩ rfl rfl (Nat.le_of_ble_eq_true rfl) dX0_softens_17 ?_
  refine q_aload_n (pc := 20) K dX0_softens_20 rfl rfl ?_
  refine q_get (pc := 21) (o := j) (f := 0) (v := .ref (gad G (8 * j))) K (wO_ch hG hj) vw_0 iwX0_softens_X0 (by decide) mX0_softens_f9 rfl dX0_softens_21 ?_
  refine q_iload_n (pc := 24) K dX0_softens_24 rfl rfl ?_
  refine q_iald (pc := 25) (a := 8 * j) K (by rw [wna_t hG]; have := hj; omega) (vinN (wlc0 hG hj) (by omega) (by omega)) dX0_softens_25 ?_
  refine q_aload_n (pc := 26) K dX0_softens_26 rfl rfl ?_
  refine q_get (pc := 27) (o := j) (f := 2) (v := .ref (gad G (8 * j + 2))) K (wO_ch hG hj) vw_0 iwX0_softens_X0 (by decide) mX0_softens_f18 rfl dX0_softens_27 ?_
  refine q_iload_n (pc := 30) K dX0_softens_30 rfl rfl ?_
  refine q_iald (pc := 31) (a := 8 * j + 2) K (by rw [wna_t hG]; have := hj; omega) (vinN (wlc2 hG hj) (by omega) (by omega)) dX0_softens_31 ?_
  refine q_callSi (pc := 32) (rm := rmX1_stands) K (kX1_stands l hN (rA σ (8 * j) v1) (rA σ (8 * j + 2) v1) σ) gX0_softens_X1_stands rfl hdS_X1_stands ⟨Nat.le_of_ble_eq_true rfl, Nat.le_of_ble_eq_true rfl⟩ rfl rfl ⟨Nat.zero_le _, Nat.zero_le _⟩ rfl rfl (Nat.le_of_ble_eq_true rfl) dX0_softens_32 ?_
  refine q_isub (pc := 35) K dX0_softens_35 ?_
  refine q_istore_n (pc := 36) (lv' := [some (.ref (gob G j)), some (.int v1), some (.int ((fX1_feels (rA σ (8 * j) v1) (rA σ (8 * j + 7) (rA σ (8 * j + 1) v1))) - (fX1_stands (rA σ (8 * j) v1) (rA σ (8 * j + 2) v1))))]) K dX0_softens_36 rfl (by decide) (Nat.le_of_ble_eq_true rfl) rfl ?_
  refine q_aload_n (pc := 37) K dX0_softens_37 rfl rfl ?_
  refine q_get (pc := 38) (o := j) (f := 3) (v := .ref (gad G (8 * j + 3))) K (wO_ch hG hj) vw_0 iwX0_softens_X0 (by decide) mX0_softens_f21 rfl dX0_softens_38 ?_
  refine q_iload_n (pc := 41) K dX0_softens_41 rfl rfl ?_
  refine q_iload_n (pc := 42) K dX0_softens_42 rfl rfl ?_
  refine q_if_le (pc := 43) (tgt := 62) K dX0_softens_43 (by decide) (fun c2 => ?_) (fun c2 => ?_)
  · have i15 := leI c2
    refine q_iconst (pc := 62) (v := 0) K dX0_softens_62 (by decide) ?_
    refine q_aload_n (pc := 63) K dX0_softens_63 rfl rfl ?_
    refine q_get (pc := 64) (o := j) (f := 3) (v := .ref (gad G (8 * j + 3))) K (wO_ch hG hj) vw_0 iwX0_softens_X0 (by decide) mX0_softens_f21 rfl dX0_softens_64 ?_
    refine q_iload_n (pc := 67) K dX0_softens_67 rfl rfl ?_
    refine q_iald (pc := 68) (a := 8 * j + 3) K (by rw [wna_t hG]; have := hj; omega) (vinN (wlc3 hG hj) (by omega) (by omega)) dX0_softens_68 ?_
    refine q_iconst (pc := 69) (v := 1) K dX0_softens_69 (by decide) ?_
    refine q_isub (pc := 70) K dX0_softens_70 ?_
    refine q_mmax (pc := 71) K mX0_softens_l125 mX0_softens_s125 mX0_softens_iM mX0_softens_d125 (Nat.le_of_ble_eq_true rfl) (Nat.le_of_ble_eq_true rfl) dX0_softens_71 ?_
    refine q_iast (pc := 74) (a := 8 * j + 3) K (by rw [wna_t hG]; have := hj; omega) (vinN (wlc3 hG hj) (by omega) (by omega)) dX0_softens_74 (fun s3 e4 => ?_)
    have hw5 : WD s3 := by rw [e4]; exact wdA hw (by have := hj; omega)
    refine q_aload_n (pc := 75) K dX0_softens_75 rfl rfl ?_
    refine q_get (pc := 76) (o := j) (f := 3) (v := .ref (gad G (8 * j + 3))) K (wO_ch hG hj) vw_0 iwX0_softens_X0 (by decide) mX0_softens_f21 rfl dX0_softens_76 ?_
    refine q_iload_n (pc := 79) K dX0_softens_79 rfl rfl ?_
    refine q_iald (pc := 80) (a := 8 * j + 3) K (by rw [wna_t hG]; have := hj; omega) (vinN (wlc3 hG hj) (by omega) (by omega)) dX0_softens_80 ?_
    refine q_aload_n (pc := 81) K dX0_softens_81 rfl rfl ?_
    refine q_get (pc := 82) (o := j) (f := 0) (v := .ref (gad G (8 * j))) K (wO_ch hG hj) vw_0 iwX0_softens_X0 (by decide) mX0_softens_f9 rfl dX0_softens_82 ?_
    refine q_iload_n (pc := 85) K dX0_softens_85 rfl rfl ?_
    refine q_iald (pc := 86) (a := 8 * j) K (by rw [wna_t hG]; have := hj; omega) (vinN (wlc0 hG hj) (by omega) (by omega)) dX0_softens_86 ?_
    refine q_callSi (pc := 87) (rm := rmX1_runsAt) K (kX1_runsAt l hN (rA s3 (8 * j) v1) s3) gX0_softens_X1_runsAt rfl hdS_X1_runsAt ⟨Nat.le_of_ble_eq_true rfl, Nat.le_of_ble_eq_true rfl⟩ rfl rfl ⟨Nat.zero_le _, Nat.zero_le _⟩ rfl rfl (Nat.le_of_ble_eq_true rfl) dX0_softens_87 ?_
    refine q_icmp_lt (pc := 90) (tgt := 97) K dX0_softens_90 (by decide) (fun c6 => ?_) (fun c6 => ?_)
    · have i7 := ltI c6
      refine q_iconst (pc := 97) (v := 0) K dX0_softens_97 (by decide) ?_
      exact q_zret K hr (Or.inl rfl) dX0_softens_98
    · have i8 := nltI c6
      refine q_iconst (pc := 93) (v := 1) K dX0_softens_93 (by decide) ?_
      refine q_goto (pc := 94) (tgt := 98) K dX0_softens_94 (by decide) ?_
      exact q_zret K hr (Or.inr rfl) dX0_softens_98
  · have i16 := nleI c2
    refine q_bipush (pc := 46) (v := 99) K dX0_softens_46 (by decide) ?_
    refine q_aload_n (pc := 48) K dX0_softens_48 rfl rfl ?_
    refine q_get (pc := 49) (o := j) (f := 3) (v := .ref (gad G (8 * j + 3))) K (wO_ch hG hj) vw_0 iwX0_softens_X0 (by decide) mX0_softens_f21 rfl dX0_softens_49 ?_
    refine q_iload_n (pc := 52) K dX0_softens_52 rfl rfl ?_
    refine q_iald (pc := 53) (a := 8 * j + 3) K (by rw [wna_t hG]; have := hj; omega) (vinN (wlc3 hG hj) (by omega) (by omega)) dX0_softens_53 ?_
    refine q_iload_n (pc := 54) K dX0_softens_54 rfl rfl ?_
    refine q_iadd (pc := 55) K dX0_softens_55 ?_
    refine q_mmin (pc := 56) K mX0_softens_l79 mX0_softens_s79 mX0_softens_iM mX0_softens_d79 (Nat.le_of_ble_eq_true rfl) (Nat.le_of_ble_eq_true rfl) dX0_softens_56 ?_
    refine q_goto (pc := 59) (tgt := 74) K dX0_softens_59 (by decide) ?_
    refine q_iast (pc := 74) (a := 8 * j + 3) K (by rw [wna_t hG]; have := hj; omega) (vinN (wlc3 hG hj) (by omega) (by omega)) dX0_softens_74 (fun s9 e10 => ?_)
    have hw11 : WD s9 := by rw [e10]; exact wdA hw (by have := hj; omega)
    refine q_aload_n (pc := 75) K dX0_softens_75 rfl rfl ?_
    refine q_get (pc := 76) (o := j) (f := 3) (v := .ref (gad G (8 * j + 3))) K (wO_ch hG hj) vw_0 iwX0_softens_X0 (by decide) mX0_softens_f21 rfl dX0_softens_76 ?_
    refine q_iload_n (pc := 79) K dX0_softens_79 rfl rfl ?_
    refine q_iald (pc := 80) (a := 8 * j + 3) K (by rw [wna_t hG]; have := hj; omega) (vinN (wlc3 hG hj) (by omega) (by omega)) dX0_softens_80 ?_
    refine q_aload_n (pc := 81) K dX0_softens_81 rfl rfl ?_
    refine q_get (pc := 82) (o := j) (f := 0) (v := .ref (gad G (8 * j))) K (wO_ch hG hj) vw_0 iwX0_softens_X0 (by decide) mX0_softens_f9 rfl dX0_softens_82 ?_
    refine q_iload_n (pc := 85) K dX0_softens_85 rfl rfl ?_
    refine q_iald (pc := 86) (a := 8 * j) K (by rw [wna_t hG]; have := hj; omega) (vinN (wlc0 hG hj) (by omega) (by omega)) dX0_softens_86 ?_
    refine q_callSi (pc := 87) (rm := rmX1_runsAt) K (kX1_runsAt l hN (rA s9 (8 * j) v1) s9) gX0_softens_X1_runsAt rfl hdS_X1_runsAt ⟨Nat.le_of_ble_eq_true rfl, Nat.le_of_ble_eq_true rfl⟩ rfl rfl ⟨Nat.zero_le _, Nat.zero_le _⟩ rfl rfl (Nat.le_of_ble_eq_true rfl) dX0_softens_87 ?_
    refine q_icmp_lt (pc := 90) (tgt := 97) K dX0_softens_90 (by decide) (fun c12 => ?_) (fun c12 => ?_)
    · have i13 := ltI c12
      refine q_iconst (pc := 97) (v := 0) K dX0_softens_97 (by decide) ?_
      exact q_zret K hr (Or.inl rfl) dX0_softens_98
    · have i14 := nltI c12
      refine q_iconst (pc := 93) (v := 1) K dX0_softens_93 (by decide) ?_
      refine q_goto (pc := 94) (tgt := 98) K dX0_softens_94 (by decide) ?_
      exact q_zret K hr (Or.inr rfl) dX0_softens_98
theorem hdV_X0_dropOn : yX0_dropOn.cls = RX0 ∧ yX0_dropOn.cls ≠ "java/lang/invoke/MethodHandle" ∧ yX0_dropOn.cls ≠ "java/lang/invoke/VarHandle" ∧ (parseMethodDescriptor yX0_dropOn.desc).map (fun d => d.parameters.length) = some 1 := by decide +kernel
theorem mX0_dropOn_f37 : Cond.fieldLink RX0 37 "WaxTreaties$Chancery" "deeds" "I" ∈ wsX0_dropOn := List.mem_of_getElem? (i := 1) rfl
theorem iwX0_dropOn_X0 : ∀ w ∈ wsX00, w ∈ wsX0_dropOn := fun w h => List.mem_cons_of_mem _ (List.mem_append_right _ h)
theorem mX0_dropOn_f15 : Cond.fieldLink RX0 15 "WaxTreaties$Chancery" "shelf" "[I" ∈ wsX0_dropOn := List.mem_of_getElem? (i := 2) rfl
theorem mX0_dropOn_f33 : Cond.fieldLink RX0 33 "WaxTreaties$Chancery" "run" "I" ∈ wsX0_dropOn := List.mem_of_getElem? (i := 3) rfl
theorem mX0_dropOn_iX4 : Cond.initialized RX4 ∈ wsX0_dropOn := List.mem_of_getElem? (i := 10) rfl
theorem mX0_dropOn_stX4_has : Cond.static yX4_has ∈ wsX0_dropOn := List.mem_of_getElem? (i := 9) rfl
theorem mX0_dropOn_f21 : Cond.fieldLink RX0 21 "WaxTreaties$Chancery" "soft" "[I" ∈ wsX0_dropOn := List.mem_of_getElem? (i := 4) rfl
theorem mX0_dropOn_l79 : Cond.methodLink RX0 79 Lib.Math.min.name ∈ wsX0_dropOn := List.mem_of_getElem? (i := 5) rfl
theorem mX0_dropOn_s79 : Cond.static Lib.Math.min.name ∈ wsX0_dropOn := List.mem_of_getElem? (i := 6) rfl
theorem mX0_dropOn_iM : Cond.initialized "java/lang/Math" ∈ wsX0_dropOn := List.mem_of_getElem? (i := 7) rfl
theorem mX0_dropOn_d79 : Cond.code Lib.Math.min.name Lib.Math.min.code 2 (some .int) ∈ wsX0_dropOn := List.mem_of_getElem? (i := 8) rfl
set_option maxRecDepth 100000 in
set_option maxHeartbeats 4000000 in
theorem lX0_dropOn_2 {p : Program} (l : Launch) {e : Env} {s : State} {m : MethodId} {args : Array Value} {below : List Frame} {meth : Method} {c : Code} {Q : State → Prop} {G : gT} (hN : wN G) (hG : gfl G = true) (K : qK p s m args meth c cX0_dropOn 3 RX0 wsX0_dropOn G) (j : Nat) (hj : j < 3) : ∀ (k : Nat) (v1 v2 : Int32) (σ : sg) (hw : WD σ) (hv2 : 0 ≤ v2.toInt ∧ v2.toInt ≤ 8) (hmu : (8 - v2.toInt).toNat < k) {ρ : Type} {E : ρ → Prop} {f : sg → ρ} (hk : ∀ r : sg, (WD r) → qq p l e (headSpec wsX0_dropOn rmX0_dropOn).room s m args below meth c Q 3 G E (f r) 56 [none, none, none] [] r), qq p l e (headSpec wsX0_dropOn rmX0_dropOn).room s m args below meth c Q 3 G E (bnd (LX0_dropOn_2 j k v1 v2 σ) f) 2 [some (.ref (gob G j)), some (.int v1), some (.int v2)] [] σ := by
  intro k
  induction k with
  | zero => intro v1 v2 σ hw hv2 hmu ρ E f hk; exact absurd hmu (Nat.not_lt_zero _)
  | succ k ih =>
    intro v1 v2 σ hw hv2 hmu ρ E f hk
    have k0 : (0 : Int32).toInt = 0 := rfl
    have k1 : (1 : Int32).toInt = 1 := rfl
    have k3 : (3 : Int32).toInt = 3 := rfl
    have k99 : (99 : Int32).toInt = 99 := rfl
    refine qq_in ?_
    refine qq_T (LX0_dropOn_2.eq_2 ..) ?_
    refine q_iload_n (pc := 2) K dX0_dropOn_2 rfl rfl ?_
    refine q_aload_n (pc := 3) K dX0_dropOn_3 rfl rfl ?_
    refine q_get (pc := 4) (o := j) (f := 8) (v := .int (rF σ (7 * j + 1))) K (wO_ch hG hj) vw_0 iwX0_dropOn_X0 (by decide) mX0_dropOn_f37 rfl dX0_dropOn_4 ?_
    have w1 := wd_deeds hw hj
    refine q_icmp_ge (pc := 7) (tgt := 56) K dX0_dropOn_7 (by decide) (fun c2 => ?_) (fun c2 => ?_)
    · have i16 := leI c2
      refine qq_drop 0 (lv' := [none, some (.int v1), some (.int v2)]) rfl ?_
      refine qq_drop 1 (lv' := [none, none, some (.int v2)]) rfl ?_
      refine qq_drop 2 (lv' := [none, none, none]) rfl ?_
      exact qq_leaf (hk σ hw)
    · have i17 := nleI c2
      refine q_aload_n (pc := 10) K dX0_dropOn_10 rfl rfl ?_
      refine q_get (pc := 11) (o := j) (f := 1) (v := .ref (gad G (8 * j + 1))) K (wO_ch hG hj) vw_0 iwX0_dropOn_X0 (by decide) mX0_dropOn_f15 rfl dX0_dropOn_11 ?_
      refine q_iload_n (pc := 14) K dX0_dropOn_14 rfl rfl ?_
      refine q_iald (pc := 15) (a := 8 * j + 1) K (by rw [wna_t hG]; have := hj; omega) (vinN (wlc1 hG hj) (by omega) (by omega)) dX0_dropOn_15 ?_
      have w3 := wd_shelf hw hj v2
      refine q_iload_n (pc := 16) K dX0_dropOn_16 rfl rfl ?_
      refine q_icmp_ne (pc := 17) (tgt := 50) K dX0_dropOn_17 (by decide) (fun c4 => ?_) (fun c4 => ?_)
      · have i14 := neI c4
        refine q_iinc (pc := 50) (v := (v2 + 1)) (lv' := [some (.ref (gob G j)), some (.int v1), some (.int (v2 + 1))]) K dX0_dropOn_50 rfl rfl (by decide) rfl ?_
        refine q_goto (pc := 53) (tgt := 2) K dX0_dropOn_53 (by decide) ?_
        have a5 := addI (x := v2) (y := 1) (by omega) (by omega)
        exact qq_out (ih v1 (v2 + 1) σ hw (by omega) (by omega) hk)
      · have i15 := eqI c4
        refine q_aload_n (pc := 20) K dX0_dropOn_20 rfl rfl ?_
        refine q_get (pc := 21) (o := j) (f := 7) (v := .int (rF σ (7 * j))) K (wO_ch hG hj) vw_0 iwX0_dropOn_X0 (by decide) mX0_dropOn_f33 rfl dX0_dropOn_21 ?_
        refine q_iload_n (pc := 24) K dX0_dropOn_24 rfl rfl ?_
        refine q_callNi (pc := 25) (rm := rmX4_has) K (kX4_has l hN (rF σ (7 * j)) v2 σ) gX0_dropOn_X4_has_n95 (nS_3 K.2.2.2.2.2.2.2.2.1) mX0_dropOn_iX4 mX0_dropOn_stX4_has rfl hdS_X4_has ⟨Nat.le_of_ble_eq_true rfl, Nat.le_of_ble_eq_true rfl⟩ rfl rfl ⟨Nat.zero_le _, Nat.zero_le _⟩ rfl rfl (Nat.le_of_ble_eq_true rfl) dX0_dropOn_25 ?_
        refine q_if_ne (pc := 28) (tgt := 50) K dX0_dropOn_28 (by decide) (fun c6 => ?_) (fun c6 => ?_)
        · have i12 := neI c6
          refine q_iinc (pc := 50) (v := (v2 + 1)) (lv' := [some (.ref (gob G j)), some (.int v1), some (.int (v2 + 1))]) K dX0_dropOn_50 rfl rfl (by decide) rfl ?_
          refine q_goto (pc := 53) (tgt := 2) K dX0_dropOn_53 (by decide) ?_
          have a7 := addI (x := v2) (y := 1) (by omega) (by omega)
          exact qq_out (ih v1 (v2 + 1) σ hw (by omega) (by omega) hk)
        · have i13 := eqI c6
          refine q_aload_n (pc := 31) K dX0_dropOn_31 rfl rfl ?_
          refine q_get (pc := 32) (o := j) (f := 3) (v := .ref (gad G (8 * j + 3))) K (wO_ch hG hj) vw_0 iwX0_dropOn_X0 (by decide) mX0_dropOn_f21 rfl dX0_dropOn_32 ?_
          refine q_iload_n (pc := 35) K dX0_dropOn_35 rfl rfl ?_
          refine q_bipush (pc := 36) (v := 99) K dX0_dropOn_36 (by decide) ?_
          refine q_aload_n (pc := 38) K dX0_dropOn_38 rfl rfl ?_
          refine q_get (pc := 39) (o := j) (f := 3) (v := .ref (gad G (8 * j + 3))) K (wO_ch hG hj) vw_0 iwX0_dropOn_X0 (by decide) mX0_dropOn_f21 rfl dX0_dropOn_39 ?_
          refine q_iload_n (pc := 42) K dX0_dropOn_42 rfl rfl ?_
          refine q_iald (pc := 43) (a := 8 * j + 3) K (by rw [wna_t hG]; have := hj; omega) (vinN (wlc3 hG hj) (by omega) (by omega)) dX0_dropOn_43 ?_
          refine q_iconst (pc := 44) (v := 3) K dX0_dropOn_44 (by decide) ?_
          refine q_iadd (pc := 45) K dX0_dropOn_45 ?_
          refine q_mmin (pc := 46) K mX0_dropOn_l79 mX0_dropOn_s79 mX0_dropOn_iM mX0_dropOn_d79 (Nat.le_of_ble_eq_true rfl) (Nat.le_of_ble_eq_true rfl) dX0_dropOn_46 ?_
          refine q_iast (pc := 49) (a := 8 * j + 3) K (by rw [wna_t hG]; have := hj; omega) (vinN (wlc3 hG hj) (by omega) (by omega)) dX0_dropOn_49 (fun s8 e9 => ?_)
          have hw10 : WD s8 := by rw [e9]; exact wdA hw (by have := hj; omega)
          refine q_iinc (pc := 50) (v := (v2 + 1)) (lv' := [some (.ref (gob G j)), some (.int v1), some (.int (v2 + 1))]) K dX0_dropOn_50 rfl rfl (by decide) rfl ?_
          refine q_goto (pc := 53) (tgt := 2) K dX0_dropOn_53 (by decide) ?_
          have a11 := addI (x := v2) (y := 1) (by omega) (by omega)
          exact qq_out (ih v1 (v2 + 1) s8 hw10 (by omega) (by omega) hk)
set_option maxRecDepth 100000 in
set_option maxHeartbeats 4000000 in
theorem kX0_dropOn (l : Launch) {G : gT} (hN : wN G) (hG : gfl G = true) (j : Nat) (hj : j < 3) (v1 : Int32) (σ : sg) (hw : WD σ) : cM l yX0_dropOn wsX0_dropOn rmX0_dropOn G [.ref (gob G j), .int v1] σ none (fX0_dropOn j v1 σ) := by
  refine cM_of (maxL := 3) (ret := none) (cc := cX0_dropOn) (fX0_dropOn j v1 σ) RX0 hN (by decide +kernel) rfl rfl (Nat.le_of_ble_eq_true rfl) rfl ?_
  intro p e s m args below meth c K hr
  have k0 : (0 : Int32).toInt = 0 := rfl
  refine qq_st (lv' := [some (.ref (gob G j)), some (.int v1), none]) rfl rfl rfl ?_
  refine qq_T (fX0_dropOn.eq_1 ..) ?_
  refine q_iconst (pc := 0) (v := 0) K dX0_dropOn_0 (by decide) ?_
  refine q_istore_n (pc := 1) (lv' := [some (.ref (gob G j)), some (.int v1), some (.int 0)]) K dX0_dropOn_1 rfl (by decide) (Nat.le_of_ble_eq_true rfl) rfl ?_
  refine lX0_dropOn_2 l hN hG K j hj 9 v1 0 σ hw (by omega) (by omega) (fun r18 hw20 => ?_)
  exact q_vretW K hr dX0_dropOn_56
theorem hdV_X0_passHour : yX0_passHour.cls = RX0 ∧ yX0_passHour.cls ≠ "java/lang/invoke/MethodHandle" ∧ yX0_passHour.cls ≠ "java/lang/invoke/VarHandle" ∧ (parseMethodDescriptor yX0_passHour.desc).map (fun d => d.parameters.length) = some 0 := by decide +kernel
theorem mX0_passHour_f46 : Cond.fieldLink RX0 46 "WaxTreaties$Chancery" "hour" "I" ∈ wsX0_passHour := List.mem_of_getElem? (i := 1) rfl
theorem iwX0_passHour_X0 : ∀ w ∈ wsX00, w ∈ wsX0_passHour := fun w h => List.mem_cons_of_mem _ (List.mem_append_right _ h)
theorem mX0_passHour_f55 : Cond.fieldLink RX0 55 "WaxTreaties$Chancery" "heats" "[I" ∈ wsX0_passHour := List.mem_of_getElem? (i := 2) rfl
theorem mX0_passHour_f37 : Cond.fieldLink RX0 37 "WaxTreaties$Chancery" "deeds" "I" ∈ wsX0_passHour := List.mem_of_getElem? (i := 3) rfl
theorem mX0_passHour_f33 : Cond.fieldLink RX0 33 "WaxTreaties$Chancery" "run" "I" ∈ wsX0_passHour := List.mem_of_getElem? (i := 4) rfl
theorem mX0_passHour_iX4 : Cond.initialized RX4 ∈ wsX0_passHour := List.mem_of_getElem? (i := 23) rfl
theorem mX0_passHour_stX4_has : Cond.static yX4_has ∈ wsX0_passHour := List.mem_of_getElem? (i := 22) rfl
theorem mX0_passHour_stX4_with : Cond.static yX4_with ∈ wsX0_passHour := List.mem_of_getElem? (i := 48) rfl
theorem mX0_passHour_f15 : Cond.fieldLink RX0 15 "WaxTreaties$Chancery" "shelf" "[I" ∈ wsX0_passHour := List.mem_of_getElem? (i := 5) rfl
theorem mX0_passHour_f27 : Cond.fieldLink RX0 27 "WaxTreaties$Chancery" "ice" "[I" ∈ wsX0_passHour := List.mem_of_getElem? (i := 6) rfl
set_option maxRecDepth 100000 in
set_option maxHeartbeats 4000000 in
theorem lX0_passHour_10 {p : Program} (l : Launch) {e : Env} {s : State} {m : MethodId} {args : Array Value} {below : List Frame} {meth : Method} {c : Code} {Q : State → Prop} {G : gT} (hN : wN G) (hG : gfl G = true) (K : qK p s m args meth c cX0_passHour 4 RX0 wsX0_passHour G) (j : Nat) (hj : j < 3) : ∀ (k : Nat) (v1 v2 : Int32) (σ : sg) (hw : WD σ) (hv2 : 0 ≤ v2.toInt ∧ v2.toInt ≤ 6) (hmu : (6 - v2.toInt).toNat < k) {ρ : Type} {E : ρ → Prop} {f : sg → ρ} (hk : ∀ r : sg, (WD r) → qq p l e (headSpec wsX0_passHour rmX0_passHour).room s m args below meth c Q 4 G E (f r) 34 [some (.ref (gob G j)), none, none, none] [] r), qq p l e (headSpec wsX0_passHour rmX0_passHour).room s m args below meth c Q 4 G E (bnd (LX0_passHour_10 j k v1 v2 σ) f) 10 [some (.ref (gob G j)), some (.int v1), some (.int v2), none] [] σ := by
  intro k
  induction k with
  | zero => intro v1 v2 σ hw hv2 hmu ρ E f hk; exact absurd hmu (Nat.not_lt_zero _)
  | succ k ih =>
    intro v1 v2 σ hw hv2 hmu ρ E f hk
    have k0 : (0 : Int32).toInt = 0 := rfl
    have k1 : (1 : Int32).toInt = 1 := rfl
    have k6 : (6 : Int32).toInt = 6 := rfl
    refine qq_in ?_
    refine qq_T (LX0_passHour_10.eq_2 ..) ?_
    refine q_iload_n (pc := 10) K dX0_passHour_10 rfl rfl ?_
    refine q_bipush (pc := 11) (v := 6) K dX0_passHour_11 (by decide) ?_
    refine q_icmp_ge (pc := 13) (tgt := 34) K dX0_passHour_13 (by decide) (fun c1 => ?_) (fun c1 => ?_)
    · have i6 := leI c1
      refine qq_drop 1 (lv' := [some (.ref (gob G j)), none, some (.int v2), none]) rfl ?_
      refine qq_drop 2 (lv' := [some (.ref (gob G j)), none, none, none]) rfl ?_
      exact qq_leaf (hk σ hw)
    · have i7 := nleI c1
      refine q_aload_n (pc := 16) K dX0_passHour_16 rfl rfl ?_
      refine q_get (pc := 17) (o := j) (f := 14) (v := .ref (gad G (8 * j + 7))) K (wO_ch hG hj) vw_0 iwX0_passHour_X0 (by decide) mX0_passHour_f55 rfl dX0_passHour_17 ?_
      refine q_iload_n (pc := 20) K dX0_passHour_20 rfl rfl ?_
      refine q_aload_n (pc := 21) K dX0_passHour_21 rfl rfl ?_
      refine q_iload_n (pc := 22) K dX0_passHour_22 rfl rfl ?_
      refine q_iload_n (pc := 23) K dX0_passHour_23 rfl rfl ?_
      refine q_callVi (pc := 24) (o := j) (rm := rmX0_heatUnder) K (kX0_heatUnder l hN hG j hj v1 v2 σ hw (by omega)) gX0_passHour_X0_heatUnder rfl hdV_X0_heatUnder ⟨Nat.le_of_ble_eq_true rfl, Nat.le_of_ble_eq_true rfl⟩ rfl rfl ⟨Nat.zero_le _, Nat.zero_le _⟩ (wO_ch hG hj) vw_0 rfl rfl (Nat.le_of_ble_eq_true rfl) dX0_passHour_24 ?_
      refine q_iast (pc := 27) (a := 8 * j + 7) K (by rw [wna_t hG]; have := hj; omega) (vinN (wlc7 hG hj) (by omega) (by omega)) dX0_passHour_27 (fun s2 e3 => ?_)
      have hw4 : WD s2 := by rw [e3]; exact wdA hw (by have := hj; omega)
      refine q_iinc (pc := 28) (v := (v2 + 1)) (lv' := [some (.ref (gob G j)), some (.int v1), some (.int (v2 + 1)), none]) K dX0_passHour_28 rfl rfl (by decide) rfl ?_
      refine q_goto (pc := 31) (tgt := 10) K dX0_passHour_31 (by decide) ?_
      have a5 := addI (x := v2) (y := 1) (by omega) (by omega)
      exact qq_out (ih v1 (v2 + 1) s2 hw4 (by omega) (by omega) hk)
set_option maxRecDepth 100000 in
set_option maxHeartbeats 4000000 in
theorem lX0_passHour_38 {p : Program} (l : Launch) {e : Env} {s : State} {m : MethodId} {args : Array Value} {below : List Frame} {meth : Method} {c : Code} {Q : State → Prop} {G : gT} (hN : wN G) (hG : gfl G = true) (K : qK p s m args meth c cX0_passHour 4 RX0 wsX0_passHour G) (j : Nat) (hj : j < 3) : ∀ (k : Nat) (v2 v3 : Int32) (σ : sg) (hw : WD σ) (hv3 : 0 ≤ v3.toInt ∧ v3.toInt ≤ 8) (hmu : (8 - v3.toInt).toNat < k) {ρ : Type} {E : ρ → Prop} {f : Int32 × sg → ρ} (hk : ∀ r : Int32 × sg, (WD r.2) → qq p l e (headSpec wsX0_passHour rmX0_passHour).room s m args below meth c Q 4 G E (f r) 98 [some (.ref (gob G j)), none, some (.int r.1), none] [] r.2), qq p l e (headSpec wsX0_passHour rmX0_passHour).room s m args below meth c Q 4 G E (bnd (LX0_passHour_38 j k v2 v3 σ) f) 38 [some (.ref (gob G j)), none, some (.int v2), some (.int v3)] [] σ := by
  intro k
  induction k with
  | zero => intro v2 v3 σ hw hv3 hmu ρ E f hk; exact absurd hmu (Nat.not_lt_zero _)
  | succ k ih =>
    intro v2 v3 σ hw hv3 hmu ρ E f hk
    have k0 : (0 : Int32).toInt = 0 := rfl
    have k1 : (1 : Int32).toInt = 1 := rfl
    refine qq_in ?_
    refine qq_T (LX0_passHour_38.eq_2 ..) ?_
    refine q_iload_n (pc := 38) K dX0_passHour_38 rfl rfl ?_
    refine q_aload_n (pc := 39) K dX0_passHour_39 rfl rfl ?_
    refine q_get (pc := 40) (o := j) (f := 8) (v := .int (rF σ (7 * j + 1))) K (wO_ch hG hj) vw_0 iwX0_passHour_X0 (by decide) mX0_passHour_f37 rfl dX0_passHour_40 ?_
    have w11 := wd_deeds hw hj
    refine q_icmp_ge (pc := 43) (tgt := 98) K dX0_passHour_43 (by decide) (fun c12 => ?_) (fun c12 => ?_)
    · have i33 := leI c12
      refine qq_drop 3 (lv' := [some (.ref (gob G j)), none, some (.int v2), none]) rfl ?_
      exact qq_leaf (hk (v2, σ) hw)
    · have i34 := nleI c12
      refine q_aload_n (pc := 46) K dX0_passHour_46 rfl rfl ?_
      refine q_get (pc := 47) (o := j) (f := 7) (v := .int (rF σ (7 * j))) K (wO_ch hG hj) vw_0 iwX0_passHour_X0 (by decide) mX0_passHour_f33 rfl dX0_passHour_47 ?_
      refine q_iload_n (pc := 50) K dX0_passHour_50 rfl rfl ?_
      refine q_callNi (pc := 51) (rm := rmX4_has) K (kX4_has l hN (rF σ (7 * j)) v3 σ) gX0_passHour_X4_has_n95 (nS_3 K.2.2.2.2.2.2.2.2.1) mX0_passHour_iX4 mX0_passHour_stX4_has rfl hdS_X4_has ⟨Nat.le_of_ble_eq_true rfl, Nat.le_of_ble_eq_true rfl⟩ rfl rfl ⟨Nat.zero_le _, Nat.zero_le _⟩ rfl rfl (Nat.le_of_ble_eq_true rfl) dX0_passHour_51 ?_
      refine q_if_ne (pc := 54) (tgt := 92) K dX0_passHour_54 (by decide) (fun c13 => ?_) (fun c13 => ?_)
      · have i31 := neI c13
        refine q_iinc (pc := 92) (v := (v3 + 1)) (lv' := [some (.ref (gob G j)), none, some (.int v2), some (.int (v3 + 1))]) K dX0_passHour_92 rfl rfl (by decide) rfl ?_
        refine q_goto (pc := 95) (tgt := 38) K dX0_passHour_95 (by decide) ?_
        have a14 := addI (x := v3) (y := 1) (by omega) (by omega)
        exact qq_out (ih v2 (v3 + 1) σ hw (by omega) (by omega) hk)
      · have i32 := eqI c13
        refine q_aload_n (pc := 57) K dX0_passHour_57 rfl rfl ?_
        refine q_iload_n (pc := 58) K dX0_passHour_58 rfl rfl ?_
        refine q_callVi (pc := 59) (o := j) (rm := rmX0_softens) K (kX0_softens l hN hG j hj v3 σ hw (by omega)) gX0_passHour_X0_softens rfl hdV_X0_softens ⟨Nat.le_of_ble_eq_true rfl, Nat.le_of_ble_eq_true rfl⟩ rfl rfl ⟨Nat.zero_le _, Nat.zero_le _⟩ (wO_ch hG hj) vw_0 rfl rfl (Nat.le_of_ble_eq_true rfl) dX0_passHour_59 ?_
        refine qq_nmI (fun r15 e16 => ?_)
        have hw17 : WD r15.2 := by rw [e16]; exact wX0_softens j hj v3 hw (by omega)
        refine q_if_eq (pc := 62) (tgt := 92) K dX0_passHour_62 (by decide) (fun c18 => ?_) (fun c18 => ?_)
        · have i29 := eqI c18
          refine q_iinc (pc := 92) (v := (v3 + 1)) (lv' := [some (.ref (gob G j)), none, some (.int v2), some (.int (v3 + 1))]) K dX0_passHour_92 rfl rfl (by decide) rfl ?_
          refine q_goto (pc := 95) (tgt := 38) K dX0_passHour_95 (by decide) ?_
          have a19 := addI (x := v3) (y := 1) (by omega) (by omega)
          exact qq_out (ih v2 (v3 + 1) r15.2 hw17 (by omega) (by omega) hk)
        · have i30 := neI c18
          refine q_aload_n (pc := 65) K dX0_passHour_65 rfl rfl ?_
          refine q_aload_n (pc := 66) K dX0_passHour_66 rfl rfl ?_
          refine q_get (pc := 67) (o := j) (f := 7) (v := .int (rF r15.2 (7 * j))) K (wO_ch hG hj) vw_0 iwX0_passHour_X0 (by decide) mX0_passHour_f33 rfl dX0_passHour_67 ?_
          refine q_iload_n (pc := 70) K dX0_passHour_70 rfl rfl ?_
          refine q_callNi (pc := 71) (rm := rmX4_with) K (kX4_with l hN (rF r15.2 (7 * j)) v3 r15.2) gX0_passHour_X4_with_n72 (nS_1 K.2.2.2.2.2.2.2.2.1) mX0_passHour_iX4 mX0_passHour_stX4_with rfl hdS_X4_with ⟨Nat.le_of_ble_eq_true rfl, Nat.le_of_ble_eq_true rfl⟩ rfl rfl ⟨Nat.zero_le _, Nat.zero_le _⟩ rfl rfl (Nat.le_of_ble_eq_true rfl) dX0_passHour_71 ?_
          refine q_put (pc := 74) (o := j) (f := 7) (i := (7 * j)) (ty := .int) K tyX0 tyX0_ok nmX0 (wO_ch hG hj) vw_0 iwX0_passHour_X0 (by decide) mX0_passHour_f33 rfl (tyX0_ok 7 (by decide)) rfl rfl (Nat.le_of_ble_eq_true rfl) (wP_ch7 hG hj _) dX0_passHour_74 (fun s20 e21 => ?_)
          have hw22 : WD s20 := by rw [e21]; exact wdF hw17 (by have := hj; omega)
          refine q_aload_n (pc := 77) K dX0_passHour_77 rfl rfl ?_
          refine q_aload_n (pc := 78) K dX0_passHour_78 rfl rfl ?_
          refine q_get (pc := 79) (o := j) (f := 1) (v := .ref (gad G (8 * j + 1))) K (wO_ch hG hj) vw_0 iwX0_passHour_X0 (by decide) mX0_passHour_f15 rfl dX0_passHour_79 ?_
          refine q_iload_n (pc := 82) K dX0_passHour_82 rfl rfl ?_
          refine q_iald (pc := 83) (a := 8 * j + 1) K (by rw [wna_t hG]; have := hj; omega) (vinN (wlc1 hG hj) (by omega) (by omega)) dX0_passHour_83 ?_
          have w23 := wd_shelf hw22 hj v3
          refine q_iconst (pc := 84) (v := 1) K dX0_passHour_84 (by decide) ?_
          refine q_iadd (pc := 85) K dX0_passHour_85 ?_
          have a24 := addI (x := (rA s20 (8 * j + 1) v3)) (y := 1) (by omega) (by omega)
          refine q_callVv (pc := 86) (o := j) (rm := rmX0_dropOn) K (kX0_dropOn l hN hG j hj ((rA s20 (8 * j + 1) v3) + 1) s20 hw22) gX0_passHour_X0_dropOn rfl hdV_X0_dropOn ⟨Nat.le_of_ble_eq_true rfl, Nat.le_of_ble_eq_true rfl⟩ rfl rfl ⟨Nat.zero_le _, Nat.zero_le _⟩ (wO_ch hG hj) vw_0 rfl rfl (Nat.le_of_ble_eq_true rfl) dX0_passHour_86 ?_
          refine qq_nmV (fun r25 e26 => ?_)
          have hw27 : WD r25 := by rw [e26]; exact wX0_dropOn j hj ((rA s20 (8 * j + 1) v3) + 1) hw22 
          refine q_iinc (pc := 89) (v := (v2 + 1)) (lv' := [some (.ref (gob G j)), none, some (.int (v2 + 1)), some (.int v3)]) K dX0_passHour_89 rfl rfl (by decide) rfl ?_
          refine q_iinc (pc := 92) (v := (v3 + 1)) (lv' := [some (.ref (gob G j)), none, some (.int (v2 + 1)), some (.int (v3 + 1))]) K dX0_passHour_92 rfl rfl (by decide) rfl ?_
          refine q_goto (pc := 95) (tgt := 38) K dX0_passHour_95 (by decide) ?_
          have a28 := addI (x := v3) (y := 1) (by omega) (by omega)
          exact qq_out (ih (v2 + 1) (v3 + 1) r25 hw27 (by omega) (by omega) hk)
set_option maxRecDepth 100000 in
set_option maxHeartbeats 4000000 in
theorem lX0_passHour_100 {p : Program} (l : Launch) {e : Env} {s : State} {m : MethodId} {args : Array Value} {below : List Frame} {meth : Method} {c : Code} {Q : State → Prop} {G : gT} (hN : wN G) (hG : gfl G = true) (K : qK p s m args meth c cX0_passHour 4 RX0 wsX0_passHour G) (j : Nat) (hj : j < 3) : ∀ (k : Nat) (v2 v3 : Int32) (σ : sg) (hw : WD σ) (hv3 : 0 ≤ v3.toInt ∧ v3.toInt ≤ 6) (hmu : (6 - v3.toInt).toNat < k) {ρ : Type} {E : ρ → Prop} {f : sg → ρ} (hk : ∀ r : sg, (WD r) → qq p l e (headSpec wsX0_passHour rmX0_passHour).room s m args below meth c Q 4 G E (f r) 142 [some (.ref (gob G j)), none, some (.int v2), none] [] r), qq p l e (headSpec wsX0_passHour rmX0_passHour).room s m args below meth c Q 4 G E (bnd (LX0_passHour_100 j k v2 v3 σ) f) 100 [some (.ref (gob G j)), none, some (.int v2), some (.int v3)] [] σ := by
  intro k
  induction k with
  | zero => intro v2 v3 σ hw hv3 hmu ρ E f hk; exact absurd hmu (Nat.not_lt_zero _)
  | succ k ih =>
    intro v2 v3 σ hw hv3 hmu ρ E f hk
    have k0 : (0 : Int32).toInt = 0 := rfl
    have k1 : (1 : Int32).toInt = 1 := rfl
    have k6 : (6 : Int32).toInt = 6 := rfl
    have k20 : (20 : Int32).toInt = 20 := rfl
    refine qq_in ?_
    refine qq_T (LX0_passHour_100.eq_2 ..) ?_
    refine q_iload_n (pc := 100) K dX0_passHour_100 rfl rfl ?_
    refine q_bipush (pc := 101) (v := 6) K dX0_passHour_101 (by decide) ?_
    refine q_icmp_ge (pc := 103) (tgt := 142) K dX0_passHour_103 (by decide) (fun c38 => ?_) (fun c38 => ?_)
    · have i51 := leI c38
      refine qq_drop 3 (lv' := [some (.ref (gob G j)), none, some (.int v2), none]) rfl ?_
      exact qq_leaf (hk σ hw)
    · have i52 := nleI c38
      refine q_aload_n (pc := 106) K dX0_passHour_106 rfl rfl ?_
      refine q_get (pc := 107) (o := j) (f := 14) (v := .ref (gad G (8 * j + 7))) K (wO_ch hG hj) vw_0 iwX0_passHour_X0 (by decide) mX0_passHour_f55 rfl dX0_passHour_107 ?_
      refine q_iload_n (pc := 110) K dX0_passHour_110 rfl rfl ?_
      refine q_iald (pc := 111) (a := 8 * j + 7) K (by rw [wna_t hG]; have := hj; omega) (vinN (wlc7 hG hj) (by omega) (by omega)) dX0_passHour_111 ?_
      refine q_bipush (pc := 112) (v := 20) K dX0_passHour_112 (by decide) ?_
      refine q_icmp_le (pc := 114) (tgt := 136) K dX0_passHour_114 (by decide) (fun c39 => ?_) (fun c39 => ?_)
      · have i49 := leI c39
        refine q_iinc (pc := 136) (v := (v3 + 1)) (lv' := [some (.ref (gob G j)), none, some (.int v2), some (.int (v3 + 1))]) K dX0_passHour_136 rfl rfl (by decide) rfl ?_
        refine q_goto (pc := 139) (tgt := 100) K dX0_passHour_139 (by decide) ?_
        have a40 := addI (x := v3) (y := 1) (by omega) (by omega)
        exact qq_out (ih v2 (v3 + 1) σ hw (by omega) (by omega) hk)
      · have i50 := nleI c39
        refine q_aload_n (pc := 117) K dX0_passHour_117 rfl rfl ?_
        refine q_get (pc := 118) (o := j) (f := 5) (v := .ref (gad G (8 * j + 5))) K (wO_ch hG hj) vw_0 iwX0_passHour_X0 (by decide) mX0_passHour_f27 rfl dX0_passHour_118 ?_
        refine q_iload_n (pc := 121) K dX0_passHour_121 rfl rfl ?_
        refine q_iald (pc := 122) (a := 8 * j + 5) K (by rw [wna_t hG]; have := hj; omega) (vinN (wlc5 hG hj) (by omega) (by omega)) dX0_passHour_122 ?_
        refine q_if_le (pc := 123) (tgt := 136) K dX0_passHour_123 (by decide) (fun c41 => ?_) (fun c41 => ?_)
        · have i47 := leI c41
          refine q_iinc (pc := 136) (v := (v3 + 1)) (lv' := [some (.ref (gob G j)), none, some (.int v2), some (.int (v3 + 1))]) K dX0_passHour_136 rfl rfl (by decide) rfl ?_
          refine q_goto (pc := 139) (tgt := 100) K dX0_passHour_139 (by decide) ?_
          have a42 := addI (x := v3) (y := 1) (by omega) (by omega)
          exact qq_out (ih v2 (v3 + 1) σ hw (by omega) (by omega) hk)
        · have i48 := nleI c41
          refine q_aload_n (pc := 126) K dX0_passHour_126 rfl rfl ?_
          refine q_get (pc := 127) (o := j) (f := 5) (v := .ref (gad G (8 * j + 5))) K (wO_ch hG hj) vw_0 iwX0_passHour_X0 (by decide) mX0_passHour_f27 rfl dX0_passHour_127 ?_
          refine q_iload_n (pc := 130) K dX0_passHour_130 rfl rfl ?_
          refine q_dup2 (pc := 131) K dX0_passHour_131 rfl rfl ?_
          refine q_iald (pc := 132) (a := 8 * j + 5) K (by rw [wna_t hG]; have := hj; omega) (vinN (wlc5 hG hj) (by omega) (by omega)) dX0_passHour_132 ?_
          refine q_iconst (pc := 133) (v := 1) K dX0_passHour_133 (by decide) ?_
          refine q_isub (pc := 134) K dX0_passHour_134 ?_
          refine q_iast (pc := 135) (a := 8 * j + 5) K (by rw [wna_t hG]; have := hj; omega) (vinN (wlc5 hG hj) (by omega) (by omega)) dX0_passHour_135 (fun s43 e44 => ?_)
          have hw45 : WD s43 := by rw [e44]; exact wdA hw (by have := hj; omega)
          refine q_iinc (pc := 136) (v := (v3 + 1)) (lv' := [some (.ref (gob G j)), none, some (.int v2), some (.int (v3 + 1))]) K dX0_passHour_136 rfl rfl (by decide) rfl ?_
          refine q_goto (pc := 139) (tgt := 100) K dX0_passHour_139 (by decide) ?_
          have a46 := addI (x := v3) (y := 1) (by omega) (by omega)
          exact qq_out (ih v2 (v3 + 1) s43 hw45 (by omega) (by omega) hk)
set_option maxRecDepth 100000 in
set_option maxHeartbeats 4000000 in
theorem kX0_passHour (l : Launch) {G : gT} (hN : wN G) (hG : gfl G = true) (j : Nat) (hj : j < 3) (σ : sg) (hw : WD σ) : cM l yX0_passHour wsX0_passHour rmX0_passHour G [.ref (gob G j)] σ (some (.int (fX0_passHour j σ).1)) (fX0_passHour j σ).2 := by
  refine cM_of (maxL := 4) (ret := (some .int)) (cc := cX0_passHour) (fX0_passHour j σ) RX0 hN (by decide +kernel) rfl rfl (Nat.le_of_ble_eq_true rfl) rfl ?_
  intro p e s m args below meth c K hr
  have k0 : (0 : Int32).toInt = 0 := rfl
  have k1 : (1 : Int32).toInt = 1 := rfl
  refine qq_st (lv' := [some (.ref (gob G j)), none, none, none]) rfl rfl rfl ?_
  refine qq_T (fX0_passHour.eq_1 ..) ?_
  refine q_aload_n (pc := 0) K dX0_passHour_0 rfl rfl ?_
  refine q_get (pc := 1) (o := j) (f := 11) (v := .int (rF σ (7 * j + 4))) K (wO_ch hG hj) vw_0 iwX0_passHour_X0 (by decide) mX0_passHour_f46 rfl dX0_passHour_1 ?_
  refine q_callSi (pc := 4) (rm := rmX0_sunAt) K (kX0_sunAt l hN (rF σ (7 * j + 4)) σ) gX0_passHour_X0_sunAt rfl hdS_X0_sunAt ⟨Nat.le_of_ble_eq_true rfl, Nat.le_of_ble_eq_true rfl⟩ rfl rfl ⟨Nat.zero_le _, Nat.zero_le _⟩ rfl rfl (Nat.le_of_ble_eq_true rfl) dX0_passHour_4 ?_
  refine q_istore_n (pc := 7) (lv' := [some (.ref (gob G j)), some (.int (fX0_sunAt (rF σ (7 * j + 4)))), none, none]) K dX0_passHour_7 rfl (by decide) (Nat.le_of_ble_eq_true rfl) rfl ?_
  refine q_iconst (pc := 8) (v := 0) K dX0_passHour_8 (by decide) ?_
  refine q_istore_n (pc := 9) (lv' := [some (.ref (gob G j)), some (.int (fX0_sunAt (rF σ (7 * j + 4)))), some (.int 0), none]) K dX0_passHour_9 rfl (by decide) (Nat.le_of_ble_eq_true rfl) rfl ?_
  refine lX0_passHour_10 l hN hG K j hj 7 (fX0_sunAt (rF σ (7 * j + 4))) 0 σ hw (by omega) (by omega) (fun r8 hw10 => ?_)
  refine q_iconst (pc := 34) (v := 0) K dX0_passHour_34 (by decide) ?_
  refine q_istore_n (pc := 35) (lv' := [some (.ref (gob G j)), none, some (.int 0), none]) K dX0_passHour_35 rfl (by decide) (Nat.le_of_ble_eq_true rfl) rfl ?_
  refine q_iconst (pc := 36) (v := 0) K dX0_passHour_36 (by decide) ?_
  refine q_istore_n (pc := 37) (lv' := [some (.ref (gob G j)), none, some (.int 0), some (.int 0)]) K dX0_passHour_37 rfl (by decide) (Nat.le_of_ble_eq_true rfl) rfl ?_
  refine lX0_passHour_38 l hN hG K j hj 9 0 0 r8 hw10 (by omega) (by omega) (fun r35 hw37 => ?_)
  refine q_iconst (pc := 98) (v := 0) K dX0_passHour_98 (by decide) ?_
  refine q_istore_n (pc := 99) (lv' := [some (.ref (gob G j)), none, some (.int r35.1), some (.int 0)]) K dX0_passHour_99 rfl (by decide) (Nat.le_of_ble_eq_true rfl) rfl ?_
  refine lX0_passHour_100 l hN hG K j hj 7 r35.1 0 r35.2 hw37 (by omega) (by omega) (fun r53 hw55 => ?_)
  refine q_aload_n (pc := 142) K dX0_passHour_142 rfl rfl ?_
  refine q_dup (pc := 143) K dX0_passHour_143 rfl ?_
  refine q_get (pc := 144) (o := j) (f := 11) (v := .int (rF r53 (7 * j + 4))) K (wO_ch hG hj) vw_0 iwX0_passHour_X0 (by decide) mX0_passHour_f46 rfl dX0_passHour_144 ?_
  refine q_iconst (pc := 147) (v := 1) K dX0_passHour_147 (by decide) ?_
  refine q_iadd (pc := 148) K dX0_passHour_148 ?_
  refine q_put (pc := 149) (o := j) (f := 11) (i := (7 * j + 4)) (ty := .int) K tyX0 tyX0_ok nmX0 (wO_ch hG hj) vw_0 iwX0_passHour_X0 (by decide) mX0_passHour_f46 rfl (tyX0_ok 11 (by decide)) rfl rfl (Nat.le_of_ble_eq_true rfl) (wP_ch11 hG hj _) dX0_passHour_149 (fun s56 e57 => ?_)
  have hw58 : WD s56 := by rw [e57]; exact wdF hw55 (by have := hj; omega)
  refine q_iload_n (pc := 152) K dX0_passHour_152 rfl rfl ?_
  exact q_iret K hr dX0_passHour_153
theorem hdV_X0_pass : yX0_pass.cls = RX0 ∧ yX0_pass.cls ≠ "java/lang/invoke/MethodHandle" ∧ yX0_pass.cls ≠ "java/lang/invoke/VarHandle" ∧ (parseMethodDescriptor yX0_pass.desc).map (fun d => d.parameters.length) = some 1 := by decide +kernel
set_option maxRecDepth 100000 in
set_option maxHeartbeats 4000000 in
theorem lX0_pass_4 {p : Program} (l : Launch) {e : Env} {s : State} {m : MethodId} {args : Array Value} {below : List Frame} {meth : Method} {c : Code} {Q : State → Prop} {G : gT} (hN : wN G) (hG : gfl G = true) (K : qK p s m args meth c cX0_pass 4 RX0 wsX0_pass G) (j : Nat) (hj : j < 3) : ∀ (k : Nat) (v1 v2 v3 : Int32) (σ : sg) (hw : WD σ) (hv3 : 0 ≤ v3.toInt ∧ v3.toInt ≤ 100) (hn1 : v1.toInt ≤ 100) (hmu : (100 - v3.toInt).toNat < k) {ρ : Type} {E : ρ → Prop} {f : Int32 × sg → ρ} (hk : ∀ r : Int32 × sg, (WD r.2) → qq p l e (headSpec wsX0_pass rmX0_pass).room s m args below meth c Q 4 G E (f r) 22 [none, none, some (.int r.1), none] [] r.2), qq p l e (headSpec wsX0_pass rmX0_pass).room s m args below meth c Q 4 G E (bnd (LX0_pass_4 j k v1 v2 v3 σ) f) 4 [some (.ref (gob G j)), some (.int v1), some (.int v2), some (.int v3)] [] σ := by
  intro k
  induction k with
  | zero => intro v1 v2 v3 σ hw hv3 hn1 hmu ρ E f hk; exact absurd hmu (Nat.not_lt_zero _)
  | succ k ih =>
    intro v1 v2 v3 σ hw hv3 hn1 hmu ρ E f hk
    have k0 : (0 : Int32).toInt = 0 := rfl
    have k1 : (1 : Int32).toInt = 1 := rfl
    refine qq_in ?_
    refine qq_T (LX0_pass_4.eq_2 ..) ?_
    refine q_iload_n (pc := 4) K dX0_pass_4 rfl rfl ?_
    refine q_iload_n (pc := 5) K dX0_pass_5 rfl rfl ?_
    refine q_icmp_ge (pc := 6) (tgt := 22) K dX0_pass_6 (by decide) (fun c1 => ?_) (fun c1 => ?_)
    · have i6 := leI c1
      refine qq_drop 0 (lv' := [none, some (.int v1), some (.int v2), some (.int v3)]) rfl ?_
      refine qq_drop 1 (lv' := [none, none, some (.int v2), some (.int v3)]) rfl ?_
      refine qq_drop 3 (lv' := [none, none, some (.int v2), none]) rfl ?_
      exact qq_leaf (hk (v2, σ) hw)
    · have i7 := nleI c1
      refine q_iload_n (pc := 9) K dX0_pass_9 rfl rfl ?_
      refine q_aload_n (pc := 10) K dX0_pass_10 rfl rfl ?_
      refine q_callVi (pc := 11) (o := j) (rm := rmX0_passHour) K (kX0_passHour l hN hG j hj σ hw) gX0_pass_X0_passHour rfl hdV_X0_passHour ⟨Nat.le_of_ble_eq_true rfl, Nat.le_of_ble_eq_true rfl⟩ rfl rfl ⟨Nat.zero_le _, Nat.zero_le _⟩ (wO_ch hG hj) vw_0 rfl rfl (Nat.le_of_ble_eq_true rfl) dX0_pass_11 ?_
      refine qq_nmI (fun r2 e3 => ?_)
      have hw4 : WD r2.2 := by rw [e3]; exact wX0_passHour j hj hw 
      refine q_iadd (pc := 14) K dX0_pass_14 ?_
      refine q_istore_n (pc := 15) (lv' := [some (.ref (gob G j)), some (.int v1), some (.int (v2 + r2.1)), some (.int v3)]) K dX0_pass_15 rfl (by decide) (Nat.le_of_ble_eq_true rfl) rfl ?_
      refine q_iinc (pc := 16) (v := (v3 + 1)) (lv' := [some (.ref (gob G j)), some (.int v1), some (.int (v2 + r2.1)), some (.int (v3 + 1))]) K dX0_pass_16 rfl rfl (by decide) rfl ?_
      refine q_goto (pc := 19) (tgt := 4) K dX0_pass_19 (by decide) ?_
      have a5 := addI (x := v3) (y := 1) (by omega) (by omega)
      exact qq_out (ih v1 (v2 + r2.1) (v3 + 1) r2.2 hw4 (by omega) (by omega) (by omega) hk)
set_option maxRecDepth 100000 in
set_option maxHeartbeats 4000000 in
theorem kX0_pass (l : Launch) {G : gT} (hN : wN G) (hG : gfl G = true) (j : Nat) (hj : j < 3) (v1 : Int32) (σ : sg) (hw : WD σ) (hn : v1.toInt ≤ 100) : cM l yX0_pass wsX0_pass rmX0_pass G [.ref (gob G j), .int v1] σ (some (.int (fX0_pass j v1 σ).1)) (fX0_pass j v1 σ).2 := by
  refine cM_of (maxL := 4) (ret := (some .int)) (cc := cX0_pass) (fX0_pass j v1 σ) RX0 hN (by decide +kernel) rfl rfl (Nat.le_of_ble_eq_true rfl) rfl ?_
  intro p e s m args below meth c K hr
  have k0 : (0 : Int32).toInt = 0 := rfl
  refine qq_st (lv' := [some (.ref (gob G j)), some (.int v1), none, none]) rfl rfl rfl ?_
  refine qq_T (fX0_pass.eq_1 ..) ?_
  refine q_iconst (pc := 0) (v := 0) K dX0_pass_0 (by decide) ?_
  refine q_istore_n (pc := 1) (lv' := [some (.ref (gob G j)), some (.int v1), some (.int 0), none]) K dX0_pass_1 rfl (by decide) (Nat.le_of_ble_eq_true rfl) rfl ?_
  refine q_iconst (pc := 2) (v := 0) K dX0_pass_2 (by decide) ?_
  refine q_istore_n (pc := 3) (lv' := [some (.ref (gob G j)), some (.int v1), some (.int 0), some (.int 0)]) K dX0_pass_3 rfl (by decide) (Nat.le_of_ble_eq_true rfl) rfl ?_
  refine lX0_pass_4 l hN hG K j hj 101 v1 0 0 σ hw (by omega) (by omega) (by omega) (fun r8 hw10 => ?_)
  refine q_iload_n (pc := 22) K dX0_pass_22 rfl rfl ?_
  exact q_iret K hr dX0_pass_23
