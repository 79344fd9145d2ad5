def rmX1_isOneOf : Room := { frames := 2, cells := 0, slots := 0, locals := 42 }
def LX1_isOneOf_4 : Nat → Int32 → Int32 → Int32 → sg → Int32
  | 0, v1, v2, v3, σ => 0
  | k + 1, v1, v2, v3, σ => (if 7 ≤ v3 then 0 else (if (fX1_isKind v2) = 0 then 0 else (if v2 = v1 then 1 else LX1_isOneOf_4 k v1 (kTab.getD v2.toNatClampNeg 0) (v3 + 1) σ)))
def fX1_isOneOf (v0 : Int32) (v1 : Int32) (σ : sg) : Int32 := LX1_isOneOf_4 8 v1 v0 0 σ
def rmX4_put : Room := { frames := 0, cells := 0, slots := 0, locals := 0 }
def fX4_put (a0 : Nat) (v1 : Int32) (v2 : Int32) (σ : sg) : Int32 × sg := bnd (sA σ a0 v1 v2) (fun s1 => ((rA σ a0 v1), s1))
theorem wX4_put {a : Nat} {v1 v2 : Int32} {σ : sg} (_ha : a < 24) (h : WD (sA σ a v1 v2)) : WDi (fX4_put a v1 v2 σ) := h
def rmX4_found : Room := { frames := 1, cells := 0, slots := 0, locals := 22 }
def fX4_found (v1 : Int32) (σ : sg) : Int32 × sg := (if (fX4_isWithin ((-1000001) - v1) 0 6) = 0 then (v1, σ) else bnd (sA σ 29 ((-1000001) - v1) ((rA σ 29 ((-1000001) - v1)) + 1)) (fun s2 => (v1, s2)))
theorem nlt0 {x : Int32} (h : 0 ≤ x.toInt) : ¬ x < 0 := fun q => by have := ltI q; have k0 : (0 : Int32).toInt = 0 := rfl; omega
theorem cp40 {a n : Int32} (h1 : 0 ≤ a.toInt) (h2 : 0 ≤ n.toInt) (h3 : a.toInt + n.toInt ≤ 40) : a.toNatClampNeg + n.toNatClampNeg ≤ 40 := by
  have e1 := clI h1
  have e2 := clI h2
  omega
theorem jminL (x y : Int32) : (jmin x y).toInt ≤ x.toInt ∧ (jmin x y).toInt ≤ y.toInt := by
  unfold jmin
  split
  · rename_i c; have := ltI c; omega
  · rename_i c; have := nltI c; omega
def rmX4_isTooLate : Room := { frames := 0, cells := 0, slots := 0, locals := 0 }
def fX4_isTooLate (v1 : Int32) (σ : sg) : Int32 := (if ((rF σ (7 * 0 + 4)) + v1) ≤ 9999 then 0 else 1)
theorem b01_X4_isTooLate (h : Int32) (σ : sg) : fX4_isTooLate h σ = 0 ∨ fX4_isTooLate h σ = 1 := by
  unfold fX4_isTooLate
  split
  · exact Or.inl rfl
  · exact Or.inr rfl
def rmX4_refusal : Room := { frames := 1, cells := 0, slots := 0, locals := 22 }
def fX4_refusal (v1 : Int32) (v2 : Int32) (σ : sg) : Int32 := (if (fX4_isWithin v1 1 v2) = 0 then (-1000001) else (if (fX4_isTooLate v1 σ) = 0 then 0 else (-1000005)))
theorem ref_f {h f : Int32} {σ : sg} (c : fX4_refusal h f σ = 0) : 1 ≤ h.toInt ∧ h.toInt ≤ f.toInt := by
  unfold fX4_refusal at c
  split at c
  · exact absurd c (by decide)
  · rename_i c1; exact isW_t c1
def rmX4_refusalOfDeed : Room := { frames := 2, cells := 0, slots := 0, locals := 44 }
def fX4_refusalOfDeed (v1 : Int32) (v2 : Int32) (σ : sg) : Int32 := (if (fX0_isDeed 0 v1 σ) = 0 then (-1000001) else (fX4_refusal v2 100 σ))
theorem refD_f {d h : Int32} {σ : sg} (hw : WD σ) (c : fX4_refusalOfDeed d h σ = 0) : (0 ≤ d.toInt ∧ d.toInt < (rF σ (7 * 0 + 1)).toInt ∧ (rF σ (7 * 0 + 1)).toInt ≤ 8) ∧ (1 ≤ h.toInt ∧ h.toInt ≤ 100) := by
  unfold fX4_refusalOfDeed at c
  split at c
  · exact absurd c (by decide)
  · rename_i c1; exact ⟨isD_t hw (by omega) c1, ref_f c⟩
def rmX4_refusalOfEnd : Room := { frames := 3, cells := 0, slots := 0, locals := 66 }
def fX4_refusalOfEnd (v1 : Int32) (σ : sg) : Int32 := (fX4_refusalOfDeed v1 100 σ)
theorem refE_f {d : Int32} {σ : sg} (hw : WD σ) (c : fX4_refusalOfEnd d σ = 0) : 0 ≤ d.toInt ∧ d.toInt < (rF σ (7 * 0 + 1)).toInt ∧ (rF σ (7 * 0 + 1)).toInt ≤ 8 := (refD_f hw c).1
def rmX4_refusalOfEnemy : Room := { frames := 2, cells := 0, slots := 0, locals := 44 }
def fX4_refusalOfEnemy (v1 : Int32) (v2 : Int32) (σ : sg) : Int32 := (if (fX4_isWithin v1 0 6) = 0 then (-1000001) else (if (fX4_refusal v2 100 σ) = 0 then (if v1 ≤ (6 - (fJ6_bitCount_0f7a4 (rF σ (7 * 0 + 2)))) then 0 else (-1000004)) else (fX4_refusal v2 100 σ)))
theorem refN_f {a h : Int32} {σ : sg} (c : fX4_refusalOfEnemy a h σ = 0) : (0 ≤ a.toInt ∧ a.toInt ≤ 6) ∧ (1 ≤ h.toInt ∧ h.toInt ≤ 100) := by
  unfold fX4_refusalOfEnemy at c
  split at c
  · exact absurd c (by decide)
  · rename_i c1
    split at c
    · rename_i c2; exact ⟨isW_t c1, ref_f c2⟩
    · rename_i c2; exact absurd c c2
def rmX4_refusalOfSheet : Room := { frames := 2, cells := 0, slots := 0, locals := 42 }
def fX4_refusalOfSheet (v1 : Int32) (σ : sg) : Int32 := (if (fX4_isSheet v1) = 0 then (-1000001) else (if (fX2_isMissing (v1.toNatClampNeg) σ) = 0 then 0 else (-1000006)))
theorem refS_f {a : Int32} {σ : sg} (c : fX4_refusalOfSheet a σ = 0) : 0 ≤ a.toInt ∧ a.toInt ≤ 3 := by
  unfold fX4_refusalOfSheet at c
  split at c
  · exact absurd c (by decide)
  · rename_i c1; exact isH_t c1
def rmX4_deed : Room := { frames := 2, cells := 0, slots := 0, locals := 45 }
def fX4_deed (v1 : Int32) (v2 : Int32) (σ : sg) : Int32 × sg := (if (fX1_isKind v1) = 0 then bnd (fX4_found (-1000001) σ) (fun r2 => (r2.1, r2.2)) else (if (fX4_isShelf v2) = 0 then bnd (fX4_found (-1000001) σ) (fun r16 => (r16.1, r16.2)) else (if (fX0_isFull 0 σ) = 0 then bnd (fX0_addDeed 0 v1 v2 40 (-1) σ) (fun r7 => (r7.1, r7.2)) else bnd (fX4_found (-1000002) σ) (fun r10 => (r10.1, r10.2)))))
def rmX4_of : Room := { frames := 3, cells := 0, slots := 0, locals := 66 }
def fX4_of (v1 : Int32) (v2 : Int32) (σ : sg) : Int32 × sg := (if (fX0_isDeed 0 v1 σ) = 0 then bnd (fX4_found (-1000001) σ) (fun r43 => (r43.1, r43.2)) else (if v2 = 0 then ((rA σ (8 * 0) v1), σ) else (if v2 = 1 then ((rA σ (8 * 0 + 1) v1), σ) else (if v2 = 2 then ((rA σ (8 * 0 + 2) v1), σ) else (if v2 = 3 then ((rA σ (8 * 0 + 3) v1), σ) else (if v2 = 4 then (if (fX0_hasRun 0 v1 σ) = 0 then (0, σ) else (1, σ)) else (if v2 = 5 then ((rA σ (8 * 0 + 4) v1), σ) else (if v2 = 6 then ((fX1_stands (rA σ (8 * 0) v1) (rA σ (8 * 0 + 2) v1)), σ) else (if v2 = 7 then ((fX1_runsAt (rA σ (8 * 0) v1)), σ) else (if v2 = 8 then ((fX1_feels (rA σ (8 * 0) v1) (fX0_heatOf 0 (rA σ (8 * 0 + 1) v1) (rF σ (7 * 0 + 4)) σ)), σ) else (if v2 = 9 then (if (fX0_peaceHolds 0 v1 σ) = 0 then (0, σ) else (1, σ)) else bnd (fX4_found (-1000001) σ) (fun r20 => (r20.1, r20.2)))))))))))))
def rmX4_change : Room := { frames := 2, cells := 0, slots := 0, locals := 44 }
def fX4_change (v1 : Int32) (v2 : Int32) (v3 : Int32) (σ : sg) : Int32 × sg := (if (fX0_isDeed 0 v1 σ) = 0 then bnd (fX4_found (-1000001) σ) (fun r78 => (r78.1, r78.2)) else (if v2 = 0 then (if (fX1_isKind v3) = 0 then bnd (fX4_found (-1000001) σ) (fun r4 => (r4.1, r4.2)) else bnd (fX4_put (8 * 0) v1 v3 σ) (fun r7 => (r7.1, r7.2))) else (if v2 = 1 then (if (fX4_isShelf v3) = 0 then bnd (fX4_found (-1000001) σ) (fun r15 => (r15.1, r15.2)) else bnd (fX4_put (8 * 0 + 1) v1 v3 σ) (fun r18 => (r18.1, r18.2))) else (if v2 = 2 then (if (fX4_isWax v3) = 0 then bnd (fX4_found (-1000001) σ) (fun r26 => (r26.1, r26.2)) else bnd (fX4_put (8 * 0 + 2) v1 v3 σ) (fun r29 => (r29.1, r29.2))) else (if v2 = 3 then (if (fX4_isWithin v3 0 99) = 0 then bnd (fX4_found (-1000001) σ) (fun r37 => (r37.1, r37.2)) else bnd (fX4_put (8 * 0 + 3) v1 v3 σ) (fun r40 => (r40.1, r40.2))) else (if v2 = 4 then bnd (fX4_found (-1000001) σ) (fun r48 => (r48.1, r48.2)) else (if v2 = 5 then (if (fX4_isWithin v3 (-1) (v1 - 1)) = 0 then bnd (fX4_found (-1000001) σ) (fun r53 => (r53.1, r53.2)) else bnd (fX4_put (8 * 0 + 4) v1 v3 σ) (fun r56 => (r56.1, r56.2))) else bnd (fX4_found (-1000001) σ) (fun r63 => (r63.1, r63.2)))))))))
def rmX4_renew : Room := { frames := 2, cells := 0, slots := 0, locals := 44 }
def fX4_renew (v1 : Int32) (σ : sg) : Int32 × sg := (if (fX0_isDeed 0 v1 σ) = 0 then bnd (fX4_found (-1000001) σ) (fun r17 => (r17.1, r17.2)) else (if (fX0_hasRun 0 v1 σ) = 0 then bnd (sA σ (8 * 0 + 3) v1 0) (fun s3 => bnd (sF9 s3 (7 * 0) (fX4_without (rF s3 (7 * 0)) v1)) (fun s6 => (0, s6))) else bnd (sA σ (8 * 0 + 3) v1 0) (fun s9 => bnd (sF9 s9 (7 * 0) (fX4_without (rF s9 (7 * 0)) v1)) (fun s12 => (1, s12)))))
def rmX4_shelf : Room := { frames := 2, cells := 0, slots := 0, locals := 44 }
def fX4_shelf (v1 : Int32) (v2 : Int32) (v3 : Int32) (σ : sg) : Int32 × sg := (if (fX4_isShelf v1) = 0 then bnd (fX4_found (-1000001) σ) (fun r75 => (r75.1, r75.2)) else (if v2 = 1 then (if (fX4_isWithin v3 0 99) = 0 then bnd (fX4_found (-1000001) σ) (fun r63 => (r63.1, r63.2)) else bnd (fX4_put (8 * 0 + 5) v1 v3 σ) (fun r66 => (r66.1, r66.2))) else (if (fX4_isWithin v3 0 1) = 0 then bnd (fX4_found (-1000001) σ) (fun r55 => (r55.1, r55.2)) else (if v2 = 0 then (if (fX4_has (rF σ (7 * 0 + 2)) v1) = 0 then (if v3 = 1 then bnd (fX0_setShutter 0 v1 1 σ) (fun r10 => (0, r10)) else bnd (fX0_setShutter 0 v1 0 σ) (fun r7 => (0, r7))) else (if v3 = 1 then bnd (fX0_setShutter 0 v1 1 σ) (fun r19 => (1, r19)) else bnd (fX0_setShutter 0 v1 0 σ) (fun r16 => (1, r16)))) else (if v2 = 2 then (if (fX4_has (rF σ (7 * 0 + 3)) v1) = 0 then (if v3 = 1 then bnd (fX0_setCandle 0 v1 1 σ) (fun r32 => (0, r32)) else bnd (fX0_setCandle 0 v1 0 σ) (fun r29 => (0, r29))) else (if v3 = 1 then bnd (fX0_setCandle 0 v1 1 σ) (fun r41 => (1, r41)) else bnd (fX0_setCandle 0 v1 0 σ) (fun r38 => (1, r38)))) else bnd (fX4_found (-1000001) σ) (fun r48 => (r48.1, r48.2)))))))
def rmX4_summer : Room := { frames := 2, cells := 0, slots := 0, locals := 44 }
def fX4_summer (v1 : Int32) (σ : sg) : Int32 × sg := (if (fX4_isWithin v1 0 40) = 0 then bnd (fX4_found (-1000001) σ) (fun r5 => (r5.1, r5.2)) else bnd (sF9 σ (7 * 0 + 5) v1) (fun s2 => ((rF σ (7 * 0 + 5)), s2)))
def rmX4_sun : Room := { frames := 2, cells := 0, slots := 0, locals := 44 }
def fX4_sun (v1 : Int32) (σ : sg) : Int32 × sg := (if (fX4_isWithin v1 0 9999) = 0 then bnd (fX4_found (-1000001) σ) (fun r2 => (r2.1, r2.2)) else ((fX0_sunAt v1), σ))
def rmX4_heat : Room := { frames := 3, cells := 0, slots := 0, locals := 66 }
def fX4_heat (v1 : Int32) (v2 : Int32) (σ : sg) : Int32 × sg := (if (fX4_isShelf v1) = 0 then bnd (fX4_found (-1000001) σ) (fun r2 => (r2.1, r2.2)) else (if (fX4_isWithin v2 0 9999) = 0 then bnd (fX4_found (-1000001) σ) (fun r6 => (r6.1, r6.2)) else ((fX0_heatOf 0 v1 v2 σ), σ)))
def rmX4_lie : Room := { frames := 2, cells := 0, slots := 0, locals := 44 }
def LX4_lie_18 : Nat → Int32 → Int32 → Int32 → sg → Int32
  | 0, v1, v2, v3, σ => v2
  | k + 1, v1, v2, v3, σ => (if (rF σ (7 * 0 + 1)) ≤ v3 then v2 else (if (rA σ (8 * 0 + 1) v3) = v1 then LX4_lie_18 k v1 (fX4_with v2 v3) (v3 + 1) σ else LX4_lie_18 k v1 v2 (v3 + 1) σ))
def fX4_lie (v1 : Int32) (σ : sg) : Int32 × sg := (if (fX4_isShelf v1) = 0 then bnd (fX4_found (-1000001) σ) (fun r14 => (r14.1, r14.2)) else bnd (LX4_lie_18 9 v1 0 0 σ) (fun r12 => (r12, σ)))
def rmX4_hours : Room := { frames := 4, cells := 0, slots := 0, locals := 90 }
def fX4_hours (v1 : Int32) (σ : sg) : Int32 × sg := (if (fX4_refusal v1 100 σ) = 0 then bnd (fX0_pass 0 v1 σ) (fun r5 => (r5.1, r5.2)) else bnd (fX4_found (fX4_refusal v1 100 σ) σ) (fun r2 => (r2.1, r2.2)))
def rmX4_now : Room := { frames := 4, cells := 0, slots := 0, locals := 88 }
def fX4_now (v1 : Int32) (σ : sg) : Int32 × sg := (if v1 = 0 then ((rF σ (7 * 0 + 4)), σ) else (if v1 = 1 then ((fX0_peaces 0 (rF σ (7 * 0)) σ), σ) else (if v1 = 2 then ((rF σ (7 * 0)), σ) else (if v1 = 3 then ((fX0_softOfAll 0 σ), σ) else (if v1 = 4 then ((fX0_iceOfAll 0 σ), σ) else (if v1 = 5 then ((fX0_hottest 0 σ), σ) else (if v1 = 6 then ((rF σ (7 * 0 + 5)), σ) else bnd (fX4_found (-1000001) σ) (fun r8 => (r8.1, r8.2)))))))))
def rmX4_ahead : Room := { frames := 4, cells := 0, slots := 0, locals := 90 }
def fX4_ahead (v1 : Int32) (v2 : Int32) (σ : sg) : Int32 × sg := (if (fX4_isWithin v1 0 100) = 0 then bnd (fX4_found (-1000001) σ) (fun r2 => (r2.1, r2.2)) else (if (fX4_isWithin v2 0 (2 + (rF σ (7 * 0 + 1)))) = 0 then bnd (fX4_found (-1000001) σ) (fun r30 => (r30.1, r30.2)) else (if (fX4_isTooLate v1 σ) = 0 then bnd (fX0_take 1 0 σ) (fun r9 => bnd (fX0_pass 1 v1 r9) (fun r12 => (if v2 = 0 then ((fX0_peaces 1 (rF r12.2 (7 * 1)) r12.2), r12.2) else (if v2 = 1 then ((rF r12.2 (7 * 1)), r12.2) else (if v2 = 2 then ((fX0_iceOfAll 1 r12.2), r12.2) else ((rA r12.2 (8 * 1 + 3) (v2 - 3)), r12.2)))))) else bnd (fX4_found (-1000005) σ) (fun r25 => (r25.1, r25.2)))))
def rmX4_ends : Room := { frames := 5, cells := 0, slots := 0, locals := 112 }
def fX4_ends (v1 : Int32) (σ : sg) : Int32 × sg := (if (fX4_refusalOfEnd v1 σ) = 0 then bnd (fX0_take 1 0 σ) (fun r2 => bnd (fX0_endOf 1 v1 r2) (fun r5 => (if 100 < r5.1 then bnd (fX4_found (-1000004) r5.2) (fun r9 => (r9.1, r9.2)) else (r5.1, r5.2)))) else bnd (fX4_found (fX4_refusalOfEnd v1 σ) σ) (fun r14 => (r14.1, r14.2)))
def rmX4_soonest : Room := { frames := 5, cells := 0, slots := 0, locals := 112 }
def fX4_soonest (σ : sg) : Int32 × sg := (if (fX4_isTooLate 100 σ) = 0 then bnd (fX0_take 1 0 σ) (fun r2 => bnd (fX0_firstToEnd 1 r2) (fun r5 => (if r5.1 = (-1) then bnd (fX4_found (-1000004) r5.2) (fun r9 => (r9.1, r9.2)) else (r5.1, r5.2)))) else bnd (fX4_found (-1000005) σ) (fun r14 => (r14.1, r14.2)))
def rmX4_place : Room := { frames := 5, cells := 0, slots := 0, locals := 112 }
def LX4_place_24 : Nat → Int32 → Int32 → Int32 → Int32 → sg → Int32 × sg
  | 0, v1, v3, v4, v5, σ => (v3, σ)
  | k + 1, v1, v3, v4, v5, σ => (if 6 ≤ v5 then (v3, σ) else bnd (fX0_take 1 0 σ) (fun r3 => bnd (sA r3 (8 * 1 + 1) v1 v5) (fun s6 => bnd (fX0_endOf 1 v1 s6) (fun r9 => (if r9.1 ≤ v4 then LX4_place_24 k v1 v3 v4 (v5 + 1) r9.2 else LX4_place_24 k v1 v5 r9.1 (v5 + 1) r9.2)))))
def fX4_place (v1 : Int32) (σ : sg) : Int32 × sg := (if (fX4_refusalOfEnd v1 σ) = 0 then bnd (LX4_place_24 7 v1 0 (-1) 0 σ) (fun r19 => (r19.1, r19.2)) else bnd (fX4_found (fX4_refusalOfEnd v1 σ) σ) (fun r22 => (r22.1, r22.2)))
def rmX4_kindFor : Room := { frames := 5, cells := 0, slots := 0, locals := 112 }
def LX4_kindFor_24 : Nat → Int32 → Int32 → Int32 → Int32 → sg → Int32 × sg
  | 0, v1, v3, v4, v5, σ => (v3, σ)
  | k + 1, v1, v3, v4, v5, σ => (if 7 ≤ v5 then (v3, σ) else bnd (fX0_take 1 0 σ) (fun r3 => bnd (sA r3 (8 * 1) v1 v5) (fun s6 => bnd (fX0_endOf 1 v1 s6) (fun r9 => (if r9.1 ≤ v4 then LX4_kindFor_24 k v1 v3 v4 (v5 + 1) r9.2 else LX4_kindFor_24 k v1 v5 r9.1 (v5 + 1) r9.2)))))
def fX4_kindFor (v1 : Int32) (σ : sg) : Int32 × sg := (if (fX4_refusalOfEnd v1 σ) = 0 then bnd (LX4_kindFor_24 8 v1 0 (-1) 0 σ) (fun r19 => (r19.1, r19.2)) else bnd (fX4_found (fX4_refusalOfEnd v1 σ) σ) (fun r22 => (r22.1, r22.2)))
def rmX4_ice : Room := { frames := 4, cells := 0, slots := 0, locals := 89 }
def LX4_ice_42 : Nat → Int32 → Int32 → Int32 → Int32 → Int32 → sg → Int32 × sg
  | 0, v1, v2, v4, v5, v6, σ => (v4, σ)
  | k + 1, v1, v2, v4, v5, v6, σ => (if 6 ≤ v6 then (v4, σ) else bnd (fX0_take 1 0 σ) (fun r7 => bnd (fX0_bringIce 1 v6 v1 r7) (fun r10 => bnd (fX0_holdingBehind 1 v2 r10) (fun r13 => (if r13.1 ≤ v5 then LX4_ice_42 k v1 v2 v4 v5 (v6 + 1) r13.2 else LX4_ice_42 k v1 v2 v6 r13.1 (v6 + 1) r13.2)))))
def fX4_ice (v1 : Int32) (v2 : Int32) (σ : sg) : Int32 × sg := (if (fX4_isWithin v1 1 99) = 0 then bnd (fX4_found (-1000001) σ) (fun r2 => (r2.1, r2.2)) else (if (fX4_refusal v2 100 σ) = 0 then bnd (LX4_ice_42 7 v1 v2 0 (-1) 0 σ) (fun r23 => (r23.1, r23.2)) else bnd (fX4_found (fX4_refusal v2 100 σ) σ) (fun r26 => (r26.1, r26.2))))
def rmX4_blocks : Room := { frames := 4, cells := 0, slots := 0, locals := 91 }
def LX4_blocks_50 : Nat → Int32 → Int32 → Int32 → Int32 → Int32 → sg → Int32 × sg
  | 0, v1, v2, v4, v5, v6, σ => (0, σ)
  | k + 1, v1, v2, v4, v5, v6, σ => (if v5 < v6 then bnd (fX4_found (-1000004) σ) (fun r4 => (r4.1, r4.2)) else bnd (fX0_take 1 0 σ) (fun r7 => bnd (fX0_bringIce 1 v4 v6 r7) (fun r10 => bnd (fX0_holdsBehind 1 v1 v2 r10) (fun r13 => (if r13.1 = 0 then LX4_blocks_50 k v1 v2 v4 v5 (v6 + 1) r13.2 else (v6, r13.2))))))
def fX4_blocks (v1 : Int32) (v2 : Int32) (σ : sg) : Int32 × sg := (if (fX4_refusalOfDeed v1 v2 σ) = 0 then LX4_blocks_50 102 v1 v2 (rA σ (8 * 0 + 1) v1) (jmin v2 (99 - (rA σ (8 * 0 + 5) (rA σ (8 * 0 + 1) v1)))) 0 σ else bnd (fX4_found (fX4_refusalOfDeed v1 v2 σ) σ) (fun r22 => (r22.1, r22.2)))
def rmX4_bears : Room := { frames := 4, cells := 0, slots := 0, locals := 91 }
def LX4_bears_21 : Nat → Int32 → Int32 → Int32 → sg → Int32 × sg
  | 0, v1, v2, v4, σ => (0, σ)
  | k + 1, v1, v2, v4, σ => (if v4 < 0 then bnd (fX4_found (-1000004) σ) (fun r3 => (r3.1, r3.2)) else bnd (fX0_take 1 0 σ) (fun r6 => bnd (sF9 r6 (7 * 1 + 5) v4) (fun s9 => bnd (fX0_holdsBehind 1 v1 v2 s9) (fun r12 => (if r12.1 = 0 then LX4_bears_21 k v1 v2 (v4 + (-1)) r12.2 else (v4, r12.2))))))
def fX4_bears (v1 : Int32) (v2 : Int32) (σ : sg) : Int32 × sg := (if (fX4_refusalOfDeed v1 v2 σ) = 0 then LX4_bears_21 42 v1 v2 40 σ else bnd (fX4_found (fX4_refusalOfDeed v1 v2 σ) σ) (fun r21 => (r21.1, r21.2)))
def rmX4_holdingSwapped : Room := { frames := 4, cells := 0, slots := 0, locals := 89 }
def fX4_holdingSwapped (v1 : Int32) (v2 : Int32) (v3 : Int32) (σ : sg) : Int32 × sg := bnd (fX0_take 1 0 σ) (fun r1 => bnd (sA r1 (8 * 1 + 1) v1 (rA r1 (8 * 0 + 1) v2)) (fun s5 => bnd (sA s5 (8 * 1 + 1) v2 (rA s5 (8 * 0 + 1) v1)) (fun s9 => bnd (fX0_holdingBehind 1 v3 s9) (fun r12 => (r12.1, r12.2)))))
def rmX4_holdingOpened : Room := { frames := 4, cells := 0, slots := 0, locals := 89 }
def fX4_holdingOpened (v1 : Int32) (v2 : Int32) (σ : sg) : Int32 × sg := bnd (fX0_take 1 0 σ) (fun r1 => bnd (sF9 r1 (7 * 1 + 2) ((rF r1 (7 * 1 + 2)) ||| v1)) (fun s4 => bnd (fX0_holdingBehind 1 v2 s4) (fun r7 => (r7.1, r7.2))))
def rmX4_endsOpened : Room := { frames := 4, cells := 0, slots := 0, locals := 91 }
def fX4_endsOpened (v1 : Int32) (v2 : Int32) (v3 : Int32) (σ : sg) : Int32 × sg := bnd (fX0_take 1 0 σ) (fun r1 => bnd (sF9 r1 (7 * 1 + 2) ((rF r1 (7 * 1 + 2)) ||| v1)) (fun s4 => bnd (fX0_holdsBehind 1 v2 v3 s4) (fun r7 => (if r7.1 = 0 then (1, r7.2) else (0, r7.2)))))
def rmX4_worstSet : Room := { frames := 5, cells := 0, slots := 0, locals := 111 }
def LX4_worstSet_9 : Nat → Int32 → Int32 → Int32 → Int32 → Int32 → sg → Int32 × sg
  | 0, v1, v2, v3, v4, v5, σ => (v3, σ)
  | k + 1, v1, v2, v3, v4, v5, σ => (if 64 ≤ v5 then (v3, σ) else (if (v5 &&& (rF σ (7 * 0 + 2))) = 0 then (if (fJ6_bitCount_0f7a4 v5) = v1 then bnd (fX4_holdingOpened v5 v2 σ) (fun r6 => (if v4 ≤ r6.1 then LX4_worstSet_9 k v1 v2 v3 v4 (v5 + 1) r6.2 else LX4_worstSet_9 k v1 v2 v5 r6.1 (v5 + 1) r6.2)) else LX4_worstSet_9 k v1 v2 v3 v4 (v5 + 1) σ) else LX4_worstSet_9 k v1 v2 v3 v4 (v5 + 1) σ))
def fX4_worstSet (v1 : Int32) (v2 : Int32) (σ : sg) : Int32 × sg := bnd (LX4_worstSet_9 65 v1 v2 0 9 0 σ) (fun r20 => (r20.1, r20.2))
def rmX4_worstBesides : Room := { frames := 5, cells := 0, slots := 0, locals := 111 }
def LX4_worstBesides_6 : Nat → Int32 → Int32 → Int32 → Int32 → sg → Int32 × sg
  | 0, v1, v2, v3, v4, σ => (v3, σ)
  | k + 1, v1, v2, v3, v4, σ => (if 6 ≤ v4 then (v3, σ) else (if v4 = v1 then LX4_worstBesides_6 k v1 v2 v3 (v4 + 1) σ else (if (fX4_has (rF σ (7 * 0 + 2)) v4) = 0 then bnd (fX4_holdingOpened (jshl 1 v4) v2 σ) (fun r6 => LX4_worstBesides_6 k v1 v2 (jmin v3 r6.1) (v4 + 1) r6.2) else LX4_worstBesides_6 k v1 v2 v3 (v4 + 1) σ)))
def fX4_worstBesides (v1 : Int32) (v2 : Int32) (σ : sg) : Int32 × sg := bnd (LX4_worstBesides_6 7 v1 v2 9 0 σ) (fun r16 => (if 8 < r16.1 then bnd (fX4_holdingOpened 0 v2 r16.2) (fun r20 => (r20.1, r20.2)) else (r16.1, r16.2)))
def rmX4_swap : Room := { frames := 5, cells := 0, slots := 0, locals := 112 }
def LX4_swap_62 : Nat → Int32 → Int32 → Int32 → Int32 → Int32 → sg → Int32 × Int32 × sg
  | 0, v1, v3, v4, v5, v6, σ => (v3, v4, σ)
  | k + 1, v1, v3, v4, v5, v6, σ => (if (rF σ (7 * 0 + 1)) ≤ v6 then (v3, v4, σ) else bnd (fX4_holdingSwapped v5 v6 v1 σ) (fun r12 => (if r12.1 ≤ v3 then LX4_swap_62 k v1 v3 v4 v5 (v6 + 1) r12.2 else LX4_swap_62 k v1 r12.1 ((10 * v5) + v6) v5 (v6 + 1) r12.2)))
def LX4_swap_44 : Nat → Int32 → Int32 → Int32 → Int32 → sg → Int32 × sg
  | 0, v1, v3, v4, v5, σ => (v4, σ)
  | k + 1, v1, v3, v4, v5, σ => (if (rF σ (7 * 0 + 1)) ≤ v5 then (v4, σ) else bnd (LX4_swap_62 9 v1 v3 v4 v5 (v5 + 1) σ) (fun r23 => LX4_swap_44 k v1 r23.1 r23.2.1 (v5 + 1) r23.2.2))
def fX4_swap (v1 : Int32) (σ : sg) : Int32 × sg := (if (fX4_refusal v1 100 σ) = 0 then bnd (fX0_take 1 0 σ) (fun r2 => bnd (fX0_holdingBehind 1 v1 r2) (fun r5 => bnd (LX4_swap_44 9 v1 r5.1 (-1) 0 r5.2) (fun r28 => (if r28.1 = (-1) then bnd (fX4_found (-1000004) r28.2) (fun r32 => (r32.1, r32.2)) else (r28.1, r28.2))))) else bnd (fX4_found (fX4_refusal v1 100 σ) σ) (fun r37 => (r37.1, r37.2)))
def rmX4_law : Room := { frames := 4, cells := 0, slots := 0, locals := 89 }
def LX4_law_26 : Nat → Int32 → Int32 → Int32 → Int32 → sg → Int32 × sg
  | 0, v1, v3, v4, v5, σ => (v3, σ)
  | k + 1, v1, v3, v4, v5, σ => (if 7 ≤ v5 then (v3, σ) else bnd (fX0_take 1 0 σ) (fun r3 => bnd (fX0_setAllKinds 1 v5 r3) (fun r6 => bnd (fX0_holdingBehind 1 v1 r6) (fun r9 => (if r9.1 ≤ v4 then LX4_law_26 k v1 v3 v4 (v5 + 1) r9.2 else LX4_law_26 k v1 v5 r9.1 (v5 + 1) r9.2)))))
def fX4_law (v1 : Int32) (σ : sg) : Int32 × sg := (if (fX4_refusal v1 100 σ) = 0 then bnd (LX4_law_26 8 v1 0 (-1) 0 σ) (fun r19 => (r19.1, r19.2)) else bnd (fX4_found (fX4_refusal v1 100 σ) σ) (fun r22 => (r22.1, r22.2)))
def rmX4_enemy : Room := { frames := 6, cells := 0, slots := 0, locals := 137 }
def fX4_enemy (v1 : Int32) (v2 : Int32) (σ : sg) : Int32 × sg := (if (fX4_refusalOfEnemy v1 v2 σ) = 0 then bnd (fX4_worstSet v1 v2 σ) (fun r5 => (r5.1, r5.2)) else bnd (fX4_found (fX4_refusalOfEnemy v1 v2 σ) σ) (fun r2 => (r2.1, r2.2)))
def rmX4_worst : Room := { frames := 6, cells := 0, slots := 0, locals := 137 }
def fX4_worst (v1 : Int32) (v2 : Int32) (σ : sg) : Int32 × sg := (if (fX4_refusalOfEnemy v1 v2 σ) = 0 then bnd (fX4_worstSet v1 v2 σ) (fun r5 => bnd (fX4_holdingOpened r5.1 v2 r5.2) (fun r8 => (r8.1, r8.2))) else bnd (fX4_found (fX4_refusalOfEnemy v1 v2 σ) σ) (fun r2 => (r2.1, r2.2)))
def rmX4_least : Room := { frames := 5, cells := 0, slots := 0, locals := 114 }
def LX4_least_24 : Nat → Int32 → Int32 → Int32 → Int32 → sg → Int32 × sg
  | 0, v1, v2, v4, v5, σ => (v4, σ)
  | k + 1, v1, v2, v4, v5, σ => (if 64 ≤ v5 then (v4, σ) else (if (v5 &&& (rF σ (7 * 0 + 2))) = 0 then (if v4 ≤ (fJ6_bitCount_0f7a4 v5) then LX4_least_24 k v1 v2 v4 (v5 + 1) σ else bnd (fX4_endsOpened v5 v1 v2 σ) (fun r7 => (if r7.1 = 0 then LX4_least_24 k v1 v2 v4 (v5 + 1) r7.2 else LX4_least_24 k v1 v2 (fJ6_bitCount_0f7a4 v5) (v5 + 1) r7.2))) else LX4_least_24 k v1 v2 v4 (v5 + 1) σ))
def fX4_least (v1 : Int32) (v2 : Int32) (σ : sg) : Int32 × sg := (if (fX4_refusalOfDeed v1 v2 σ) = 0 then bnd (LX4_least_24 65 v1 v2 7 0 σ) (fun r21 => (if 6 < r21.1 then bnd (fX4_found (-1000004) r21.2) (fun r25 => (r25.1, r25.2)) else (r21.1, r21.2))) else bnd (fX4_found (fX4_refusalOfDeed v1 v2 σ) σ) (fun r30 => (r30.1, r30.2)))
def rmX4_nail : Room := { frames := 6, cells := 0, slots := 0, locals := 135 }
def LX4_nail_26 : Nat → Int32 → Int32 → Int32 → Int32 → sg → Int32 × sg
  | 0, v1, v3, v4, v5, σ => (v3, σ)
  | k + 1, v1, v3, v4, v5, σ => (if 6 ≤ v5 then (v3, σ) else (if (fX4_has (rF σ (7 * 0 + 2)) v5) = 0 then bnd (fX4_worstBesides v5 v1 σ) (fun r5 => (if r5.1 ≤ v4 then LX4_nail_26 k v1 v3 v4 (v5 + 1) r5.2 else LX4_nail_26 k v1 v5 r5.1 (v5 + 1) r5.2)) else LX4_nail_26 k v1 v3 v4 (v5 + 1) σ))
def fX4_nail (v1 : Int32) (σ : sg) : Int32 × sg := (if (fX4_refusal v1 100 σ) = 0 then bnd (LX4_nail_26 7 v1 (-1) (-1) 0 σ) (fun r17 => (if r17.1 = (-1) then bnd (fX4_found (-1000004) r17.2) (fun r21 => (r21.1, r21.2)) else (r17.1, r17.2))) else bnd (fX4_found (fX4_refusal v1 100 σ) σ) (fun r26 => (r26.1, r26.2)))
def rmX4_hang : Room := { frames := 2, cells := 0, slots := 0, locals := 45 }
def fX4_hang (v1 : Int32) (σ : sg) : Int32 × sg := (if (fX0_isDeed 0 v1 σ) = 0 then bnd (fX4_found (-1000001) σ) (fun r2 => (r2.1, r2.2)) else ((fX0_hangingOn 0 v1 σ), σ))
def rmX4_falls : Room := { frames := 3, cells := 0, slots := 0, locals := 66 }
def fX4_falls (v1 : Int32) (σ : sg) : Int32 × sg := (if (fX0_isDeed 0 v1 σ) = 0 then bnd (fX4_found (-1000001) σ) (fun r2 => (r2.1, r2.2)) else ((fX0_fallingWith 0 v1 σ), σ))
def rmX4_war : Room := { frames := 2, cells := 0, slots := 0, locals := 45 }
def LX4_war_19 : Nat → Int32 → Int32 → Int32 → sg → Int32
  | 0, v1, v2, v3, σ => v2
  | k + 1, v1, v2, v3, σ => (if (rF σ (7 * 0 + 1)) ≤ v3 then v2 else (if (fX4_has v1 v3) = 0 then LX4_war_19 k v1 v2 (v3 + 1) σ else (if (rA σ (8 * 0 + 4) v3) = (-1) then LX4_war_19 k v1 (v2 + 1) (v3 + 1) σ else LX4_war_19 k v1 v2 (v3 + 1) σ)))
def fX4_war (σ : sg) : Int32 := bnd (LX4_war_19 9 (fX0_peaces 0 (rF σ (7 * 0)) σ) 0 0 σ) (fun r14 => r14)
def rmX4_key : Room := { frames := 3, cells := 0, slots := 0, locals := 66 }
def LX4_key_6 : Nat → Int32 → Int32 → Int32 → sg → Int32
  | 0, v1, v2, v3, σ => v1
  | k + 1, v1, v2, v3, σ => (if (rF σ (7 * 0 + 1)) ≤ v3 then v1 else (if (fJ6_bitCount_0f7a4 (fX0_fallingWith 0 v3 σ)) ≤ v2 then LX4_key_6 k v1 v2 (v3 + 1) σ else LX4_key_6 k v3 (fJ6_bitCount_0f7a4 (fX0_fallingWith 0 v3 σ)) (v3 + 1) σ))
def fX4_key (σ : sg) : Int32 × sg := bnd (LX4_key_6 9 (-1) (-1) 0 σ) (fun r10 => (if r10 = (-1) then bnd (fX4_found (-1000004) σ) (fun r13 => (r13.1, r13.2)) else (r10, σ)))
def rmX4_began : Room := { frames := 4, cells := 0, slots := 0, locals := 90 }
def LX4_began_23 : Nat → Int32 → Int32 → sg → Int32 × sg
  | 0, v1, v2, σ => (v1, σ)
  | k + 1, v1, v2, σ => (if 24 < v2 then (v1, σ) else bnd (fX0_take 1 0 σ) (fun r3 => bnd (fX0_makeSealsAnew 1 r3) (fun r6 => bnd (sF9 r6 (7 * 1 + 4) ((rF r6 (7 * 0 + 4)) - v2)) (fun s9 => bnd (fX0_pass 1 v2 s9) (fun r12 => (if (rF r12.2 (7 * 1)) = (rF r12.2 (7 * 0)) then LX4_began_23 k (fX4_with v1 v2) (v2 + 1) r12.2 else LX4_began_23 k v1 (v2 + 1) r12.2))))))
def fX4_began (σ : sg) : Int32 × sg := (if 24 ≤ (rF σ (7 * 0 + 4)) then bnd (LX4_began_23 26 0 1 σ) (fun r22 => (r22.1, r22.2)) else bnd (fX4_found (-1000005) σ) (fun r25 => (r25.1, r25.2)))
def rmX4_opened : Room := { frames := 4, cells := 0, slots := 0, locals := 90 }
def LX4_opened_48 : Nat → Int32 → Int32 → Int32 → Int32 → sg → Int32 × sg
  | 0, v1, v2, v4, v5, σ => (v4, σ)
  | k + 1, v1, v2, v4, v5, σ => (if 64 ≤ v5 then (v4, σ) else bnd (fX0_take 1 0 σ) (fun r8 => bnd (sF9 r8 (7 * 1 + 2) v5) (fun s11 => bnd (fX0_pass 1 v2 s11) (fun r14 => (if (rF r14.2 (7 * 1)) = v1 then LX4_opened_48 k v1 v2 (v4 + 1) (v5 + 1) r14.2 else LX4_opened_48 k v1 v2 v4 (v5 + 1) r14.2)))))
def fX4_opened (v1 : Int32) (v2 : Int32) (σ : sg) : Int32 × sg := (if (fX4_isWithin v1 0 ((jshl 1 (rF σ (7 * 0 + 1))) - 1)) = 0 then bnd (fX4_found (-1000001) σ) (fun r3 => (r3.1, r3.2)) else (if (fX4_refusal v2 24 σ) = 0 then bnd (LX4_opened_48 65 v1 v2 0 0 σ) (fun r24 => (r24.1, r24.2)) else bnd (fX4_found (fX4_refusal v2 24 σ) σ) (fun r27 => (r27.1, r27.2))))
def rmX4_days : Room := { frames := 4, cells := 0, slots := 0, locals := 90 }
def LX4_days_39 : Nat → Int32 → Int32 → Int32 → sg → Int32 × sg
  | 0, v1, v2, v3, σ => (v2, σ)
  | k + 1, v1, v2, v3, σ => (if v1 ≤ v3 then (v2, σ) else bnd (fX0_draw 0 σ) (fun r4 => bnd (sF9 r4.2 (7 * 0 + 5) (jrem r4.1 41)) (fun s7 => bnd (fX0_draw 0 s7) (fun r10 => (if (fX4_has (rF r10.2 (7 * 0 + 2)) (jrem r10.1 6)) = 0 then bnd (fX0_setShutter 0 (jrem r10.1 6) 1 r10.2) (fun r21 => bnd (fX0_pass 0 24 r21) (fun r24 => LX4_days_39 k v1 (v2 + r24.1) (v3 + 1) r24.2)) else bnd (fX0_setShutter 0 (jrem r10.1 6) 0 r10.2) (fun r14 => bnd (fX0_pass 0 24 r14) (fun r17 => LX4_days_39 k v1 (v2 + r17.1) (v3 + 1) r17.2)))))))
def fX4_days (v1 : Int32) (σ : sg) : Int32 × sg := (if (fX4_isWithin v1 1 12) = 0 then bnd (fX4_found (-1000001) σ) (fun r40 => (r40.1, r40.2)) else (if (fX4_isTooLate (v1 * 24) σ) = 0 then bnd (LX4_days_39 13 v1 0 0 σ) (fun r32 => (r32.1, r32.2)) else bnd (fX4_found (-1000005) σ) (fun r35 => (r35.1, r35.2))))
def rmX4_seed : Room := { frames := 0, cells := 0, slots := 0, locals := 0 }
def fX4_seed (v1 : Int32) (σ : sg) : Int32 × sg := bnd (sF9 σ (7 * 0 + 6) v1) (fun s1 => ((rF σ (7 * 0 + 6)), s1))
def rmX4_wipe : Room := { frames := 0, cells := 0, slots := 0, locals := 0 }
def fX4_wipe (σ : sg) : Int32 × sg := bnd (sF9 σ 22 0) (fun s2 => ((rF σ 22), s2))
def rmX4_hold : Room := { frames := 2, cells := 0, slots := 0, locals := 44 }
def fX4_hold (v1 : Int32) (v2 : Int32) (σ : sg) : Int32 × sg := (if (fX4_isWithin v1 0 9) = 0 then bnd (fX4_found (-1000001) σ) (fun r2 => (r2.1, r2.2)) else (if (fX4_isWithin v2 (-1) ((rF σ (7 * 0 + 1)) - 1)) = 0 then bnd (fX4_found (-1000001) σ) (fun r11 => (r11.1, r11.2)) else bnd (sA σ (8 * 0 + 6) v1 v2) (fun s8 => (1, s8))))
def rmX4_as : Room := { frames := 3, cells := 0, slots := 0, locals := 65 }
def fX4_as (v1 : Int32) (v2 : Int32) (σ : sg) : Int32 × sg := (if (fX4_isWithin v1 0 9) = 0 then bnd (fX4_found (-1000001) σ) (fun r2 => (r2.1, r2.2)) else (if (fX1_isKind v2) = 0 then bnd (fX4_found (-1000001) σ) (fun r19 => (r19.1, r19.2)) else (if (fX0_isDeed 0 (rA σ (8 * 0 + 6) v1) σ) = 0 then bnd (fX4_found (-1000006) σ) (fun r13 => (r13.1, r13.2)) else (if (fX1_isOneOf (rA σ (8 * 0) (rA σ (8 * 0 + 6) v1)) v2 σ) = 0 then bnd (fX4_found (-1000003) σ) (fun r8 => (r8.1, r8.2)) else ((rA σ (8 * 0 + 6) v1), σ)))))
def rmX4_sheet : Room := { frames := 2, cells := 0, slots := 0, locals := 44 }
def fX4_sheet (v1 : Int32) (v2 : Int32) (v3 : Int32) (σ : sg) : Int32 × sg := (if (fX4_isSheet v1) = 0 then bnd (fX4_found (-1000001) σ) (fun r2 => (r2.1, r2.2)) else (if v2 = 0 then (if 0 ≤ v3 then (if v3 ≤ 40 then bnd (fX2_makeAnew (v1.toNatClampNeg) v2 v3 σ) (fun r9 => ((rF r9 (28 + 2 * (v1.toNatClampNeg))), r9)) else bnd (fX4_found (-1000001) σ) (fun r14 => (r14.1, r14.2))) else bnd (fX4_found (-1000007) σ) (fun r19 => (r19.1, r19.2))) else (if v2 = 8 then (if 0 ≤ v3 then (if v3 ≤ 40 then bnd (fX2_makeAnew (v1.toNatClampNeg) v2 v3 σ) (fun r28 => ((rF r28 (28 + 2 * (v1.toNatClampNeg))), r28)) else bnd (fX4_found (-1000001) σ) (fun r33 => (r33.1, r33.2))) else bnd (fX4_found (-1000007) σ) (fun r38 => (r38.1, r38.2))) else (if v2 = 16 then (if 0 ≤ v3 then (if v3 ≤ 40 then bnd (fX2_makeAnew (v1.toNatClampNeg) v2 v3 σ) (fun r47 => ((rF r47 (28 + 2 * (v1.toNatClampNeg))), r47)) else bnd (fX4_found (-1000001) σ) (fun r52 => (r52.1, r52.2))) else bnd (fX4_found (-1000007) σ) (fun r57 => (r57.1, r57.2))) else (if v2 = 32 then (if 0 ≤ v3 then (if v3 ≤ 40 then bnd (fX2_makeAnew (v1.toNatClampNeg) v2 v3 σ) (fun r66 => ((rF r66 (28 + 2 * (v1.toNatClampNeg))), r66)) else bnd (fX4_found (-1000001) σ) (fun r71 => (r71.1, r71.2))) else bnd (fX4_found (-1000007) σ) (fun r76 => (r76.1, r76.2))) else bnd (fX4_found (-1000001) σ) (fun r81 => (r81.1, r81.2)))))))
def rmX4_write : Room := { frames := 3, cells := 0, slots := 0, locals := 63 }
def fX4_write (v1 : Int32) (v2 : Int32) (v3 : Int32) (σ : sg) : Int32 × sg := (if (fX4_refusalOfSheet v1 σ) = 0 then (if (fX4_isWithin v2 0 ((rF σ (28 + 2 * (v1.toNatClampNeg))) - 1)) = 0 then bnd (fX4_found (-1000001) σ) (fun r11 => (r11.1, r11.2)) else bnd (sA σ (25 + (v1.toNatClampNeg)) v2 (fX2_lowestBits (v1.toNatClampNeg) v3 σ)) (fun s8 => (1, s8))) else bnd (fX4_found (fX4_refusalOfSheet v1 σ) σ) (fun r18 => (r18.1, r18.2)))
def rmX4_copy : Room := { frames := 2, cells := 0, slots := 0, locals := 44 }
def fX4_copy (v1 : Int32) (v2 : Int32) (v3 : Int32) (v4 : Int32) (v5 : Int32) (σ : sg) : Int32 × sg := (if (fX4_isSheet v1) = 0 then bnd (fX4_found (-1000001) σ) (fun r2 => (r2.1, r2.2)) else (if (fX4_isSheet v3) = 0 then bnd (fX4_found (-1000001) σ) (fun r43 => (r43.1, r43.2)) else (if (fX2_isMissing (v1.toNatClampNeg) σ) = 0 then (if (fX2_isMissing (v3.toNatClampNeg) σ) = 0 then (if (rF σ (27 + 2 * (v1.toNatClampNeg))) = (rF σ (27 + 2 * (v3.toNatClampNeg))) then (if (fX2_hasRange (v1.toNatClampNeg) v2 v5 σ) = 0 then bnd (fX4_found (-1000001) σ) (fun r15 => (r15.1, r15.2)) else (if (fX2_hasRange (v3.toNatClampNeg) v4 v5 σ) = 0 then bnd (fX4_found (-1000001) σ) (fun r22 => (r22.1, r22.2)) else bnd (sC σ (25 + (v1.toNatClampNeg)) v2 (25 + (v3.toNatClampNeg)) v4 v5) (fun s19 => (v5, s19)))) else bnd (fX4_found (-1000003) σ) (fun r31 => (r31.1, r31.2))) else bnd (fX4_found (-1000006) σ) (fun r36 => (r36.1, r36.2))) else bnd (fX4_found (-1000006) σ) (fun r9 => (r9.1, r9.2)))))
def rmX4_load : Room := { frames := 3, cells := 0, slots := 0, locals := 63 }
def LX4_load_26 (q3 : Nat) : Nat → Int32 → sg → Int32 × sg
  | 0, v4, σ => (v4, σ)
  | k + 1, v4, σ => (if (rF σ (28 + 2 * q3)) ≤ v4 then (v4, σ) else (if (rF σ (7 * 0 + 1)) ≤ v4 then (v4, σ) else (if (fX4_isWax (rA σ (25 + q3) v4)) = 0 then (v4, σ) else bnd (sA σ (8 * 0 + 2) v4 (rA σ (25 + q3) v4)) (fun s8 => LX4_load_26 q3 k (v4 + 1) s8))))
def fX4_load (v1 : Int32) (σ : sg) : Int32 × sg := (if (fX4_refusalOfSheet v1 σ) = 0 then bnd (LX4_load_26 (v1.toNatClampNeg) 9 0 σ) (fun r19 => (r19.1, r19.2)) else bnd (fX4_found (fX4_refusalOfSheet v1 σ) σ) (fun r23 => (r23.1, r23.2)))
def rmX4_judge : Room := { frames := 4, cells := 0, slots := 0, locals := 90 }
def LX4_judge_75 (q4 : Nat) : Nat → Int32 → Int32 → sg → Int32 × sg
  | 0, v2, v5, σ => (0, σ)
  | k + 1, v2, v5, σ => (if (rF σ (28 + 2 * q4)) ≤ v5 then (0, σ) else bnd (fX0_pass 1 1 σ) (fun r11 => (if (rA r11.2 (8 * 1 + 3) v2) = (rA r11.2 (25 + q4) v5) then LX4_judge_75 q4 k v2 (v5 + 1) r11.2 else ((1 + v5), r11.2))))
def fX4_judge (v1 : Int32) (v2 : Int32) (σ : sg) : Int32 × sg := (if (fX4_refusalOfSheet v1 σ) = 0 then (if (fX0_isDeed 0 v2 σ) = 0 then bnd (fX4_found (-1000001) σ) (fun r25 => (r25.1, r25.2)) else (if (fX4_isTooLate (rF σ (28 + 2 * (v1.toNatClampNeg))) σ) = 0 then bnd (fX0_take 1 0 σ) (fun r6 => LX4_judge_75 (v1.toNatClampNeg) 41 v2 0 r6) else bnd (fX4_found (-1000005) σ) (fun r20 => (r20.1, r20.2)))) else bnd (fX4_found (fX4_refusalOfSheet v1 σ) σ) (fun r31 => (r31.1, r31.2)))
def rmX4_image : Room := { frames := 2, cells := 0, slots := 0, locals := 39 }
def fX4_image (σ : sg) : Int32 × sg := bnd (fX0_take 2 0 σ) (fun r1 => bnd (sF9 r1 21 1) (fun s4 => (1, s4)))
def rmX4_undo : Room := { frames := 2, cells := 0, slots := 0, locals := 44 }
def fX4_undo (σ : sg) : Int32 × sg := (if (rF σ 21) = 0 then bnd (fX4_found (-1000004) σ) (fun r5 => (r5.1, r5.2)) else bnd (fX0_take 0 2 σ) (fun r2 => ((rF r2 (7 * 0 + 4)), r2)))
def rmX4_tear : Room := { frames := 0, cells := 0, slots := 0, locals := 0 }
def fX4_tear (σ : sg) : Int32 × sg := (if (rF σ 21) = 0 then bnd (sF9 σ 21 0) (fun s2 => (0, s2)) else bnd (sF9 σ 21 0) (fun s5 => (1, s5)))
def rmX4_count : Room := { frames := 2, cells := 0, slots := 0, locals := 44 }
def fX4_count (v1 : Int32) (σ : sg) : Int32 × sg := (if v1 = 0 then ((rF σ (7 * 0 + 4)), σ) else (if v1 = 1 then ((rF σ (7 * 0 + 1)), σ) else (if v1 = 2 then ((rF σ (7 * 0 + 5)), σ) else (if v1 = 3 then ((rF σ (7 * 0 + 2)), σ) else (if v1 = 4 then ((fX0_iceOfAll 0 σ), σ) else (if v1 = 5 then ((rF σ 22), σ) else (if v1 = 6 then ((rF σ (7 * 0 + 6)), σ) else (if v1 = 7 then ((fX0_spotsHeld 0 σ), σ) else bnd (fX4_found (-1000001) σ) (fun r11 => (r11.1, r11.2))))))))))
def rmX4_status : Room := { frames := 2, cells := 0, slots := 0, locals := 44 }
def LX4_status_32 : Nat → Int32 → Int32 → sg → Int32
  | 0, v2, v3, σ => v2
  | k + 1, v2, v3, σ => (if 7 ≤ v3 then v2 else LX4_status_32 k (v2 + (rA σ 29 v3)) (v3 + 1) σ)
def fX4_status (v1 : Int32) (σ : sg) : Int32 × sg := (if (fX4_isWithin v1 (-1) 6) = 0 then bnd (fX4_found (-1000001) σ) (fun r11 => (r11.1, r11.2)) else (if v1 < 0 then bnd (LX4_status_32 8 0 0 σ) (fun r7 => (r7, σ)) else ((rA σ 29 v1), σ)))
def rmX3_append : Room := { frames := 0, cells := 0, slots := 0, locals := 0 }
def fX3_append (v1 : Int32) (σ : sg) : sg := (if 120 ≤ (rF σ 22) then σ else bnd (sA σ 24 (rF σ 22) v1) (fun s3 => bnd (sF9 s3 22 ((rF s3 22) + 1)) (fun s7 => s7)))
def rmX4_feed : Room := { frames := 2, cells := 0, slots := 0, locals := 44 }
def LX4_feed_41 : Nat → Int32 → Int32 → sg → sg
  | 0, v1, v3, σ => σ
  | k + 1, v1, v3, σ => (if v3 < 0 then σ else bnd (fX3_append ((jushr v1 (8 * v3)) &&& 255) σ) (fun r5 => LX4_feed_41 k v1 (v3 + (-1)) r5))
def fX4_feed (v1 : Int32) (v2 : Int32) (σ : sg) : Int32 × sg := (if (fX4_isWithin v2 1 4) = 0 then bnd (fX4_found (-1000001) σ) (fun r21 => (r21.1, r21.2)) else (if ((rF σ 22) + v2) ≤ 120 then bnd (LX4_feed_41 5 v1 (v2 - 1) σ) (fun r12 => ((rF r12 22), r12)) else bnd (fX4_found (-1000002) σ) (fun r16 => (r16.1, r16.2))))
set_option maxRecDepth 100000 in
set_option maxHeartbeats 4000000 in
theorem wX4_found (v1 : Int32) {σ : sg} (hw : WD σ) : WDi (fX4_found v1 σ) := by
  have km1000001 : ((-1000001) : Int32).toInt = -1000001 := rfl
  have k0 : (0 : Int32).toInt = 0 := rfl
  have k1 : (1 : Int32).toInt = 1 := rfl
  have k6 : (6 : Int32).toInt = 6 := rfl
  rw [show fX4_found v1 σ = _ from fX4_found.eq_1 ..]
  refine wf_ite (fun c1 => ?_) (fun c1 => ?_)
  · have i5 := eqI c1
    have b6 := isW_f c1
    exact hw
  · have i7 := neI c1
    have b8 := isW_t c1
    refine wf_bnd (fun s2 e3 => ?_)
    have hw4 : WD s2 := by rw [e3]; exact wdA hw (by omega)
    exact hw4
set_option maxRecDepth 100000 in
set_option maxHeartbeats 4000000 in
theorem wX4_deed (v1 : Int32) (v2 : Int32) {σ : sg} (hw : WD σ) : WDi (fX4_deed v1 v2 σ) := by
  have km1000002 : ((-1000002) : Int32).toInt = -1000002 := rfl
  have km1000001 : ((-1000001) : Int32).toInt = -1000001 := rfl
  have km1 : ((-1) : Int32).toInt = -1 := rfl
  have k0 : (0 : Int32).toInt = 0 := rfl
  have k40 : (40 : Int32).toInt = 40 := rfl
  rw [show fX4_deed v1 v2 σ = _ from fX4_deed.eq_1 ..]
  refine wf_ite (fun c1 => ?_) (fun c1 => ?_)
  · have i22 := eqI c1
    refine wf_bnd (fun r2 e3 => ?_)
    have hw4 : WD r2.2 := by rw [e3]; exact wX4_found (-1000001) hw 
    exact hw4
  · have i23 := neI c1
    have b24 := isK_t c1
    refine wf_ite (fun c5 => ?_) (fun c5 => ?_)
    · have i21 := eqI c5
      refine wf_bnd (fun r16 e17 => ?_)
      have hw18 : WD r16.2 := by rw [e17]; exact wX4_found (-1000001) hw 
      exact hw18
    · have i19 := neI c5
      have b20 := isS_t c5
      refine wf_ite (fun c6 => ?_) (fun c6 => ?_)
      · have i13 := eqI c6
        have b14 := isF_f c6
        refine wf_bnd (fun r7 e8 => ?_)
        have hw9 : WD r7.2 := by rw [e8]; exact wX0_addDeed 0 (show 0 < 3 by decide) v1 v2 40 (-1) hw (by omega)
        exact hw9
      · have i15 := neI c6
        refine wf_bnd (fun r10 e11 => ?_)
        have hw12 : WD r10.2 := by rw [e11]; exact wX4_found (-1000002) hw 
        exact hw12
set_option maxRecDepth 100000 in
set_option maxHeartbeats 4000000 in
theorem wX4_of (v1 : Int32) (v2 : Int32) {σ : sg} (hw : WD σ) : WDi (fX4_of v1 v2 σ) := by
  have km1000001 : ((-1000001) : Int32).toInt = -1000001 := rfl
  have k0 : (0 : Int32).toInt = 0 := rfl
  have k1 : (1 : Int32).toInt = 1 := rfl
  have k2 : (2 : Int32).toInt = 2 := rfl
  have k3 : (3 : Int32).toInt = 3 := rfl
  have k4 : (4 : Int32).toInt = 4 := rfl
  have k5 : (5 : Int32).toInt = 5 := rfl
  have k6 : (6 : Int32).toInt = 6 := rfl
  have k7 : (7 : Int32).toInt = 7 := rfl
  have k8 : (8 : Int32).toInt = 8 := rfl
  have k9 : (9 : Int32).toInt = 9 := rfl
  rw [show fX4_of v1 v2 σ = _ from fX4_of.eq_1 ..]
  refine wf_ite (fun c1 => ?_) (fun c1 => ?_)
  · have i48 := eqI c1
    refine wf_bnd (fun r43 e44 => ?_)
    have hw45 : WD r43.2 := by rw [e44]; exact wX4_found (-1000001) hw 
    exact hw45
  · have i46 := neI c1
    have b47 := isD_t hw (by omega) c1
    refine wf_ite (fun c2 => ?_) (fun c2 => ?_)
    · have i41 := eqI c2
      exact hw
    · have i42 := neI c2
      refine wf_ite (fun c3 => ?_) (fun c3 => ?_)
      · have i39 := eqI c3
        have w4 := wd_shelf hw (show 0 < 3 by decide) v1
        exact hw
      · have i40 := neI c3
        refine wf_ite (fun c5 => ?_) (fun c5 => ?_)
        · have i37 := eqI c5
          exact hw
        · have i38 := neI c5
          refine wf_ite (fun c6 => ?_) (fun c6 => ?_)
          · have i35 := eqI c6
            exact hw
          · have i36 := neI c6
            refine wf_ite (fun c7 => ?_) (fun c7 => ?_)
            · have i33 := eqI c7
              refine wf_ite (fun c8 => ?_) (fun c8 => ?_)
              · have i9 := eqI c8
                exact hw
              · have i10 := neI c8
                exact hw
            · have i34 := neI c7
              refine wf_ite (fun c11 => ?_) (fun c11 => ?_)
              · have i31 := eqI c11
                exact hw
              · have i32 := neI c11
                refine wf_ite (fun c12 => ?_) (fun c12 => ?_)
                · have i29 := eqI c12
                  exact hw
                · have i30 := neI c12
                  refine wf_ite (fun c13 => ?_) (fun c13 => ?_)
                  · have i27 := eqI c13
                    exact hw
                  · have i28 := neI c13
                    refine wf_ite (fun c14 => ?_) (fun c14 => ?_)
                    · have i25 := eqI c14
                      have w15 := wd_shelf hw (show 0 < 3 by decide) v1
                      exact hw
                    · have i26 := neI c14
                      refine wf_ite (fun c16 => ?_) (fun c16 => ?_)
                      · have i23 := eqI c16
                        refine wf_ite (fun c17 => ?_) (fun c17 => ?_)
                        · have i18 := eqI c17
                          exact hw
                        · have i19 := neI c17
                          exact hw
                      · have i24 := neI c16
                        refine wf_bnd (fun r20 e21 => ?_)
                        have hw22 : WD r20.2 := by rw [e21]; exact wX4_found (-1000001) hw 
                        exact hw22
set_option maxRecDepth 100000 in
set_option maxHeartbeats 4000000 in
theorem wX4_change (v1 : Int32) (v2 : Int32) (v3 : Int32) {σ : sg} (hw : WD σ) : WDi (fX4_change v1 v2 v3 σ) := by
  have km1000001 : ((-1000001) : Int32).toInt = -1000001 := rfl
  have km1 : ((-1) : Int32).toInt = -1 := rfl
  have k0 : (0 : Int32).toInt = 0 := rfl
  have k1 : (1 : Int32).toInt = 1 := rfl
  have k2 : (2 : Int32).toInt = 2 := rfl
  have k3 : (3 : Int32).toInt = 3 := rfl
  have k4 : (4 : Int32).toInt = 4 := rfl
  have k5 : (5 : Int32).toInt = 5 := rfl
  have k99 : (99 : Int32).toInt = 99 := rfl
  rw [show fX4_change v1 v2 v3 σ = _ from fX4_change.eq_1 ..]
  refine wf_ite (fun c1 => ?_) (fun c1 => ?_)
  · have i83 := eqI c1
    refine wf_bnd (fun r78 e79 => ?_)
    have hw80 : WD r78.2 := by rw [e79]; exact wX4_found (-1000001) hw 
    exact hw80
  · have i81 := neI c1
    have b82 := isD_t hw (by omega) c1
    refine wf_ite (fun c2 => ?_) (fun c2 => ?_)
    · have i76 := eqI c2
      refine wf_ite (fun c3 => ?_) (fun c3 => ?_)
      · have i10 := eqI c3
        refine wf_bnd (fun r4 e5 => ?_)
        have hw6 : WD r4.2 := by rw [e5]; exact wX4_found (-1000001) hw 
        exact hw6
      · have i11 := neI c3
        have b12 := isK_t c3
        refine wf_bnd (fun r7 e8 => ?_)
        have hw9 : WD r7.2 := by rw [e8]; exact wX4_put (by decide) (wdA hw (by omega))
        exact hw9
    · have i77 := neI c2
      refine wf_ite (fun c13 => ?_) (fun c13 => ?_)
      · have i74 := eqI c13
        refine wf_ite (fun c14 => ?_) (fun c14 => ?_)
        · have i21 := eqI c14
          refine wf_bnd (fun r15 e16 => ?_)
          have hw17 : WD r15.2 := by rw [e16]; exact wX4_found (-1000001) hw 
          exact hw17
        · have i22 := neI c14
          have b23 := isS_t c14
          refine wf_bnd (fun r18 e19 => ?_)
          have hw20 : WD r18.2 := by rw [e19]; exact wX4_put (by decide) (wdAs (j0 := 0) hw (by omega) (by omega))
          exact hw20
      · have i75 := neI c13
        refine wf_ite (fun c24 => ?_) (fun c24 => ?_)
        · have i72 := eqI c24
          refine wf_ite (fun c25 => ?_) (fun c25 => ?_)
          · have i32 := eqI c25
            refine wf_bnd (fun r26 e27 => ?_)
            have hw28 : WD r26.2 := by rw [e27]; exact wX4_found (-1000001) hw 
            exact hw28
          · have i33 := neI c25
            have b34 := isX_t c25
            refine wf_bnd (fun r29 e30 => ?_)
            have hw31 : WD r29.2 := by rw [e30]; exact wX4_put (by decide) (wdA hw (by omega))
            exact hw31
        · have i73 := neI c24
          refine wf_ite (fun c35 => ?_) (fun c35 => ?_)
          · have i70 := eqI c35
            refine wf_ite (fun c36 => ?_) (fun c36 => ?_)
            · have i43 := eqI c36
              have b44 := isW_f c36
              refine wf_bnd (fun r37 e38 => ?_)
              have hw39 : WD r37.2 := by rw [e38]; exact wX4_found (-1000001) hw 
              exact hw39
            · have i45 := neI c36
              have b46 := isW_t c36
              refine wf_bnd (fun r40 e41 => ?_)
              have hw42 : WD r40.2 := by rw [e41]; exact wX4_put (by decide) (wdA hw (by omega))
              exact hw42
          · have i71 := neI c35
            refine wf_ite (fun c47 => ?_) (fun c47 => ?_)
            · have i68 := eqI c47
              refine wf_bnd (fun r48 e49 => ?_)
              have hw50 : WD r48.2 := by rw [e49]; exact wX4_found (-1000001) hw 
              exact hw50
            · have i69 := neI c47
              refine wf_ite (fun c51 => ?_) (fun c51 => ?_)
              · have i66 := eqI c51
                refine wf_ite (fun c52 => ?_) (fun c52 => ?_)
                · have i59 := eqI c52
                  have b60 := isW_f c52
                  refine wf_bnd (fun r53 e54 => ?_)
                  have hw55 : WD r53.2 := by rw [e54]; exact wX4_found (-1000001) hw 
                  exact hw55
                · have i61 := neI c52
                  have b62 := isW_t c52
                  refine wf_bnd (fun r56 e57 => ?_)
                  have hw58 : WD r56.2 := by rw [e57]; exact wX4_put (by decide) (wdA hw (by omega))
                  exact hw58
              · have i67 := neI c51
                refine wf_bnd (fun r63 e64 => ?_)
                have hw65 : WD r63.2 := by rw [e64]; exact wX4_found (-1000001) hw 
                exact hw65
set_option maxRecDepth 100000 in
set_option maxHeartbeats 4000000 in
theorem wX4_renew (v1 : Int32) {σ : sg} (hw : WD σ) : WDi (fX4_renew v1 σ) := by
  have km1000001 : ((-1000001) : Int32).toInt = -1000001 := rfl
  have k0 : (0 : Int32).toInt = 0 := rfl
  have k1 : (1 : Int32).toInt = 1 := rfl
  rw [show fX4_renew v1 σ = _ from fX4_renew.eq_1 ..]
  refine wf_ite (fun c1 => ?_) (fun c1 => ?_)
  · have i22 := eqI c1
    refine wf_bnd (fun r17 e18 => ?_)
    have hw19 : WD r17.2 := by rw [e18]; exact wX4_found (-1000001) hw 
    exact hw19
  · have i20 := neI c1
    have b21 := isD_t hw (by omega) c1
    refine wf_ite (fun c2 => ?_) (fun c2 => ?_)
    · have i15 := eqI c2
      refine wf_bnd (fun s3 e4 => ?_)
      have hw5 : WD s3 := by rw [e4]; exact wdA hw (by have := (show 0 < 3 by decide); omega)
      refine wf_bnd (fun s6 e7 => ?_)
      have hw8 : WD s6 := by rw [e7]; exact wdF hw5 (by have := (show 0 < 3 by decide); omega)
      exact hw8
    · have i16 := neI c2
      refine wf_bnd (fun s9 e10 => ?_)
      have hw11 : WD s9 := by rw [e10]; exact wdA hw (by have := (show 0 < 3 by decide); omega)
      refine wf_bnd (fun s12 e13 => ?_)
      have hw14 : WD s12 := by rw [e13]; exact wdF hw11 (by have := (show 0 < 3 by decide); omega)
      exact hw14
set_option maxRecDepth 100000 in
set_option maxHeartbeats 4000000 in
theorem wX4_shelf (v1 : Int32) (v2 : Int32) (v3 : Int32) {σ : sg} (hw : WD σ) : WDi (fX4_shelf v1 v2 v3 σ) := by
  have km1000001 : ((-1000001) : Int32).toInt = -1000001 := rfl
  have k0 : (0 : Int32).toInt = 0 := rfl
  have k1 : (1 : Int32).toInt = 1 := rfl
  have k2 : (2 : Int32).toInt = 2 := rfl
  have k99 : (99 : Int32).toInt = 99 := rfl
  rw [show fX4_shelf v1 v2 v3 σ = _ from fX4_shelf.eq_1 ..]
  refine wf_ite (fun c1 => ?_) (fun c1 => ?_)
  · have i80 := eqI c1
    refine wf_bnd (fun r75 e76 => ?_)
    have hw77 : WD r75.2 := by rw [e76]; exact wX4_found (-1000001) hw 
    exact hw77
  · have i78 := neI c1
    have b79 := isS_t c1
    refine wf_ite (fun c2 => ?_) (fun c2 => ?_)
    · have i74 := eqI c2
      refine wf_ite (fun c62 => ?_) (fun c62 => ?_)
      · have i69 := eqI c62
        have b70 := isW_f c62
        refine wf_bnd (fun r63 e64 => ?_)
        have hw65 : WD r63.2 := by rw [e64]; exact wX4_found (-1000001) hw 
        exact hw65
      · have i71 := neI c62
        have b72 := isW_t c62
        refine wf_bnd (fun r66 e67 => ?_)
        have hw68 : WD r66.2 := by rw [e67]; exact wX4_put (by decide) (wdA hw (by omega))
        exact hw68
    · have i73 := neI c2
      refine wf_ite (fun c3 => ?_) (fun c3 => ?_)
      · have i60 := eqI c3
        have b61 := isW_f c3
        refine wf_bnd (fun r55 e56 => ?_)
        have hw57 : WD r55.2 := by rw [e56]; exact wX4_found (-1000001) hw 
        exact hw57
      · have i58 := neI c3
        have b59 := isW_t c3
        refine wf_ite (fun c4 => ?_) (fun c4 => ?_)
        · have i53 := eqI c4
          refine wf_ite (fun c5 => ?_) (fun c5 => ?_)
          · have i24 := eqI c5
            refine wf_ite (fun c6 => ?_) (fun c6 => ?_)
            · have i14 := eqI c6
              refine wf_bnd (fun r10 e11 => ?_)
              have hw12 : WD r10 := by rw [e11]; exact wX0_setShutter 0 (show 0 < 3 by decide) v1 1 hw 
              exact hw12
            · have i13 := neI c6
              refine wf_bnd (fun r7 e8 => ?_)
              have hw9 : WD r7 := by rw [e8]; exact wX0_setShutter 0 (show 0 < 3 by decide) v1 0 hw 
              exact hw9
          · have i25 := neI c5
            refine wf_ite (fun c15 => ?_) (fun c15 => ?_)
            · have i23 := eqI c15
              refine wf_bnd (fun r19 e20 => ?_)
              have hw21 : WD r19 := by rw [e20]; exact wX0_setShutter 0 (show 0 < 3 by decide) v1 1 hw 
              exact hw21
            · have i22 := neI c15
              refine wf_bnd (fun r16 e17 => ?_)
              have hw18 : WD r16 := by rw [e17]; exact wX0_setShutter 0 (show 0 < 3 by decide) v1 0 hw 
              exact hw18
        · have i54 := neI c4
          refine wf_ite (fun c26 => ?_) (fun c26 => ?_)
          · have i51 := eqI c26
            refine wf_ite (fun c27 => ?_) (fun c27 => ?_)
            · have i46 := eqI c27
              refine wf_ite (fun c28 => ?_) (fun c28 => ?_)
              · have i36 := eqI c28
                refine wf_bnd (fun r32 e33 => ?_)
                have hw34 : WD r32 := by rw [e33]; exact wX0_setCandle 0 (show 0 < 3 by decide) v1 1 hw 
                exact hw34
              · have i35 := neI c28
                refine wf_bnd (fun r29 e30 => ?_)
                have hw31 : WD r29 := by rw [e30]; exact wX0_setCandle 0 (show 0 < 3 by decide) v1 0 hw 
                exact hw31
            · have i47 := neI c27
              refine wf_ite (fun c37 => ?_) (fun c37 => ?_)
              · have i45 := eqI c37
                refine wf_bnd (fun r41 e42 => ?_)
                have hw43 : WD r41 := by rw [e42]; exact wX0_setCandle 0 (show 0 < 3 by decide) v1 1 hw 
                exact hw43
              · have i44 := neI c37
                refine wf_bnd (fun r38 e39 => ?_)
                have hw40 : WD r38 := by rw [e39]; exact wX0_setCandle 0 (show 0 < 3 by decide) v1 0 hw 
                exact hw40
          · have i52 := neI c26
            refine wf_bnd (fun r48 e49 => ?_)
            have hw50 : WD r48.2 := by rw [e49]; exact wX4_found (-1000001) hw 
            exact hw50
set_option maxRecDepth 100000 in
set_option maxHeartbeats 4000000 in
theorem wX4_summer (v1 : Int32) {σ : sg} (hw : WD σ) : WDi (fX4_summer v1 σ) := by
  have km1000001 : ((-1000001) : Int32).toInt = -1000001 := rfl
  have k0 : (0 : Int32).toInt = 0 := rfl
  have k40 : (40 : Int32).toInt = 40 := rfl
  rw [show fX4_summer v1 σ = _ from fX4_summer.eq_1 ..]
  refine wf_ite (fun c1 => ?_) (fun c1 => ?_)
  · have i10 := eqI c1
    have b11 := isW_f c1
    refine wf_bnd (fun r5 e6 => ?_)
    have hw7 : WD r5.2 := by rw [e6]; exact wX4_found (-1000001) hw 
    exact hw7
  · have i8 := neI c1
    have b9 := isW_t c1
    refine wf_bnd (fun s2 e3 => ?_)
    have hw4 : WD s2 := by rw [e3]; exact wdF hw (by have := (show 0 < 3 by decide); omega)
    exact hw4
set_option maxRecDepth 100000 in
set_option maxHeartbeats 4000000 in
theorem wX4_sun (v1 : Int32) {σ : sg} (hw : WD σ) : WDi (fX4_sun v1 σ) := by
  have km1000001 : ((-1000001) : Int32).toInt = -1000001 := rfl
  have k0 : (0 : Int32).toInt = 0 := rfl
  have k9999 : (9999 : Int32).toInt = 9999 := rfl
  rw [show fX4_sun v1 σ = _ from fX4_sun.eq_1 ..]
  refine wf_ite (fun c1 => ?_) (fun c1 => ?_)
  · have i5 := eqI c1
    have b6 := isW_f c1
    refine wf_bnd (fun r2 e3 => ?_)
    have hw4 : WD r2.2 := by rw [e3]; exact wX4_found (-1000001) hw 
    exact hw4
  · have i7 := neI c1
    have b8 := isW_t c1
    exact hw
set_option maxRecDepth 100000 in
set_option maxHeartbeats 4000000 in
theorem wX4_heat (v1 : Int32) (v2 : Int32) {σ : sg} (hw : WD σ) : WDi (fX4_heat v1 v2 σ) := by
  have km1000001 : ((-1000001) : Int32).toInt = -1000001 := rfl
  have k0 : (0 : Int32).toInt = 0 := rfl
  have k9999 : (9999 : Int32).toInt = 9999 := rfl
  rw [show fX4_heat v1 v2 σ = _ from fX4_heat.eq_1 ..]
  refine wf_ite (fun c1 => ?_) (fun c1 => ?_)
  · have i13 := eqI c1
    refine wf_bnd (fun r2 e3 => ?_)
    have hw4 : WD r2.2 := by rw [e3]; exact wX4_found (-1000001) hw 
    exact hw4
  · have i14 := neI c1
    have b15 := isS_t c1
    refine wf_ite (fun c5 => ?_) (fun c5 => ?_)
    · have i11 := eqI c5
      have b12 := isW_f c5
      refine wf_bnd (fun r6 e7 => ?_)
      have hw8 : WD r6.2 := by rw [e7]; exact wX4_found (-1000001) hw 
      exact hw8
    · have i9 := neI c5
      have b10 := isW_t c5
      exact hw
def PLX4_lie_18 : Int32 → Prop := fun r => True
set_option maxRecDepth 100000 in
set_option maxHeartbeats 4000000 in
theorem wLX4_lie_18 : ∀ (k : Nat) (v1 v2 v3 : Int32) (σ : sg) (hw : WD σ) (hv3 : 0 ≤ v3.toInt ∧ v3.toInt ≤ 8) (hmu : (8 - v3.toInt).toNat < k), PLX4_lie_18 (LX4_lie_18 k v1 v2 v3 σ) := by
  intro k
  induction k with
  | zero => intro v1 v2 v3 σ hw hv3 hmu; exact absurd hmu (Nat.not_lt_zero _)
  | succ k ih =>
    intro v1 v2 v3 σ hw hv3 hmu
    have k0 : (0 : Int32).toInt = 0 := rfl
    have k1 : (1 : Int32).toInt = 1 := rfl
    rw [show LX4_lie_18 (k + 1) v1 v2 v3 σ = _ from LX4_lie_18.eq_2 ..]
    have w2 := wd_deeds hw (show 0 < 3 by decide)
    refine wf_ite (fun c3 => ?_) (fun c3 => ?_)
    · have i10 := leI c3
      exact trivial
    · have i11 := nleI c3
      have w4 := wd_shelf hw (show 0 < 3 by decide) v3
      refine wf_ite (fun c5 => ?_) (fun c5 => ?_)
      · have i9 := eqI c5
        have a7 := addI (x := v3) (y := 1) (by omega) (by omega)
        exact ih v1 (fX4_with v2 v3) (v3 + 1) σ hw (by omega) (by omega)
      · have i8 := neI c5
        have a6 := addI (x := v3) (y := 1) (by omega) (by omega)
        exact ih v1 v2 (v3 + 1) σ hw (by omega) (by omega)
set_option maxRecDepth 100000 in
set_option maxHeartbeats 4000000 in
theorem wX4_lie (v1 : Int32) {σ : sg} (hw : WD σ) : WDi (fX4_lie v1 σ) := by
  have km1000001 : ((-1000001) : Int32).toInt = -1000001 := rfl
  have k0 : (0 : Int32).toInt = 0 := rfl
  rw [show fX4_lie v1 σ = _ from fX4_lie.eq_1 ..]
  refine wf_ite (fun c1 => ?_) (fun c1 => ?_)
  · have i19 := eqI c1
    refine wf_bnd (fun r14 e15 => ?_)
    have hw16 : WD r14.2 := by rw [e15]; exact wX4_found (-1000001) hw 
    exact hw16
  · have i17 := neI c1
    have b18 := isS_t c1
    refine wf_bnd (fun r12 e13 => ?_)
    exact hw
set_option maxRecDepth 100000 in
set_option maxHeartbeats 4000000 in
theorem wX4_hours (v1 : Int32) {σ : sg} (hw : WD σ) : WDi (fX4_hours v1 σ) := by
  have k0 : (0 : Int32).toInt = 0 := rfl
  have k100 : (100 : Int32).toInt = 100 := rfl
  rw [show fX4_hours v1 σ = _ from fX4_hours.eq_1 ..]
  refine wf_ite (fun c1 => ?_) (fun c1 => ?_)
  · have i9 := eqI c1
    have b10 := ref_f c1
    refine wf_bnd (fun r5 e6 => ?_)
    have hw7 : WD r5.2 := by rw [e6]; exact wX0_pass 0 (show 0 < 3 by decide) v1 hw (by omega)
    exact hw7
  · have i8 := neI c1
    refine wf_bnd (fun r2 e3 => ?_)
    have hw4 : WD r2.2 := by rw [e3]; exact wX4_found (fX4_refusal v1 100 σ) hw 
    exact hw4
set_option maxRecDepth 100000 in
set_option maxHeartbeats 4000000 in
theorem wX4_now (v1 : Int32) {σ : sg} (hw : WD σ) : WDi (fX4_now v1 σ) := by
  have km1000001 : ((-1000001) : Int32).toInt = -1000001 := rfl
  have k0 : (0 : Int32).toInt = 0 := rfl
  have k1 : (1 : Int32).toInt = 1 := rfl
  have k2 : (2 : Int32).toInt = 2 := rfl
  have k3 : (3 : Int32).toInt = 3 := rfl
  have k4 : (4 : Int32).toInt = 4 := rfl
  have k5 : (5 : Int32).toInt = 5 := rfl
  have k6 : (6 : Int32).toInt = 6 := rfl
  rw [show fX4_now v1 σ = _ from fX4_now.eq_1 ..]
  refine wf_ite (fun c1 => ?_) (fun c1 => ?_)
  · have i23 := eqI c1
    exact hw
  · have i24 := neI c1
    refine wf_ite (fun c2 => ?_) (fun c2 => ?_)
    · have i21 := eqI c2
      exact hw
    · have i22 := neI c2
      refine wf_ite (fun c3 => ?_) (fun c3 => ?_)
      · have i19 := eqI c3
        exact hw
      · have i20 := neI c3
        refine wf_ite (fun c4 => ?_) (fun c4 => ?_)
        · have i17 := eqI c4
          exact hw
        · have i18 := neI c4
          refine wf_ite (fun c5 => ?_) (fun c5 => ?_)
          · have i15 := eqI c5
            exact hw
          · have i16 := neI c5
            refine wf_ite (fun c6 => ?_) (fun c6 => ?_)
            · have i13 := eqI c6
              exact hw
            · have i14 := neI c6
              refine wf_ite (fun c7 => ?_) (fun c7 => ?_)
              · have i11 := eqI c7
                exact hw
              · have i12 := neI c7
                refine wf_bnd (fun r8 e9 => ?_)
                have hw10 : WD r8.2 := by rw [e9]; exact wX4_found (-1000001) hw 
                exact hw10
set_option maxRecDepth 100000 in
set_option maxHeartbeats 4000000 in
theorem wX4_ahead (v1 : Int32) (v2 : Int32) {σ : sg} (hw : WD σ) : WDi (fX4_ahead v1 v2 σ) := by
  have km1000005 : ((-1000005) : Int32).toInt = -1000005 := rfl
  have km1000001 : ((-1000001) : Int32).toInt = -1000001 := rfl
  have k0 : (0 : Int32).toInt = 0 := rfl
  have k1 : (1 : Int32).toInt = 1 := rfl
  have k2 : (2 : Int32).toInt = 2 := rfl
  have k3 : (3 : Int32).toInt = 3 := rfl
  have k100 : (100 : Int32).toInt = 100 := rfl
  rw [show fX4_ahead v1 v2 σ = _ from fX4_ahead.eq_1 ..]
  refine wf_ite (fun c1 => ?_) (fun c1 => ?_)
  · have i37 := eqI c1
    have b38 := isW_f c1
    refine wf_bnd (fun r2 e3 => ?_)
    have hw4 : WD r2.2 := by rw [e3]; exact wX4_found (-1000001) hw 
    exact hw4
  · have i39 := neI c1
    have b40 := isW_t c1
    have w5 := wd_deeds hw (show 0 < 3 by decide)
    have a6 := addI (x := 2) (y := (rF σ (7 * 0 + 1))) (by omega) (by omega)
    refine wf_ite (fun c7 => ?_) (fun c7 => ?_)
    · have i35 := eqI c7
      have b36 := isW_f c7
      refine wf_bnd (fun r30 e31 => ?_)
      have hw32 : WD r30.2 := by rw [e31]; exact wX4_found (-1000001) hw 
      exact hw32
    · have i33 := neI c7
      have b34 := isW_t c7
      refine wf_ite (fun c8 => ?_) (fun c8 => ?_)
      · have i28 := eqI c8
        refine wf_bnd (fun r9 e10 => ?_)
        have hw11 : WD r9 := by rw [e10]; exact wX0_take 1 (show 1 < 3 by decide) 0 (show 0 < 3 by decide) hw 
        refine wf_bnd (fun r12 e13 => ?_)
        have hw14 : WD r12.2 := by rw [e13]; exact wX0_pass 1 (show 1 < 3 by decide) v1 hw11 (by omega)
        refine wf_ite (fun c15 => ?_) (fun c15 => ?_)
        · have i23 := eqI c15
          exact hw14
        · have i24 := neI c15
          refine wf_ite (fun c16 => ?_) (fun c16 => ?_)
          · have i21 := eqI c16
            exact hw14
          · have i22 := neI c16
            refine wf_ite (fun c17 => ?_) (fun c17 => ?_)
            · have i19 := eqI c17
              exact hw14
            · have i20 := neI c17
              have a18 := subI (x := v2) (y := 3) (by omega) (by omega)
              exact hw14
      · have i29 := neI c8
        refine wf_bnd (fun r25 e26 => ?_)
        have hw27 : WD r25.2 := by rw [e26]; exact wX4_found (-1000005) hw 
        exact hw27
set_option maxRecDepth 100000 in
set_option maxHeartbeats 4000000 in
theorem wX4_ends (v1 : Int32) {σ : sg} (hw : WD σ) : WDi (fX4_ends v1 σ) := by
  have km1000004 : ((-1000004) : Int32).toInt = -1000004 := rfl
  have k0 : (0 : Int32).toInt = 0 := rfl
  have k100 : (100 : Int32).toInt = 100 := rfl
  rw [show fX4_ends v1 σ = _ from fX4_ends.eq_1 ..]
  refine wf_ite (fun c1 => ?_) (fun c1 => ?_)
  · have i17 := eqI c1
    have b18 := refE_f hw c1
    refine wf_bnd (fun r2 e3 => ?_)
    have hw4 : WD r2 := by rw [e3]; exact wX0_take 1 (show 1 < 3 by decide) 0 (show 0 < 3 by decide) hw 
    refine wf_bnd (fun r5 e6 => ?_)
    have hw7 : WD r5.2 := by rw [e6]; exact wX0_endOf 1 (show 1 < 3 by decide) v1 hw4 
    refine wf_ite (fun c8 => ?_) (fun c8 => ?_)
    · have i12 := ltI c8
      refine wf_bnd (fun r9 e10 => ?_)
      have hw11 : WD r9.2 := by rw [e10]; exact wX4_found (-1000004) hw7 
      exact hw11
    · have i13 := nltI c8
      exact hw7
  · have i19 := neI c1
    refine wf_bnd (fun r14 e15 => ?_)
    have hw16 : WD r14.2 := by rw [e15]; exact wX4_found (fX4_refusalOfEnd v1 σ) hw 
    exact hw16
set_option maxRecDepth 100000 in
set_option maxHeartbeats 4000000 in
theorem wX4_soonest {σ : sg} (hw : WD σ) : WDi (fX4_soonest σ) := by
  have km1000005 : ((-1000005) : Int32).toInt = -1000005 := rfl
  have km1000004 : ((-1000004) : Int32).toInt = -1000004 := rfl
  have km1 : ((-1) : Int32).toInt = -1 := rfl
  have k0 : (0 : Int32).toInt = 0 := rfl
  have k100 : (100 : Int32).toInt = 100 := rfl
  rw [show fX4_soonest σ = _ from fX4_soonest.eq_1 ..]
  refine wf_ite (fun c1 => ?_) (fun c1 => ?_)
  · have i17 := eqI c1
    refine wf_bnd (fun r2 e3 => ?_)
    have hw4 : WD r2 := by rw [e3]; exact wX0_take 1 (show 1 < 3 by decide) 0 (show 0 < 3 by decide) hw 
    refine wf_bnd (fun r5 e6 => ?_)
    have hw7 : WD r5.2 := by rw [e6]; exact wX0_firstToEnd 1 (show 1 < 3 by decide) hw4 
    refine wf_ite (fun c8 => ?_) (fun c8 => ?_)
    · have i13 := eqI c8
      refine wf_bnd (fun r9 e10 => ?_)
      have hw11 : WD r9.2 := by rw [e10]; exact wX4_found (-1000004) hw7 
      exact hw11
    · have i12 := neI c8
      exact hw7
  · have i18 := neI c1
    refine wf_bnd (fun r14 e15 => ?_)
    have hw16 : WD r14.2 := by rw [e15]; exact wX4_found (-1000005) hw 
    exact hw16
def PLX4_place_24 : Int32 × sg → Prop := fun r => (WD r.2) ∧ True
set_option maxRecDepth 100000 in
set_option maxHeartbeats 4000000 in
theorem wLX4_place_24 : ∀ (k : Nat) (v1 v3 v4 v5 : Int32) (σ : sg) (hw : WD σ) (hv5 : 0 ≤ v5.toInt ∧ v5.toInt ≤ 6) (hdv1 : 0 ≤ v1.toInt ∧ v1.toInt ≤ 7) (hmu : (6 - v5.toInt).toNat < k), PLX4_place_24 (LX4_place_24 k v1 v3 v4 v5 σ) := by
  intro k
  induction k with
  | zero => intro v1 v3 v4 v5 σ hw hv5 hdv1 hmu; exact absurd hmu (Nat.not_lt_zero _)
  | succ k ih =>
    intro v1 v3 v4 v5 σ hw hv5 hdv1 hmu
    have k0 : (0 : Int32).toInt = 0 := rfl
    have k1 : (1 : Int32).toInt = 1 := rfl
    have k6 : (6 : Int32).toInt = 6 := rfl
    rw [show LX4_place_24 (k + 1) v1 v3 v4 v5 σ = _ from LX4_place_24.eq_2 ..]
    refine wf_ite (fun c2 => ?_) (fun c2 => ?_)
    · have i17 := leI c2
      exact ⟨hw, trivial⟩
    · have i18 := nleI c2
      refine wf_bnd (fun r3 e4 => ?_)
      have hw5 : WD r3 := by rw [e4]; exact wX0_take 1 (show 1 < 3 by decide) 0 (show 0 < 3 by decide) hw 
      refine wf_bnd (fun s6 e7 => ?_)
      have hw8 : WD s6 := by rw [e7]; exact wdAs (j0 := 1) hw5 (by omega) (by omega)
      refine wf_bnd (fun r9 e10 => ?_)
      have hw11 : WD r9.2 := by rw [e10]; exact wX0_endOf 1 (show 1 < 3 by decide) v1 hw8 
      refine wf_ite (fun c12 => ?_) (fun c12 => ?_)
      · have i15 := leI c12
        have a13 := addI (x := v5) (y := 1) (by omega) (by omega)
        exact ih v1 v3 v4 (v5 + 1) r9.2 hw11 (by omega) (by omega) (by omega)
      · have i16 := nleI c12
        have a14 := addI (x := v5) (y := 1) (by omega) (by omega)
        exact ih v1 v5 r9.1 (v5 + 1) r9.2 hw11 (by omega) (by omega) (by omega)
set_option maxRecDepth 100000 in
set_option maxHeartbeats 4000000 in
theorem wX4_place (v1 : Int32) {σ : sg} (hw : WD σ) : WDi (fX4_place v1 σ) := by
  have km1 : ((-1) : Int32).toInt = -1 := rfl
  have k0 : (0 : Int32).toInt = 0 := rfl
  rw [show fX4_place v1 σ = _ from fX4_place.eq_1 ..]
  refine wf_ite (fun c1 => ?_) (fun c1 => ?_)
  · have i25 := eqI c1
    have b26 := refE_f hw c1
    refine wf_bnd (fun r19 e20 => ?_)
    obtain ⟨hw21, _⟩ := (show PLX4_place_24 r19 from by rw [e20]; exact wLX4_place_24 7 v1 0 (-1) 0 σ hw (by omega) (by omega) (by omega))
    exact hw21
  · have i27 := neI c1
    refine wf_bnd (fun r22 e23 => ?_)
    have hw24 : WD r22.2 := by rw [e23]; exact wX4_found (fX4_refusalOfEnd v1 σ) hw 
    exact hw24
def PLX4_kindFor_24 : Int32 × sg → Prop := fun r => (WD r.2) ∧ True
set_option maxRecDepth 100000 in
set_option maxHeartbeats 4000000 in
theorem wLX4_kindFor_24 : ∀ (k : Nat) (v1 v3 v4 v5 : Int32) (σ : sg) (hw : WD σ) (hv5 : 0 ≤ v5.toInt ∧ v5.toInt ≤ 7) (hdv1 : 0 ≤ v1.toInt ∧ v1.toInt ≤ 7) (hmu : (7 - v5.toInt).toNat < k), PLX4_kindFor_24 (LX4_kindFor_24 k v1 v3 v4 v5 σ) := by
  intro k
  induction k with
  | zero => intro v1 v3 v4 v5 σ hw hv5 hdv1 hmu; exact absurd hmu (Nat.not_lt_zero _)
  | succ k ih =>
    intro v1 v3 v4 v5 σ hw hv5 hdv1 hmu
    have k0 : (0 : Int32).toInt = 0 := rfl
    have k1 : (1 : Int32).toInt = 1 := rfl
    have k7 : (7 : Int32).toInt = 7 := rfl
    rw [show LX4_kindFor_24 (k + 1) v1 v3 v4 v5 σ = _ from LX4_kindFor_24.eq_2 ..]
    refine wf_ite (fun c2 => ?_) (fun c2 => ?_)
    · have i17 := leI c2
      exact ⟨hw, trivial⟩
    · have i18 := nleI c2
      refine wf_bnd (fun r3 e4 => ?_)
      have hw5 : WD r3 := by rw [e4]; exact wX0_take 1 (show 1 < 3 by decide) 0 (show 0 < 3 by decide) hw 
      refine wf_bnd (fun s6 e7 => ?_)
      have hw8 : WD s6 := by rw [e7]; exact wdA hw5 (by have := (show 1 < 3 by decide); omega)
      refine wf_bnd (fun r9 e10 => ?_)
      have hw11 : WD r9.2 := by rw [e10]; exact wX0_endOf 1 (show 1 < 3 by decide) v1 hw8 
      refine wf_ite (fun c12 => ?_) (fun c12 => ?_)
      · have i15 := leI c12
        have a13 := addI (x := v5) (y := 1) (by omega) (by omega)
        exact ih v1 v3 v4 (v5 + 1) r9.2 hw11 (by omega) (by omega) (by omega)
      · have i16 := nleI c12
        have a14 := addI (x := v5) (y := 1) (by omega) (by omega)
        exact ih v1 v5 r9.1 (v5 + 1) r9.2 hw11 (by omega) (by omega) (by omega)
set_option maxRecDepth 100000 in
set_option maxHeartbeats 4000000 in
theorem wX4_kindFor (v1 : Int32) {σ : sg} (hw : WD σ) : WDi (fX4_kindFor v1 σ) := by
  have km1 : ((-1) : Int32).toInt = -1 := rfl
  have k0 : (0 : Int32).toInt = 0 := rfl
  rw [show fX4_kindFor v1 σ = _ from fX4_kindFor.eq_1 ..]
  refine wf_ite (fun c1 => ?_) (fun c1 => ?_)
  · have i25 := eqI c1
    have b26 := refE_f hw c1
    refine wf_bnd (fun r19 e20 => ?_)
    obtain ⟨hw21, _⟩ := (show PLX4_kindFor_24 r19 from by rw [e20]; exact wLX4_kindFor_24 8 v1 0 (-1) 0 σ hw (by omega) (by omega) (by omega))
    exact hw21
  · have i27 := neI c1
    refine wf_bnd (fun r22 e23 => ?_)
    have hw24 : WD r22.2 := by rw [e23]; exact wX4_found (fX4_refusalOfEnd v1 σ) hw 
    exact hw24
def PLX4_ice_42 : Int32 × sg → Prop := fun r => (WD r.2) ∧ True
set_option maxRecDepth 100000 in
set_option maxHeartbeats 4000000 in
theorem wLX4_ice_42 : ∀ (k : Nat) (v1 v2 v4 v5 v6 : Int32) (σ : sg) (hw : WD σ) (hv6 : 0 ≤ v6.toInt ∧ v6.toInt ≤ 6) (hnv2 : v2.toInt ≤ 100) (hmu : (6 - v6.toInt).toNat < k), PLX4_ice_42 (LX4_ice_42 k v1 v2 v4 v5 v6 σ) := by
  intro k
  induction k with
  | zero => intro v1 v2 v4 v5 v6 σ hw hv6 hnv2 hmu; exact absurd hmu (Nat.not_lt_zero _)
  | succ k ih =>
    intro v1 v2 v4 v5 v6 σ hw hv6 hnv2 hmu
    have k0 : (0 : Int32).toInt = 0 := rfl
    have k1 : (1 : Int32).toInt = 1 := rfl
    have k6 : (6 : Int32).toInt = 6 := rfl
    rw [show LX4_ice_42 (k + 1) v1 v2 v4 v5 v6 σ = _ from LX4_ice_42.eq_2 ..]
    refine wf_ite (fun c6 => ?_) (fun c6 => ?_)
    · have i21 := leI c6
      exact ⟨hw, trivial⟩
    · have i22 := nleI c6
      refine wf_bnd (fun r7 e8 => ?_)
      have hw9 : WD r7 := by rw [e8]; exact wX0_take 1 (show 1 < 3 by decide) 0 (show 0 < 3 by decide) hw 
      refine wf_bnd (fun r10 e11 => ?_)
      have hw12 : WD r10 := by rw [e11]; exact wX0_bringIce 1 (show 1 < 3 by decide) v6 v1 hw9 (by omega)
      refine wf_bnd (fun r13 e14 => ?_)
      have hw15 : WD r13.2 := by rw [e14]; exact wX0_holdingBehind 1 (show 1 < 3 by decide) v2 hw12 (by omega)
      refine wf_ite (fun c16 => ?_) (fun c16 => ?_)
      · have i19 := leI c16
        have a17 := addI (x := v6) (y := 1) (by omega) (by omega)
        exact ih v1 v2 v4 v5 (v6 + 1) r13.2 hw15 (by omega) (by omega) (by omega)
      · have i20 := nleI c16
        have a18 := addI (x := v6) (y := 1) (by omega) (by omega)
        exact ih v1 v2 v6 r13.1 (v6 + 1) r13.2 hw15 (by omega) (by omega) (by omega)
set_option maxRecDepth 100000 in
set_option maxHeartbeats 4000000 in
theorem wX4_ice (v1 : Int32) (v2 : Int32) {σ : sg} (hw : WD σ) : WDi (fX4_ice v1 v2 σ) := by
  have km1000001 : ((-1000001) : Int32).toInt = -1000001 := rfl
  have km1 : ((-1) : Int32).toInt = -1 := rfl
  have k0 : (0 : Int32).toInt = 0 := rfl
  have k1 : (1 : Int32).toInt = 1 := rfl
  have k99 : (99 : Int32).toInt = 99 := rfl
  have k100 : (100 : Int32).toInt = 100 := rfl
  rw [show fX4_ice v1 v2 σ = _ from fX4_ice.eq_1 ..]
  refine wf_ite (fun c1 => ?_) (fun c1 => ?_)
  · have i32 := eqI c1
    have b33 := isW_f c1
    refine wf_bnd (fun r2 e3 => ?_)
    have hw4 : WD r2.2 := by rw [e3]; exact wX4_found (-1000001) hw 
    exact hw4
  · have i34 := neI c1
    have b35 := isW_t c1
    refine wf_ite (fun c5 => ?_) (fun c5 => ?_)
    · have i29 := eqI c5
      have b30 := ref_f c5
      refine wf_bnd (fun r23 e24 => ?_)
      obtain ⟨hw25, _⟩ := (show PLX4_ice_42 r23 from by rw [e24]; exact wLX4_ice_42 7 v1 v2 0 (-1) 0 σ hw (by omega) (by omega) (by omega))
      exact hw25
    · have i31 := neI c5
      refine wf_bnd (fun r26 e27 => ?_)
      have hw28 : WD r26.2 := by rw [e27]; exact wX4_found (fX4_refusal v2 100 σ) hw 
      exact hw28
set_option maxRecDepth 100000 in
set_option maxHeartbeats 4000000 in
theorem wLX4_blocks_50 : ∀ (k : Nat) (v1 v2 v4 v5 v6 : Int32) (σ : sg) (hw : WD σ) (hv6 : 0 ≤ v6.toInt ∧ v6.toInt ≤ 101) (he : v5.toInt ≤ 100) (hnv2 : v2.toInt ≤ 100) (hs : 0 ≤ v4.toInt ∧ v4.toInt ≤ 5) (hmu : (101 - v6.toInt).toNat < k), WDi (LX4_blocks_50 k v1 v2 v4 v5 v6 σ) := by
  intro k
  induction k with
  | zero => intro v1 v2 v4 v5 v6 σ hw hv6 he hnv2 hs hmu; exact absurd hmu (Nat.not_lt_zero _)
  | succ k ih =>
    intro v1 v2 v4 v5 v6 σ hw hv6 he hnv2 hs hmu
    have km1000004 : ((-1000004) : Int32).toInt = -1000004 := rfl
    have k0 : (0 : Int32).toInt = 0 := rfl
    have k1 : (1 : Int32).toInt = 1 := rfl
    rw [show LX4_blocks_50 (k + 1) v1 v2 v4 v5 v6 σ = _ from LX4_blocks_50.eq_2 ..]
    refine wf_ite (fun c3 => ?_) (fun c3 => ?_)
    · have i20 := ltI c3
      refine wf_bnd (fun r4 e5 => ?_)
      have hw6 : WD r4.2 := by rw [e5]; exact wX4_found (-1000004) hw 
      exact hw6
    · have i21 := nltI c3
      refine wf_bnd (fun r7 e8 => ?_)
      have hw9 : WD r7 := by rw [e8]; exact wX0_take 1 (show 1 < 3 by decide) 0 (show 0 < 3 by decide) hw 
      refine wf_bnd (fun r10 e11 => ?_)
      have hw12 : WD r10 := by rw [e11]; exact wX0_bringIce 1 (show 1 < 3 by decide) v4 v6 hw9 (by omega)
      refine wf_bnd (fun r13 e14 => ?_)
      have hw15 : WD r13.2 := by rw [e14]; exact wX0_holdsBehind 1 (show 1 < 3 by decide) v1 v2 hw12 (by omega)
      refine wf_ite (fun c16 => ?_) (fun c16 => ?_)
      · have i18 := eqI c16
        have a17 := addI (x := v6) (y := 1) (by omega) (by omega)
        exact ih v1 v2 v4 v5 (v6 + 1) r13.2 hw15 (by omega) (by omega) (by omega) (by omega) (by omega)
      · have i19 := neI c16
        exact hw15
set_option maxRecDepth 100000 in
set_option maxHeartbeats 4000000 in
theorem wX4_blocks (v1 : Int32) (v2 : Int32) {σ : sg} (hw : WD σ) : WDi (fX4_blocks v1 v2 σ) := by
  have k0 : (0 : Int32).toInt = 0 := rfl
  have k99 : (99 : Int32).toInt = 99 := rfl
  rw [show fX4_blocks v1 v2 σ = _ from fX4_blocks.eq_1 ..]
  refine wf_ite (fun c1 => ?_) (fun c1 => ?_)
  · have i25 := eqI c1
    have b26 := refD_f hw c1
    have w2 := wd_shelf hw (show 0 < 3 by decide) v1
    exact wLX4_blocks_50 102 v1 v2 (rA σ (8 * 0 + 1) v1) (jmin v2 (99 - (rA σ (8 * 0 + 5) (rA σ (8 * 0 + 1) v1)))) 0 σ hw (by omega) (by have q9 := jminL v2 (99 - (rA σ (8 * 0 + 5) (rA σ (8 * 0 + 1) v1))); omega) (by omega) (by omega) (by omega)
  · have i27 := neI c1
    refine wf_bnd (fun r22 e23 => ?_)
    have hw24 : WD r22.2 := by rw [e23]; exact wX4_found (fX4_refusalOfDeed v1 v2 σ) hw 
    exact hw24
set_option maxRecDepth 100000 in
set_option maxHeartbeats 4000000 in
theorem wLX4_bears_21 : ∀ (k : Nat) (v1 v2 v4 : Int32) (σ : sg) (hw : WD σ) (hv4 : -1 ≤ v4.toInt ∧ v4.toInt ≤ 40) (hnv2 : v2.toInt ≤ 100) (hmu : (v4.toInt + 1).toNat < k), WDi (LX4_bears_21 k v1 v2 v4 σ) := by
  intro k
  induction k with
  | zero => intro v1 v2 v4 σ hw hv4 hnv2 hmu; exact absurd hmu (Nat.not_lt_zero _)
  | succ k ih =>
    intro v1 v2 v4 σ hw hv4 hnv2 hmu
    have km1000004 : ((-1000004) : Int32).toInt = -1000004 := rfl
    have km1 : ((-1) : Int32).toInt = -1 := rfl
    have k0 : (0 : Int32).toInt = 0 := rfl
    rw [show LX4_bears_21 (k + 1) v1 v2 v4 σ = _ from LX4_bears_21.eq_2 ..]
    refine wf_ite (fun c2 => ?_) (fun c2 => ?_)
    · have i19 := ltI c2
      refine wf_bnd (fun r3 e4 => ?_)
      have hw5 : WD r3.2 := by rw [e4]; exact wX4_found (-1000004) hw 
      exact hw5
    · have i20 := nltI c2
      refine wf_bnd (fun r6 e7 => ?_)
      have hw8 : WD r6 := by rw [e7]; exact wX0_take 1 (show 1 < 3 by decide) 0 (show 0 < 3 by decide) hw 
      refine wf_bnd (fun s9 e10 => ?_)
      have hw11 : WD s9 := by rw [e10]; exact wdF hw8 (by have := (show 1 < 3 by decide); omega)
      refine wf_bnd (fun r12 e13 => ?_)
      have hw14 : WD r12.2 := by rw [e13]; exact wX0_holdsBehind 1 (show 1 < 3 by decide) v1 v2 hw11 (by omega)
      refine wf_ite (fun c15 => ?_) (fun c15 => ?_)
      · have i17 := eqI c15
        have a16 := addI (x := v4) (y := (-1)) (by omega) (by omega)
        exact ih v1 v2 (v4 + (-1)) r12.2 hw14 (by omega) (by omega) (by omega)
      · have i18 := neI c15
        exact hw14
set_option maxRecDepth 100000 in
set_option maxHeartbeats 4000000 in
theorem wX4_bears (v1 : Int32) (v2 : Int32) {σ : sg} (hw : WD σ) : WDi (fX4_bears v1 v2 σ) := by
  have k0 : (0 : Int32).toInt = 0 := rfl
  have k40 : (40 : Int32).toInt = 40 := rfl
  rw [show fX4_bears v1 v2 σ = _ from fX4_bears.eq_1 ..]
  refine wf_ite (fun c1 => ?_) (fun c1 => ?_)
  · have i24 := eqI c1
    have b25 := refD_f hw c1
    exact wLX4_bears_21 42 v1 v2 40 σ hw (by omega) (by omega) (by omega)
  · have i26 := neI c1
    refine wf_bnd (fun r21 e22 => ?_)
    have hw23 : WD r21.2 := by rw [e22]; exact wX4_found (fX4_refusalOfDeed v1 v2 σ) hw 
    exact hw23
set_option maxRecDepth 100000 in
set_option maxHeartbeats 4000000 in
theorem wX4_holdingSwapped (v1 : Int32) (v2 : Int32) (v3 : Int32) {σ : sg} (hw : WD σ) (hb : (0 ≤ v1.toInt ∧ v1.toInt ≤ 7) ∧ (0 ≤ v2.toInt ∧ v2.toInt ≤ 7)) (hn : v3.toInt ≤ 100) : WDi (fX4_holdingSwapped v1 v2 v3 σ) := by
  have k0 : (0 : Int32).toInt = 0 := rfl
  rw [show fX4_holdingSwapped v1 v2 v3 σ = _ from fX4_holdingSwapped.eq_1 ..]
  refine wf_bnd (fun r1 e2 => ?_)
  have hw3 : WD r1 := by rw [e2]; exact wX0_take 1 (show 1 < 3 by decide) 0 (show 0 < 3 by decide) hw 
  have w4 := wd_shelf hw3 (show 0 < 3 by decide) v2
  refine wf_bnd (fun s5 e6 => ?_)
  have hw7 : WD s5 := by rw [e6]; exact wdAs (j0 := 1) hw3 (by omega) (by omega)
  have w8 := wd_shelf hw7 (show 0 < 3 by decide) v1
  refine wf_bnd (fun s9 e10 => ?_)
  have hw11 : WD s9 := by rw [e10]; exact wdAs (j0 := 1) hw7 (by omega) (by omega)
  refine wf_bnd (fun r12 e13 => ?_)
  have hw14 : WD r12.2 := by rw [e13]; exact wX0_holdingBehind 1 (show 1 < 3 by decide) v3 hw11 (by omega)
  exact hw14
set_option maxRecDepth 100000 in
set_option maxHeartbeats 4000000 in
theorem wX4_holdingOpened (v1 : Int32) (v2 : Int32) {σ : sg} (hw : WD σ) (hn : v2.toInt ≤ 100) : WDi (fX4_holdingOpened v1 v2 σ) := by
  have k0 : (0 : Int32).toInt = 0 := rfl
  rw [show fX4_holdingOpened v1 v2 σ = _ from fX4_holdingOpened.eq_1 ..]
  refine wf_bnd (fun r1 e2 => ?_)
  have hw3 : WD r1 := by rw [e2]; exact wX0_take 1 (show 1 < 3 by decide) 0 (show 0 < 3 by decide) hw 
  refine wf_bnd (fun s4 e5 => ?_)
  have hw6 : WD s4 := by rw [e5]; exact wdF hw3 (by have := (show 1 < 3 by decide); omega)
  refine wf_bnd (fun r7 e8 => ?_)
  have hw9 : WD r7.2 := by rw [e8]; exact wX0_holdingBehind 1 (show 1 < 3 by decide) v2 hw6 (by omega)
  exact hw9
set_option maxRecDepth 100000 in
set_option maxHeartbeats 4000000 in
theorem wX4_endsOpened (v1 : Int32) (v2 : Int32) (v3 : Int32) {σ : sg} (hw : WD σ) (hn : v3.toInt ≤ 100) : WDi (fX4_endsOpened v1 v2 v3 σ) := by
  have k0 : (0 : Int32).toInt = 0 := rfl
  have k1 : (1 : Int32).toInt = 1 := rfl
  rw [show fX4_endsOpened v1 v2 v3 σ = _ from fX4_endsOpened.eq_1 ..]
  refine wf_bnd (fun r1 e2 => ?_)
  have hw3 : WD r1 := by rw [e2]; exact wX0_take 1 (show 1 < 3 by decide) 0 (show 0 < 3 by decide) hw 
  refine wf_bnd (fun s4 e5 => ?_)
  have hw6 : WD s4 := by rw [e5]; exact wdF hw3 (by have := (show 1 < 3 by decide); omega)
  refine wf_bnd (fun r7 e8 => ?_)
  have hw9 : WD r7.2 := by rw [e8]; exact wX0_holdsBehind 1 (show 1 < 3 by decide) v2 v3 hw6 (by omega)
  refine wf_ite (fun c10 => ?_) (fun c10 => ?_)
  · have i12 := eqI c10
    exact hw9
  · have i11 := neI c10
    exact hw9
def PLX4_worstSet_9 : Int32 × sg → Prop := fun r => (WD r.2) ∧ True
set_option maxRecDepth 100000 in
set_option maxHeartbeats 4000000 in
theorem wLX4_worstSet_9 : ∀ (k : Nat) (v1 v2 v3 v4 v5 : Int32) (σ : sg) (hw : WD σ) (hv5 : 0 ≤ v5.toInt ∧ v5.toInt ≤ 64) (hnv2 : v2.toInt ≤ 100) (hmu : (64 - v5.toInt).toNat < k), PLX4_worstSet_9 (LX4_worstSet_9 k v1 v2 v3 v4 v5 σ) := by
  intro k
  induction k with
  | zero => intro v1 v2 v3 v4 v5 σ hw hv5 hnv2 hmu; exact absurd hmu (Nat.not_lt_zero _)
  | succ k ih =>
    intro v1 v2 v3 v4 v5 σ hw hv5 hnv2 hmu
    have k0 : (0 : Int32).toInt = 0 := rfl
    have k1 : (1 : Int32).toInt = 1 := rfl
    have k64 : (64 : Int32).toInt = 64 := rfl
    rw [show LX4_worstSet_9 (k + 1) v1 v2 v3 v4 v5 σ = _ from LX4_worstSet_9.eq_2 ..]
    refine wf_ite (fun c1 => ?_) (fun c1 => ?_)
    · have i18 := leI c1
      exact ⟨hw, trivial⟩
    · have i19 := nleI c1
      refine wf_ite (fun c2 => ?_) (fun c2 => ?_)
      · have i17 := eqI c2
        refine wf_ite (fun c4 => ?_) (fun c4 => ?_)
        · have i15 := eqI c4
          refine wf_bnd (fun r6 e7 => ?_)
          have hw8 : WD r6.2 := by rw [e7]; exact wX4_holdingOpened v5 v2 hw (by omega)
          refine wf_ite (fun c9 => ?_) (fun c9 => ?_)
          · have i12 := leI c9
            have a10 := addI (x := v5) (y := 1) (by omega) (by omega)
            exact ih v1 v2 v3 v4 (v5 + 1) r6.2 hw8 (by omega) (by omega) (by omega)
          · have i13 := nleI c9
            have a11 := addI (x := v5) (y := 1) (by omega) (by omega)
            exact ih v1 v2 v5 r6.1 (v5 + 1) r6.2 hw8 (by omega) (by omega) (by omega)
        · have i14 := neI c4
          have a5 := addI (x := v5) (y := 1) (by omega) (by omega)
          exact ih v1 v2 v3 v4 (v5 + 1) σ hw (by omega) (by omega) (by omega)
      · have i16 := neI c2
        have a3 := addI (x := v5) (y := 1) (by omega) (by omega)
        exact ih v1 v2 v3 v4 (v5 + 1) σ hw (by omega) (by omega) (by omega)
set_option maxRecDepth 100000 in
set_option maxHeartbeats 4000000 in
theorem wX4_worstSet (v1 : Int32) (v2 : Int32) {σ : sg} (hw : WD σ) (hn : v2.toInt ≤ 100) : WDi (fX4_worstSet v1 v2 σ) := by
  have k0 : (0 : Int32).toInt = 0 := rfl
  have k9 : (9 : Int32).toInt = 9 := rfl
  rw [show fX4_worstSet v1 v2 σ = _ from fX4_worstSet.eq_1 ..]
  refine wf_bnd (fun r20 e21 => ?_)
  obtain ⟨hw22, _⟩ := (show PLX4_worstSet_9 r20 from by rw [e21]; exact wLX4_worstSet_9 65 v1 v2 0 9 0 σ hw (by omega) (by omega) (by omega))
  exact hw22
def PLX4_worstBesides_6 : Int32 × sg → Prop := fun r => (WD r.2) ∧ True
set_option maxRecDepth 100000 in
set_option maxHeartbeats 4000000 in
theorem wLX4_worstBesides_6 : ∀ (k : Nat) (v1 v2 v3 v4 : Int32) (σ : sg) (hw : WD σ) (hv4 : 0 ≤ v4.toInt ∧ v4.toInt ≤ 6) (hnv2 : v2.toInt ≤ 100) (hmu : (6 - v4.toInt).toNat < k), PLX4_worstBesides_6 (LX4_worstBesides_6 k v1 v2 v3 v4 σ) := by
  intro k
  induction k with
  | zero => intro v1 v2 v3 v4 σ hw hv4 hnv2 hmu; exact absurd hmu (Nat.not_lt_zero _)
  | succ k ih =>
    intro v1 v2 v3 v4 σ hw hv4 hnv2 hmu
    have k0 : (0 : Int32).toInt = 0 := rfl
    have k1 : (1 : Int32).toInt = 1 := rfl
    have k6 : (6 : Int32).toInt = 6 := rfl
    rw [show LX4_worstBesides_6 (k + 1) v1 v2 v3 v4 σ = _ from LX4_worstBesides_6.eq_2 ..]
    refine wf_ite (fun c1 => ?_) (fun c1 => ?_)
    · have i14 := leI c1
      exact ⟨hw, trivial⟩
    · have i15 := nleI c1
      refine wf_ite (fun c2 => ?_) (fun c2 => ?_)
      · have i12 := eqI c2
        have a3 := addI (x := v4) (y := 1) (by omega) (by omega)
        exact ih v1 v2 v3 (v4 + 1) σ hw (by omega) (by omega) (by omega)
      · have i13 := neI c2
        refine wf_ite (fun c4 => ?_) (fun c4 => ?_)
        · have i11 := eqI c4
          refine wf_bnd (fun r6 e7 => ?_)
          have hw8 : WD r6.2 := by rw [e7]; exact wX4_holdingOpened (jshl 1 v4) v2 hw (by omega)
          have a9 := addI (x := v4) (y := 1) (by omega) (by omega)
          exact ih v1 v2 (jmin v3 r6.1) (v4 + 1) r6.2 hw8 (by omega) (by omega) (by omega)
        · have i10 := neI c4
          have a5 := addI (x := v4) (y := 1) (by omega) (by omega)
          exact ih v1 v2 v3 (v4 + 1) σ hw (by omega) (by omega) (by omega)
set_option maxRecDepth 100000 in
set_option maxHeartbeats 4000000 in
theorem wX4_worstBesides (v1 : Int32) (v2 : Int32) {σ : sg} (hw : WD σ) (hn : v2.toInt ≤ 100) : WDi (fX4_worstBesides v1 v2 σ) := by
  have k0 : (0 : Int32).toInt = 0 := rfl
  have k8 : (8 : Int32).toInt = 8 := rfl
  have k9 : (9 : Int32).toInt = 9 := rfl
  rw [show fX4_worstBesides v1 v2 σ = _ from fX4_worstBesides.eq_1 ..]
  refine wf_bnd (fun r16 e17 => ?_)
  obtain ⟨hw18, _⟩ := (show PLX4_worstBesides_6 r16 from by rw [e17]; exact wLX4_worstBesides_6 7 v1 v2 9 0 σ hw (by omega) (by omega) (by omega))
  refine wf_ite (fun c19 => ?_) (fun c19 => ?_)
  · have i23 := ltI c19
    refine wf_bnd (fun r20 e21 => ?_)
    have hw22 : WD r20.2 := by rw [e21]; exact wX4_holdingOpened 0 v2 hw18 (by omega)
    exact hw22
  · have i24 := nltI c19
    exact hw18
def PLX4_swap_62 : Int32 × Int32 × sg → Prop := fun r => (WD r.2.2) ∧ True
set_option maxRecDepth 100000 in
set_option maxHeartbeats 4000000 in
theorem wLX4_swap_62 : ∀ (k : Nat) (v1 v3 v4 v5 v6 : Int32) (σ : sg) (hw : WD σ) (hv6 : 0 ≤ v6.toInt ∧ v6.toInt ≤ 8) (hnv1 : v1.toInt ≤ 100) (ha : 0 ≤ v5.toInt ∧ v5.toInt ≤ 7) (hmu : (8 - v6.toInt).toNat < k), PLX4_swap_62 (LX4_swap_62 k v1 v3 v4 v5 v6 σ) := by
  intro k
  induction k with
  | zero => intro v1 v3 v4 v5 v6 σ hw hv6 hnv1 ha hmu; exact absurd hmu (Nat.not_lt_zero _)
  | succ k ih =>
    intro v1 v3 v4 v5 v6 σ hw hv6 hnv1 ha hmu
    have k0 : (0 : Int32).toInt = 0 := rfl
    have k1 : (1 : Int32).toInt = 1 := rfl
    have k10 : (10 : Int32).toInt = 10 := rfl
    rw [show LX4_swap_62 (k + 1) v1 v3 v4 v5 v6 σ = _ from LX4_swap_62.eq_2 ..]
    have w10 := wd_deeds hw (show 0 < 3 by decide)
    refine wf_ite (fun c11 => ?_) (fun c11 => ?_)
    · have i20 := leI c11
      exact ⟨hw, trivial⟩
    · have i21 := nleI c11
      refine wf_bnd (fun r12 e13 => ?_)
      have hw14 : WD r12.2 := by rw [e13]; exact wX4_holdingSwapped v5 v6 v1 hw (by omega) (by omega)
      refine wf_ite (fun c15 => ?_) (fun c15 => ?_)
      · have i18 := leI c15
        have a16 := addI (x := v6) (y := 1) (by omega) (by omega)
        exact ih v1 v3 v4 v5 (v6 + 1) r12.2 hw14 (by omega) (by omega) (by omega) (by omega)
      · have i19 := nleI c15
        have a17 := addI (x := v6) (y := 1) (by omega) (by omega)
        exact ih v1 r12.1 ((10 * v5) + v6) v5 (v6 + 1) r12.2 hw14 (by omega) (by omega) (by omega) (by omega)
def PLX4_swap_44 : Int32 × sg → Prop := fun r => (WD r.2) ∧ True
set_option maxRecDepth 100000 in
set_option maxHeartbeats 4000000 in
theorem wLX4_swap_44 : ∀ (k : Nat) (v1 v3 v4 v5 : Int32) (σ : sg) (hw : WD σ) (hv5 : 0 ≤ v5.toInt ∧ v5.toInt ≤ 8) (hnv1 : v1.toInt ≤ 100) (hmu : (8 - v5.toInt).toNat < k), PLX4_swap_44 (LX4_swap_44 k v1 v3 v4 v5 σ) := by
  intro k
  induction k with
  | zero => intro v1 v3 v4 v5 σ hw hv5 hnv1 hmu; exact absurd hmu (Nat.not_lt_zero _)
  | succ k ih =>
    intro v1 v3 v4 v5 σ hw hv5 hnv1 hmu
    have k0 : (0 : Int32).toInt = 0 := rfl
    have k1 : (1 : Int32).toInt = 1 := rfl
    rw [show LX4_swap_44 (k + 1) v1 v3 v4 v5 σ = _ from LX4_swap_44.eq_2 ..]
    have w8 := wd_deeds hw (show 0 < 3 by decide)
    refine wf_ite (fun c9 => ?_) (fun c9 => ?_)
    · have i26 := leI c9
      exact ⟨hw, trivial⟩
    · have i27 := nleI c9
      have a22 := addI (x := v5) (y := 1) (by omega) (by omega)
      refine wf_bnd (fun r23 e24 => ?_)
      obtain ⟨hw25, _⟩ := (show PLX4_swap_62 r23 from by rw [e24]; exact wLX4_swap_62 9 v1 v3 v4 v5 (v5 + 1) σ hw (by omega) (by omega) (by omega) (by omega))
      exact ih v1 r23.1 r23.2.1 (v5 + 1) r23.2.2 hw25 (by omega) (by omega) (by omega)
set_option maxRecDepth 100000 in
set_option maxHeartbeats 4000000 in
theorem wX4_swap (v1 : Int32) {σ : sg} (hw : WD σ) : WDi (fX4_swap v1 σ) := by
  have km1000004 : ((-1000004) : Int32).toInt = -1000004 := rfl
  have km1 : ((-1) : Int32).toInt = -1 := rfl
  have k0 : (0 : Int32).toInt = 0 := rfl
  have k100 : (100 : Int32).toInt = 100 := rfl
  rw [show fX4_swap v1 σ = _ from fX4_swap.eq_1 ..]
  refine wf_ite (fun c1 => ?_) (fun c1 => ?_)
  · have i40 := eqI c1
    have b41 := ref_f c1
    refine wf_bnd (fun r2 e3 => ?_)
    have hw4 : WD r2 := by rw [e3]; exact wX0_take 1 (show 1 < 3 by decide) 0 (show 0 < 3 by decide) hw 
    refine wf_bnd (fun r5 e6 => ?_)
    have hw7 : WD r5.2 := by rw [e6]; exact wX0_holdingBehind 1 (show 1 < 3 by decide) v1 hw4 (by omega)
    refine wf_bnd (fun r28 e29 => ?_)
    obtain ⟨hw30, _⟩ := (show PLX4_swap_44 r28 from by rw [e29]; exact wLX4_swap_44 9 v1 r5.1 (-1) 0 r5.2 hw7 (by omega) (by omega) (by omega))
    refine wf_ite (fun c31 => ?_) (fun c31 => ?_)
    · have i36 := eqI c31
      refine wf_bnd (fun r32 e33 => ?_)
      have hw34 : WD r32.2 := by rw [e33]; exact wX4_found (-1000004) hw30 
      exact hw34
    · have i35 := neI c31
      exact hw30
  · have i42 := neI c1
    refine wf_bnd (fun r37 e38 => ?_)
    have hw39 : WD r37.2 := by rw [e38]; exact wX4_found (fX4_refusal v1 100 σ) hw 
    exact hw39
def PLX4_law_26 : Int32 × sg → Prop := fun r => (WD r.2) ∧ True
set_option maxRecDepth 100000 in
set_option maxHeartbeats 4000000 in
theorem wLX4_law_26 : ∀ (k : Nat) (v1 v3 v4 v5 : Int32) (σ : sg) (hw : WD σ) (hv5 : 0 ≤ v5.toInt ∧ v5.toInt ≤ 7) (hnv1 : v1.toInt ≤ 100) (hmu : (7 - v5.toInt).toNat < k), PLX4_law_26 (LX4_law_26 k v1 v3 v4 v5 σ) := by
  intro k
  induction k with
  | zero => intro v1 v3 v4 v5 σ hw hv5 hnv1 hmu; exact absurd hmu (Nat.not_lt_zero _)
  | succ k ih =>
    intro v1 v3 v4 v5 σ hw hv5 hnv1 hmu
    have k0 : (0 : Int32).toInt = 0 := rfl
    have k1 : (1 : Int32).toInt = 1 := rfl
    have k7 : (7 : Int32).toInt = 7 := rfl
    rw [show LX4_law_26 (k + 1) v1 v3 v4 v5 σ = _ from LX4_law_26.eq_2 ..]
    refine wf_ite (fun c2 => ?_) (fun c2 => ?_)
    · have i17 := leI c2
      exact ⟨hw, trivial⟩
    · have i18 := nleI c2
      refine wf_bnd (fun r3 e4 => ?_)
      have hw5 : WD r3 := by rw [e4]; exact wX0_take 1 (show 1 < 3 by decide) 0 (show 0 < 3 by decide) hw 
      refine wf_bnd (fun r6 e7 => ?_)
      have hw8 : WD r6 := by rw [e7]; exact wX0_setAllKinds 1 (show 1 < 3 by decide) v5 hw5 
      refine wf_bnd (fun r9 e10 => ?_)
      have hw11 : WD r9.2 := by rw [e10]; exact wX0_holdingBehind 1 (show 1 < 3 by decide) v1 hw8 (by omega)
      refine wf_ite (fun c12 => ?_) (fun c12 => ?_)
      · have i15 := leI c12
        have a13 := addI (x := v5) (y := 1) (by omega) (by omega)
        exact ih v1 v3 v4 (v5 + 1) r9.2 hw11 (by omega) (by omega) (by omega)
      · have i16 := nleI c12
        have a14 := addI (x := v5) (y := 1) (by omega) (by omega)
        exact ih v1 v5 r9.1 (v5 + 1) r9.2 hw11 (by omega) (by omega) (by omega)
set_option maxRecDepth 100000 in
set_option maxHeartbeats 4000000 in
theorem wX4_law (v1 : Int32) {σ : sg} (hw : WD σ) : WDi (fX4_law v1 σ) := by
  have km1 : ((-1) : Int32).toInt = -1 := rfl
  have k0 : (0 : Int32).toInt = 0 := rfl
  have k100 : (100 : Int32).toInt = 100 := rfl
  rw [show fX4_law v1 σ = _ from fX4_law.eq_1 ..]
  refine wf_ite (fun c1 => ?_) (fun c1 => ?_)
  · have i25 := eqI c1
    have b26 := ref_f c1
    refine wf_bnd (fun r19 e20 => ?_)
    obtain ⟨hw21, _⟩ := (show PLX4_law_26 r19 from by rw [e20]; exact wLX4_law_26 8 v1 0 (-1) 0 σ hw (by omega) (by omega) (by omega))
    exact hw21
  · have i27 := neI c1
    refine wf_bnd (fun r22 e23 => ?_)
    have hw24 : WD r22.2 := by rw [e23]; exact wX4_found (fX4_refusal v1 100 σ) hw 
    exact hw24
set_option maxRecDepth 100000 in
set_option maxHeartbeats 4000000 in
theorem wX4_enemy (v1 : Int32) (v2 : Int32) {σ : sg} (hw : WD σ) : WDi (fX4_enemy v1 v2 σ) := by
  have k0 : (0 : Int32).toInt = 0 := rfl
  rw [show fX4_enemy v1 v2 σ = _ from fX4_enemy.eq_1 ..]
  refine wf_ite (fun c1 => ?_) (fun c1 => ?_)
  · have i9 := eqI c1
    have b10 := refN_f c1
    refine wf_bnd (fun r5 e6 => ?_)
    have hw7 : WD r5.2 := by rw [e6]; exact wX4_worstSet v1 v2 hw (by omega)
    exact hw7
  · have i8 := neI c1
    refine wf_bnd (fun r2 e3 => ?_)
    have hw4 : WD r2.2 := by rw [e3]; exact wX4_found (fX4_refusalOfEnemy v1 v2 σ) hw 
    exact hw4
set_option maxRecDepth 100000 in
set_option maxHeartbeats 4000000 in
theorem wX4_worst (v1 : Int32) (v2 : Int32) {σ : sg} (hw : WD σ) : WDi (fX4_worst v1 v2 σ) := by
  have k0 : (0 : Int32).toInt = 0 := rfl
  rw [show fX4_worst v1 v2 σ = _ from fX4_worst.eq_1 ..]
  refine wf_ite (fun c1 => ?_) (fun c1 => ?_)
  · have i12 := eqI c1
    have b13 := refN_f c1
    refine wf_bnd (fun r5 e6 => ?_)
    have hw7 : WD r5.2 := by rw [e6]; exact wX4_worstSet v1 v2 hw (by omega)
    refine wf_bnd (fun r8 e9 => ?_)
    have hw10 : WD r8.2 := by rw [e9]; exact wX4_holdingOpened r5.1 v2 hw7 (by omega)
    exact hw10
  · have i11 := neI c1
    refine wf_bnd (fun r2 e3 => ?_)
    have hw4 : WD r2.2 := by rw [e3]; exact wX4_found (fX4_refusalOfEnemy v1 v2 σ) hw 
    exact hw4
def PLX4_least_24 : Int32 × sg → Prop := fun r => (WD r.2) ∧ True
set_option maxRecDepth 100000 in
set_option maxHeartbeats 4000000 in
theorem wLX4_least_24 : ∀ (k : Nat) (v1 v2 v4 v5 : Int32) (σ : sg) (hw : WD σ) (hv5 : 0 ≤ v5.toInt ∧ v5.toInt ≤ 64) (hnv2 : v2.toInt ≤ 100) (hmu : (64 - v5.toInt).toNat < k), PLX4_least_24 (LX4_least_24 k v1 v2 v4 v5 σ) := by
  intro k
  induction k with
  | zero => intro v1 v2 v4 v5 σ hw hv5 hnv2 hmu; exact absurd hmu (Nat.not_lt_zero _)
  | succ k ih =>
    intro v1 v2 v4 v5 σ hw hv5 hnv2 hmu
    have k0 : (0 : Int32).toInt = 0 := rfl
    have k1 : (1 : Int32).toInt = 1 := rfl
    have k64 : (64 : Int32).toInt = 64 := rfl
    rw [show LX4_least_24 (k + 1) v1 v2 v4 v5 σ = _ from LX4_least_24.eq_2 ..]
    refine wf_ite (fun c2 => ?_) (fun c2 => ?_)
    · have i19 := leI c2
      exact ⟨hw, trivial⟩
    · have i20 := nleI c2
      refine wf_ite (fun c3 => ?_) (fun c3 => ?_)
      · have i18 := eqI c3
        refine wf_ite (fun c5 => ?_) (fun c5 => ?_)
        · have i15 := leI c5
          have a6 := addI (x := v5) (y := 1) (by omega) (by omega)
          exact ih v1 v2 v4 (v5 + 1) σ hw (by omega) (by omega) (by omega)
        · have i16 := nleI c5
          refine wf_bnd (fun r7 e8 => ?_)
          have hw9 : WD r7.2 := by rw [e8]; exact wX4_endsOpened v5 v1 v2 hw (by omega)
          refine wf_ite (fun c10 => ?_) (fun c10 => ?_)
          · have i13 := eqI c10
            have a11 := addI (x := v5) (y := 1) (by omega) (by omega)
            exact ih v1 v2 v4 (v5 + 1) r7.2 hw9 (by omega) (by omega) (by omega)
          · have i14 := neI c10
            have a12 := addI (x := v5) (y := 1) (by omega) (by omega)
            exact ih v1 v2 (fJ6_bitCount_0f7a4 v5) (v5 + 1) r7.2 hw9 (by omega) (by omega) (by omega)
      · have i17 := neI c3
        have a4 := addI (x := v5) (y := 1) (by omega) (by omega)
        exact ih v1 v2 v4 (v5 + 1) σ hw (by omega) (by omega) (by omega)
set_option maxRecDepth 100000 in
set_option maxHeartbeats 4000000 in
theorem wX4_least (v1 : Int32) (v2 : Int32) {σ : sg} (hw : WD σ) : WDi (fX4_least v1 v2 σ) := by
  have km1000004 : ((-1000004) : Int32).toInt = -1000004 := rfl
  have k0 : (0 : Int32).toInt = 0 := rfl
  have k6 : (6 : Int32).toInt = 6 := rfl
  have k7 : (7 : Int32).toInt = 7 := rfl
  rw [show fX4_least v1 v2 σ = _ from fX4_least.eq_1 ..]
  refine wf_ite (fun c1 => ?_) (fun c1 => ?_)
  · have i33 := eqI c1
    have b34 := refD_f hw c1
    refine wf_bnd (fun r21 e22 => ?_)
    obtain ⟨hw23, _⟩ := (show PLX4_least_24 r21 from by rw [e22]; exact wLX4_least_24 65 v1 v2 7 0 σ hw (by omega) (by omega) (by omega))
    refine wf_ite (fun c24 => ?_) (fun c24 => ?_)
    · have i28 := ltI c24
      refine wf_bnd (fun r25 e26 => ?_)
      have hw27 : WD r25.2 := by rw [e26]; exact wX4_found (-1000004) hw23 
      exact hw27
    · have i29 := nltI c24
      exact hw23
  · have i35 := neI c1
    refine wf_bnd (fun r30 e31 => ?_)
    have hw32 : WD r30.2 := by rw [e31]; exact wX4_found (fX4_refusalOfDeed v1 v2 σ) hw 
    exact hw32
def PLX4_nail_26 : Int32 × sg → Prop := fun r => (WD r.2) ∧ True
set_option maxRecDepth 100000 in
set_option maxHeartbeats 4000000 in
theorem wLX4_nail_26 : ∀ (k : Nat) (v1 v3 v4 v5 : Int32) (σ : sg) (hw : WD σ) (hv5 : 0 ≤ v5.toInt ∧ v5.toInt ≤ 6) (hnv1 : v1.toInt ≤ 100) (hmu : (6 - v5.toInt).toNat < k), PLX4_nail_26 (LX4_nail_26 k v1 v3 v4 v5 σ) := by
  intro k
  induction k with
  | zero => intro v1 v3 v4 v5 σ hw hv5 hnv1 hmu; exact absurd hmu (Nat.not_lt_zero _)
  | succ k ih =>
    intro v1 v3 v4 v5 σ hw hv5 hnv1 hmu
    have k0 : (0 : Int32).toInt = 0 := rfl
    have k1 : (1 : Int32).toInt = 1 := rfl
    have k6 : (6 : Int32).toInt = 6 := rfl
    rw [show LX4_nail_26 (k + 1) v1 v3 v4 v5 σ = _ from LX4_nail_26.eq_2 ..]
    refine wf_ite (fun c2 => ?_) (fun c2 => ?_)
    · have i15 := leI c2
      exact ⟨hw, trivial⟩
    · have i16 := nleI c2
      refine wf_ite (fun c3 => ?_) (fun c3 => ?_)
      · have i14 := eqI c3
        refine wf_bnd (fun r5 e6 => ?_)
        have hw7 : WD r5.2 := by rw [e6]; exact wX4_worstBesides v5 v1 hw (by omega)
        refine wf_ite (fun c8 => ?_) (fun c8 => ?_)
        · have i11 := leI c8
          have a9 := addI (x := v5) (y := 1) (by omega) (by omega)
          exact ih v1 v3 v4 (v5 + 1) r5.2 hw7 (by omega) (by omega) (by omega)
        · have i12 := nleI c8
          have a10 := addI (x := v5) (y := 1) (by omega) (by omega)
          exact ih v1 v5 r5.1 (v5 + 1) r5.2 hw7 (by omega) (by omega) (by omega)
      · have i13 := neI c3
        have a4 := addI (x := v5) (y := 1) (by omega) (by omega)
        exact ih v1 v3 v4 (v5 + 1) σ hw (by omega) (by omega) (by omega)
set_option maxRecDepth 100000 in
set_option maxHeartbeats 4000000 in
theorem wX4_nail (v1 : Int32) {σ : sg} (hw : WD σ) : WDi (fX4_nail v1 σ) := by
  have km1000004 : ((-1000004) : Int32).toInt = -1000004 := rfl
  have km1 : ((-1) : Int32).toInt = -1 := rfl
  have k0 : (0 : Int32).toInt = 0 := rfl
  have k100 : (100 : Int32).toInt = 100 := rfl
  rw [show fX4_nail v1 σ = _ from fX4_nail.eq_1 ..]
  refine wf_ite (fun c1 => ?_) (fun c1 => ?_)
  · have i29 := eqI c1
    have b30 := ref_f c1
    refine wf_bnd (fun r17 e18 => ?_)
    obtain ⟨hw19, _⟩ := (show PLX4_nail_26 r17 from by rw [e18]; exact wLX4_nail_26 7 v1 (-1) (-1) 0 σ hw (by omega) (by omega) (by omega))
    refine wf_ite (fun c20 => ?_) (fun c20 => ?_)
    · have i25 := eqI c20
      refine wf_bnd (fun r21 e22 => ?_)
      have hw23 : WD r21.2 := by rw [e22]; exact wX4_found (-1000004) hw19 
      exact hw23
    · have i24 := neI c20
      exact hw19
  · have i31 := neI c1
    refine wf_bnd (fun r26 e27 => ?_)
    have hw28 : WD r26.2 := by rw [e27]; exact wX4_found (fX4_refusal v1 100 σ) hw 
    exact hw28
set_option maxRecDepth 100000 in
set_option maxHeartbeats 4000000 in
theorem wX4_hang (v1 : Int32) {σ : sg} (hw : WD σ) : WDi (fX4_hang v1 σ) := by
  have km1000001 : ((-1000001) : Int32).toInt = -1000001 := rfl
  have k0 : (0 : Int32).toInt = 0 := rfl
  rw [show fX4_hang v1 σ = _ from fX4_hang.eq_1 ..]
  refine wf_ite (fun c1 => ?_) (fun c1 => ?_)
  · have i5 := eqI c1
    refine wf_bnd (fun r2 e3 => ?_)
    have hw4 : WD r2.2 := by rw [e3]; exact wX4_found (-1000001) hw 
    exact hw4
  · have i6 := neI c1
    have b7 := isD_t hw (by omega) c1
    exact hw
set_option maxRecDepth 100000 in
set_option maxHeartbeats 4000000 in
theorem wX4_falls (v1 : Int32) {σ : sg} (hw : WD σ) : WDi (fX4_falls v1 σ) := by
  have km1000001 : ((-1000001) : Int32).toInt = -1000001 := rfl
  have k0 : (0 : Int32).toInt = 0 := rfl
  rw [show fX4_falls v1 σ = _ from fX4_falls.eq_1 ..]
  refine wf_ite (fun c1 => ?_) (fun c1 => ?_)
  · have i5 := eqI c1
    refine wf_bnd (fun r2 e3 => ?_)
    have hw4 : WD r2.2 := by rw [e3]; exact wX4_found (-1000001) hw 
    exact hw4
  · have i6 := neI c1
    have b7 := isD_t hw (by omega) c1
    exact hw
def PLX4_key_6 : Int32 → Prop := fun r => True
set_option maxRecDepth 100000 in
set_option maxHeartbeats 4000000 in
theorem wLX4_key_6 : ∀ (k : Nat) (v1 v2 v3 : Int32) (σ : sg) (hw : WD σ) (hv3 : 0 ≤ v3.toInt ∧ v3.toInt ≤ 8) (hmu : (8 - v3.toInt).toNat < k), PLX4_key_6 (LX4_key_6 k v1 v2 v3 σ) := by
  intro k
  induction k with
  | zero => intro v1 v2 v3 σ hw hv3 hmu; exact absurd hmu (Nat.not_lt_zero _)
  | succ k ih =>
    intro v1 v2 v3 σ hw hv3 hmu
    have k0 : (0 : Int32).toInt = 0 := rfl
    have k1 : (1 : Int32).toInt = 1 := rfl
    rw [show LX4_key_6 (k + 1) v1 v2 v3 σ = _ from LX4_key_6.eq_2 ..]
    have w1 := wd_deeds hw (show 0 < 3 by decide)
    refine wf_ite (fun c2 => ?_) (fun c2 => ?_)
    · have i8 := leI c2
      exact trivial
    · have i9 := nleI c2
      refine wf_ite (fun c3 => ?_) (fun c3 => ?_)
      · have i6 := leI c3
        have a4 := addI (x := v3) (y := 1) (by omega) (by omega)
        exact ih v1 v2 (v3 + 1) σ hw (by omega) (by omega)
      · have i7 := nleI c3
        have a5 := addI (x := v3) (y := 1) (by omega) (by omega)
        exact ih v3 (fJ6_bitCount_0f7a4 (fX0_fallingWith 0 v3 σ)) (v3 + 1) σ hw (by omega) (by omega)
set_option maxRecDepth 100000 in
set_option maxHeartbeats 4000000 in
theorem wX4_key {σ : sg} (hw : WD σ) : WDi (fX4_key σ) := by
  have km1000004 : ((-1000004) : Int32).toInt = -1000004 := rfl
  have km1 : ((-1) : Int32).toInt = -1 := rfl
  have k0 : (0 : Int32).toInt = 0 := rfl
  rw [show fX4_key σ = _ from fX4_key.eq_1 ..]
  refine wf_bnd (fun r10 e11 => ?_)
  refine wf_ite (fun c12 => ?_) (fun c12 => ?_)
  · have i17 := eqI c12
    refine wf_bnd (fun r13 e14 => ?_)
    have hw15 : WD r13.2 := by rw [e14]; exact wX4_found (-1000004) hw 
    exact hw15
  · have i16 := neI c12
    exact hw
def PLX4_began_23 : Int32 × sg → Prop := fun r => (WD r.2) ∧ True
set_option maxRecDepth 100000 in
set_option maxHeartbeats 4000000 in
theorem wLX4_began_23 : ∀ (k : Nat) (v1 v2 : Int32) (σ : sg) (hw : WD σ) (hv2 : 0 ≤ v2.toInt ∧ v2.toInt ≤ 25) (hmu : (25 - v2.toInt).toNat < k), PLX4_began_23 (LX4_began_23 k v1 v2 σ) := by
  intro k
  induction k with
  | zero => intro v1 v2 σ hw hv2 hmu; exact absurd hmu (Nat.not_lt_zero _)
  | succ k ih =>
    intro v1 v2 σ hw hv2 hmu
    have k0 : (0 : Int32).toInt = 0 := rfl
    have k1 : (1 : Int32).toInt = 1 := rfl
    have k24 : (24 : Int32).toInt = 24 := rfl
    rw [show LX4_began_23 (k + 1) v1 v2 σ = _ from LX4_began_23.eq_2 ..]
    refine wf_ite (fun c2 => ?_) (fun c2 => ?_)
    · have i20 := ltI c2
      exact ⟨hw, trivial⟩
    · have i21 := nltI c2
      refine wf_bnd (fun r3 e4 => ?_)
      have hw5 : WD r3 := by rw [e4]; exact wX0_take 1 (show 1 < 3 by decide) 0 (show 0 < 3 by decide) hw 
      refine wf_bnd (fun r6 e7 => ?_)
      have hw8 : WD r6 := by rw [e7]; exact wX0_makeSealsAnew 1 (show 1 < 3 by decide) hw5 
      refine wf_bnd (fun s9 e10 => ?_)
      have hw11 : WD s9 := by rw [e10]; exact wdF hw8 (by have := (show 1 < 3 by decide); omega)
      refine wf_bnd (fun r12 e13 => ?_)
      have hw14 : WD r12.2 := by rw [e13]; exact wX0_pass 1 (show 1 < 3 by decide) v2 hw11 (by omega)
      refine wf_ite (fun c15 => ?_) (fun c15 => ?_)
      · have i19 := eqI c15
        have a17 := addI (x := v2) (y := 1) (by omega) (by omega)
        exact ih (fX4_with v1 v2) (v2 + 1) r12.2 hw14 (by omega) (by omega)
      · have i18 := neI c15
        have a16 := addI (x := v2) (y := 1) (by omega) (by omega)
        exact ih v1 (v2 + 1) r12.2 hw14 (by omega) (by omega)
set_option maxRecDepth 100000 in
set_option maxHeartbeats 4000000 in
theorem wX4_began {σ : sg} (hw : WD σ) : WDi (fX4_began σ) := by
  have km1000005 : ((-1000005) : Int32).toInt = -1000005 := rfl
  have k0 : (0 : Int32).toInt = 0 := rfl
  have k1 : (1 : Int32).toInt = 1 := rfl
  have k24 : (24 : Int32).toInt = 24 := rfl
  rw [show fX4_began σ = _ from fX4_began.eq_1 ..]
  refine wf_ite (fun c1 => ?_) (fun c1 => ?_)
  · have i28 := leI c1
    refine wf_bnd (fun r22 e23 => ?_)
    obtain ⟨hw24, _⟩ := (show PLX4_began_23 r22 from by rw [e23]; exact wLX4_began_23 26 0 1 σ hw (by omega) (by omega))
    exact hw24
  · have i29 := nleI c1
    refine wf_bnd (fun r25 e26 => ?_)
    have hw27 : WD r25.2 := by rw [e26]; exact wX4_found (-1000005) hw 
    exact hw27
def PLX4_opened_48 : Int32 × sg → Prop := fun r => (WD r.2) ∧ True
set_option maxRecDepth 100000 in
set_option maxHeartbeats 4000000 in
theorem wLX4_opened_48 : ∀ (k : Nat) (v1 v2 v4 v5 : Int32) (σ : sg) (hw : WD σ) (hv5 : 0 ≤ v5.toInt ∧ v5.toInt ≤ 64) (hnv2 : v2.toInt ≤ 24) (hmu : (64 - v5.toInt).toNat < k), PLX4_opened_48 (LX4_opened_48 k v1 v2 v4 v5 σ) := by
  intro k
  induction k with
  | zero => intro v1 v2 v4 v5 σ hw hv5 hnv2 hmu; exact absurd hmu (Nat.not_lt_zero _)
  | succ k ih =>
    intro v1 v2 v4 v5 σ hw hv5 hnv2 hmu
    have k0 : (0 : Int32).toInt = 0 := rfl
    have k1 : (1 : Int32).toInt = 1 := rfl
    have k64 : (64 : Int32).toInt = 64 := rfl
    rw [show LX4_opened_48 (k + 1) v1 v2 v4 v5 σ = _ from LX4_opened_48.eq_2 ..]
    refine wf_ite (fun c7 => ?_) (fun c7 => ?_)
    · have i22 := leI c7
      exact ⟨hw, trivial⟩
    · have i23 := nleI c7
      refine wf_bnd (fun r8 e9 => ?_)
      have hw10 : WD r8 := by rw [e9]; exact wX0_take 1 (show 1 < 3 by decide) 0 (show 0 < 3 by decide) hw 
      refine wf_bnd (fun s11 e12 => ?_)
      have hw13 : WD s11 := by rw [e12]; exact wdF hw10 (by have := (show 1 < 3 by decide); omega)
      refine wf_bnd (fun r14 e15 => ?_)
      have hw16 : WD r14.2 := by rw [e15]; exact wX0_pass 1 (show 1 < 3 by decide) v2 hw13 (by omega)
      refine wf_ite (fun c17 => ?_) (fun c17 => ?_)
      · have i21 := eqI c17
        have a19 := addI (x := v5) (y := 1) (by omega) (by omega)
        exact ih v1 v2 (v4 + 1) (v5 + 1) r14.2 hw16 (by omega) (by omega) (by omega)
      · have i20 := neI c17
        have a18 := addI (x := v5) (y := 1) (by omega) (by omega)
        exact ih v1 v2 v4 (v5 + 1) r14.2 hw16 (by omega) (by omega) (by omega)
set_option maxRecDepth 100000 in
set_option maxHeartbeats 4000000 in
theorem wX4_opened (v1 : Int32) (v2 : Int32) {σ : sg} (hw : WD σ) : WDi (fX4_opened v1 v2 σ) := by
  have km1000001 : ((-1000001) : Int32).toInt = -1000001 := rfl
  have k0 : (0 : Int32).toInt = 0 := rfl
  have k1 : (1 : Int32).toInt = 1 := rfl
  have k24 : (24 : Int32).toInt = 24 := rfl
  rw [show fX4_opened v1 v2 σ = _ from fX4_opened.eq_1 ..]
  have w1 := wd_deeds hw (show 0 < 3 by decide)
  refine wf_ite (fun c2 => ?_) (fun c2 => ?_)
  · have i33 := eqI c2
    have b34 := isW_f c2
    refine wf_bnd (fun r3 e4 => ?_)
    have hw5 : WD r3.2 := by rw [e4]; exact wX4_found (-1000001) hw 
    exact hw5
  · have i35 := neI c2
    have b36 := isW_t c2
    refine wf_ite (fun c6 => ?_) (fun c6 => ?_)
    · have i30 := eqI c6
      have b31 := ref_f c6
      refine wf_bnd (fun r24 e25 => ?_)
      obtain ⟨hw26, _⟩ := (show PLX4_opened_48 r24 from by rw [e25]; exact wLX4_opened_48 65 v1 v2 0 0 σ hw (by omega) (by omega) (by omega))
      exact hw26
    · have i32 := neI c6
      refine wf_bnd (fun r27 e28 => ?_)
      have hw29 : WD r27.2 := by rw [e28]; exact wX4_found (fX4_refusal v2 24 σ) hw 
      exact hw29
def PLX4_days_39 : Int32 × sg → Prop := fun r => (WD r.2) ∧ True
set_option maxRecDepth 100000 in
set_option maxHeartbeats 4000000 in
theorem wLX4_days_39 : ∀ (k : Nat) (v1 v2 v3 : Int32) (σ : sg) (hw : WD σ) (hv3 : 0 ≤ v3.toInt ∧ v3.toInt ≤ 12) (hnv1 : v1.toInt ≤ 12) (hmu : (12 - v3.toInt).toNat < k), PLX4_days_39 (LX4_days_39 k v1 v2 v3 σ) := by
  intro k
  induction k with
  | zero => intro v1 v2 v3 σ hw hv3 hnv1 hmu; exact absurd hmu (Nat.not_lt_zero _)
  | succ k ih =>
    intro v1 v2 v3 σ hw hv3 hnv1 hmu
    have k0 : (0 : Int32).toInt = 0 := rfl
    have k1 : (1 : Int32).toInt = 1 := rfl
    have k6 : (6 : Int32).toInt = 6 := rfl
    have k24 : (24 : Int32).toInt = 24 := rfl
    have k41 : (41 : Int32).toInt = 41 := rfl
    rw [show LX4_days_39 (k + 1) v1 v2 v3 σ = _ from LX4_days_39.eq_2 ..]
    refine wf_ite (fun c3 => ?_) (fun c3 => ?_)
    · have i30 := leI c3
      exact ⟨hw, trivial⟩
    · have i31 := nleI c3
      refine wf_bnd (fun r4 e5 => ?_)
      have hw6 : WD r4.2 := by rw [e5]; exact wX0_draw 0 (show 0 < 3 by decide) hw 
      refine wf_bnd (fun s7 e8 => ?_)
      have hw9 : WD s7 := by rw [e8]; exact wdF hw6 (by have := (show 0 < 3 by decide); omega)
      refine wf_bnd (fun r10 e11 => ?_)
      have hw12 : WD r10.2 := by rw [e11]; exact wX0_draw 0 (show 0 < 3 by decide) hw9 
      refine wf_ite (fun c13 => ?_) (fun c13 => ?_)
      · have i29 := eqI c13
        refine wf_bnd (fun r21 e22 => ?_)
        have hw23 : WD r21 := by rw [e22]; exact wX0_setShutter 0 (show 0 < 3 by decide) (jrem r10.1 6) 1 hw12 
        refine wf_bnd (fun r24 e25 => ?_)
        have hw26 : WD r24.2 := by rw [e25]; exact wX0_pass 0 (show 0 < 3 by decide) 24 hw23 (by omega)
        have a27 := addI (x := v3) (y := 1) (by omega) (by omega)
        exact ih v1 (v2 + r24.1) (v3 + 1) r24.2 hw26 (by omega) (by omega) (by omega)
      · have i28 := neI c13
        refine wf_bnd (fun r14 e15 => ?_)
        have hw16 : WD r14 := by rw [e15]; exact wX0_setShutter 0 (show 0 < 3 by decide) (jrem r10.1 6) 0 hw12 
        refine wf_bnd (fun r17 e18 => ?_)
        have hw19 : WD r17.2 := by rw [e18]; exact wX0_pass 0 (show 0 < 3 by decide) 24 hw16 (by omega)
        have a20 := addI (x := v3) (y := 1) (by omega) (by omega)
        exact ih v1 (v2 + r17.1) (v3 + 1) r17.2 hw19 (by omega) (by omega) (by omega)
set_option maxRecDepth 100000 in
set_option maxHeartbeats 4000000 in
theorem wX4_days (v1 : Int32) {σ : sg} (hw : WD σ) : WDi (fX4_days v1 σ) := by
  have km1000005 : ((-1000005) : Int32).toInt = -1000005 := rfl
  have km1000001 : ((-1000001) : Int32).toInt = -1000001 := rfl
  have k0 : (0 : Int32).toInt = 0 := rfl
  have k1 : (1 : Int32).toInt = 1 := rfl
  have k12 : (12 : Int32).toInt = 12 := rfl
  have k24 : (24 : Int32).toInt = 24 := rfl
  rw [show fX4_days v1 σ = _ from fX4_days.eq_1 ..]
  refine wf_ite (fun c1 => ?_) (fun c1 => ?_)
  · have i45 := eqI c1
    have b46 := isW_f c1
    refine wf_bnd (fun r40 e41 => ?_)
    have hw42 : WD r40.2 := by rw [e41]; exact wX4_found (-1000001) hw 
    exact hw42
  · have i43 := neI c1
    have b44 := isW_t c1
    refine wf_ite (fun c2 => ?_) (fun c2 => ?_)
    · have i38 := eqI c2
      refine wf_bnd (fun r32 e33 => ?_)
      obtain ⟨hw34, _⟩ := (show PLX4_days_39 r32 from by rw [e33]; exact wLX4_days_39 13 v1 0 0 σ hw (by omega) (by omega) (by omega))
      exact hw34
    · have i39 := neI c2
      refine wf_bnd (fun r35 e36 => ?_)
      have hw37 : WD r35.2 := by rw [e36]; exact wX4_found (-1000005) hw 
      exact hw37
set_option maxRecDepth 100000 in
set_option maxHeartbeats 4000000 in
theorem wX4_seed (v1 : Int32) {σ : sg} (hw : WD σ) : WDi (fX4_seed v1 σ) := by
  have k0 : (0 : Int32).toInt = 0 := rfl
  rw [show fX4_seed v1 σ = _ from fX4_seed.eq_1 ..]
  refine wf_bnd (fun s1 e2 => ?_)
  have hw3 : WD s1 := by rw [e2]; exact wdF hw (by have := (show 0 < 3 by decide); omega)
  exact hw3
set_option maxRecDepth 100000 in
set_option maxHeartbeats 4000000 in
theorem wX4_wipe {σ : sg} (hw : WD σ) : WDi (fX4_wipe σ) := by
  have k0 : (0 : Int32).toInt = 0 := rfl
  rw [show fX4_wipe σ = _ from fX4_wipe.eq_1 ..]
  have w1 := wd_len hw
  refine wf_bnd (fun s2 e3 => ?_)
  have hw4 : WD s2 := by rw [e3]; exact wdFl hw (by omega) (by omega)
  have f5 := congrArg Int32.toInt (show rF s2 22 = 0 by rw [e3]; exact sF_same9)
  exact hw4
set_option maxRecDepth 100000 in
set_option maxHeartbeats 4000000 in
theorem wX4_hold (v1 : Int32) (v2 : Int32) {σ : sg} (hw : WD σ) : WDi (fX4_hold v1 v2 σ) := by
  have km1000001 : ((-1000001) : Int32).toInt = -1000001 := rfl
  have km1 : ((-1) : Int32).toInt = -1 := rfl
  have k0 : (0 : Int32).toInt = 0 := rfl
  have k1 : (1 : Int32).toInt = 1 := rfl
  have k9 : (9 : Int32).toInt = 9 := rfl
  rw [show fX4_hold v1 v2 σ = _ from fX4_hold.eq_1 ..]
  refine wf_ite (fun c1 => ?_) (fun c1 => ?_)
  · have i18 := eqI c1
    have b19 := isW_f c1
    refine wf_bnd (fun r2 e3 => ?_)
    have hw4 : WD r2.2 := by rw [e3]; exact wX4_found (-1000001) hw 
    exact hw4
  · have i20 := neI c1
    have b21 := isW_t c1
    have w5 := wd_deeds hw (show 0 < 3 by decide)
    have a6 := subI (x := (rF σ (7 * 0 + 1))) (y := 1) (by omega) (by omega)
    refine wf_ite (fun c7 => ?_) (fun c7 => ?_)
    · have i16 := eqI c7
      have b17 := isW_f c7
      refine wf_bnd (fun r11 e12 => ?_)
      have hw13 : WD r11.2 := by rw [e12]; exact wX4_found (-1000001) hw 
      exact hw13
    · have i14 := neI c7
      have b15 := isW_t c7
      refine wf_bnd (fun s8 e9 => ?_)
      have hw10 : WD s8 := by rw [e9]; exact wdA hw (by have := (show 0 < 3 by decide); omega)
      exact hw10
set_option maxRecDepth 100000 in
set_option maxHeartbeats 4000000 in
theorem wX4_as (v1 : Int32) (v2 : Int32) {σ : sg} (hw : WD σ) : WDi (fX4_as v1 v2 σ) := by
  have km1000006 : ((-1000006) : Int32).toInt = -1000006 := rfl
  have km1000003 : ((-1000003) : Int32).toInt = -1000003 := rfl
  have km1000001 : ((-1000001) : Int32).toInt = -1000001 := rfl
  have k0 : (0 : Int32).toInt = 0 := rfl
  have k9 : (9 : Int32).toInt = 9 := rfl
  rw [show fX4_as v1 v2 σ = _ from fX4_as.eq_1 ..]
  refine wf_ite (fun c1 => ?_) (fun c1 => ?_)
  · have i25 := eqI c1
    have b26 := isW_f c1
    refine wf_bnd (fun r2 e3 => ?_)
    have hw4 : WD r2.2 := by rw [e3]; exact wX4_found (-1000001) hw 
    exact hw4
  · have i27 := neI c1
    have b28 := isW_t c1
    refine wf_ite (fun c5 => ?_) (fun c5 => ?_)
    · have i24 := eqI c5
      refine wf_bnd (fun r19 e20 => ?_)
      have hw21 : WD r19.2 := by rw [e20]; exact wX4_found (-1000001) hw 
      exact hw21
    · have i22 := neI c5
      have b23 := isK_t c5
      refine wf_ite (fun c6 => ?_) (fun c6 => ?_)
      · have i18 := eqI c6
        refine wf_bnd (fun r13 e14 => ?_)
        have hw15 : WD r13.2 := by rw [e14]; exact wX4_found (-1000006) hw 
        exact hw15
      · have i16 := neI c6
        have b17 := isD_t hw (by omega) c6
        refine wf_ite (fun c7 => ?_) (fun c7 => ?_)
        · have i11 := eqI c7
          refine wf_bnd (fun r8 e9 => ?_)
          have hw10 : WD r8.2 := by rw [e9]; exact wX4_found (-1000003) hw 
          exact hw10
        · have i12 := neI c7
          exact hw
set_option maxRecDepth 100000 in
set_option maxHeartbeats 4000000 in
theorem wX4_sheet (v1 : Int32) (v2 : Int32) (v3 : Int32) {σ : sg} (hw : WD σ) : WDi (fX4_sheet v1 v2 v3 σ) := by
  have km1000007 : ((-1000007) : Int32).toInt = -1000007 := rfl
  have km1000001 : ((-1000001) : Int32).toInt = -1000001 := rfl
  have k0 : (0 : Int32).toInt = 0 := rfl
  have k8 : (8 : Int32).toInt = 8 := rfl
  have k16 : (16 : Int32).toInt = 16 := rfl
  have k32 : (32 : Int32).toInt = 32 := rfl
  have k40 : (40 : Int32).toInt = 40 := rfl
  rw [show fX4_sheet v1 v2 v3 σ = _ from fX4_sheet.eq_1 ..]
  refine wf_ite (fun c1 => ?_) (fun c1 => ?_)
  · have i92 := eqI c1
    refine wf_bnd (fun r2 e3 => ?_)
    have hw4 : WD r2.2 := by rw [e3]; exact wX4_found (-1000001) hw 
    exact hw4
  · have i93 := neI c1
    have b94 := isH_t c1
    refine wf_ite (fun c5 => ?_) (fun c5 => ?_)
    · have i90 := eqI c5
      refine wf_ite (fun c6 => ?_) (fun c6 => ?_)
      · have i22 := leI c6
        refine wf_ite (fun c7 => ?_) (fun c7 => ?_)
        · have i17 := leI c7
          have t8 : v1.toNatClampNeg < 4 := clLt (n := 4) (by omega) (by omega)
          refine wf_bnd (fun r9 e10 => ?_)
          have hw11 : WD r9 := by rw [e10]; exact wX2_makeAnew (v1.toNatClampNeg) t8 v2 v3 hw (by omega)
          have t12 : v1.toNatClampNeg < 4 := clLt (n := 4) (by omega) (by omega)
          have w13 := wd_size hw11 t12
          exact hw11
        · have i18 := nleI c7
          refine wf_bnd (fun r14 e15 => ?_)
          have hw16 : WD r14.2 := by rw [e15]; exact wX4_found (-1000001) hw 
          exact hw16
      · have i23 := nleI c6
        refine wf_bnd (fun r19 e20 => ?_)
        have hw21 : WD r19.2 := by rw [e20]; exact wX4_found (-1000007) hw 
        exact hw21
    · have i91 := neI c5
      refine wf_ite (fun c24 => ?_) (fun c24 => ?_)
      · have i88 := eqI c24
        refine wf_ite (fun c25 => ?_) (fun c25 => ?_)
        · have i41 := leI c25
          refine wf_ite (fun c26 => ?_) (fun c26 => ?_)
          · have i36 := leI c26
            have t27 : v1.toNatClampNeg < 4 := clLt (n := 4) (by omega) (by omega)
            refine wf_bnd (fun r28 e29 => ?_)
            have hw30 : WD r28 := by rw [e29]; exact wX2_makeAnew (v1.toNatClampNeg) t27 v2 v3 hw (by omega)
            have t31 : v1.toNatClampNeg < 4 := clLt (n := 4) (by omega) (by omega)
            have w32 := wd_size hw30 t31
            exact hw30
          · have i37 := nleI c26
            refine wf_bnd (fun r33 e34 => ?_)
            have hw35 : WD r33.2 := by rw [e34]; exact wX4_found (-1000001) hw 
            exact hw35
        · have i42 := nleI c25
          refine wf_bnd (fun r38 e39 => ?_)
          have hw40 : WD r38.2 := by rw [e39]; exact wX4_found (-1000007) hw 
          exact hw40
      · have i89 := neI c24
        refine wf_ite (fun c43 => ?_) (fun c43 => ?_)
        · have i86 := eqI c43
          refine wf_ite (fun c44 => ?_) (fun c44 => ?_)
          · have i60 := leI c44
            refine wf_ite (fun c45 => ?_) (fun c45 => ?_)
            · have i55 := leI c45
              have t46 : v1.toNatClampNeg < 4 := clLt (n := 4) (by omega) (by omega)
              refine wf_bnd (fun r47 e48 => ?_)
              have hw49 : WD r47 := by rw [e48]; exact wX2_makeAnew (v1.toNatClampNeg) t46 v2 v3 hw (by omega)
              have t50 : v1.toNatClampNeg < 4 := clLt (n := 4) (by omega) (by omega)
              have w51 := wd_size hw49 t50
              exact hw49
            · have i56 := nleI c45
              refine wf_bnd (fun r52 e53 => ?_)
              have hw54 : WD r52.2 := by rw [e53]; exact wX4_found (-1000001) hw 
              exact hw54
          · have i61 := nleI c44
            refine wf_bnd (fun r57 e58 => ?_)
            have hw59 : WD r57.2 := by rw [e58]; exact wX4_found (-1000007) hw 
            exact hw59
        · have i87 := neI c43
          refine wf_ite (fun c62 => ?_) (fun c62 => ?_)
          · have i84 := eqI c62
            refine wf_ite (fun c63 => ?_) (fun c63 => ?_)
            · have i79 := leI c63
              refine wf_ite (fun c64 => ?_) (fun c64 => ?_)
              · have i74 := leI c64
                have t65 : v1.toNatClampNeg < 4 := clLt (n := 4) (by omega) (by omega)
                refine wf_bnd (fun r66 e67 => ?_)
                have hw68 : WD r66 := by rw [e67]; exact wX2_makeAnew (v1.toNatClampNeg) t65 v2 v3 hw (by omega)
                have t69 : v1.toNatClampNeg < 4 := clLt (n := 4) (by omega) (by omega)
                have w70 := wd_size hw68 t69
                exact hw68
              · have i75 := nleI c64
                refine wf_bnd (fun r71 e72 => ?_)
                have hw73 : WD r71.2 := by rw [e72]; exact wX4_found (-1000001) hw 
                exact hw73
            · have i80 := nleI c63
              refine wf_bnd (fun r76 e77 => ?_)
              have hw78 : WD r76.2 := by rw [e77]; exact wX4_found (-1000007) hw 
              exact hw78
          · have i85 := neI c62
            refine wf_bnd (fun r81 e82 => ?_)
            have hw83 : WD r81.2 := by rw [e82]; exact wX4_found (-1000001) hw 
            exact hw83
set_option maxRecDepth 100000 in
set_option maxHeartbeats 4000000 in
theorem wX4_write (v1 : Int32) (v2 : Int32) (v3 : Int32) {σ : sg} (hw : WD σ) : WDi (fX4_write v1 v2 v3 σ) := by
  have km1000001 : ((-1000001) : Int32).toInt = -1000001 := rfl
  have k0 : (0 : Int32).toInt = 0 := rfl
  have k1 : (1 : Int32).toInt = 1 := rfl
  rw [show fX4_write v1 v2 v3 σ = _ from fX4_write.eq_1 ..]
  refine wf_ite (fun c1 => ?_) (fun c1 => ?_)
  · have i21 := eqI c1
    have b22 := refS_f c1
    have t2 : v1.toNatClampNeg < 4 := clLt (n := 4) (by omega) (by omega)
    have w3 := wd_size hw t2
    have a4 := subI (x := (rF σ (28 + 2 * (v1.toNatClampNeg)))) (y := 1) (by omega) (by omega)
    refine wf_ite (fun c5 => ?_) (fun c5 => ?_)
    · have i16 := eqI c5
      have b17 := isW_f c5
      refine wf_bnd (fun r11 e12 => ?_)
      have hw13 : WD r11.2 := by rw [e12]; exact wX4_found (-1000001) hw 
      exact hw13
    · have i14 := neI c5
      have b15 := isW_t c5
      have t6 : v1.toNatClampNeg < 4 := clLt (n := 4) (by omega) (by omega)
      have t7 : v1.toNatClampNeg < 4 := clLt (n := 4) (by omega) (by omega)
      refine wf_bnd (fun s8 e9 => ?_)
      have hw10 : WD s8 := by rw [e9]; exact wdA hw (by have := t6; omega)
      exact hw10
  · have i23 := neI c1
    refine wf_bnd (fun r18 e19 => ?_)
    have hw20 : WD r18.2 := by rw [e19]; exact wX4_found (fX4_refusalOfSheet v1 σ) hw 
    exact hw20
set_option maxRecDepth 100000 in
set_option maxHeartbeats 4000000 in
theorem wX4_copy (v1 : Int32) (v2 : Int32) (v3 : Int32) (v4 : Int32) (v5 : Int32) {σ : sg} (hw : WD σ) : WDi (fX4_copy v1 v2 v3 v4 v5 σ) := by
  have km1000006 : ((-1000006) : Int32).toInt = -1000006 := rfl
  have km1000003 : ((-1000003) : Int32).toInt = -1000003 := rfl
  have km1000001 : ((-1000001) : Int32).toInt = -1000001 := rfl
  have k0 : (0 : Int32).toInt = 0 := rfl
  rw [show fX4_copy v1 v2 v3 v4 v5 σ = _ from fX4_copy.eq_1 ..]
  refine wf_ite (fun c1 => ?_) (fun c1 => ?_)
  · have i49 := eqI c1
    refine wf_bnd (fun r2 e3 => ?_)
    have hw4 : WD r2.2 := by rw [e3]; exact wX4_found (-1000001) hw 
    exact hw4
  · have i50 := neI c1
    have b51 := isH_t c1
    refine wf_ite (fun c5 => ?_) (fun c5 => ?_)
    · have i48 := eqI c5
      refine wf_bnd (fun r43 e44 => ?_)
      have hw45 : WD r43.2 := by rw [e44]; exact wX4_found (-1000001) hw 
      exact hw45
    · have i46 := neI c5
      have b47 := isH_t c5
      have t6 : v1.toNatClampNeg < 4 := clLt (n := 4) (by omega) (by omega)
      have t7 : v3.toNatClampNeg < 4 := clLt (n := 4) (by omega) (by omega)
      refine wf_ite (fun c8 => ?_) (fun c8 => ?_)
      · have i42 := eqI c8
        refine wf_ite (fun c12 => ?_) (fun c12 => ?_)
        · have i39 := eqI c12
          refine wf_ite (fun c13 => ?_) (fun c13 => ?_)
          · have i34 := eqI c13
            refine wf_ite (fun c14 => ?_) (fun c14 => ?_)
            · have i28 := eqI c14
              refine wf_bnd (fun r15 e16 => ?_)
              have hw17 : WD r15.2 := by rw [e16]; exact wX4_found (-1000001) hw 
              exact hw17
            · have i29 := neI c14
              have b30 := hR_t hw t6 c14
              refine wf_ite (fun c18 => ?_) (fun c18 => ?_)
              · have i27 := eqI c18
                refine wf_bnd (fun r22 e23 => ?_)
                have hw24 : WD r22.2 := by rw [e23]; exact wX4_found (-1000001) hw 
                exact hw24
              · have i25 := neI c18
                have b26 := hR_t hw t7 c18
                refine wf_bnd (fun s19 e20 => ?_)
                have hw21 : WD s19 := by rw [e20]; exact wdC hw (by omega)
                exact hw21
          · have i35 := neI c13
            refine wf_bnd (fun r31 e32 => ?_)
            have hw33 : WD r31.2 := by rw [e32]; exact wX4_found (-1000003) hw 
            exact hw33
        · have i40 := neI c12
          refine wf_bnd (fun r36 e37 => ?_)
          have hw38 : WD r36.2 := by rw [e37]; exact wX4_found (-1000006) hw 
          exact hw38
      · have i41 := neI c8
        refine wf_bnd (fun r9 e10 => ?_)
        have hw11 : WD r9.2 := by rw [e10]; exact wX4_found (-1000006) hw 
        exact hw11
def PLX4_load_26 (q3 : Nat) : Int32 × sg → Prop := fun r => (WD r.2) ∧ (0 ≤ r.1.toInt ∧ r.1.toInt ≤ 8) ∧ True
set_option maxRecDepth 100000 in
set_option maxHeartbeats 4000000 in
theorem wLX4_load_26 (q3 : Nat) (hq3 : q3 < 4) : ∀ (k : Nat) (v4 : Int32) (σ : sg) (hw : WD σ) (hv4 : 0 ≤ v4.toInt ∧ v4.toInt ≤ 8) (hmu : (8 - v4.toInt).toNat < k), PLX4_load_26 q3 (LX4_load_26 q3 k v4 σ) := by
  intro k
  induction k with
  | zero => intro v4 σ hw hv4 hmu; exact absurd hmu (Nat.not_lt_zero _)
  | succ k ih =>
    intro v4 σ hw hv4 hmu
    have k0 : (0 : Int32).toInt = 0 := rfl
    have k1 : (1 : Int32).toInt = 1 := rfl
    rw [show LX4_load_26 q3 (k + 1) v4 σ = _ from LX4_load_26.eq_2 ..]
    have w3 := wd_size hw hq3
    refine wf_ite (fun c4 => ?_) (fun c4 => ?_)
    · have i17 := leI c4
      exact ⟨hw, (by omega), trivial⟩
    · have i18 := nleI c4
      have w5 := wd_deeds hw (show 0 < 3 by decide)
      refine wf_ite (fun c6 => ?_) (fun c6 => ?_)
      · have i15 := leI c6
        exact ⟨hw, (by omega), trivial⟩
      · have i16 := nleI c6
        refine wf_ite (fun c7 => ?_) (fun c7 => ?_)
        · have i12 := eqI c7
          exact ⟨hw, (by omega), trivial⟩
        · have i13 := neI c7
          have b14 := isX_t c7
          refine wf_bnd (fun s8 e9 => ?_)
          have hw10 : WD s8 := by rw [e9]; exact wdA hw (by have := (show 0 < 3 by decide); omega)
          have a11 := addI (x := v4) (y := 1) (by omega) (by omega)
          exact ih (v4 + 1) s8 hw10 (by omega) (by omega)
set_option maxRecDepth 100000 in
set_option maxHeartbeats 4000000 in
theorem wX4_load (v1 : Int32) {σ : sg} (hw : WD σ) : WDi (fX4_load v1 σ) := by
  have k0 : (0 : Int32).toInt = 0 := rfl
  rw [show fX4_load v1 σ = _ from fX4_load.eq_1 ..]
  refine wf_ite (fun c1 => ?_) (fun c1 => ?_)
  · have i26 := eqI c1
    have b27 := refS_f c1
    have t2 : v1.toNatClampNeg < 4 := clLt (n := 4) (by omega) (by omega)
    refine wf_bnd (fun r19 e20 => ?_)
    obtain ⟨hw21, x22, _⟩ := (show PLX4_load_26 (v1.toNatClampNeg) r19 from by rw [e20]; exact wLX4_load_26 (v1.toNatClampNeg) t2 9 0 σ hw (by omega) (by omega))
    exact hw21
  · have i28 := neI c1
    refine wf_bnd (fun r23 e24 => ?_)
    have hw25 : WD r23.2 := by rw [e24]; exact wX4_found (fX4_refusalOfSheet v1 σ) hw 
    exact hw25
set_option maxRecDepth 100000 in
set_option maxHeartbeats 4000000 in
theorem wLX4_judge_75 (q4 : Nat) (hq4 : q4 < 4) : ∀ (k : Nat) (v2 v5 : Int32) (σ : sg) (hw : WD σ) (hv5 : 0 ≤ v5.toInt ∧ v5.toInt ≤ 40) (hdv2 : 0 ≤ v2.toInt ∧ v2.toInt ≤ 7) (hmu : (40 - v5.toInt).toNat < k), WDi (LX4_judge_75 q4 k v2 v5 σ) := by
  intro k
  induction k with
  | zero => intro v2 v5 σ hw hv5 hdv2 hmu; exact absurd hmu (Nat.not_lt_zero _)
  | succ k ih =>
    intro v2 v5 σ hw hv5 hdv2 hmu
    have k0 : (0 : Int32).toInt = 0 := rfl
    have k1 : (1 : Int32).toInt = 1 := rfl
    rw [show LX4_judge_75 q4 (k + 1) v2 v5 σ = _ from LX4_judge_75.eq_2 ..]
    have w9 := wd_size hw hq4
    refine wf_ite (fun c10 => ?_) (fun c10 => ?_)
    · have i18 := leI c10
      exact hw
    · have i19 := nleI c10
      refine wf_bnd (fun r11 e12 => ?_)
      have hw13 : WD r11.2 := by rw [e12]; exact wX0_pass 1 (show 1 < 3 by decide) 1 hw (by omega)
      refine wf_ite (fun c14 => ?_) (fun c14 => ?_)
      · have i16 := eqI c14
        have a15 := addI (x := v5) (y := 1) (by omega) (by omega)
        exact ih v2 (v5 + 1) r11.2 hw13 (by omega) (by omega) (by omega)
      · have i17 := neI c14
        exact hw13
set_option maxRecDepth 100000 in
set_option maxHeartbeats 4000000 in
theorem wX4_judge (v1 : Int32) (v2 : Int32) {σ : sg} (hw : WD σ) : WDi (fX4_judge v1 v2 σ) := by
  have km1000005 : ((-1000005) : Int32).toInt = -1000005 := rfl
  have km1000001 : ((-1000001) : Int32).toInt = -1000001 := rfl
  have k0 : (0 : Int32).toInt = 0 := rfl
  rw [show fX4_judge v1 v2 σ = _ from fX4_judge.eq_1 ..]
  refine wf_ite (fun c1 => ?_) (fun c1 => ?_)
  · have i34 := eqI c1
    have b35 := refS_f c1
    have t2 : v1.toNatClampNeg < 4 := clLt (n := 4) (by omega) (by omega)
    refine wf_ite (fun c3 => ?_) (fun c3 => ?_)
    · have i30 := eqI c3
      refine wf_bnd (fun r25 e26 => ?_)
      have hw27 : WD r25.2 := by rw [e26]; exact wX4_found (-1000001) hw 
      exact hw27
    · have i28 := neI c3
      have b29 := isD_t hw (by omega) c3
      have w4 := wd_size hw t2
      refine wf_ite (fun c5 => ?_) (fun c5 => ?_)
      · have i23 := eqI c5
        refine wf_bnd (fun r6 e7 => ?_)
        have hw8 : WD r6 := by rw [e7]; exact wX0_take 1 (show 1 < 3 by decide) 0 (show 0 < 3 by decide) hw 
        exact wLX4_judge_75 (v1.toNatClampNeg) t2 41 v2 0 r6 hw8 (by omega) (by omega) (by omega)
      · have i24 := neI c5
        refine wf_bnd (fun r20 e21 => ?_)
        have hw22 : WD r20.2 := by rw [e21]; exact wX4_found (-1000005) hw 
        exact hw22
  · have i36 := neI c1
    refine wf_bnd (fun r31 e32 => ?_)
    have hw33 : WD r31.2 := by rw [e32]; exact wX4_found (fX4_refusalOfSheet v1 σ) hw 
    exact hw33
set_option maxRecDepth 100000 in
set_option maxHeartbeats 4000000 in
theorem wX4_image {σ : sg} (hw : WD σ) : WDi (fX4_image σ) := by
  have k0 : (0 : Int32).toInt = 0 := rfl
  have k1 : (1 : Int32).toInt = 1 := rfl
  rw [show fX4_image σ = _ from fX4_image.eq_1 ..]
  refine wf_bnd (fun r1 e2 => ?_)
  have hw3 : WD r1 := by rw [e2]; exact wX0_take 2 (show 2 < 3 by decide) 0 (show 0 < 3 by decide) hw 
  refine wf_bnd (fun s4 e5 => ?_)
  have hw6 : WD s4 := by rw [e5]; exact wdF hw3 (by omega)
  exact hw6
set_option maxRecDepth 100000 in
set_option maxHeartbeats 4000000 in
theorem wX4_undo {σ : sg} (hw : WD σ) : WDi (fX4_undo σ) := by
  have km1000004 : ((-1000004) : Int32).toInt = -1000004 := rfl
  have k0 : (0 : Int32).toInt = 0 := rfl
  rw [show fX4_undo σ = _ from fX4_undo.eq_1 ..]
  refine wf_ite (fun c1 => ?_) (fun c1 => ?_)
  · have i9 := eqI c1
    refine wf_bnd (fun r5 e6 => ?_)
    have hw7 : WD r5.2 := by rw [e6]; exact wX4_found (-1000004) hw 
    exact hw7
  · have i8 := neI c1
    refine wf_bnd (fun r2 e3 => ?_)
    have hw4 : WD r2 := by rw [e3]; exact wX0_take 0 (show 0 < 3 by decide) 2 (show 2 < 3 by decide) hw 
    exact hw4
set_option maxRecDepth 100000 in
set_option maxHeartbeats 4000000 in
theorem wX4_tear {σ : sg} (hw : WD σ) : WDi (fX4_tear σ) := by
  have k0 : (0 : Int32).toInt = 0 := rfl
  have k1 : (1 : Int32).toInt = 1 := rfl
  rw [show fX4_tear σ = _ from fX4_tear.eq_1 ..]
  refine wf_ite (fun c1 => ?_) (fun c1 => ?_)
  · have i8 := eqI c1
    refine wf_bnd (fun s2 e3 => ?_)
    have hw4 : WD s2 := by rw [e3]; exact wdF hw (by omega)
    exact hw4
  · have i9 := neI c1
    refine wf_bnd (fun s5 e6 => ?_)
    have hw7 : WD s5 := by rw [e6]; exact wdF hw (by omega)
    exact hw7
set_option maxRecDepth 100000 in
set_option maxHeartbeats 4000000 in
theorem wX4_count (v1 : Int32) {σ : sg} (hw : WD σ) : WDi (fX4_count v1 σ) := by
  have km1000001 : ((-1000001) : Int32).toInt = -1000001 := rfl
  have k0 : (0 : Int32).toInt = 0 := rfl
  have k1 : (1 : Int32).toInt = 1 := rfl
  have k2 : (2 : Int32).toInt = 2 := rfl
  have k3 : (3 : Int32).toInt = 3 := rfl
  have k4 : (4 : Int32).toInt = 4 := rfl
  have k5 : (5 : Int32).toInt = 5 := rfl
  have k6 : (6 : Int32).toInt = 6 := rfl
  have k7 : (7 : Int32).toInt = 7 := rfl
  rw [show fX4_count v1 σ = _ from fX4_count.eq_1 ..]
  refine wf_ite (fun c1 => ?_) (fun c1 => ?_)
  · have i28 := eqI c1
    exact hw
  · have i29 := neI c1
    refine wf_ite (fun c2 => ?_) (fun c2 => ?_)
    · have i26 := eqI c2
      have w3 := wd_deeds hw (show 0 < 3 by decide)
      exact hw
    · have i27 := neI c2
      refine wf_ite (fun c4 => ?_) (fun c4 => ?_)
      · have i24 := eqI c4
        exact hw
      · have i25 := neI c4
        refine wf_ite (fun c5 => ?_) (fun c5 => ?_)
        · have i22 := eqI c5
          exact hw
        · have i23 := neI c5
          refine wf_ite (fun c6 => ?_) (fun c6 => ?_)
          · have i20 := eqI c6
            exact hw
          · have i21 := neI c6
            refine wf_ite (fun c7 => ?_) (fun c7 => ?_)
            · have i18 := eqI c7
              have w8 := wd_len hw
              exact hw
            · have i19 := neI c7
              refine wf_ite (fun c9 => ?_) (fun c9 => ?_)
              · have i16 := eqI c9
                exact hw
              · have i17 := neI c9
                refine wf_ite (fun c10 => ?_) (fun c10 => ?_)
                · have i14 := eqI c10
                  exact hw
                · have i15 := neI c10
                  refine wf_bnd (fun r11 e12 => ?_)
                  have hw13 : WD r11.2 := by rw [e12]; exact wX4_found (-1000001) hw 
                  exact hw13
def PLX4_status_32 : Int32 → Prop := fun r => True
set_option maxRecDepth 100000 in
set_option maxHeartbeats 4000000 in
theorem wLX4_status_32 : ∀ (k : Nat) (v2 v3 : Int32) (σ : sg) (hw : WD σ) (hv3 : 0 ≤ v3.toInt ∧ v3.toInt ≤ 7) (hmu : (7 - v3.toInt).toNat < k), PLX4_status_32 (LX4_status_32 k v2 v3 σ) := by
  intro k
  induction k with
  | zero => intro v2 v3 σ hw hv3 hmu; exact absurd hmu (Nat.not_lt_zero _)
  | succ k ih =>
    intro v2 v3 σ hw hv3 hmu
    have k0 : (0 : Int32).toInt = 0 := rfl
    have k1 : (1 : Int32).toInt = 1 := rfl
    have k7 : (7 : Int32).toInt = 7 := rfl
    rw [show LX4_status_32 (k + 1) v2 v3 σ = _ from LX4_status_32.eq_2 ..]
    refine wf_ite (fun c3 => ?_) (fun c3 => ?_)
    · have i5 := leI c3
      exact trivial
    · have i6 := nleI c3
      have a4 := addI (x := v3) (y := 1) (by omega) (by omega)
      exact ih (v2 + (rA σ 29 v3)) (v3 + 1) σ hw (by omega) (by omega)
set_option maxRecDepth 100000 in
set_option maxHeartbeats 4000000 in
theorem wX4_status (v1 : Int32) {σ : sg} (hw : WD σ) : WDi (fX4_status v1 σ) := by
  have km1000001 : ((-1000001) : Int32).toInt = -1000001 := rfl
  have km1 : ((-1) : Int32).toInt = -1 := rfl
  have k0 : (0 : Int32).toInt = 0 := rfl
  have k6 : (6 : Int32).toInt = 6 := rfl
  rw [show fX4_status v1 σ = _ from fX4_status.eq_1 ..]
  refine wf_ite (fun c1 => ?_) (fun c1 => ?_)
  · have i16 := eqI c1
    have b17 := isW_f c1
    refine wf_bnd (fun r11 e12 => ?_)
    have hw13 : WD r11.2 := by rw [e12]; exact wX4_found (-1000001) hw 
    exact hw13
  · have i14 := neI c1
    have b15 := isW_t c1
    refine wf_ite (fun c2 => ?_) (fun c2 => ?_)
    · have i9 := ltI c2
      refine wf_bnd (fun r7 e8 => ?_)
      exact hw
    · have i10 := nltI c2
      exact hw
set_option maxRecDepth 100000 in
set_option maxHeartbeats 4000000 in
theorem wX3_append (v1 : Int32) {σ : sg} (hw : WD σ) : WD (fX3_append v1 σ) := by
  have k0 : (0 : Int32).toInt = 0 := rfl
  have k1 : (1 : Int32).toInt = 1 := rfl
  have k120 : (120 : Int32).toInt = 120 := rfl
  rw [show fX3_append v1 σ = _ from fX3_append.eq_1 ..]
  have w1 := wd_len hw
  refine wf_ite (fun c2 => ?_) (fun c2 => ?_)
  · have i12 := leI c2
    exact hw
  · have i13 := nleI c2
    refine wf_bnd (fun s3 e4 => ?_)
    have hw5 : WD s3 := by rw [e4]; exact wdA hw (by omega)
    have w6 := wd_len hw5
    have q1 := congrArg Int32.toInt (show rF s3 22 = rF σ 22 by simp only [sA_F, *])
    have a9 := addI (x := (rF s3 22)) (y := 1) (by omega) (by omega)
    refine wf_bnd (fun s7 e8 => ?_)
    have hw10 : WD s7 := by rw [e8]; exact wdFl hw5 (by omega) (by omega)
    have f11 := congrArg Int32.toInt (show rF s7 22 = ((rF s3 22) + 1) by rw [e8]; exact sF_same9)
    exact hw10
def PLX4_feed_41 : sg → Prop := fun r => (WD r) ∧ True
set_option maxRecDepth 100000 in
set_option maxHeartbeats 4000000 in
theorem wLX4_feed_41 : ∀ (k : Nat) (v1 v3 : Int32) (σ : sg) (hw : WD σ) (hv3 : -1 ≤ v3.toInt ∧ v3.toInt ≤ 3) (hmu : (v3.toInt + 1).toNat < k), PLX4_feed_41 (LX4_feed_41 k v1 v3 σ) := by
  intro k
  induction k with
  | zero => intro v1 v3 σ hw hv3 hmu; exact absurd hmu (Nat.not_lt_zero _)
  | succ k ih =>
    intro v1 v3 σ hw hv3 hmu
    have km1 : ((-1) : Int32).toInt = -1 := rfl
    have k0 : (0 : Int32).toInt = 0 := rfl
    have k8 : (8 : Int32).toInt = 8 := rfl
    have k255 : (255 : Int32).toInt = 255 := rfl
    rw [show LX4_feed_41 (k + 1) v1 v3 σ = _ from LX4_feed_41.eq_2 ..]
    refine wf_ite (fun c4 => ?_) (fun c4 => ?_)
    · have i9 := ltI c4
      exact ⟨hw, trivial⟩
    · have i10 := nltI c4
      refine wf_bnd (fun r5 e6 => ?_)
      have hw7 : WD r5 := by rw [e6]; exact wX3_append ((jushr v1 (8 * v3)) &&& 255) hw 
      have a8 := addI (x := v3) (y := (-1)) (by omega) (by omega)
      exact ih v1 (v3 + (-1)) r5 hw7 (by omega) (by omega)
set_option maxRecDepth 100000 in
set_option maxHeartbeats 4000000 in
theorem wX4_feed (v1 : Int32) (v2 : Int32) {σ : sg} (hw : WD σ) : WDi (fX4_feed v1 v2 σ) := by
  have km1000002 : ((-1000002) : Int32).toInt = -1000002 := rfl
  have km1000001 : ((-1000001) : Int32).toInt = -1000001 := rfl
  have k0 : (0 : Int32).toInt = 0 := rfl
  have k1 : (1 : Int32).toInt = 1 := rfl
  have k4 : (4 : Int32).toInt = 4 := rfl
  have k120 : (120 : Int32).toInt = 120 := rfl
  rw [show fX4_feed v1 v2 σ = _ from fX4_feed.eq_1 ..]
  refine wf_ite (fun c1 => ?_) (fun c1 => ?_)
  · have i26 := eqI c1
    have b27 := isW_f c1
    refine wf_bnd (fun r21 e22 => ?_)
    have hw23 : WD r21.2 := by rw [e22]; exact wX4_found (-1000001) hw 
    exact hw23
  · have i24 := neI c1
    have b25 := isW_t c1
    have w2 := wd_len hw
    refine wf_ite (fun c3 => ?_) (fun c3 => ?_)
    · have i19 := leI c3
      have a11 := subI (x := v2) (y := 1) (by omega) (by omega)
      refine wf_bnd (fun r12 e13 => ?_)
      obtain ⟨hw14, _⟩ := (show PLX4_feed_41 r12 from by rw [e13]; exact wLX4_feed_41 5 v1 (v2 - 1) σ hw (by omega) (by omega))
      have w15 := wd_len hw14
      exact hw14
    · have i20 := nleI c3
      refine wf_bnd (fun r16 e17 => ?_)
      have hw18 : WD r16.2 := by rw [e17]; exact wX4_found (-1000002) hw 
      exact hw18
theorem hdS_X1_isOneOf : yX1_isOneOf.cls ≠ "java/lang/invoke/MethodHandle" ∧ yX1_isOneOf.cls ≠ "java/lang/invoke/VarHandle" ∧ (parseMethodDescriptor yX1_isOneOf.desc).map (fun d => d.parameters.length) = some 2 := by decide +kernel
theorem mX1_isOneOf_f19 : Cond.fieldLink RX1 19 "WaxTreaties$Kinds" "ABOVE" "[I" ∈ wsX1_isOneOf := List.mem_of_getElem? (i := 1) rfl
set_option maxRecDepth 100000 in
set_option maxHeartbeats 4000000 in
theorem lX1_isOneOf_4 {p : Program} (l : Launch) {e : Env} {s : State} {m : MethodId} {args : Array Value} {below : List Frame} {meth : Method} {c : Code} {G : gT} (hN : wN G) (K : qK p s m args meth c cX1_isOneOf 4 RX1 wsX1_isOneOf G) : ∀ (k : Nat) (v1 v2 v3 : Int32) (σ : sg) (hv3 : 0 ≤ v3.toInt ∧ v3.toInt ≤ 7) (hmu : (7 - v3.toInt).toNat < k) (hr : meth.sig.returnType = some .boolean) (T0 : Int32), qq p l e (headSpec wsX1_isOneOf rmX1_isOneOf).room s m args below meth c (MQ below (cQ G (some (.int T0)) σ) args s 0 0 (wA G)) 4 G (fun T => T = T0) (LX1_isOneOf_4 k v1 v2 v3 σ) 4 [none, some (.int v1), some (.int v2), some (.int v3)] [] σ := by
  intro k
  induction k with
  | zero => intro v1 v2 v3 σ hv3 hmu hr T0; exact absurd hmu (Nat.not_lt_zero _)
  | succ k ih =>
    intro v1 v2 v3 σ hv3 hmu hr T0
    have k0 : (0 : Int32).toInt = 0 := rfl
    have k1 : (1 : Int32).toInt = 1 := rfl
    have k7 : (7 : Int32).toInt = 7 := rfl
    refine qq_T (LX1_isOneOf_4.eq_2 ..) ?_
    refine q_iload_n (pc := 4) K dX1_isOneOf_4 rfl rfl ?_
    refine q_bipush (pc := 5) (v := 7) K dX1_isOneOf_5 (by decide) ?_
    refine q_icmp_ge (pc := 7) (tgt := 36) K dX1_isOneOf_7 (by decide) (fun c1 => ?_) (fun c1 => ?_)
    · have i10 := leI c1
      refine q_iconst (pc := 36) (v := 0) K dX1_isOneOf_36 (by decide) ?_
      exact q_zretP K hr (Or.inl rfl) dX1_isOneOf_37
    · have i11 := nleI c1
      refine q_iload_n (pc := 10) K dX1_isOneOf_10 rfl rfl ?_
      refine q_callSi (pc := 11) (rm := rmX1_isKind) K (kX1_isKind l hN v2 σ) gX1_isOneOf_X1_isKind rfl hdS_X1_isKind ⟨Nat.le_of_ble_eq_true rfl, Nat.le_of_ble_eq_true rfl⟩ rfl rfl ⟨Nat.zero_le _, Nat.zero_le _⟩ rfl rfl (Nat.le_of_ble_eq_true rfl) dX1_isOneOf_11 ?_
      refine q_if_eq (pc := 14) (tgt := 36) K dX1_isOneOf_14 (by decide) (fun c2 => ?_) (fun c2 => ?_)
      · have i7 := eqI c2
        refine q_iconst (pc := 36) (v := 0) K dX1_isOneOf_36 (by decide) ?_
        exact q_zretP K hr (Or.inl rfl) dX1_isOneOf_37
      · have i8 := neI c2
        have b9 := isK_t c2
        refine q_iload_n (pc := 17) K dX1_isOneOf_17 rfl rfl ?_
        refine q_iload_n (pc := 18) K dX1_isOneOf_18 rfl rfl ?_
        refine q_icmp_ne (pc := 19) (tgt := 24) K dX1_isOneOf_19 (by decide) (fun c3 => ?_) (fun c3 => ?_)
        · have i5 := neI c3
          refine q_gets (pc := 24) K (v := .ref (gt G)) K.2.2.2.2.2.2.2.2.2.2.2.1 mX1_isOneOf_f19 dX1_isOneOf_24 ?_
          refine q_iload_n (pc := 27) K dX1_isOneOf_27 rfl rfl ?_
          refine q_tiald (pc := 28) K K.2.2.2.2.2.2.2.2.2.2.2.2.1 (vinM (n := 7) (by omega) (by omega)) (v := .int (kTab.getD v2.toNatClampNeg 0)) rfl dX1_isOneOf_28 ?_
          refine q_istore_n (pc := 29) (lv' := [none, some (.int v1), some (.int (kTab.getD v2.toNatClampNeg 0)), some (.int v3)]) K dX1_isOneOf_29 rfl (by decide) (Nat.le_of_ble_eq_true rfl) rfl ?_
          refine q_iinc (pc := 30) (v := (v3 + 1)) (lv' := [none, some (.int v1), some (.int (kTab.getD v2.toNatClampNeg 0)), some (.int (v3 + 1))]) K dX1_isOneOf_30 rfl rfl (by decide) rfl ?_
          refine q_goto (pc := 33) (tgt := 4) K dX1_isOneOf_33 (by decide) ?_
          have a4 := addI (x := v3) (y := 1) (by omega) (by omega)
          exact ih v1 (kTab.getD v2.toNatClampNeg 0) (v3 + 1) σ (by omega) (by omega) hr _
        · have i6 := eqI c3
          refine q_iconst (pc := 22) (v := 1) K dX1_isOneOf_22 (by decide) ?_
          exact q_zretP K hr (Or.inr rfl) dX1_isOneOf_23
set_option maxRecDepth 100000 in
set_option maxHeartbeats 4000000 in
theorem kX1_isOneOf (l : Launch) {G : gT} (hN : wN G) (v0 : Int32) (v1 : Int32) (σ : sg) : cM l yX1_isOneOf wsX1_isOneOf rmX1_isOneOf G [.int v0, .int v1] σ (some (.int (fX1_isOneOf v0 v1 σ))) σ := by
  refine cM_of (maxL := 4) (ret := (some .boolean)) (cc := cX1_isOneOf) (fX1_isOneOf v0 v1 σ) RX1 hN (by decide +kernel) rfl rfl (Nat.le_of_ble_eq_true rfl) rfl ?_
  intro p e s m args below meth c K hr
  have k0 : (0 : Int32).toInt = 0 := rfl
  refine qq_st (lv' := [some (.int v0), some (.int v1), none, none]) rfl rfl rfl ?_
  refine qq_T (fX1_isOneOf.eq_1 ..) ?_
  refine q_iload_n (pc := 0) K dX1_isOneOf_0 rfl rfl ?_
  refine q_istore_n (pc := 1) (lv' := [some (.int v0), some (.int v1), some (.int v0), none]) K dX1_isOneOf_1 rfl (by decide) (Nat.le_of_ble_eq_true rfl) rfl ?_
  refine q_iconst (pc := 2) (v := 0) K dX1_isOneOf_2 (by decide) ?_
  refine q_istore_n (pc := 3) (lv' := [some (.int v0), some (.int v1), some (.int v0), some (.int 0)]) K dX1_isOneOf_3 rfl (by decide) (Nat.le_of_ble_eq_true rfl) rfl ?_
  refine qq_drop 0 (lv' := [none, some (.int v1), some (.int v0), some (.int 0)]) rfl ?_
  exact lX1_isOneOf_4 l hN K 8 v1 v0 0 σ (by omega) (by omega) hr _
theorem hdS_X4_put : yX4_put.cls ≠ "java/lang/invoke/MethodHandle" ∧ yX4_put.cls ≠ "java/lang/invoke/VarHandle" ∧ (parseMethodDescriptor yX4_put.desc).map (fun d => d.parameters.length) = some 3 := by decide +kernel
set_option maxRecDepth 100000 in
set_option maxHeartbeats 4000000 in
theorem kX4_put (l : Launch) {G : gT} (hN : wN G) (hG : gfl G = true) (a0 : Nat) (ha0 : a0 < 24) (v1 : Int32) (v2 : Int32) (σ : sg) (hin : vp_in v1 (wln true a0)) : cM l yX4_put wsX4_put rmX4_put G [.ref (gad G a0), .int v1, .int v2] σ (some (.int (fX4_put a0 v1 v2 σ).1)) (fX4_put a0 v1 v2 σ).2 := by
  refine cM_of (maxL := 4) (ret := (some .int)) (cc := cX4_put) (fX4_put a0 v1 v2 σ) RX4 hN (by decide +kernel) rfl rfl (Nat.le_of_ble_eq_true rfl) rfl ?_
  intro p e s m args below meth c K hr
  have k0 : (0 : Int32).toInt = 0 := rfl
  refine qq_st (lv' := [some (.ref (gad G a0)), some (.int v1), some (.int v2), none]) rfl rfl rfl ?_
  refine qq_T (fX4_put.eq_1 ..) ?_
  refine q_aload_n (pc := 0) K dX4_put_0 rfl rfl ?_
  refine q_iload_n (pc := 1) K dX4_put_1 rfl rfl ?_
  refine q_iald (pc := 2) (a := a0) K (by rw [wna_t hG]; have := ha0; omega) (show vp_in v1 (wln (gfl G) a0) by rw [hG]; exact hin) dX4_put_2 ?_
  refine q_istore_n (pc := 3) (lv' := [some (.ref (gad G a0)), some (.int v1), some (.int v2), some (.int (rA σ a0 v1))]) K dX4_put_3 rfl (by decide) (Nat.le_of_ble_eq_true rfl) rfl ?_
  refine q_aload_n (pc := 4) K dX4_put_4 rfl rfl ?_
  refine q_iload_n (pc := 5) K dX4_put_5 rfl rfl ?_
  refine q_iload_n (pc := 6) K dX4_put_6 rfl rfl ?_
  refine q_iast (pc := 7) (a := a0) K (by rw [wna_t hG]; have := ha0; omega) (show vp_in v1 (wln (gfl G) a0) by rw [hG]; exact hin) dX4_put_7 (fun s1 e2 => ?_)
  refine q_iload_n (pc := 8) K dX4_put_8 rfl rfl ?_
  exact q_iret K hr dX4_put_9
theorem hdV_X4_found : yX4_found.cls = RX4 ∧ yX4_found.cls ≠ "java/lang/invoke/MethodHandle" ∧ yX4_found.cls ≠ "java/lang/invoke/VarHandle" ∧ (parseMethodDescriptor yX4_found.desc).map (fun d => d.parameters.length) = some 1 := by decide +kernel
theorem mX4_found_c53 : Cond.constant RX4 53 (-1000001) ∈ wsX4_found := List.mem_of_getElem? (i := 1) rfl
theorem mX4_found_f39 : Cond.fieldLink RX4 39 "WaxTreaties" "findings" "[I" ∈ wsX4_found := List.mem_of_getElem? (i := 2) rfl
theorem iwX4_found_X4 : ∀ w ∈ wsX40, w ∈ wsX4_found := fun w h => List.mem_cons_of_mem _ (List.mem_append_right _ h)
set_option maxRecDepth 100000 in
set_option maxHeartbeats 4000000 in
theorem kX4_found (l : Launch) {G : gT} (hN : wN G) (hG : gfl G = true) (v1 : Int32) (σ : sg) (hw : WD σ) : cM l yX4_found wsX4_found rmX4_found G [.ref (gob G 3), .int v1] σ (some (.int (fX4_found v1 σ).1)) (fX4_found v1 σ).2 := by
  refine cM_of (maxL := 3) (ret := (some .int)) (cc := cX4_found) (fX4_found v1 σ) RX4 hN (by decide +kernel) rfl rfl (Nat.le_of_ble_eq_true rfl) rfl ?_
  intro p e s m args below meth c K hr
  have km1000001 : ((-1000001) : Int32).toInt = -1000001 := rfl
  have k0 : (0 : Int32).toInt = 0 := rfl
  have k1 : (1 : Int32).toInt = 1 := rfl
  have k6 : (6 : Int32).toInt = 6 := rfl
  refine qq_st (lv' := [some (.ref (gob G 3)), some (.int v1), none]) rfl rfl rfl ?_
  refine qq_T (fX4_found.eq_1 ..) ?_
  refine q_ldc (pc := 0) (v := (-1000001)) K dX4_found_0 mX4_found_c53 ?_
  refine q_iload_n (pc := 2) K dX4_found_2 rfl rfl ?_
  refine q_isub (pc := 3) K dX4_found_3 ?_
  refine q_istore_n (pc := 4) (lv' := [some (.ref (gob G 3)), some (.int v1), some (.int ((-1000001) - v1))]) K dX4_found_4 rfl (by decide) (Nat.le_of_ble_eq_true rfl) rfl ?_
  refine q_iload_n (pc := 5) K dX4_found_5 rfl rfl ?_
  refine q_iconst (pc := 6) (v := 0) K dX4_found_6 (by decide) ?_
  refine q_bipush (pc := 7) (v := 6) K dX4_found_7 (by decide) ?_
  refine q_callSi (pc := 9) (rm := rmX4_isWithin) K (kX4_isWithin l hN ((-1000001) - v1) 0 6 σ) gX4_found_X4_isWithin rfl hdS_X4_isWithin ⟨Nat.le_of_ble_eq_true rfl, Nat.le_of_ble_eq_true rfl⟩ rfl rfl ⟨Nat.zero_le _, Nat.zero_le _⟩ rfl rfl (Nat.le_of_ble_eq_true rfl) dX4_found_9 ?_
  refine q_if_eq (pc := 12) (tgt := 25) K dX4_found_12 (by decide) (fun c1 => ?_) (fun c1 => ?_)
  · have i5 := eqI c1
    have b6 := isW_f c1
    refine q_iload_n (pc := 25) K dX4_found_25 rfl rfl ?_
    exact q_iret K hr dX4_found_26
  · have i7 := neI c1
    have b8 := isW_t c1
    refine q_aload_n (pc := 15) K dX4_found_15 rfl rfl ?_
    refine q_get (pc := 16) (o := 3) (f := 6) (v := .ref (gad G 29)) K (wO_x hG) vw_3 iwX4_found_X4 (by decide) mX4_found_f39 rfl dX4_found_16 ?_
    refine q_iload_n (pc := 19) K dX4_found_19 rfl rfl ?_
    refine q_dup2 (pc := 20) K dX4_found_20 rfl rfl ?_
    refine q_iald (pc := 21) (a := 29) K (by rw [wna_t hG]; decide) (vinN (wld (n := 7) hG 29 rfl) (by omega) (by omega)) dX4_found_21 ?_
    refine q_iconst (pc := 22) (v := 1) K dX4_found_22 (by decide) ?_
    refine q_iadd (pc := 23) K dX4_found_23 ?_
    refine q_iast (pc := 24) (a := 29) K (by rw [wna_t hG]; decide) (vinN (wld (n := 7) hG 29 rfl) (by omega) (by omega)) dX4_found_24 (fun s2 e3 => ?_)
    have hw4 : WD s2 := by rw [e3]; exact wdA hw (by omega)
    refine q_iload_n (pc := 25) K dX4_found_25 rfl rfl ?_
    exact q_iret K hr dX4_found_26
theorem hdV_X4_isTooLate : yX4_isTooLate.cls = RX4 ∧ yX4_isTooLate.cls ≠ "java/lang/invoke/MethodHandle" ∧ yX4_isTooLate.cls ≠ "java/lang/invoke/VarHandle" ∧ (parseMethodDescriptor yX4_isTooLate.desc).map (fun d => d.parameters.length) = some 1 := by decide +kernel
theorem mX4_isTooLate_f12 : Cond.fieldLink RX4 12 "WaxTreaties" "live" "LWaxTreaties$Chancery;" ∈ wsX4_isTooLate := List.mem_of_getElem? (i := 1) rfl
theorem iwX4_isTooLate_X4 : ∀ w ∈ wsX40, w ∈ wsX4_isTooLate := fun w h => List.mem_cons_of_mem _ (List.mem_append_left _ (List.mem_append_right _ h))
theorem mX4_isTooLate_f95 : Cond.fieldLink RX4 95 "WaxTreaties$Chancery" "hour" "I" ∈ wsX4_isTooLate := List.mem_of_getElem? (i := 2) rfl
theorem iwX4_isTooLate_X0 : ∀ w ∈ wsX00, w ∈ wsX4_isTooLate := fun w h => List.mem_cons_of_mem _ (List.mem_append_right _ h)
set_option maxRecDepth 100000 in
set_option maxHeartbeats 4000000 in
theorem kX4_isTooLate (l : Launch) {G : gT} (hN : wN G) (hG : gfl G = true) (v1 : Int32) (σ : sg) (hw : WD σ) : cM l yX4_isTooLate wsX4_isTooLate rmX4_isTooLate G [.ref (gob G 3), .int v1] σ (some (.int (fX4_isTooLate v1 σ))) σ := by
  refine cM_of (maxL := 2) (ret := (some .boolean)) (cc := cX4_isTooLate) (fX4_isTooLate v1 σ) RX4 hN (by decide +kernel) rfl rfl (Nat.le_of_ble_eq_true rfl) rfl ?_
  intro p e s m args below meth c K hr
  have k0 : (0 : Int32).toInt = 0 := rfl
  have k1 : (1 : Int32).toInt = 1 := rfl
  have k9999 : (9999 : Int32).toInt = 9999 := rfl
  refine qq_st (lv' := [some (.ref (gob G 3)), some (.int v1)]) rfl rfl rfl ?_
  refine qq_T (fX4_isTooLate.eq_1 ..) ?_
  refine q_aload_n (pc := 0) K dX4_isTooLate_0 rfl rfl ?_
  refine q_get (pc := 1) (o := 3) (f := 0) (v := .ref (gob G 0)) K (wO_x hG) vw_3 iwX4_isTooLate_X4 (by decide) mX4_isTooLate_f12 rfl dX4_isTooLate_1 ?_
  refine q_get (pc := 4) (o := 0) (f := 11) (v := .int (rF σ (7 * 0 + 4))) K (wO_ch hG (show 0 < 3 by decide)) vw_0 iwX4_isTooLate_X0 (by decide) mX4_isTooLate_f95 rfl dX4_isTooLate_4 ?_
  refine q_iload_n (pc := 7) K dX4_isTooLate_7 rfl rfl ?_
  refine q_iadd (pc := 8) K dX4_isTooLate_8 ?_
  refine q_sipush (pc := 9) (v := 9999) K dX4_isTooLate_9 (by decide) ?_
  refine q_icmp_le (pc := 12) (tgt := 19) K dX4_isTooLate_12 (by decide) (fun c1 => ?_) (fun c1 => ?_)
  · have i2 := leI c1
    refine q_iconst (pc := 19) (v := 0) K dX4_isTooLate_19 (by decide) ?_
    exact q_zretP K hr (Or.inl rfl) dX4_isTooLate_20
  · have i3 := nleI c1
    refine q_iconst (pc := 15) (v := 1) K dX4_isTooLate_15 (by decide) ?_
    refine q_goto (pc := 16) (tgt := 20) K dX4_isTooLate_16 (by decide) ?_
    exact q_zretP K hr (Or.inr rfl) dX4_isTooLate_20
theorem hdV_X4_refusal : yX4_refusal.cls = RX4 ∧ yX4_refusal.cls ≠ "java/lang/invoke/MethodHandle" ∧ yX4_refusal.cls ≠ "java/lang/invoke/VarHandle" ∧ (parseMethodDescriptor yX4_refusal.desc).map (fun d => d.parameters.length) = some 2 := by decide +kernel
theorem mX4_refusal_c179 : Cond.constant RX4 179 (-1000005) ∈ wsX4_refusal := List.mem_of_getElem? (i := 2) rfl
theorem mX4_refusal_c53 : Cond.constant RX4 53 (-1000001) ∈ wsX4_refusal := List.mem_of_getElem? (i := 1) rfl
set_option maxRecDepth 100000 in
set_option maxHeartbeats 4000000 in
theorem kX4_refusal (l : Launch) {G : gT} (hN : wN G) (hG : gfl G = true) (v1 : Int32) (v2 : Int32) (σ : sg) (hw : WD σ) : cM l yX4_refusal wsX4_refusal rmX4_refusal G [.ref (gob G 3), .int v1, .int v2] σ (some (.int (fX4_refusal v1 v2 σ))) σ := by
  refine cM_of (maxL := 3) (ret := (some .int)) (cc := cX4_refusal) (fX4_refusal v1 v2 σ) RX4 hN (by decide +kernel) rfl rfl (Nat.le_of_ble_eq_true rfl) rfl ?_
  intro p e s m args below meth c K hr
  have km1000005 : ((-1000005) : Int32).toInt = -1000005 := rfl
  have km1000001 : ((-1000001) : Int32).toInt = -1000001 := rfl
  have k0 : (0 : Int32).toInt = 0 := rfl
  have k1 : (1 : Int32).toInt = 1 := rfl
  refine qq_st (lv' := [some (.ref (gob G 3)), some (.int v1), some (.int v2)]) rfl rfl rfl ?_
  refine qq_T (fX4_refusal.eq_1 ..) ?_
  refine q_iload_n (pc := 0) K dX4_refusal_0 rfl rfl ?_
  refine q_iconst (pc := 1) (v := 1) K dX4_refusal_1 (by decide) ?_
  refine q_iload_n (pc := 2) K dX4_refusal_2 rfl rfl ?_
  refine q_callSi (pc := 3) (rm := rmX4_isWithin) K (kX4_isWithin l hN v1 1 v2 σ) gX4_refusal_X4_isWithin rfl hdS_X4_isWithin ⟨Nat.le_of_ble_eq_true rfl, Nat.le_of_ble_eq_true rfl⟩ rfl rfl ⟨Nat.zero_le _, Nat.zero_le _⟩ rfl rfl (Nat.le_of_ble_eq_true rfl) dX4_refusal_3 ?_
  refine q_if_ne (pc := 6) (tgt := 12) K dX4_refusal_6 (by decide) (fun c1 => ?_) (fun c1 => ?_)
  · have i5 := neI c1
    have b6 := isW_t c1
    refine q_aload_n (pc := 12) K dX4_refusal_12 rfl rfl ?_
    refine q_iload_n (pc := 13) K dX4_refusal_13 rfl rfl ?_
    refine q_callVi (pc := 14) (o := 3) (rm := rmX4_isTooLate) K (kX4_isTooLate l hN hG v1 σ hw) gX4_refusal_X4_isTooLate rfl hdV_X4_isTooLate ⟨Nat.le_of_ble_eq_true rfl, Nat.le_of_ble_eq_true rfl⟩ rfl rfl ⟨Nat.zero_le _, Nat.zero_le _⟩ (wO_x hG) vw_3 rfl rfl (Nat.le_of_ble_eq_true rfl) dX4_refusal_14 ?_
    refine q_if_eq (pc := 17) (tgt := 25) K dX4_refusal_17 (by decide) (fun c2 => ?_) (fun c2 => ?_)
    · have i3 := eqI c2
      refine q_iconst (pc := 25) (v := 0) K dX4_refusal_25 (by decide) ?_
      exact q_iretP K hr dX4_refusal_26
    · have i4 := neI c2
      refine q_ldc (pc := 20) (v := (-1000005)) K dX4_refusal_20 mX4_refusal_c179 ?_
      refine q_goto (pc := 22) (tgt := 26) K dX4_refusal_22 (by decide) ?_
      exact q_iretP K hr dX4_refusal_26
  · have i7 := eqI c1
    have b8 := isW_f c1
    refine q_ldc (pc := 9) (v := (-1000001)) K dX4_refusal_9 mX4_refusal_c53 ?_
    exact q_iretP K hr dX4_refusal_11
theorem hdV_X4_refusalOfDeed : yX4_refusalOfDeed.cls = RX4 ∧ yX4_refusalOfDeed.cls ≠ "java/lang/invoke/MethodHandle" ∧ yX4_refusalOfDeed.cls ≠ "java/lang/invoke/VarHandle" ∧ (parseMethodDescriptor yX4_refusalOfDeed.desc).map (fun d => d.parameters.length) = some 2 := by decide +kernel
theorem mX4_refusalOfDeed_f12 : Cond.fieldLink RX4 12 "WaxTreaties" "live" "LWaxTreaties$Chancery;" ∈ wsX4_refusalOfDeed := List.mem_of_getElem? (i := 1) rfl
theorem iwX4_refusalOfDeed_X4 : ∀ w ∈ wsX40, w ∈ wsX4_refusalOfDeed := fun w h => List.mem_cons_of_mem _ (List.mem_append_left _ (List.mem_append_right _ h))
theorem mX4_refusalOfDeed_c53 : Cond.constant RX4 53 (-1000001) ∈ wsX4_refusalOfDeed := List.mem_of_getElem? (i := 2) rfl
set_option maxRecDepth 100000 in
set_option maxHeartbeats 4000000 in
theorem kX4_refusalOfDeed (l : Launch) {G : gT} (hN : wN G) (hG : gfl G = true) (v1 : Int32) (v2 : Int32) (σ : sg) (hw : WD σ) : cM l yX4_refusalOfDeed wsX4_refusalOfDeed rmX4_refusalOfDeed G [.ref (gob G 3), .int v1, .int v2] σ (some (.int (fX4_refusalOfDeed v1 v2 σ))) σ := by
  refine cM_of (maxL := 3) (ret := (some .int)) (cc := cX4_refusalOfDeed) (fX4_refusalOfDeed v1 v2 σ) RX4 hN (by decide +kernel) rfl rfl (Nat.le_of_ble_eq_true rfl) rfl ?_
  intro p e s m args below meth c K hr
  have km1000001 : ((-1000001) : Int32).toInt = -1000001 := rfl
  have k0 : (0 : Int32).toInt = 0 := rfl
  have k100 : (100 : Int32).toInt = 100 := rfl
  refine qq_st (lv' := [some (.ref (gob G 3)), some (.int v1), some (.int v2)]) rfl rfl rfl ?_
  refine qq_T (fX4_refusalOfDeed.eq_1 ..) ?_
  refine q_aload_n (pc := 0) K dX4_refusalOfDeed_0 rfl rfl ?_
  refine q_get (pc := 1) (o := 3) (f := 0) (v := .ref (gob G 0)) K (wO_x hG) vw_3 iwX4_refusalOfDeed_X4 (by decide) mX4_refusalOfDeed_f12 rfl dX4_refusalOfDeed_1 ?_
  refine q_iload_n (pc := 4) K dX4_refusalOfDeed_4 rfl rfl ?_
  refine q_callVi (pc := 5) (o := 0) (rm := rmX0_isDeed) K (kX0_isDeed l hN hG 0 (show 0 < 3 by decide) v1 σ hw) gX4_refusalOfDeed_X0_isDeed rfl hdV_X0_isDeed ⟨Nat.le_of_ble_eq_true rfl, Nat.le_of_ble_eq_true rfl⟩ rfl rfl ⟨Nat.zero_le _, Nat.zero_le _⟩ (wO_ch hG (show 0 < 3 by decide)) vw_0 rfl rfl (Nat.le_of_ble_eq_true rfl) dX4_refusalOfDeed_5 ?_
  refine q_if_eq (pc := 8) (tgt := 21) K dX4_refusalOfDeed_8 (by decide) (fun c1 => ?_) (fun c1 => ?_)
  · have i2 := eqI c1
    refine q_ldc (pc := 21) (v := (-1000001)) K dX4_refusalOfDeed_21 mX4_refusalOfDeed_c53 ?_
    exact q_iretP K hr dX4_refusalOfDeed_23
  · have i3 := neI c1
    have b4 := isD_t hw (by omega) c1
    refine q_aload_n (pc := 11) K dX4_refusalOfDeed_11 rfl rfl ?_
    refine q_iload_n (pc := 12) K dX4_refusalOfDeed_12 rfl rfl ?_
    refine q_bipush (pc := 13) (v := 100) K dX4_refusalOfDeed_13 (by decide) ?_
    refine q_callVi (pc := 15) (o := 3) (rm := rmX4_refusal) K (kX4_refusal l hN hG v2 100 σ hw) gX4_refusalOfDeed_X4_refusal rfl hdV_X4_refusal ⟨Nat.le_of_ble_eq_true rfl, Nat.le_of_ble_eq_true rfl⟩ rfl rfl ⟨Nat.zero_le _, Nat.zero_le _⟩ (wO_x hG) vw_3 rfl rfl (Nat.le_of_ble_eq_true rfl) dX4_refusalOfDeed_15 ?_
    refine q_goto (pc := 18) (tgt := 23) K dX4_refusalOfDeed_18 (by decide) ?_
    exact q_iretP K hr dX4_refusalOfDeed_23
theorem hdV_X4_refusalOfEnd : yX4_refusalOfEnd.cls = RX4 ∧ yX4_refusalOfEnd.cls ≠ "java/lang/invoke/MethodHandle" ∧ yX4_refusalOfEnd.cls ≠ "java/lang/invoke/VarHandle" ∧ (parseMethodDescriptor yX4_refusalOfEnd.desc).map (fun d => d.parameters.length) = some 1 := by decide +kernel
set_option maxRecDepth 100000 in
set_option maxHeartbeats 4000000 in
theorem kX4_refusalOfEnd (l : Launch) {G : gT} (hN : wN G) (hG : gfl G = true) (v1 : Int32) (σ : sg) (hw : WD σ) : cM l yX4_refusalOfEnd wsX4_refusalOfEnd rmX4_refusalOfEnd G [.ref (gob G 3), .int v1] σ (some (.int (fX4_refusalOfEnd v1 σ))) σ := by
  refine cM_of (maxL := 2) (ret := (some .int)) (cc := cX4_refusalOfEnd) (fX4_refusalOfEnd v1 σ) RX4 hN (by decide +kernel) rfl rfl (Nat.le_of_ble_eq_true rfl) rfl ?_
  intro p e s m args below meth c K hr
  have k0 : (0 : Int32).toInt = 0 := rfl
  have k100 : (100 : Int32).toInt = 100 := rfl
  refine qq_st (lv' := [some (.ref (gob G 3)), some (.int v1)]) rfl rfl rfl ?_
  refine qq_T (fX4_refusalOfEnd.eq_1 ..) ?_
  refine q_aload_n (pc := 0) K dX4_refusalOfEnd_0 rfl rfl ?_
  refine q_iload_n (pc := 1) K dX4_refusalOfEnd_1 rfl rfl ?_
  refine q_bipush (pc := 2) (v := 100) K dX4_refusalOfEnd_2 (by decide) ?_
  refine q_callVi (pc := 4) (o := 3) (rm := rmX4_refusalOfDeed) K (kX4_refusalOfDeed l hN hG v1 100 σ hw) gX4_refusalOfEnd_X4_refusalOfDeed rfl hdV_X4_refusalOfDeed ⟨Nat.le_of_ble_eq_true rfl, Nat.le_of_ble_eq_true rfl⟩ rfl rfl ⟨Nat.zero_le _, Nat.zero_le _⟩ (wO_x hG) vw_3 rfl rfl (Nat.le_of_ble_eq_true rfl) dX4_refusalOfEnd_4 ?_
  exact q_iretP K hr dX4_refusalOfEnd_7
theorem hdV_X4_refusalOfEnemy : yX4_refusalOfEnemy.cls = RX4 ∧ yX4_refusalOfEnemy.cls ≠ "java/lang/invoke/MethodHandle" ∧ yX4_refusalOfEnemy.cls ≠ "java/lang/invoke/VarHandle" ∧ (parseMethodDescriptor yX4_refusalOfEnemy.desc).map (fun d => d.parameters.length) = some 2 := by decide +kernel
theorem mX4_refusalOfEnemy_f12 : Cond.fieldLink RX4 12 "WaxTreaties" "live" "LWaxTreaties$Chancery;" ∈ wsX4_refusalOfEnemy := List.mem_of_getElem? (i := 2) rfl
theorem iwX4_refusalOfEnemy_X4 : ∀ w ∈ wsX40, w ∈ wsX4_refusalOfEnemy := fun w h => List.mem_cons_of_mem _ (List.mem_append_left _ (List.mem_append_right _ h))
theorem mX4_refusalOfEnemy_f128 : Cond.fieldLink RX4 128 "WaxTreaties$Chancery" "open" "I" ∈ wsX4_refusalOfEnemy := List.mem_of_getElem? (i := 3) rfl
theorem iwX4_refusalOfEnemy_X0 : ∀ w ∈ wsX00, w ∈ wsX4_refusalOfEnemy := fun w h => List.mem_cons_of_mem _ (List.mem_append_right _ h)
theorem mX4_refusalOfEnemy_c190 : Cond.constant RX4 190 (-1000004) ∈ wsX4_refusalOfEnemy := List.mem_of_getElem? (i := 4) rfl
theorem mX4_refusalOfEnemy_c53 : Cond.constant RX4 53 (-1000001) ∈ wsX4_refusalOfEnemy := List.mem_of_getElem? (i := 1) rfl
set_option maxRecDepth 100000 in
set_option maxHeartbeats 4000000 in
theorem kX4_refusalOfEnemy (l : Launch) {G : gT} (hN : wN G) (hG : gfl G = true) (v1 : Int32) (v2 : Int32) (σ : sg) (hw : WD σ) : cM l yX4_refusalOfEnemy wsX4_refusalOfEnemy rmX4_refusalOfEnemy G [.ref (gob G 3), .int v1, .int v2] σ (some (.int (fX4_refusalOfEnemy v1 v2 σ))) σ := by
  refine cM_of (maxL := 4) (ret := (some .int)) (cc := cX4_refusalOfEnemy) (fX4_refusalOfEnemy v1 v2 σ) RX4 hN (by decide +kernel) rfl rfl (Nat.le_of_ble_eq_true rfl) rfl ?_
  intro p e s m args below meth c K hr
  have km1000004 : ((-1000004) : Int32).toInt = -1000004 := rfl
  have km1000001 : ((-1000001) : Int32).toInt = -1000001 := rfl
  have k0 : (0 : Int32).toInt = 0 := rfl
  have k6 : (6 : Int32).toInt = 6 := rfl
  have k100 : (100 : Int32).toInt = 100 := rfl
  refine qq_st (lv' := [some (.ref (gob G 3)), some (.int v1), some (.int v2), none]) rfl rfl rfl ?_
  refine qq_T (fX4_refusalOfEnemy.eq_1 ..) ?_
  refine q_iload_n (pc := 0) K dX4_refusalOfEnemy_0 rfl rfl ?_
  refine q_iconst (pc := 1) (v := 0) K dX4_refusalOfEnemy_1 (by decide) ?_
  refine q_bipush (pc := 2) (v := 6) K dX4_refusalOfEnemy_2 (by decide) ?_
  refine q_callSi (pc := 4) (rm := rmX4_isWithin) K (kX4_isWithin l hN v1 0 6 σ) gX4_refusalOfEnemy_X4_isWithin rfl hdS_X4_isWithin ⟨Nat.le_of_ble_eq_true rfl, Nat.le_of_ble_eq_true rfl⟩ rfl rfl ⟨Nat.zero_le _, Nat.zero_le _⟩ rfl rfl (Nat.le_of_ble_eq_true rfl) dX4_refusalOfEnemy_4 ?_
  refine q_if_ne (pc := 7) (tgt := 13) K dX4_refusalOfEnemy_7 (by decide) (fun c1 => ?_) (fun c1 => ?_)
  · have i9 := neI c1
    have b10 := isW_t c1
    refine q_aload_n (pc := 13) K dX4_refusalOfEnemy_13 rfl rfl ?_
    refine q_iload_n (pc := 14) K dX4_refusalOfEnemy_14 rfl rfl ?_
    refine q_bipush (pc := 15) (v := 100) K dX4_refusalOfEnemy_15 (by decide) ?_
    refine q_callVi (pc := 17) (o := 3) (rm := rmX4_refusal) K (kX4_refusal l hN hG v2 100 σ hw) gX4_refusalOfEnemy_X4_refusal rfl hdV_X4_refusal ⟨Nat.le_of_ble_eq_true rfl, Nat.le_of_ble_eq_true rfl⟩ rfl rfl ⟨Nat.zero_le _, Nat.zero_le _⟩ (wO_x hG) vw_3 rfl rfl (Nat.le_of_ble_eq_true rfl) dX4_refusalOfEnemy_17 ?_
    refine q_istore_n (pc := 20) (lv' := [some (.ref (gob G 3)), some (.int v1), some (.int v2), some (.int (fX4_refusal v2 100 σ))]) K dX4_refusalOfEnemy_20 rfl (by decide) (Nat.le_of_ble_eq_true rfl) rfl ?_
    refine q_iload_n (pc := 21) K dX4_refusalOfEnemy_21 rfl rfl ?_
    refine q_if_eq (pc := 22) (tgt := 27) K dX4_refusalOfEnemy_22 (by decide) (fun c2 => ?_) (fun c2 => ?_)
    · have i6 := eqI c2
      have b7 := ref_f c2
      refine q_bipush (pc := 27) (v := 6) K dX4_refusalOfEnemy_27 (by decide) ?_
      refine q_aload_n (pc := 29) K dX4_refusalOfEnemy_29 rfl rfl ?_
      refine q_get (pc := 30) (o := 3) (f := 0) (v := .ref (gob G 0)) K (wO_x hG) vw_3 iwX4_refusalOfEnemy_X4 (by decide) mX4_refusalOfEnemy_f12 rfl dX4_refusalOfEnemy_30 ?_
      refine q_get (pc := 33) (o := 0) (f := 9) (v := .int (rF σ (7 * 0 + 2))) K (wO_ch hG (show 0 < 3 by decide)) vw_0 iwX4_refusalOfEnemy_X0 (by decide) mX4_refusalOfEnemy_f128 rfl dX4_refusalOfEnemy_33 ?_
      refine q_callSi (pc := 36) (rm := rmJ6_bitCount_0f7a4) K (kJ6_bitCount_0f7a4 l hN (rF σ (7 * 0 + 2)) σ) gX4_refusalOfEnemy_J6_bitCount_0f7a4 rfl hdS_J6_bitCount_0f7a4 ⟨Nat.le_of_ble_eq_true rfl, Nat.le_of_ble_eq_true rfl⟩ rfl rfl ⟨Nat.zero_le _, Nat.zero_le _⟩ rfl rfl (Nat.le_of_ble_eq_true rfl) dX4_refusalOfEnemy_36 ?_
      refine q_isub (pc := 39) K dX4_refusalOfEnemy_39 ?_
      refine q_iload_n (pc := 40) K dX4_refusalOfEnemy_40 rfl rfl ?_
      refine q_icmp_ge (pc := 41) (tgt := 49) K dX4_refusalOfEnemy_41 (by decide) (fun c3 => ?_) (fun c3 => ?_)
      · have i4 := leI c3
        refine q_iconst (pc := 49) (v := 0) K dX4_refusalOfEnemy_49 (by decide) ?_
        exact q_iretP K hr dX4_refusalOfEnemy_50
      · have i5 := nleI c3
        refine q_ldc (pc := 44) (v := (-1000004)) K dX4_refusalOfEnemy_44 mX4_refusalOfEnemy_c190 ?_
        refine q_goto (pc := 46) (tgt := 50) K dX4_refusalOfEnemy_46 (by decide) ?_
        exact q_iretP K hr dX4_refusalOfEnemy_50
    · have i8 := neI c2
      refine q_iload_n (pc := 25) K dX4_refusalOfEnemy_25 rfl rfl ?_
      exact q_iretP K hr dX4_refusalOfEnemy_26
  · have i11 := eqI c1
    have b12 := isW_f c1
    refine q_ldc (pc := 10) (v := (-1000001)) K dX4_refusalOfEnemy_10 mX4_refusalOfEnemy_c53 ?_
    exact q_iretP K hr dX4_refusalOfEnemy_12
theorem hdV_X4_refusalOfSheet : yX4_refusalOfSheet.cls = RX4 ∧ yX4_refusalOfSheet.cls ≠ "java/lang/invoke/MethodHandle" ∧ yX4_refusalOfSheet.cls ≠ "java/lang/invoke/VarHandle" ∧ (parseMethodDescriptor yX4_refusalOfSheet.desc).map (fun d => d.parameters.length) = some 1 := by decide +kernel
theorem mX4_refusalOfSheet_f35 : Cond.fieldLink RX4 35 "WaxTreaties" "sheets" "[LWaxTreaties$Sheet;" ∈ wsX4_refusalOfSheet := List.mem_of_getElem? (i := 2) rfl
theorem iwX4_refusalOfSheet_X4 : ∀ w ∈ wsX40, w ∈ wsX4_refusalOfSheet := fun w h => List.mem_cons_of_mem _ (List.mem_append_left _ (List.mem_append_right _ h))
theorem mX4_refusalOfSheet_c268 : Cond.constant RX4 268 (-1000006) ∈ wsX4_refusalOfSheet := List.mem_of_getElem? (i := 3) rfl
theorem mX4_refusalOfSheet_c53 : Cond.constant RX4 53 (-1000001) ∈ wsX4_refusalOfSheet := List.mem_of_getElem? (i := 1) rfl
set_option maxRecDepth 100000 in
set_option maxHeartbeats 4000000 in
theorem kX4_refusalOfSheet (l : Launch) {G : gT} (hN : wN G) (hG : gfl G = true) (v1 : Int32) (σ : sg) (hw : WD σ) : cM l yX4_refusalOfSheet wsX4_refusalOfSheet rmX4_refusalOfSheet G [.ref (gob G 3), .int v1] σ (some (.int (fX4_refusalOfSheet v1 σ))) σ := by
  refine cM_of (maxL := 2) (ret := (some .int)) (cc := cX4_refusalOfSheet) (fX4_refusalOfSheet v1 σ) RX4 hN (by decide +kernel) rfl rfl (Nat.le_of_ble_eq_true rfl) rfl ?_
  intro p e s m args below meth c K hr
  have km1000006 : ((-1000006) : Int32).toInt = -1000006 := rfl
  have km1000001 : ((-1000001) : Int32).toInt = -1000001 := rfl
  have k0 : (0 : Int32).toInt = 0 := rfl
  refine qq_st (lv' := [some (.ref (gob G 3)), some (.int v1)]) rfl rfl rfl ?_
  refine qq_T (fX4_refusalOfSheet.eq_1 ..) ?_
  refine q_iload_n (pc := 0) K dX4_refusalOfSheet_0 rfl rfl ?_
  refine q_callSi (pc := 1) (rm := rmX4_isSheet) K (kX4_isSheet l hN v1 σ) gX4_refusalOfSheet_X4_isSheet rfl hdS_X4_isSheet ⟨Nat.le_of_ble_eq_true rfl, Nat.le_of_ble_eq_true rfl⟩ rfl rfl ⟨Nat.zero_le _, Nat.zero_le _⟩ rfl rfl (Nat.le_of_ble_eq_true rfl) dX4_refusalOfSheet_1 ?_
  refine q_if_ne (pc := 4) (tgt := 10) K dX4_refusalOfSheet_4 (by decide) (fun c1 => ?_) (fun c1 => ?_)
  · have i6 := neI c1
    have b7 := isH_t c1
    refine q_aload_n (pc := 10) K dX4_refusalOfSheet_10 rfl rfl ?_
    refine q_get (pc := 11) (o := 3) (f := 5) (v := .ref (gsa G)) K (wO_x hG) vw_3 iwX4_refusalOfSheet_X4 (by decide) mX4_refusalOfSheet_f35 rfl dX4_refusalOfSheet_11 ?_
    refine q_iload_n (pc := 14) K dX4_refusalOfSheet_14 rfl rfl ?_
    have t2 : v1.toNatClampNeg < 4 := clLt (n := 4) (by omega) (by omega)
    refine q_aald (pc := 15) K hG (vinM (n := 4) (by omega) (by omega)) dX4_refusalOfSheet_15 ?_
    refine q_callVi (pc := 16) (o := (5 + (v1.toNatClampNeg))) (rm := rmX2_isMissing) K (kX2_isMissing l hN hG (v1.toNatClampNeg) t2 σ hw) gX4_refusalOfSheet_X2_isMissing rfl hdV_X2_isMissing ⟨Nat.le_of_ble_eq_true rfl, Nat.le_of_ble_eq_true rfl⟩ rfl rfl ⟨Nat.zero_le _, Nat.zero_le _⟩ (wO_sh hG t2) vw_1 rfl rfl (Nat.le_of_ble_eq_true rfl) dX4_refusalOfSheet_16 ?_
    refine q_if_eq (pc := 19) (tgt := 28) K dX4_refusalOfSheet_19 (by decide) (fun c3 => ?_) (fun c3 => ?_)
    · have i4 := eqI c3
      refine q_iconst (pc := 28) (v := 0) K dX4_refusalOfSheet_28 (by decide) ?_
      exact q_iretP K hr dX4_refusalOfSheet_29
    · have i5 := neI c3
      refine q_ldcw (pc := 22) (v := (-1000006)) K dX4_refusalOfSheet_22 mX4_refusalOfSheet_c268 ?_
      refine q_goto (pc := 25) (tgt := 29) K dX4_refusalOfSheet_25 (by decide) ?_
      exact q_iretP K hr dX4_refusalOfSheet_29
  · have i8 := eqI c1
    refine q_ldc (pc := 7) (v := (-1000001)) K dX4_refusalOfSheet_7 mX4_refusalOfSheet_c53 ?_
    exact q_iretP K hr dX4_refusalOfSheet_9
theorem hdV_X4_deed : yX4_deed.cls = RX4 ∧ yX4_deed.cls ≠ "java/lang/invoke/MethodHandle" ∧ yX4_deed.cls ≠ "java/lang/invoke/VarHandle" ∧ (parseMethodDescriptor yX4_deed.desc).map (fun d => d.parameters.length) = some 2 := by decide +kernel
theorem mX4_deed_c53 : Cond.constant RX4 53 (-1000001) ∈ wsX4_deed := List.mem_of_getElem? (i := 1) rfl
theorem mX4_deed_f12 : Cond.fieldLink RX4 12 "WaxTreaties" "live" "LWaxTreaties$Chancery;" ∈ wsX4_deed := List.mem_of_getElem? (i := 2) rfl
theorem iwX4_deed_X4 : ∀ w ∈ wsX40, w ∈ wsX4_deed := fun w h => List.mem_cons_of_mem _ (List.mem_append_left _ (List.mem_append_right _ h))
theorem mX4_deed_c62 : Cond.constant RX4 62 (-1000002) ∈ wsX4_deed := List.mem_of_getElem? (i := 3) rfl
set_option maxRecDepth 100000 in
set_option maxHeartbeats 4000000 in
theorem kX4_deed (l : Launch) {G : gT} (hN : wN G) (hG : gfl G = true) (v1 : Int32) (v2 : Int32) (σ : sg) (hw : WD σ) : cM l yX4_deed wsX4_deed rmX4_deed G [.ref (gob G 3), .int v1, .int v2] σ (some (.int (fX4_deed v1 v2 σ).1)) (fX4_deed v1 v2 σ).2 := by
  refine cM_of (maxL := 3) (ret := (some .int)) (cc := cX4_deed) (fX4_deed v1 v2 σ) RX4 hN (by decide +kernel) rfl rfl (Nat.le_of_ble_eq_true rfl) rfl ?_
  intro p e s m args below meth c K hr
  have km1000002 : ((-1000002) : Int32).toInt = -1000002 := rfl
  have km1000001 : ((-1000001) : Int32).toInt = -1000001 := rfl
  have km1 : ((-1) : Int32).toInt = -1 := rfl
  have k0 : (0 : Int32).toInt = 0 := rfl
  have k40 : (40 : Int32).toInt = 40 := rfl
  refine qq_st (lv' := [some (.ref (gob G 3)), some (.int v1), some (.int v2)]) rfl rfl rfl ?_
  refine qq_T (fX4_deed.eq_1 ..) ?_
  refine q_iload_n (pc := 0) K dX4_deed_0 rfl rfl ?_
  refine q_callSi (pc := 1) (rm := rmX1_isKind) K (kX1_isKind l hN v1 σ) gX4_deed_X1_isKind rfl hdS_X1_isKind ⟨Nat.le_of_ble_eq_true rfl, Nat.le_of_ble_eq_true rfl⟩ rfl rfl ⟨Nat.zero_le _, Nat.zero_le _⟩ rfl rfl (Nat.le_of_ble_eq_true rfl) dX4_deed_1 ?_
  refine q_if_eq (pc := 4) (tgt := 14) K dX4_deed_4 (by decide) (fun c1 => ?_) (fun c1 => ?_)
  · have i22 := eqI c1
    refine q_aload_n (pc := 14) K dX4_deed_14 rfl rfl ?_
    refine q_ldc (pc := 15) (v := (-1000001)) K dX4_deed_15 mX4_deed_c53 ?_
    refine q_callVi (pc := 17) (o := 3) (rm := rmX4_found) K (kX4_found l hN hG (-1000001) σ hw) gX4_deed_X4_found rfl hdV_X4_found ⟨Nat.le_of_ble_eq_true rfl, Nat.le_of_ble_eq_true rfl⟩ rfl rfl ⟨Nat.zero_le _, Nat.zero_le _⟩ (wO_x hG) vw_3 rfl rfl (Nat.le_of_ble_eq_true rfl) dX4_deed_17 ?_
    refine qq_nmI (fun r2 e3 => ?_)
    have hw4 : WD r2.2 := by rw [e3]; exact wX4_found (-1000001) hw 
    exact q_iret K hr dX4_deed_20
  · have i23 := neI c1
    have b24 := isK_t c1
    refine q_iload_n (pc := 7) K dX4_deed_7 rfl rfl ?_
    refine q_callSi (pc := 8) (rm := rmX4_isShelf) K (kX4_isShelf l hN v2 σ) gX4_deed_X4_isShelf rfl hdS_X4_isShelf ⟨Nat.le_of_ble_eq_true rfl, Nat.le_of_ble_eq_true rfl⟩ rfl rfl ⟨Nat.zero_le _, Nat.zero_le _⟩ rfl rfl (Nat.le_of_ble_eq_true rfl) dX4_deed_8 ?_
    refine q_if_ne (pc := 11) (tgt := 21) K dX4_deed_11 (by decide) (fun c5 => ?_) (fun c5 => ?_)
    · have i19 := neI c5
      have b20 := isS_t c5
      refine q_aload_n (pc := 21) K dX4_deed_21 rfl rfl ?_
      refine q_get (pc := 22) (o := 3) (f := 0) (v := .ref (gob G 0)) K (wO_x hG) vw_3 iwX4_deed_X4 (by decide) mX4_deed_f12 rfl dX4_deed_22 ?_
      refine q_callVi (pc := 25) (o := 0) (rm := rmX0_isFull) K (kX0_isFull l hN hG 0 (show 0 < 3 by decide) σ hw) gX4_deed_X0_isFull rfl hdV_X0_isFull ⟨Nat.le_of_ble_eq_true rfl, Nat.le_of_ble_eq_true rfl⟩ rfl rfl ⟨Nat.zero_le _, Nat.zero_le _⟩ (wO_ch hG (show 0 < 3 by decide)) vw_0 rfl rfl (Nat.le_of_ble_eq_true rfl) dX4_deed_25 ?_
      refine q_if_eq (pc := 28) (tgt := 38) K dX4_deed_28 (by decide) (fun c6 => ?_) (fun c6 => ?_)
      · have i13 := eqI c6
        have b14 := isF_f c6
        refine q_aload_n (pc := 38) K dX4_deed_38 rfl rfl ?_
        refine q_get (pc := 39) (o := 3) (f := 0) (v := .ref (gob G 0)) K (wO_x hG) vw_3 iwX4_deed_X4 (by decide) mX4_deed_f12 rfl dX4_deed_39 ?_
        refine q_iload_n (pc := 42) K dX4_deed_42 rfl rfl ?_
        refine q_iload_n (pc := 43) K dX4_deed_43 rfl rfl ?_
        refine q_bipush (pc := 44) (v := 40) K dX4_deed_44 (by decide) ?_
        refine q_iconst (pc := 46) (v := (-1)) K dX4_deed_46 (by decide) ?_
        refine q_callVi (pc := 47) (o := 0) (rm := rmX0_addDeed) K (kX0_addDeed l hN hG 0 (show 0 < 3 by decide) v1 v2 40 (-1) σ hw (by omega)) gX4_deed_X0_addDeed rfl hdV_X0_addDeed ⟨Nat.le_of_ble_eq_true rfl, Nat.le_of_ble_eq_true rfl⟩ rfl rfl ⟨Nat.zero_le _, Nat.zero_le _⟩ (wO_ch hG (show 0 < 3 by decide)) vw_0 rfl rfl (Nat.le_of_ble_eq_true rfl) dX4_deed_47 ?_
        refine qq_nmI (fun r7 e8 => ?_)
        have hw9 : WD r7.2 := by rw [e8]; exact wX0_addDeed 0 (show 0 < 3 by decide) v1 v2 40 (-1) hw (by omega)
        exact q_iret K hr dX4_deed_50
      · have i15 := neI c6
        refine q_aload_n (pc := 31) K dX4_deed_31 rfl rfl ?_
        refine q_ldc (pc := 32) (v := (-1000002)) K dX4_deed_32 mX4_deed_c62 ?_
        refine q_callVi (pc := 34) (o := 3) (rm := rmX4_found) K (kX4_found l hN hG (-1000002) σ hw) gX4_deed_X4_found rfl hdV_X4_found ⟨Nat.le_of_ble_eq_true rfl, Nat.le_of_ble_eq_true rfl⟩ rfl rfl ⟨Nat.zero_le _, Nat.zero_le _⟩ (wO_x hG) vw_3 rfl rfl (Nat.le_of_ble_eq_true rfl) dX4_deed_34 ?_
        refine qq_nmI (fun r10 e11 => ?_)
        have hw12 : WD r10.2 := by rw [e11]; exact wX4_found (-1000002) hw 
        exact q_iret K hr dX4_deed_37
    · have i21 := eqI c5
      refine q_aload_n (pc := 14) K dX4_deed_14 rfl rfl ?_
      refine q_ldc (pc := 15) (v := (-1000001)) K dX4_deed_15 mX4_deed_c53 ?_
      refine q_callVi (pc := 17) (o := 3) (rm := rmX4_found) K (kX4_found l hN hG (-1000001) σ hw) gX4_deed_X4_found rfl hdV_X4_found ⟨Nat.le_of_ble_eq_true rfl, Nat.le_of_ble_eq_true rfl⟩ rfl rfl ⟨Nat.zero_le _, Nat.zero_le _⟩ (wO_x hG) vw_3 rfl rfl (Nat.le_of_ble_eq_true rfl) dX4_deed_17 ?_
      refine qq_nmI (fun r16 e17 => ?_)
      have hw18 : WD r16.2 := by rw [e17]; exact wX4_found (-1000001) hw 
      exact q_iret K hr dX4_deed_20
theorem hdV_X4_of : yX4_of.cls = RX4 ∧ yX4_of.cls ≠ "java/lang/invoke/MethodHandle" ∧ yX4_of.cls ≠ "java/lang/invoke/VarHandle" ∧ (parseMethodDescriptor yX4_of.desc).map (fun d => d.parameters.length) = some 2 := by decide +kernel
theorem mX4_of_f12 : Cond.fieldLink RX4 12 "WaxTreaties" "live" "LWaxTreaties$Chancery;" ∈ wsX4_of := List.mem_of_getElem? (i := 1) rfl
theorem iwX4_of_X4 : ∀ w ∈ wsX40, w ∈ wsX4_of := fun w h => List.mem_cons_of_mem _ (List.mem_append_left _ (List.mem_append_right _ h))
theorem mX4_of_f70 : Cond.fieldLink RX4 70 "WaxTreaties$Chancery" "kind" "[I" ∈ wsX4_of := List.mem_of_getElem? (i := 3) rfl
theorem iwX4_of_X0 : ∀ w ∈ wsX00, w ∈ wsX4_of := fun w h => List.mem_cons_of_mem _ (List.mem_append_right _ h)
theorem mX4_of_f73 : Cond.fieldLink RX4 73 "WaxTreaties$Chancery" "shelf" "[I" ∈ wsX4_of := List.mem_of_getElem? (i := 4) rfl
theorem mX4_of_f76 : Cond.fieldLink RX4 76 "WaxTreaties$Chancery" "wax" "[I" ∈ wsX4_of := List.mem_of_getElem? (i := 5) rfl
theorem mX4_of_f79 : Cond.fieldLink RX4 79 "WaxTreaties$Chancery" "soft" "[I" ∈ wsX4_of := List.mem_of_getElem? (i := 6) rfl
theorem mX4_of_f85 : Cond.fieldLink RX4 85 "WaxTreaties$Chancery" "hangsOn" "[I" ∈ wsX4_of := List.mem_of_getElem? (i := 7) rfl
theorem mX4_of_f95 : Cond.fieldLink RX4 95 "WaxTreaties$Chancery" "hour" "I" ∈ wsX4_of := List.mem_of_getElem? (i := 8) rfl
theorem mX4_of_c53 : Cond.constant RX4 53 (-1000001) ∈ wsX4_of := List.mem_of_getElem? (i := 2) rfl
set_option maxRecDepth 100000 in
set_option maxHeartbeats 4000000 in
theorem kX4_of (l : Launch) {G : gT} (hN : wN G) (hG : gfl G = true) (v1 : Int32) (v2 : Int32) (σ : sg) (hw : WD σ) : cM l yX4_of wsX4_of rmX4_of G [.ref (gob G 3), .int v1, .int v2] σ (some (.int (fX4_of v1 v2 σ).1)) (fX4_of v1 v2 σ).2 := by
  refine cM_of (maxL := 3) (ret := (some .int)) (cc := cX4_of) (fX4_of v1 v2 σ) RX4 hN (by decide +kernel) rfl rfl (Nat.le_of_ble_eq_true rfl) rfl ?_
  intro p e s m args below meth c K hr
  have km1000001 : ((-1000001) : Int32).toInt = -1000001 := rfl
  have k0 : (0 : Int32).toInt = 0 := rfl
  have k1 : (1 : Int32).toInt = 1 := rfl
  have k2 : (2 : Int32).toInt = 2 := rfl
  have k3 : (3 : Int32).toInt = 3 := rfl
  have k4 : (4 : Int32).toInt = 4 := rfl
  have k5 : (5 : Int32).toInt = 5 := rfl
  have k6 : (6 : Int32).toInt = 6 := rfl
  have k7 : (7 : Int32).toInt = 7 := rfl
  have k8 : (8 : Int32).toInt = 8 := rfl
  have k9 : (9 : Int32).toInt = 9 := rfl
  refine qq_st (lv' := [some (.ref (gob G 3)), some (.int v1), some (.int v2)]) rfl rfl rfl ?_
  refine qq_T (fX4_of.eq_1 ..) ?_
  refine q_aload_n (pc := 0) K dX4_of_0 rfl rfl ?_
  refine q_get (pc := 1) (o := 3) (f := 0) (v := .ref (gob G 0)) K (wO_x hG) vw_3 iwX4_of_X4 (by decide) mX4_of_f12 rfl dX4_of_1 ?_
  refine q_iload_n (pc := 4) K dX4_of_4 rfl rfl ?_
  refine q_callVi (pc := 5) (o := 0) (rm := rmX0_isDeed) K (kX0_isDeed l hN hG 0 (show 0 < 3 by decide) v1 σ hw) gX4_of_X0_isDeed rfl hdV_X0_isDeed ⟨Nat.le_of_ble_eq_true rfl, Nat.le_of_ble_eq_true rfl⟩ rfl rfl ⟨Nat.zero_le _, Nat.zero_le _⟩ (wO_ch hG (show 0 < 3 by decide)) vw_0 rfl rfl (Nat.le_of_ble_eq_true rfl) dX4_of_5 ?_
  refine q_if_ne (pc := 8) (tgt := 18) K dX4_of_8 (by decide) (fun c1 => ?_) (fun c1 => ?_)
  · have i46 := neI c1
    have b47 := isD_t hw (by omega) c1
    refine q_iload_n (pc := 18) K dX4_of_18 rfl rfl ?_
    refine q_case (v := 0) (fun c2 => ?_) (fun c2 => ?_)
    · have i41 := eqI c2
      refine q_tableIn (pc := 19) (tgt := 72) K dX4_of_19 c2 (by decide) (by decide) rfl (by decide) ?_
      refine q_aload_n (pc := 72) K dX4_of_72 rfl rfl ?_
      refine q_get (pc := 73) (o := 3) (f := 0) (v := .ref (gob G 0)) K (wO_x hG) vw_3 iwX4_of_X4 (by decide) mX4_of_f12 rfl dX4_of_73 ?_
      refine q_get (pc := 76) (o := 0) (f := 0) (v := .ref (gad G (8 * 0))) K (wO_ch hG (show 0 < 3 by decide)) vw_0 iwX4_of_X0 (by decide) mX4_of_f70 rfl dX4_of_76 ?_
      refine q_iload_n (pc := 79) K dX4_of_79 rfl rfl ?_
      refine q_iald (pc := 80) (a := 8 * 0) K (by rw [wna_t hG]; have := (show 0 < 3 by decide); omega) (vinN (wlc0 hG (show 0 < 3 by decide)) (by omega) (by omega)) dX4_of_80 ?_
      exact q_iret K hr dX4_of_81
    · have i42 := neI c2
      refine q_case (v := 1) (fun c3 => ?_) (fun c3 => ?_)
      · have i39 := eqI c3
        refine q_tableIn (pc := 19) (tgt := 82) K dX4_of_19 c3 (by decide) (by decide) rfl (by decide) ?_
        refine q_aload_n (pc := 82) K dX4_of_82 rfl rfl ?_
        refine q_get (pc := 83) (o := 3) (f := 0) (v := .ref (gob G 0)) K (wO_x hG) vw_3 iwX4_of_X4 (by decide) mX4_of_f12 rfl dX4_of_83 ?_
        refine q_get (pc := 86) (o := 0) (f := 1) (v := .ref (gad G (8 * 0 + 1))) K (wO_ch hG (show 0 < 3 by decide)) vw_0 iwX4_of_X0 (by decide) mX4_of_f73 rfl dX4_of_86 ?_
        refine q_iload_n (pc := 89) K dX4_of_89 rfl rfl ?_
        refine q_iald (pc := 90) (a := 8 * 0 + 1) K (by rw [wna_t hG]; have := (show 0 < 3 by decide); omega) (vinN (wlc1 hG (show 0 < 3 by decide)) (by omega) (by omega)) dX4_of_90 ?_
        have w4 := wd_shelf hw (show 0 < 3 by decide) v1
        exact q_iret K hr dX4_of_91
      · have i40 := neI c3
        refine q_case (v := 2) (fun c5 => ?_) (fun c5 => ?_)
        · have i37 := eqI c5
          refine q_tableIn (pc := 19) (tgt := 92) K dX4_of_19 c5 (by decide) (by decide) rfl (by decide) ?_
          refine q_aload_n (pc := 92) K dX4_of_92 rfl rfl ?_
          refine q_get (pc := 93) (o := 3) (f := 0) (v := .ref (gob G 0)) K (wO_x hG) vw_3 iwX4_of_X4 (by decide) mX4_of_f12 rfl dX4_of_93 ?_
          refine q_get (pc := 96) (o := 0) (f := 2) (v := .ref (gad G (8 * 0 + 2))) K (wO_ch hG (show 0 < 3 by decide)) vw_0 iwX4_of_X0 (by decide) mX4_of_f76 rfl dX4_of_96 ?_
          refine q_iload_n (pc := 99) K dX4_of_99 rfl rfl ?_
          refine q_iald (pc := 100) (a := 8 * 0 + 2) K (by rw [wna_t hG]; have := (show 0 < 3 by decide); omega) (vinN (wlc2 hG (show 0 < 3 by decide)) (by omega) (by omega)) dX4_of_100 ?_
          exact q_iret K hr dX4_of_101
        · have i38 := neI c5
          refine q_case (v := 3) (fun c6 => ?_) (fun c6 => ?_)
          · have i35 := eqI c6
            refine q_tableIn (pc := 19) (tgt := 102) K dX4_of_19 c6 (by decide) (by decide) rfl (by decide) ?_
            refine q_aload_n (pc := 102) K dX4_of_102 rfl rfl ?_
            refine q_get (pc := 103) (o := 3) (f := 0) (v := .ref (gob G 0)) K (wO_x hG) vw_3 iwX4_of_X4 (by decide) mX4_of_f12 rfl dX4_of_103 ?_
            refine q_get (pc := 106) (o := 0) (f := 3) (v := .ref (gad G (8 * 0 + 3))) K (wO_ch hG (show 0 < 3 by decide)) vw_0 iwX4_of_X0 (by decide) mX4_of_f79 rfl dX4_of_106 ?_
            refine q_iload_n (pc := 109) K dX4_of_109 rfl rfl ?_
            refine q_iald (pc := 110) (a := 8 * 0 + 3) K (by rw [wna_t hG]; have := (show 0 < 3 by decide); omega) (vinN (wlc3 hG (show 0 < 3 by decide)) (by omega) (by omega)) dX4_of_110 ?_
            exact q_iret K hr dX4_of_111
          · have i36 := neI c6
            refine q_case (v := 4) (fun c7 => ?_) (fun c7 => ?_)
            · have i33 := eqI c7
              refine q_tableIn (pc := 19) (tgt := 112) K dX4_of_19 c7 (by decide) (by decide) rfl (by decide) ?_
              refine q_aload_n (pc := 112) K dX4_of_112 rfl rfl ?_
              refine q_get (pc := 113) (o := 3) (f := 0) (v := .ref (gob G 0)) K (wO_x hG) vw_3 iwX4_of_X4 (by decide) mX4_of_f12 rfl dX4_of_113 ?_
              refine q_iload_n (pc := 116) K dX4_of_116 rfl rfl ?_
              refine q_callVi (pc := 117) (o := 0) (rm := rmX0_hasRun) K (kX0_hasRun l hN hG 0 (show 0 < 3 by decide) v1 σ hw) gX4_of_X0_hasRun rfl hdV_X0_hasRun ⟨Nat.le_of_ble_eq_true rfl, Nat.le_of_ble_eq_true rfl⟩ rfl rfl ⟨Nat.zero_le _, Nat.zero_le _⟩ (wO_ch hG (show 0 < 3 by decide)) vw_0 rfl rfl (Nat.le_of_ble_eq_true rfl) dX4_of_117 ?_
              refine q_if_eq (pc := 120) (tgt := 127) K dX4_of_120 (by decide) (fun c8 => ?_) (fun c8 => ?_)
              · have i9 := eqI c8
                refine q_iconst (pc := 127) (v := 0) K dX4_of_127 (by decide) ?_
                exact q_iret K hr dX4_of_128
              · have i10 := neI c8
                refine q_iconst (pc := 123) (v := 1) K dX4_of_123 (by decide) ?_
                refine q_goto (pc := 124) (tgt := 128) K dX4_of_124 (by decide) ?_
                exact q_iret K hr dX4_of_128
            · have i34 := neI c7
              refine q_case (v := 5) (fun c11 => ?_) (fun c11 => ?_)
              · have i31 := eqI c11
                refine q_tableIn (pc := 19) (tgt := 129) K dX4_of_19 c11 (by decide) (by decide) rfl (by decide) ?_
                refine q_aload_n (pc := 129) K dX4_of_129 rfl rfl ?_
                refine q_get (pc := 130) (o := 3) (f := 0) (v := .ref (gob G 0)) K (wO_x hG) vw_3 iwX4_of_X4 (by decide) mX4_of_f12 rfl dX4_of_130 ?_
                refine q_get (pc := 133) (o := 0) (f := 4) (v := .ref (gad G (8 * 0 + 4))) K (wO_ch hG (show 0 < 3 by decide)) vw_0 iwX4_of_X0 (by decide) mX4_of_f85 rfl dX4_of_133 ?_
                refine q_iload_n (pc := 136) K dX4_of_136 rfl rfl ?_
                refine q_iald (pc := 137) (a := 8 * 0 + 4) K (by rw [wna_t hG]; have := (show 0 < 3 by decide); omega) (vinN (wlc4 hG (show 0 < 3 by decide)) (by omega) (by omega)) dX4_of_137 ?_
                exact q_iret K hr dX4_of_138
              · have i32 := neI c11
                refine q_case (v := 6) (fun c12 => ?_) (fun c12 => ?_)
                · have i29 := eqI c12
                  refine q_tableIn (pc := 19) (tgt := 139) K dX4_of_19 c12 (by decide) (by decide) rfl (by decide) ?_
                  refine q_aload_n (pc := 139) K dX4_of_139 rfl rfl ?_
                  refine q_get (pc := 140) (o := 3) (f := 0) (v := .ref (gob G 0)) K (wO_x hG) vw_3 iwX4_of_X4 (by decide) mX4_of_f12 rfl dX4_of_140 ?_
                  refine q_get (pc := 143) (o := 0) (f := 0) (v := .ref (gad G (8 * 0))) K (wO_ch hG (show 0 < 3 by decide)) vw_0 iwX4_of_X0 (by decide) mX4_of_f70 rfl dX4_of_143 ?_
                  refine q_iload_n (pc := 146) K dX4_of_146 rfl rfl ?_
                  refine q_iald (pc := 147) (a := 8 * 0) K (by rw [wna_t hG]; have := (show 0 < 3 by decide); omega) (vinN (wlc0 hG (show 0 < 3 by decide)) (by omega) (by omega)) dX4_of_147 ?_
                  refine q_aload_n (pc := 148) K dX4_of_148 rfl rfl ?_
                  refine q_get (pc := 149) (o := 3) (f := 0) (v := .ref (gob G 0)) K (wO_x hG) vw_3 iwX4_of_X4 (by decide) mX4_of_f12 rfl dX4_of_149 ?_
                  refine q_get (pc := 152) (o := 0) (f := 2) (v := .ref (gad G (8 * 0 + 2))) K (wO_ch hG (show 0 < 3 by decide)) vw_0 iwX4_of_X0 (by decide) mX4_of_f76 rfl dX4_of_152 ?_
                  refine q_iload_n (pc := 155) K dX4_of_155 rfl rfl ?_
                  refine q_iald (pc := 156) (a := 8 * 0 + 2) K (by rw [wna_t hG]; have := (show 0 < 3 by decide); omega) (vinN (wlc2 hG (show 0 < 3 by decide)) (by omega) (by omega)) dX4_of_156 ?_
                  refine q_callSi (pc := 157) (rm := rmX1_stands) K (kX1_stands l hN (rA σ (8 * 0) v1) (rA σ (8 * 0 + 2) v1) σ) gX4_of_X1_stands rfl hdS_X1_stands ⟨Nat.le_of_ble_eq_true rfl, Nat.le_of_ble_eq_true rfl⟩ rfl rfl ⟨Nat.zero_le _, Nat.zero_le _⟩ rfl rfl (Nat.le_of_ble_eq_true rfl) dX4_of_157 ?_
                  exact q_iret K hr dX4_of_160
                · have i30 := neI c12
                  refine q_case (v := 7) (fun c13 => ?_) (fun c13 => ?_)
                  · have i27 := eqI c13
                    refine q_tableIn (pc := 19) (tgt := 161) K dX4_of_19 c13 (by decide) (by decide) rfl (by decide) ?_
                    refine q_aload_n (pc := 161) K dX4_of_161 rfl rfl ?_
                    refine q_get (pc := 162) (o := 3) (f := 0) (v := .ref (gob G 0)) K (wO_x hG) vw_3 iwX4_of_X4 (by decide) mX4_of_f12 rfl dX4_of_162 ?_
                    refine q_get (pc := 165) (o := 0) (f := 0) (v := .ref (gad G (8 * 0))) K (wO_ch hG (show 0 < 3 by decide)) vw_0 iwX4_of_X0 (by decide) mX4_of_f70 rfl dX4_of_165 ?_
                    refine q_iload_n (pc := 168) K dX4_of_168 rfl rfl ?_
                    refine q_iald (pc := 169) (a := 8 * 0) K (by rw [wna_t hG]; have := (show 0 < 3 by decide); omega) (vinN (wlc0 hG (show 0 < 3 by decide)) (by omega) (by omega)) dX4_of_169 ?_
                    refine q_callSi (pc := 170) (rm := rmX1_runsAt) K (kX1_runsAt l hN (rA σ (8 * 0) v1) σ) gX4_of_X1_runsAt rfl hdS_X1_runsAt ⟨Nat.le_of_ble_eq_true rfl, Nat.le_of_ble_eq_true rfl⟩ rfl rfl ⟨Nat.zero_le _, Nat.zero_le _⟩ rfl rfl (Nat.le_of_ble_eq_true rfl) dX4_of_170 ?_
                    exact q_iret K hr dX4_of_173
                  · have i28 := neI c13
                    refine q_case (v := 8) (fun c14 => ?_) (fun c14 => ?_)
                    · have i25 := eqI c14
                      refine q_tableIn (pc := 19) (tgt := 174) K dX4_of_19 c14 (by decide) (by decide) rfl (by decide) ?_
                      refine q_aload_n (pc := 174) K dX4_of_174 rfl rfl ?_
                      refine q_get (pc := 175) (o := 3) (f := 0) (v := .ref (gob G 0)) K (wO_x hG) vw_3 iwX4_of_X4 (by decide) mX4_of_f12 rfl dX4_of_175 ?_
                      refine q_get (pc := 178) (o := 0) (f := 0) (v := .ref (gad G (8 * 0))) K (wO_ch hG (show 0 < 3 by decide)) vw_0 iwX4_of_X0 (by decide) mX4_of_f70 rfl dX4_of_178 ?_
                      refine q_iload_n (pc := 181) K dX4_of_181 rfl rfl ?_
                      refine q_iald (pc := 182) (a := 8 * 0) K (by rw [wna_t hG]; have := (show 0 < 3 by decide); omega) (vinN (wlc0 hG (show 0 < 3 by decide)) (by omega) (by omega)) dX4_of_182 ?_
                      refine q_aload_n (pc := 183) K dX4_of_183 rfl rfl ?_
                      refine q_get (pc := 184) (o := 3) (f := 0) (v := .ref (gob G 0)) K (wO_x hG) vw_3 iwX4_of_X4 (by decide) mX4_of_f12 rfl dX4_of_184 ?_
                      refine q_aload_n (pc := 187) K dX4_of_187 rfl rfl ?_
                      refine q_get (pc := 188) (o := 3) (f := 0) (v := .ref (gob G 0)) K (wO_x hG) vw_3 iwX4_of_X4 (by decide) mX4_of_f12 rfl dX4_of_188 ?_
                      refine q_get (pc := 191) (o := 0) (f := 1) (v := .ref (gad G (8 * 0 + 1))) K (wO_ch hG (show 0 < 3 by decide)) vw_0 iwX4_of_X0 (by decide) mX4_of_f73 rfl dX4_of_191 ?_
                      refine q_iload_n (pc := 194) K dX4_of_194 rfl rfl ?_
                      refine q_iald (pc := 195) (a := 8 * 0 + 1) K (by rw [wna_t hG]; have := (show 0 < 3 by decide); omega) (vinN (wlc1 hG (show 0 < 3 by decide)) (by omega) (by omega)) dX4_of_195 ?_
                      have w15 := wd_shelf hw (show 0 < 3 by decide) v1
                      refine q_aload_n (pc := 196) K dX4_of_196 rfl rfl ?_
                      refine q_get (pc := 197) (o := 3) (f := 0) (v := .ref (gob G 0)) K (wO_x hG) vw_3 iwX4_of_X4 (by decide) mX4_of_f12 rfl dX4_of_197 ?_
                      refine q_get (pc := 200) (o := 0) (f := 11) (v := .int (rF σ (7 * 0 + 4))) K (wO_ch hG (show 0 < 3 by decide)) vw_0 iwX4_of_X0 (by decide) mX4_of_f95 rfl dX4_of_200 ?_
                      refine q_callVi (pc := 203) (o := 0) (rm := rmX0_heatOf) K (kX0_heatOf l hN hG 0 (show 0 < 3 by decide) (rA σ (8 * 0 + 1) v1) (rF σ (7 * 0 + 4)) σ hw (by omega)) gX4_of_X0_heatOf rfl hdV_X0_heatOf ⟨Nat.le_of_ble_eq_true rfl, Nat.le_of_ble_eq_true rfl⟩ rfl rfl ⟨Nat.zero_le _, Nat.zero_le _⟩ (wO_ch hG (show 0 < 3 by decide)) vw_0 rfl rfl (Nat.le_of_ble_eq_true rfl) dX4_of_203 ?_
                      refine q_callSi (pc := 206) (rm := rmX1_feels) K (kX1_feels l hN (rA σ (8 * 0) v1) (fX0_heatOf 0 (rA σ (8 * 0 + 1) v1) (rF σ (7 * 0 + 4)) σ) σ) gX4_of_X1_feels rfl hdS_X1_feels ⟨Nat.le_of_ble_eq_true rfl, Nat.le_of_ble_eq_true rfl⟩ rfl rfl ⟨Nat.zero_le _, Nat.zero_le _⟩ rfl rfl (Nat.le_of_ble_eq_true rfl) dX4_of_206 ?_
                      exact q_iret K hr dX4_of_209
                    · have i26 := neI c14
                      refine q_case (v := 9) (fun c16 => ?_) (fun c16 => ?_)
                      · have i23 := eqI c16
                        refine q_tableIn (pc := 19) (tgt := 210) K dX4_of_19 c16 (by decide) (by decide) rfl (by decide) ?_
                        refine q_aload_n (pc := 210) K dX4_of_210 rfl rfl ?_
                        refine q_get (pc := 211) (o := 3) (f := 0) (v := .ref (gob G 0)) K (wO_x hG) vw_3 iwX4_of_X4 (by decide) mX4_of_f12 rfl dX4_of_211 ?_
                        refine q_iload_n (pc := 214) K dX4_of_214 rfl rfl ?_
                        refine q_callVi (pc := 215) (o := 0) (rm := rmX0_peaceHolds) K (kX0_peaceHolds l hN hG 0 (show 0 < 3 by decide) v1 σ hw) gX4_of_X0_peaceHolds rfl hdV_X0_peaceHolds ⟨Nat.le_of_ble_eq_true rfl, Nat.le_of_ble_eq_true rfl⟩ rfl rfl ⟨Nat.zero_le _, Nat.zero_le _⟩ (wO_ch hG (show 0 < 3 by decide)) vw_0 rfl rfl (Nat.le_of_ble_eq_true rfl) dX4_of_215 ?_
                        refine q_if_eq (pc := 218) (tgt := 225) K dX4_of_218 (by decide) (fun c17 => ?_) (fun c17 => ?_)
                        · have i18 := eqI c17
                          refine q_iconst (pc := 225) (v := 0) K dX4_of_225 (by decide) ?_
                          exact q_iret K hr dX4_of_226
                        · have i19 := neI c17
                          refine q_iconst (pc := 221) (v := 1) K dX4_of_221 (by decide) ?_
                          refine q_goto (pc := 222) (tgt := 226) K dX4_of_222 (by decide) ?_
                          exact q_iret K hr dX4_of_226
                      · have i24 := neI c16
                        refine q_tableOut (pc := 19) (tgt := 227) K dX4_of_19 (by omega) (by decide) ?_
                        refine q_aload_n (pc := 227) K dX4_of_227 rfl rfl ?_
                        refine q_ldc (pc := 228) (v := (-1000001)) K dX4_of_228 mX4_of_c53 ?_
                        refine q_callVi (pc := 230) (o := 3) (rm := rmX4_found) K (kX4_found l hN hG (-1000001) σ hw) gX4_of_X4_found rfl hdV_X4_found ⟨Nat.le_of_ble_eq_true rfl, Nat.le_of_ble_eq_true rfl⟩ rfl rfl ⟨Nat.zero_le _, Nat.zero_le _⟩ (wO_x hG) vw_3 rfl rfl (Nat.le_of_ble_eq_true rfl) dX4_of_230 ?_
                        refine qq_nmI (fun r20 e21 => ?_)
                        have hw22 : WD r20.2 := by rw [e21]; exact wX4_found (-1000001) hw 
                        exact q_iret K hr dX4_of_233
  · have i48 := eqI c1
    refine q_aload_n (pc := 11) K dX4_of_11 rfl rfl ?_
    refine q_ldc (pc := 12) (v := (-1000001)) K dX4_of_12 mX4_of_c53 ?_
    refine q_callVi (pc := 14) (o := 3) (rm := rmX4_found) K (kX4_found l hN hG (-1000001) σ hw) gX4_of_X4_found rfl hdV_X4_found ⟨Nat.le_of_ble_eq_true rfl, Nat.le_of_ble_eq_true rfl⟩ rfl rfl ⟨Nat.zero_le _, Nat.zero_le _⟩ (wO_x hG) vw_3 rfl rfl (Nat.le_of_ble_eq_true rfl) dX4_of_14 ?_
    refine qq_nmI (fun r43 e44 => ?_)
    have hw45 : WD r43.2 := by rw [e44]; exact wX4_found (-1000001) hw 
    exact q_iret K hr dX4_of_17
theorem hdV_X4_change : yX4_change.cls = RX4 ∧ yX4_change.cls ≠ "java/lang/invoke/MethodHandle" ∧ yX4_change.cls ≠ "java/lang/invoke/VarHandle" ∧ (parseMethodDescriptor yX4_change.desc).map (fun d => d.parameters.length) = some 3 := by decide +kernel
theorem mX4_change_f12 : Cond.fieldLink RX4 12 "WaxTreaties" "live" "LWaxTreaties$Chancery;" ∈ wsX4_change := List.mem_of_getElem? (i := 1) rfl
theorem iwX4_change_X4 : ∀ w ∈ wsX40, w ∈ wsX4_change := fun w h => List.mem_cons_of_mem _ (List.mem_append_left _ (List.mem_append_right _ h))
theorem mX4_change_c53 : Cond.constant RX4 53 (-1000001) ∈ wsX4_change := List.mem_of_getElem? (i := 2) rfl
theorem mX4_change_f70 : Cond.fieldLink RX4 70 "WaxTreaties$Chancery" "kind" "[I" ∈ wsX4_change := List.mem_of_getElem? (i := 3) rfl
theorem iwX4_change_X0 : ∀ w ∈ wsX00, w ∈ wsX4_change := fun w h => List.mem_cons_of_mem _ (List.mem_append_right _ h)
theorem mX4_change_f73 : Cond.fieldLink RX4 73 "WaxTreaties$Chancery" "shelf" "[I" ∈ wsX4_change := List.mem_of_getElem? (i := 4) rfl
theorem mX4_change_f76 : Cond.fieldLink RX4 76 "WaxTreaties$Chancery" "wax" "[I" ∈ wsX4_change := List.mem_of_getElem? (i := 5) rfl
theorem mX4_change_f79 : Cond.fieldLink RX4 79 "WaxTreaties$Chancery" "soft" "[I" ∈ wsX4_change := List.mem_of_getElem? (i := 6) rfl
theorem mX4_change_f85 : Cond.fieldLink RX4 85 "WaxTreaties$Chancery" "hangsOn" "[I" ∈ wsX4_change := List.mem_of_getElem? (i := 7) rfl
set_option maxRecDepth 100000 in
set_option maxHeartbeats 4000000 in
theorem kX4_change (l : Launch) {G : gT} (hN : wN G) (hG : gfl G = true) (v1 : Int32) (v2 : Int32) (v3 : Int32) (σ : sg) (hw : WD σ) : cM l yX4_change wsX4_change rmX4_change G [.ref (gob G 3), .int v1, .int v2, .int v3] σ (some (.int (fX4_change v1 v2 v3 σ).1)) (fX4_change v1 v2 v3 σ).2 := by
  refine cM_of (maxL := 4) (ret := (some .int)) (cc := cX4_change) (fX4_change v1 v2 v3 σ) RX4 hN (by decide +kernel) rfl rfl (Nat.le_of_ble_eq_true rfl) rfl ?_
  intro p e s m args below meth c K hr
  have km1000001 : ((-1000001) : Int32).toInt = -1000001 := rfl
  have km1 : ((-1) : Int32).toInt = -1 := rfl
  have k0 : (0 : Int32).toInt = 0 := rfl
  have k1 : (1 : Int32).toInt = 1 := rfl
  have k2 : (2 : Int32).toInt = 2 := rfl
  have k3 : (3 : Int32).toInt = 3 := rfl
  have k4 : (4 : Int32).toInt = 4 := rfl
  have k5 : (5 : Int32).toInt = 5 := rfl
  have k99 : (99 : Int32).toInt = 99 := rfl
  refine qq_st (lv' := [some (.ref (gob G 3)), some (.int v1), some (.int v2), some (.int v3)]) rfl rfl rfl ?_
  refine qq_T (fX4_change.eq_1 ..) ?_
  refine q_aload_n (pc := 0) K dX4_change_0 rfl rfl ?_
  refine q_get (pc := 1) (o := 3) (f := 0) (v := .ref (gob G 0)) K (wO_x hG) vw_3 iwX4_change_X4 (by decide) mX4_change_f12 rfl dX4_change_1 ?_
  refine q_iload_n (pc := 4) K dX4_change_4 rfl rfl ?_
  refine q_callVi (pc := 5) (o := 0) (rm := rmX0_isDeed) K (kX0_isDeed l hN hG 0 (show 0 < 3 by decide) v1 σ hw) gX4_change_X0_isDeed rfl hdV_X0_isDeed ⟨Nat.le_of_ble_eq_true rfl, Nat.le_of_ble_eq_true rfl⟩ rfl rfl ⟨Nat.zero_le _, Nat.zero_le _⟩ (wO_ch hG (show 0 < 3 by decide)) vw_0 rfl rfl (Nat.le_of_ble_eq_true rfl) dX4_change_5 ?_
  refine q_if_ne (pc := 8) (tgt := 18) K dX4_change_8 (by decide) (fun c1 => ?_) (fun c1 => ?_)
  · have i81 := neI c1
    have b82 := isD_t hw (by omega) c1
    refine q_iload_n (pc := 18) K dX4_change_18 rfl rfl ?_
    refine q_case (v := 0) (fun c2 => ?_) (fun c2 => ?_)
    · have i76 := eqI c2
      refine q_tableIn (pc := 19) (tgt := 56) K dX4_change_19 c2 (by decide) (by decide) rfl (by decide) ?_
      refine q_iload_n (pc := 56) K dX4_change_56 rfl rfl ?_
      refine q_callSi (pc := 57) (rm := rmX1_isKind) K (kX1_isKind l hN v3 σ) gX4_change_X1_isKind rfl hdS_X1_isKind ⟨Nat.le_of_ble_eq_true rfl, Nat.le_of_ble_eq_true rfl⟩ rfl rfl ⟨Nat.zero_le _, Nat.zero_le _⟩ rfl rfl (Nat.le_of_ble_eq_true rfl) dX4_change_57 ?_
      refine q_if_eq (pc := 60) (tgt := 78) K dX4_change_60 (by decide) (fun c3 => ?_) (fun c3 => ?_)
      · have i10 := eqI c3
        refine q_aload_n (pc := 78) K dX4_change_78 rfl rfl ?_
        refine q_ldc (pc := 79) (v := (-1000001)) K dX4_change_79 mX4_change_c53 ?_
        refine q_callVi (pc := 81) (o := 3) (rm := rmX4_found) K (kX4_found l hN hG (-1000001) σ hw) gX4_change_X4_found rfl hdV_X4_found ⟨Nat.le_of_ble_eq_true rfl, Nat.le_of_ble_eq_true rfl⟩ rfl rfl ⟨Nat.zero_le _, Nat.zero_le _⟩ (wO_x hG) vw_3 rfl rfl (Nat.le_of_ble_eq_true rfl) dX4_change_81 ?_
        refine qq_nmI (fun r4 e5 => ?_)
        have hw6 : WD r4.2 := by rw [e5]; exact wX4_found (-1000001) hw 
        exact q_iret K hr dX4_change_84
      · have i11 := neI c3
        have b12 := isK_t c3
        refine q_aload_n (pc := 63) K dX4_change_63 rfl rfl ?_
        refine q_get (pc := 64) (o := 3) (f := 0) (v := .ref (gob G 0)) K (wO_x hG) vw_3 iwX4_change_X4 (by decide) mX4_change_f12 rfl dX4_change_64 ?_
        refine q_get (pc := 67) (o := 0) (f := 0) (v := .ref (gad G (8 * 0))) K (wO_ch hG (show 0 < 3 by decide)) vw_0 iwX4_change_X0 (by decide) mX4_change_f70 rfl dX4_change_67 ?_
        refine q_iload_n (pc := 70) K dX4_change_70 rfl rfl ?_
        refine q_iload_n (pc := 71) K dX4_change_71 rfl rfl ?_
        refine q_callSi (pc := 72) (rm := rmX4_put) K (kX4_put l hN hG (8 * 0) (by have := (show 0 < 3 by decide); omega) v1 v3 σ (vinN (show wln true (8 * 0) = 8 from rfl) (by omega) (by omega))) gX4_change_X4_put rfl hdS_X4_put ⟨Nat.le_of_ble_eq_true rfl, Nat.le_of_ble_eq_true rfl⟩ rfl rfl ⟨Nat.zero_le _, Nat.zero_le _⟩ rfl rfl (Nat.le_of_ble_eq_true rfl) dX4_change_72 ?_
        refine qq_nmI (fun r7 e8 => ?_)
        have hw9 : WD r7.2 := by rw [e8]; exact wX4_put (by decide) (wdA hw (by omega))
        refine q_goto (pc := 75) (tgt := 84) K dX4_change_75 (by decide) ?_
        exact q_iret K hr dX4_change_84
    · have i77 := neI c2
      refine q_case (v := 1) (fun c13 => ?_) (fun c13 => ?_)
      · have i74 := eqI c13
        refine q_tableIn (pc := 19) (tgt := 85) K dX4_change_19 c13 (by decide) (by decide) rfl (by decide) ?_
        refine q_iload_n (pc := 85) K dX4_change_85 rfl rfl ?_
        refine q_callSi (pc := 86) (rm := rmX4_isShelf) K (kX4_isShelf l hN v3 σ) gX4_change_X4_isShelf rfl hdS_X4_isShelf ⟨Nat.le_of_ble_eq_true rfl, Nat.le_of_ble_eq_true rfl⟩ rfl rfl ⟨Nat.zero_le _, Nat.zero_le _⟩ rfl rfl (Nat.le_of_ble_eq_true rfl) dX4_change_86 ?_
        refine q_if_eq (pc := 89) (tgt := 107) K dX4_change_89 (by decide) (fun c14 => ?_) (fun c14 => ?_)
        · have i21 := eqI c14
          refine q_aload_n (pc := 107) K dX4_change_107 rfl rfl ?_
          refine q_ldc (pc := 108) (v := (-1000001)) K dX4_change_108 mX4_change_c53 ?_
          refine q_callVi (pc := 110) (o := 3) (rm := rmX4_found) K (kX4_found l hN hG (-1000001) σ hw) gX4_change_X4_found rfl hdV_X4_found ⟨Nat.le_of_ble_eq_true rfl, Nat.le_of_ble_eq_true rfl⟩ rfl rfl ⟨Nat.zero_le _, Nat.zero_le _⟩ (wO_x hG) vw_3 rfl rfl (Nat.le_of_ble_eq_true rfl) dX4_change_110 ?_
          refine qq_nmI (fun r15 e16 => ?_)
          have hw17 : WD r15.2 := by rw [e16]; exact wX4_found (-1000001) hw 
          exact q_iret K hr dX4_change_113
        · have i22 := neI c14
          have b23 := isS_t c14
          refine q_aload_n (pc := 92) K dX4_change_92 rfl rfl ?_
          refine q_get (pc := 93) (o := 3) (f := 0) (v := .ref (gob G 0)) K (wO_x hG) vw_3 iwX4_change_X4 (by decide) mX4_change_f12 rfl dX4_change_93 ?_
          refine q_get (pc := 96) (o := 0) (f := 1) (v := .ref (gad G (8 * 0 + 1))) K (wO_ch hG (show 0 < 3 by decide)) vw_0 iwX4_change_X0 (by decide) mX4_change_f73 rfl dX4_change_96 ?_
          refine q_iload_n (pc := 99) K dX4_change_99 rfl rfl ?_
          refine q_iload_n (pc := 100) K dX4_change_100 rfl rfl ?_
          refine q_callSi (pc := 101) (rm := rmX4_put) K (kX4_put l hN hG (8 * 0 + 1) (by have := (show 0 < 3 by decide); omega) v1 v3 σ (vinN (show wln true (8 * 0 + 1) = 8 from rfl) (by omega) (by omega))) gX4_change_X4_put rfl hdS_X4_put ⟨Nat.le_of_ble_eq_true rfl, Nat.le_of_ble_eq_true rfl⟩ rfl rfl ⟨Nat.zero_le _, Nat.zero_le _⟩ rfl rfl (Nat.le_of_ble_eq_true rfl) dX4_change_101 ?_
          refine qq_nmI (fun r18 e19 => ?_)
          have hw20 : WD r18.2 := by rw [e19]; exact wX4_put (by decide) (wdAs (j0 := 0) hw (by omega) (by omega))
          refine q_goto (pc := 104) (tgt := 113) K dX4_change_104 (by decide) ?_
          exact q_iret K hr dX4_change_113
      · have i75 := neI c13
        refine q_case (v := 2) (fun c24 => ?_) (fun c24 => ?_)
        · have i72 := eqI c24
          refine q_tableIn (pc := 19) (tgt := 114) K dX4_change_19 c24 (by decide) (by decide) rfl (by decide) ?_
          refine q_iload_n (pc := 114) K dX4_change_114 rfl rfl ?_
          refine q_callSi (pc := 115) (rm := rmX4_isWax) K (kX4_isWax l hN v3 σ) gX4_change_X4_isWax rfl hdS_X4_isWax ⟨Nat.le_of_ble_eq_true rfl, Nat.le_of_ble_eq_true rfl⟩ rfl rfl ⟨Nat.zero_le _, Nat.zero_le _⟩ rfl rfl (Nat.le_of_ble_eq_true rfl) dX4_change_115 ?_
          refine q_if_eq (pc := 118) (tgt := 136) K dX4_change_118 (by decide) (fun c25 => ?_) (fun c25 => ?_)
          · have i32 := eqI c25
            refine q_aload_n (pc := 136) K dX4_change_136 rfl rfl ?_
            refine q_ldc (pc := 137) (v := (-1000001)) K dX4_change_137 mX4_change_c53 ?_
            refine q_callVi (pc := 139) (o := 3) (rm := rmX4_found) K (kX4_found l hN hG (-1000001) σ hw) gX4_change_X4_found rfl hdV_X4_found ⟨Nat.le_of_ble_eq_true rfl, Nat.le_of_ble_eq_true rfl⟩ rfl rfl ⟨Nat.zero_le _, Nat.zero_le _⟩ (wO_x hG) vw_3 rfl rfl (Nat.le_of_ble_eq_true rfl) dX4_change_139 ?_
            refine qq_nmI (fun r26 e27 => ?_)
            have hw28 : WD r26.2 := by rw [e27]; exact wX4_found (-1000001) hw 
            exact q_iret K hr dX4_change_142
          · have i33 := neI c25
            have b34 := isX_t c25
            refine q_aload_n (pc := 121) K dX4_change_121 rfl rfl ?_
            refine q_get (pc := 122) (o := 3) (f := 0) (v := .ref (gob G 0)) K (wO_x hG) vw_3 iwX4_change_X4 (by decide) mX4_change_f12 rfl dX4_change_122 ?_
            refine q_get (pc := 125) (o := 0) (f := 2) (v := .ref (gad G (8 * 0 + 2))) K (wO_ch hG (show 0 < 3 by decide)) vw_0 iwX4_change_X0 (by decide) mX4_change_f76 rfl dX4_change_125 ?_
            refine q_iload_n (pc := 128) K dX4_change_128 rfl rfl ?_
            refine q_iload_n (pc := 129) K dX4_change_129 rfl rfl ?_
            refine q_callSi (pc := 130) (rm := rmX4_put) K (kX4_put l hN hG (8 * 0 + 2) (by have := (show 0 < 3 by decide); omega) v1 v3 σ (vinN (show wln true (8 * 0 + 2) = 8 from rfl) (by omega) (by omega))) gX4_change_X4_put rfl hdS_X4_put ⟨Nat.le_of_ble_eq_true rfl, Nat.le_of_ble_eq_true rfl⟩ rfl rfl ⟨Nat.zero_le _, Nat.zero_le _⟩ rfl rfl (Nat.le_of_ble_eq_true rfl) dX4_change_130 ?_
            refine qq_nmI (fun r29 e30 => ?_)
            have hw31 : WD r29.2 := by rw [e30]; exact wX4_put (by decide) (wdA hw (by omega))
            refine q_goto (pc := 133) (tgt := 142) K dX4_change_133 (by decide) ?_
            exact q_iret K hr dX4_change_142
        · have i73 := neI c24
          refine q_case (v := 3) (fun c35 => ?_) (fun c35 => ?_)
          · have i70 := eqI c35
            refine q_tableIn (pc := 19) (tgt := 143) K dX4_change_19 c35 (by decide) (by decide) rfl (by decide) ?_
            refine q_iload_n (pc := 143) K dX4_change_143 rfl rfl ?_
            refine q_iconst (pc := 144) (v := 0) K dX4_change_144 (by decide) ?_
            refine q_bipush (pc := 145) (v := 99) K dX4_change_145 (by decide) ?_
            refine q_callSi (pc := 147) (rm := rmX4_isWithin) K (kX4_isWithin l hN v3 0 99 σ) gX4_change_X4_isWithin rfl hdS_X4_isWithin ⟨Nat.le_of_ble_eq_true rfl, Nat.le_of_ble_eq_true rfl⟩ rfl rfl ⟨Nat.zero_le _, Nat.zero_le _⟩ rfl rfl (Nat.le_of_ble_eq_true rfl) dX4_change_147 ?_
            refine q_if_eq (pc := 150) (tgt := 168) K dX4_change_150 (by decide) (fun c36 => ?_) (fun c36 => ?_)
            · have i43 := eqI c36
              have b44 := isW_f c36
              refine q_aload_n (pc := 168) K dX4_change_168 rfl rfl ?_
              refine q_ldc (pc := 169) (v := (-1000001)) K dX4_change_169 mX4_change_c53 ?_
              refine q_callVi (pc := 171) (o := 3) (rm := rmX4_found) K (kX4_found l hN hG (-1000001) σ hw) gX4_change_X4_found rfl hdV_X4_found ⟨Nat.le_of_ble_eq_true rfl, Nat.le_of_ble_eq_true rfl⟩ rfl rfl ⟨Nat.zero_le _, Nat.zero_le _⟩ (wO_x hG) vw_3 rfl rfl (Nat.le_of_ble_eq_true rfl) dX4_change_171 ?_
              refine qq_nmI (fun r37 e38 => ?_)
              have hw39 : WD r37.2 := by rw [e38]; exact wX4_found (-1000001) hw 
              exact q_iret K hr dX4_change_174
            · have i45 := neI c36
              have b46 := isW_t c36
              refine q_aload_n (pc := 153) K dX4_change_153 rfl rfl ?_
              refine q_get (pc := 154) (o := 3) (f := 0) (v := .ref (gob G 0)) K (wO_x hG) vw_3 iwX4_change_X4 (by decide) mX4_change_f12 rfl dX4_change_154 ?_
              refine q_get (pc := 157) (o := 0) (f := 3) (v := .ref (gad G (8 * 0 + 3))) K (wO_ch hG (show 0 < 3 by decide)) vw_0 iwX4_change_X0 (by decide) mX4_change_f79 rfl dX4_change_157 ?_
              refine q_iload_n (pc := 160) K dX4_change_160 rfl rfl ?_
              refine q_iload_n (pc := 161) K dX4_change_161 rfl rfl ?_
              refine q_callSi (pc := 162) (rm := rmX4_put) K (kX4_put l hN hG (8 * 0 + 3) (by have := (show 0 < 3 by decide); omega) v1 v3 σ (vinN (show wln true (8 * 0 + 3) = 8 from rfl) (by omega) (by omega))) gX4_change_X4_put rfl hdS_X4_put ⟨Nat.le_of_ble_eq_true rfl, Nat.le_of_ble_eq_true rfl⟩ rfl rfl ⟨Nat.zero_le _, Nat.zero_le _⟩ rfl rfl (Nat.le_of_ble_eq_true rfl) dX4_change_162 ?_
              refine qq_nmI (fun r40 e41 => ?_)
              have hw42 : WD r40.2 := by rw [e41]; exact wX4_put (by decide) (wdA hw (by omega))
              refine q_goto (pc := 165) (tgt := 174) K dX4_change_165 (by decide) ?_
              exact q_iret K hr dX4_change_174
          · have i71 := neI c35
            refine q_case (v := 4) (fun c47 => ?_) (fun c47 => ?_)
            · have i68 := eqI c47
              refine q_tableIn (pc := 19) (tgt := 208) K dX4_change_19 c47 (by decide) (by decide) rfl (by decide) ?_
              refine q_aload_n (pc := 208) K dX4_change_208 rfl rfl ?_
              refine q_ldc (pc := 209) (v := (-1000001)) K dX4_change_209 mX4_change_c53 ?_
              refine q_callVi (pc := 211) (o := 3) (rm := rmX4_found) K (kX4_found l hN hG (-1000001) σ hw) gX4_change_X4_found rfl hdV_X4_found ⟨Nat.le_of_ble_eq_true rfl, Nat.le_of_ble_eq_true rfl⟩ rfl rfl ⟨Nat.zero_le _, Nat.zero_le _⟩ (wO_x hG) vw_3 rfl rfl (Nat.le_of_ble_eq_true rfl) dX4_change_211 ?_
              refine qq_nmI (fun r48 e49 => ?_)
              have hw50 : WD r48.2 := by rw [e49]; exact wX4_found (-1000001) hw 
              exact q_iret K hr dX4_change_214
            · have i69 := neI c47
              refine q_case (v := 5) (fun c51 => ?_) (fun c51 => ?_)
              · have i66 := eqI c51
                refine q_tableIn (pc := 19) (tgt := 175) K dX4_change_19 c51 (by decide) (by decide) rfl (by decide) ?_
                refine q_iload_n (pc := 175) K dX4_change_175 rfl rfl ?_
                refine q_iconst (pc := 176) (v := (-1)) K dX4_change_176 (by decide) ?_
                refine q_iload_n (pc := 177) K dX4_change_177 rfl rfl ?_
                refine q_iconst (pc := 178) (v := 1) K dX4_change_178 (by decide) ?_
                refine q_isub (pc := 179) K dX4_change_179 ?_
                refine q_callSi (pc := 180) (rm := rmX4_isWithin) K (kX4_isWithin l hN v3 (-1) (v1 - 1) σ) gX4_change_X4_isWithin rfl hdS_X4_isWithin ⟨Nat.le_of_ble_eq_true rfl, Nat.le_of_ble_eq_true rfl⟩ rfl rfl ⟨Nat.zero_le _, Nat.zero_le _⟩ rfl rfl (Nat.le_of_ble_eq_true rfl) dX4_change_180 ?_
                refine q_if_eq (pc := 183) (tgt := 201) K dX4_change_183 (by decide) (fun c52 => ?_) (fun c52 => ?_)
                · have i59 := eqI c52
                  have b60 := isW_f c52
                  refine q_aload_n (pc := 201) K dX4_change_201 rfl rfl ?_
                  refine q_ldc (pc := 202) (v := (-1000001)) K dX4_change_202 mX4_change_c53 ?_
                  refine q_callVi (pc := 204) (o := 3) (rm := rmX4_found) K (kX4_found l hN hG (-1000001) σ hw) gX4_change_X4_found rfl hdV_X4_found ⟨Nat.le_of_ble_eq_true rfl, Nat.le_of_ble_eq_true rfl⟩ rfl rfl ⟨Nat.zero_le _, Nat.zero_le _⟩ (wO_x hG) vw_3 rfl rfl (Nat.le_of_ble_eq_true rfl) dX4_change_204 ?_
                  refine qq_nmI (fun r53 e54 => ?_)
                  have hw55 : WD r53.2 := by rw [e54]; exact wX4_found (-1000001) hw 
                  exact q_iret K hr dX4_change_207
                · have i61 := neI c52
                  have b62 := isW_t c52
                  refine q_aload_n (pc := 186) K dX4_change_186 rfl rfl ?_
                  refine q_get (pc := 187) (o := 3) (f := 0) (v := .ref (gob G 0)) K (wO_x hG) vw_3 iwX4_change_X4 (by decide) mX4_change_f12 rfl dX4_change_187 ?_
                  refine q_get (pc := 190) (o := 0) (f := 4) (v := .ref (gad G (8 * 0 + 4))) K (wO_ch hG (show 0 < 3 by decide)) vw_0 iwX4_change_X0 (by decide) mX4_change_f85 rfl dX4_change_190 ?_
                  refine q_iload_n (pc := 193) K dX4_change_193 rfl rfl ?_
                  refine q_iload_n (pc := 194) K dX4_change_194 rfl rfl ?_
                  refine q_callSi (pc := 195) (rm := rmX4_put) K (kX4_put l hN hG (8 * 0 + 4) (by have := (show 0 < 3 by decide); omega) v1 v3 σ (vinN (show wln true (8 * 0 + 4) = 8 from rfl) (by omega) (by omega))) gX4_change_X4_put rfl hdS_X4_put ⟨Nat.le_of_ble_eq_true rfl, Nat.le_of_ble_eq_true rfl⟩ rfl rfl ⟨Nat.zero_le _, Nat.zero_le _⟩ rfl rfl (Nat.le_of_ble_eq_true rfl) dX4_change_195 ?_
                  refine qq_nmI (fun r56 e57 => ?_)
                  have hw58 : WD r56.2 := by rw [e57]; exact wX4_put (by decide) (wdA hw (by omega))
                  refine q_goto (pc := 198) (tgt := 207) K dX4_change_198 (by decide) ?_
                  exact q_iret K hr dX4_change_207
              · have i67 := neI c51
                refine q_tableOut (pc := 19) (tgt := 208) K dX4_change_19 (by omega) (by decide) ?_
                refine q_aload_n (pc := 208) K dX4_change_208 rfl rfl ?_
                refine q_ldc (pc := 209) (v := (-1000001)) K dX4_change_209 mX4_change_c53 ?_
                refine q_callVi (pc := 211) (o := 3) (rm := rmX4_found) K (kX4_found l hN hG (-1000001) σ hw) gX4_change_X4_found rfl hdV_X4_found ⟨Nat.le_of_ble_eq_true rfl, Nat.le_of_ble_eq_true rfl⟩ rfl rfl ⟨Nat.zero_le _, Nat.zero_le _⟩ (wO_x hG) vw_3 rfl rfl (Nat.le_of_ble_eq_true rfl) dX4_change_211 ?_
                refine qq_nmI (fun r63 e64 => ?_)
                have hw65 : WD r63.2 := by rw [e64]; exact wX4_found (-1000001) hw 
                exact q_iret K hr dX4_change_214
  · have i83 := eqI c1
    refine q_aload_n (pc := 11) K dX4_change_11 rfl rfl ?_
    refine q_ldc (pc := 12) (v := (-1000001)) K dX4_change_12 mX4_change_c53 ?_
    refine q_callVi (pc := 14) (o := 3) (rm := rmX4_found) K (kX4_found l hN hG (-1000001) σ hw) gX4_change_X4_found rfl hdV_X4_found ⟨Nat.le_of_ble_eq_true rfl, Nat.le_of_ble_eq_true rfl⟩ rfl rfl ⟨Nat.zero_le _, Nat.zero_le _⟩ (wO_x hG) vw_3 rfl rfl (Nat.le_of_ble_eq_true rfl) dX4_change_14 ?_
    refine qq_nmI (fun r78 e79 => ?_)
    have hw80 : WD r78.2 := by rw [e79]; exact wX4_found (-1000001) hw 
    exact q_iret K hr dX4_change_17
theorem hdV_X4_renew : yX4_renew.cls = RX4 ∧ yX4_renew.cls ≠ "java/lang/invoke/MethodHandle" ∧ yX4_renew.cls ≠ "java/lang/invoke/VarHandle" ∧ (parseMethodDescriptor yX4_renew.desc).map (fun d => d.parameters.length) = some 1 := by decide +kernel
theorem mX4_renew_f12 : Cond.fieldLink RX4 12 "WaxTreaties" "live" "LWaxTreaties$Chancery;" ∈ wsX4_renew := List.mem_of_getElem? (i := 1) rfl
theorem iwX4_renew_X4 : ∀ w ∈ wsX40, w ∈ wsX4_renew := fun w h => List.mem_cons_of_mem _ (List.mem_append_left _ (List.mem_append_right _ h))
theorem mX4_renew_f79 : Cond.fieldLink RX4 79 "WaxTreaties$Chancery" "soft" "[I" ∈ wsX4_renew := List.mem_of_getElem? (i := 3) rfl
theorem iwX4_renew_X0 : ∀ w ∈ wsX00, w ∈ wsX4_renew := fun w h => List.mem_cons_of_mem _ (List.mem_append_right _ h)
theorem mX4_renew_f119 : Cond.fieldLink RX4 119 "WaxTreaties$Chancery" "run" "I" ∈ wsX4_renew := List.mem_of_getElem? (i := 4) rfl
theorem mX4_renew_c53 : Cond.constant RX4 53 (-1000001) ∈ wsX4_renew := List.mem_of_getElem? (i := 2) rfl
set_option maxRecDepth 100000 in
set_option maxHeartbeats 4000000 in
theorem kX4_renew (l : Launch) {G : gT} (hN : wN G) (hG : gfl G = true) (v1 : Int32) (σ : sg) (hw : WD σ) : cM l yX4_renew wsX4_renew rmX4_renew G [.ref (gob G 3), .int v1] σ (some (.int (fX4_renew v1 σ).1)) (fX4_renew v1 σ).2 := by
  refine cM_of (maxL := 3) (ret := (some .int)) (cc := cX4_renew) (fX4_renew v1 σ) RX4 hN (by decide +kernel) rfl rfl (Nat.le_of_ble_eq_true rfl) rfl ?_
  intro p e s m args below meth c K hr
  have km1000001 : ((-1000001) : Int32).toInt = -1000001 := rfl
  have k0 : (0 : Int32).toInt = 0 := rfl
  have k1 : (1 : Int32).toInt = 1 := rfl
  refine qq_st (lv' := [some (.ref (gob G 3)), some (.int v1), none]) rfl rfl rfl ?_
  refine qq_T (fX4_renew.eq_1 ..) ?_
  refine q_aload_n (pc := 0) K dX4_renew_0 rfl rfl ?_
  refine q_get (pc := 1) (o := 3) (f := 0) (v := .ref (gob G 0)) K (wO_x hG) vw_3 iwX4_renew_X4 (by decide) mX4_renew_f12 rfl dX4_renew_1 ?_
  refine q_iload_n (pc := 4) K dX4_renew_4 rfl rfl ?_
  refine q_callVi (pc := 5) (o := 0) (rm := rmX0_isDeed) K (kX0_isDeed l hN hG 0 (show 0 < 3 by decide) v1 σ hw) gX4_renew_X0_isDeed rfl hdV_X0_isDeed ⟨Nat.le_of_ble_eq_true rfl, Nat.le_of_ble_eq_true rfl⟩ rfl rfl ⟨Nat.zero_le _, Nat.zero_le _⟩ (wO_ch hG (show 0 < 3 by decide)) vw_0 rfl rfl (Nat.le_of_ble_eq_true rfl) dX4_renew_5 ?_
  refine q_if_ne (pc := 8) (tgt := 18) K dX4_renew_8 (by decide) (fun c1 => ?_) (fun c1 => ?_)
  · have i20 := neI c1
    have b21 := isD_t hw (by omega) c1
    refine q_aload_n (pc := 18) K dX4_renew_18 rfl rfl ?_
    refine q_get (pc := 19) (o := 3) (f := 0) (v := .ref (gob G 0)) K (wO_x hG) vw_3 iwX4_renew_X4 (by decide) mX4_renew_f12 rfl dX4_renew_19 ?_
    refine q_iload_n (pc := 22) K dX4_renew_22 rfl rfl ?_
    refine q_callVi (pc := 23) (o := 0) (rm := rmX0_hasRun) K (kX0_hasRun l hN hG 0 (show 0 < 3 by decide) v1 σ hw) gX4_renew_X0_hasRun rfl hdV_X0_hasRun ⟨Nat.le_of_ble_eq_true rfl, Nat.le_of_ble_eq_true rfl⟩ rfl rfl ⟨Nat.zero_le _, Nat.zero_le _⟩ (wO_ch hG (show 0 < 3 by decide)) vw_0 rfl rfl (Nat.le_of_ble_eq_true rfl) dX4_renew_23 ?_
    refine q_if_eq (pc := 26) (tgt := 33) K dX4_renew_26 (by decide) (fun c2 => ?_) (fun c2 => ?_)
    · have i15 := eqI c2
      refine q_iconst (pc := 33) (v := 0) K dX4_renew_33 (by decide) ?_
      refine q_istore_n (pc := 34) (lv' := [some (.ref (gob G 3)), some (.int v1), some (.int 0)]) K dX4_renew_34 rfl (by decide) (Nat.le_of_ble_eq_true rfl) rfl ?_
      refine q_aload_n (pc := 35) K dX4_renew_35 rfl rfl ?_
      refine q_get (pc := 36) (o := 3) (f := 0) (v := .ref (gob G 0)) K (wO_x hG) vw_3 iwX4_renew_X4 (by decide) mX4_renew_f12 rfl dX4_renew_36 ?_
      refine q_get (pc := 39) (o := 0) (f := 3) (v := .ref (gad G (8 * 0 + 3))) K (wO_ch hG (show 0 < 3 by decide)) vw_0 iwX4_renew_X0 (by decide) mX4_renew_f79 rfl dX4_renew_39 ?_
      refine q_iload_n (pc := 42) K dX4_renew_42 rfl rfl ?_
      refine q_iconst (pc := 43) (v := 0) K dX4_renew_43 (by decide) ?_
      refine q_iast (pc := 44) (a := 8 * 0 + 3) K (by rw [wna_t hG]; have := (show 0 < 3 by decide); omega) (vinN (wlc3 hG (show 0 < 3 by decide)) (by omega) (by omega)) dX4_renew_44 (fun s3 e4 => ?_)
      have hw5 : WD s3 := by rw [e4]; exact wdA hw (by have := (show 0 < 3 by decide); omega)
      refine q_aload_n (pc := 45) K dX4_renew_45 rfl rfl ?_
      refine q_get (pc := 46) (o := 3) (f := 0) (v := .ref (gob G 0)) K (wO_x hG) vw_3 iwX4_renew_X4 (by decide) mX4_renew_f12 rfl dX4_renew_46 ?_
      refine q_aload_n (pc := 49) K dX4_renew_49 rfl rfl ?_
      refine q_get (pc := 50) (o := 3) (f := 0) (v := .ref (gob G 0)) K (wO_x hG) vw_3 iwX4_renew_X4 (by decide) mX4_renew_f12 rfl dX4_renew_50 ?_
      refine q_get (pc := 53) (o := 0) (f := 7) (v := .int (rF s3 (7 * 0))) K (wO_ch hG (show 0 < 3 by decide)) vw_0 iwX4_renew_X0 (by decide) mX4_renew_f119 rfl dX4_renew_53 ?_
      refine q_iload_n (pc := 56) K dX4_renew_56 rfl rfl ?_
      refine q_callSi (pc := 57) (rm := rmX4_without) K (kX4_without l hN (rF s3 (7 * 0)) v1 s3) gX4_renew_X4_without rfl hdS_X4_without ⟨Nat.le_of_ble_eq_true rfl, Nat.le_of_ble_eq_true rfl⟩ rfl rfl ⟨Nat.zero_le _, Nat.zero_le _⟩ rfl rfl (Nat.le_of_ble_eq_true rfl) dX4_renew_57 ?_
      refine q_put (pc := 60) (o := 0) (f := 7) (i := (7 * 0)) (ty := .int) K tyX0 tyX0_ok nmX0 (wO_ch hG (show 0 < 3 by decide)) vw_0 iwX4_renew_X0 (by decide) mX4_renew_f119 rfl (tyX0_ok 7 (by decide)) rfl rfl (Nat.le_of_ble_eq_true rfl) (wP_ch7 hG (show 0 < 3 by decide) _) dX4_renew_60 (fun s6 e7 => ?_)
      have hw8 : WD s6 := by rw [e7]; exact wdF hw5 (by have := (show 0 < 3 by decide); omega)
      refine q_iload_n (pc := 63) K dX4_renew_63 rfl rfl ?_
      exact q_iret K hr dX4_renew_64
    · have i16 := neI c2
      refine q_iconst (pc := 29) (v := 1) K dX4_renew_29 (by decide) ?_
      refine q_goto (pc := 30) (tgt := 34) K dX4_renew_30 (by decide) ?_
      refine q_istore_n (pc := 34) (lv' := [some (.ref (gob G 3)), some (.int v1), some (.int 1)]) K dX4_renew_34 rfl (by decide) (Nat.le_of_ble_eq_true rfl) rfl ?_
      refine q_aload_n (pc := 35) K dX4_renew_35 rfl rfl ?_
      refine q_get (pc := 36) (o := 3) (f := 0) (v := .ref (gob G 0)) K (wO_x hG) vw_3 iwX4_renew_X4 (by decide) mX4_renew_f12 rfl dX4_renew_36 ?_
      refine q_get (pc := 39) (o := 0) (f := 3) (v := .ref (gad G (8 * 0 + 3))) K (wO_ch hG (show 0 < 3 by decide)) vw_0 iwX4_renew_X0 (by decide) mX4_renew_f79 rfl dX4_renew_39 ?_
      refine q_iload_n (pc := 42) K dX4_renew_42 rfl rfl ?_
      refine q_iconst (pc := 43) (v := 0) K dX4_renew_43 (by decide) ?_
      refine q_iast (pc := 44) (a := 8 * 0 + 3) K (by rw [wna_t hG]; have := (show 0 < 3 by decide); omega) (vinN (wlc3 hG (show 0 < 3 by decide)) (by omega) (by omega)) dX4_renew_44 (fun s9 e10 => ?_)
      have hw11 : WD s9 := by rw [e10]; exact wdA hw (by have := (show 0 < 3 by decide); omega)
      refine q_aload_n (pc := 45) K dX4_renew_45 rfl rfl ?_
      refine q_get (pc := 46) (o := 3) (f := 0) (v := .ref (gob G 0)) K (wO_x hG) vw_3 iwX4_renew_X4 (by decide) mX4_renew_f12 rfl dX4_renew_46 ?_
      refine q_aload_n (pc := 49) K dX4_renew_49 rfl rfl ?_
      refine q_get (pc := 50) (o := 3) (f := 0) (v := .ref (gob G 0)) K (wO_x hG) vw_3 iwX4_renew_X4 (by decide) mX4_renew_f12 rfl dX4_renew_50 ?_
      refine q_get (pc := 53) (o := 0) (f := 7) (v := .int (rF s9 (7 * 0))) K (wO_ch hG (show 0 < 3 by decide)) vw_0 iwX4_renew_X0 (by decide) mX4_renew_f119 rfl dX4_renew_53 ?_
      refine q_iload_n (pc := 56) K dX4_renew_56 rfl rfl ?_
      refine q_callSi (pc := 57) (rm := rmX4_without) K (kX4_without l hN (rF s9 (7 * 0)) v1 s9) gX4_renew_X4_without rfl hdS_X4_without ⟨Nat.le_of_ble_eq_true rfl, Nat.le_of_ble_eq_true rfl⟩ rfl rfl ⟨Nat.zero_le _, Nat.zero_le _⟩ rfl rfl (Nat.le_of_ble_eq_true rfl) dX4_renew_57 ?_
      refine q_put (pc := 60) (o := 0) (f := 7) (i := (7 * 0)) (ty := .int) K tyX0 tyX0_ok nmX0 (wO_ch hG (show 0 < 3 by decide)) vw_0 iwX4_renew_X0 (by decide) mX4_renew_f119 rfl (tyX0_ok 7 (by decide)) rfl rfl (Nat.le_of_ble_eq_true rfl) (wP_ch7 hG (show 0 < 3 by decide) _) dX4_renew_60 (fun s12 e13 => ?_)
      have hw14 : WD s12 := by rw [e13]; exact wdF hw11 (by have := (show 0 < 3 by decide); omega)
      refine q_iload_n (pc := 63) K dX4_renew_63 rfl rfl ?_
      exact q_iret K hr dX4_renew_64
  · have i22 := eqI c1
    refine q_aload_n (pc := 11) K dX4_renew_11 rfl rfl ?_
    refine q_ldc (pc := 12) (v := (-1000001)) K dX4_renew_12 mX4_renew_c53 ?_
    refine q_callVi (pc := 14) (o := 3) (rm := rmX4_found) K (kX4_found l hN hG (-1000001) σ hw) gX4_renew_X4_found rfl hdV_X4_found ⟨Nat.le_of_ble_eq_true rfl, Nat.le_of_ble_eq_true rfl⟩ rfl rfl ⟨Nat.zero_le _, Nat.zero_le _⟩ (wO_x hG) vw_3 rfl rfl (Nat.le_of_ble_eq_true rfl) dX4_renew_14 ?_
    refine qq_nmI (fun r17 e18 => ?_)
    have hw19 : WD r17.2 := by rw [e18]; exact wX4_found (-1000001) hw 
    exact q_iret K hr dX4_renew_17
theorem hdV_X4_shelf : yX4_shelf.cls = RX4 ∧ yX4_shelf.cls ≠ "java/lang/invoke/MethodHandle" ∧ yX4_shelf.cls ≠ "java/lang/invoke/VarHandle" ∧ (parseMethodDescriptor yX4_shelf.desc).map (fun d => d.parameters.length) = some 3 := by decide +kernel
theorem mX4_shelf_f12 : Cond.fieldLink RX4 12 "WaxTreaties" "live" "LWaxTreaties$Chancery;" ∈ wsX4_shelf := List.mem_of_getElem? (i := 2) rfl
theorem iwX4_shelf_X4 : ∀ w ∈ wsX40, w ∈ wsX4_shelf := fun w h => List.mem_cons_of_mem _ (List.mem_append_left _ (List.mem_append_right _ h))
theorem mX4_shelf_f128 : Cond.fieldLink RX4 128 "WaxTreaties$Chancery" "open" "I" ∈ wsX4_shelf := List.mem_of_getElem? (i := 4) rfl
theorem iwX4_shelf_X0 : ∀ w ∈ wsX00, w ∈ wsX4_shelf := fun w h => List.mem_cons_of_mem _ (List.mem_append_right _ h)
theorem mX4_shelf_f139 : Cond.fieldLink RX4 139 "WaxTreaties$Chancery" "candles" "I" ∈ wsX4_shelf := List.mem_of_getElem? (i := 5) rfl
theorem mX4_shelf_c53 : Cond.constant RX4 53 (-1000001) ∈ wsX4_shelf := List.mem_of_getElem? (i := 1) rfl
theorem mX4_shelf_f125 : Cond.fieldLink RX4 125 "WaxTreaties$Chancery" "ice" "[I" ∈ wsX4_shelf := List.mem_of_getElem? (i := 3) rfl
set_option maxRecDepth 100000 in
set_option maxHeartbeats 4000000 in
theorem kX4_shelf (l : Launch) {G : gT} (hN : wN G) (hG : gfl G = true) (v1 : Int32) (v2 : Int32) (v3 : Int32) (σ : sg) (hw : WD σ) : cM l yX4_shelf wsX4_shelf rmX4_shelf G [.ref (gob G 3), .int v1, .int v2, .int v3] σ (some (.int (fX4_shelf v1 v2 v3 σ).1)) (fX4_shelf v1 v2 v3 σ).2 := by
  refine cM_of (maxL := 5) (ret := (some .int)) (cc := cX4_shelf) (fX4_shelf v1 v2 v3 σ) RX4 hN (by decide +kernel) rfl rfl (Nat.le_of_ble_eq_true rfl) rfl ?_
  intro p e s m args below meth c K hr
  have km1000001 : ((-1000001) : Int32).toInt = -1000001 := rfl
  have k0 : (0 : Int32).toInt = 0 := rfl
  have k1 : (1 : Int32).toInt = 1 := rfl
  have k2 : (2 : Int32).toInt = 2 := rfl
  have k99 : (99 : Int32).toInt = 99 := rfl
  refine qq_st (lv' := [some (.ref (gob G 3)), some (.int v1), some (.int v2), some (.int v3), none]) rfl rfl rfl ?_
  refine qq_T (fX4_shelf.eq_1 ..) ?_
  refine q_iload_n (pc := 0) K dX4_shelf_0 rfl rfl ?_
  refine q_callSi (pc := 1) (rm := rmX4_isShelf) K (kX4_isShelf l hN v1 σ) gX4_shelf_X4_isShelf rfl hdS_X4_isShelf ⟨Nat.le_of_ble_eq_true rfl, Nat.le_of_ble_eq_true rfl⟩ rfl rfl ⟨Nat.zero_le _, Nat.zero_le _⟩ rfl rfl (Nat.le_of_ble_eq_true rfl) dX4_shelf_1 ?_
  refine q_if_ne (pc := 4) (tgt := 14) K dX4_shelf_4 (by decide) (fun c1 => ?_) (fun c1 => ?_)
  · have i78 := neI c1
    have b79 := isS_t c1
    refine q_iload_n (pc := 14) K dX4_shelf_14 rfl rfl ?_
    refine q_iconst (pc := 15) (v := 1) K dX4_shelf_15 (by decide) ?_
    refine q_icmp_ne (pc := 16) (tgt := 51) K dX4_shelf_16 (by decide) (fun c2 => ?_) (fun c2 => ?_)
    · have i73 := neI c2
      refine q_iload_n (pc := 51) K dX4_shelf_51 rfl rfl ?_
      refine q_iconst (pc := 52) (v := 0) K dX4_shelf_52 (by decide) ?_
      refine q_iconst (pc := 53) (v := 1) K dX4_shelf_53 (by decide) ?_
      refine q_callSi (pc := 54) (rm := rmX4_isWithin) K (kX4_isWithin l hN v3 0 1 σ) gX4_shelf_X4_isWithin rfl hdS_X4_isWithin ⟨Nat.le_of_ble_eq_true rfl, Nat.le_of_ble_eq_true rfl⟩ rfl rfl ⟨Nat.zero_le _, Nat.zero_le _⟩ rfl rfl (Nat.le_of_ble_eq_true rfl) dX4_shelf_54 ?_
      refine q_if_ne (pc := 57) (tgt := 67) K dX4_shelf_57 (by decide) (fun c3 => ?_) (fun c3 => ?_)
      · have i58 := neI c3
        have b59 := isW_t c3
        refine q_iload_n (pc := 67) K dX4_shelf_67 rfl rfl ?_
        refine q_case (v := 0) (fun c4 => ?_) (fun c4 => ?_)
        · have i53 := eqI c4
          refine q_lookup (pc := 68) (off := 28) (tgt := 96) K dX4_shelf_68 (by decide) (by rw [c4]; rfl) (by decide) ?_
          refine q_aload_n (pc := 96) K dX4_shelf_96 rfl rfl ?_
          refine q_get (pc := 97) (o := 3) (f := 0) (v := .ref (gob G 0)) K (wO_x hG) vw_3 iwX4_shelf_X4 (by decide) mX4_shelf_f12 rfl dX4_shelf_97 ?_
          refine q_get (pc := 100) (o := 0) (f := 9) (v := .int (rF σ (7 * 0 + 2))) K (wO_ch hG (show 0 < 3 by decide)) vw_0 iwX4_shelf_X0 (by decide) mX4_shelf_f128 rfl dX4_shelf_100 ?_
          refine q_iload_n (pc := 103) K dX4_shelf_103 rfl rfl ?_
          refine q_callSi (pc := 104) (rm := rmX4_has) K (kX4_has l hN (rF σ (7 * 0 + 2)) v1 σ) gX4_shelf_X4_has rfl hdS_X4_has ⟨Nat.le_of_ble_eq_true rfl, Nat.le_of_ble_eq_true rfl⟩ rfl rfl ⟨Nat.zero_le _, Nat.zero_le _⟩ rfl rfl (Nat.le_of_ble_eq_true rfl) dX4_shelf_104 ?_
          refine q_if_eq (pc := 107) (tgt := 114) K dX4_shelf_107 (by decide) (fun c5 => ?_) (fun c5 => ?_)
          · have i24 := eqI c5
            refine q_iconst (pc := 114) (v := 0) K dX4_shelf_114 (by decide) ?_
            refine q_istore (pc := 115) (lv' := [some (.ref (gob G 3)), some (.int v1), some (.int v2), some (.int v3), some (.int 0)]) K dX4_shelf_115 (by decide) (Nat.le_of_ble_eq_true rfl) rfl ?_
            refine q_aload_n (pc := 117) K dX4_shelf_117 rfl rfl ?_
            refine q_get (pc := 118) (o := 3) (f := 0) (v := .ref (gob G 0)) K (wO_x hG) vw_3 iwX4_shelf_X4 (by decide) mX4_shelf_f12 rfl dX4_shelf_118 ?_
            refine q_iload_n (pc := 121) K dX4_shelf_121 rfl rfl ?_
            refine q_iload_n (pc := 122) K dX4_shelf_122 rfl rfl ?_
            refine q_iconst (pc := 123) (v := 1) K dX4_shelf_123 (by decide) ?_
            refine q_icmp_ne (pc := 124) (tgt := 131) K dX4_shelf_124 (by decide) (fun c6 => ?_) (fun c6 => ?_)
            · have i13 := neI c6
              refine q_iconst (pc := 131) (v := 0) K dX4_shelf_131 (by decide) ?_
              refine q_callVv (pc := 132) (o := 0) (rm := rmX0_setShutter) K (kX0_setShutter l hN hG 0 (show 0 < 3 by decide) v1 0 σ hw) gX4_shelf_X0_setShutter rfl hdV_X0_setShutter ⟨Nat.le_of_ble_eq_true rfl, Nat.le_of_ble_eq_true rfl⟩ rfl rfl ⟨Nat.zero_le _, Nat.zero_le _⟩ (wO_ch hG (show 0 < 3 by decide)) vw_0 rfl rfl (Nat.le_of_ble_eq_true rfl) dX4_shelf_132 ?_
              refine qq_nmV (fun r7 e8 => ?_)
              have hw9 : WD r7 := by rw [e8]; exact wX0_setShutter 0 (show 0 < 3 by decide) v1 0 hw 
              refine q_iload (pc := 135) K dX4_shelf_135 rfl ?_
              exact q_iret K hr dX4_shelf_137
            · have i14 := eqI c6
              refine q_iconst (pc := 127) (v := 1) K dX4_shelf_127 (by decide) ?_
              refine q_goto (pc := 128) (tgt := 132) K dX4_shelf_128 (by decide) ?_
              refine q_callVv (pc := 132) (o := 0) (rm := rmX0_setShutter) K (kX0_setShutter l hN hG 0 (show 0 < 3 by decide) v1 1 σ hw) gX4_shelf_X0_setShutter rfl hdV_X0_setShutter ⟨Nat.le_of_ble_eq_true rfl, Nat.le_of_ble_eq_true rfl⟩ rfl rfl ⟨Nat.zero_le _, Nat.zero_le _⟩ (wO_ch hG (show 0 < 3 by decide)) vw_0 rfl rfl (Nat.le_of_ble_eq_true rfl) dX4_shelf_132 ?_
              refine qq_nmV (fun r10 e11 => ?_)
              have hw12 : WD r10 := by rw [e11]; exact wX0_setShutter 0 (show 0 < 3 by decide) v1 1 hw 
              refine q_iload (pc := 135) K dX4_shelf_135 rfl ?_
              exact q_iret K hr dX4_shelf_137
          · have i25 := neI c5
            refine q_iconst (pc := 110) (v := 1) K dX4_shelf_110 (by decide) ?_
            refine q_goto (pc := 111) (tgt := 115) K dX4_shelf_111 (by decide) ?_
            refine q_istore (pc := 115) (lv' := [some (.ref (gob G 3)), some (.int v1), some (.int v2), some (.int v3), some (.int 1)]) K dX4_shelf_115 (by decide) (Nat.le_of_ble_eq_true rfl) rfl ?_
            refine q_aload_n (pc := 117) K dX4_shelf_117 rfl rfl ?_
            refine q_get (pc := 118) (o := 3) (f := 0) (v := .ref (gob G 0)) K (wO_x hG) vw_3 iwX4_shelf_X4 (by decide) mX4_shelf_f12 rfl dX4_shelf_118 ?_
            refine q_iload_n (pc := 121) K dX4_shelf_121 rfl rfl ?_
            refine q_iload_n (pc := 122) K dX4_shelf_122 rfl rfl ?_
            refine q_iconst (pc := 123) (v := 1) K dX4_shelf_123 (by decide) ?_
            refine q_icmp_ne (pc := 124) (tgt := 131) K dX4_shelf_124 (by decide) (fun c15 => ?_) (fun c15 => ?_)
            · have i22 := neI c15
              refine q_iconst (pc := 131) (v := 0) K dX4_shelf_131 (by decide) ?_
              refine q_callVv (pc := 132) (o := 0) (rm := rmX0_setShutter) K (kX0_setShutter l hN hG 0 (show 0 < 3 by decide) v1 0 σ hw) gX4_shelf_X0_setShutter rfl hdV_X0_setShutter ⟨Nat.le_of_ble_eq_true rfl, Nat.le_of_ble_eq_true rfl⟩ rfl rfl ⟨Nat.zero_le _, Nat.zero_le _⟩ (wO_ch hG (show 0 < 3 by decide)) vw_0 rfl rfl (Nat.le_of_ble_eq_true rfl) dX4_shelf_132 ?_
              refine qq_nmV (fun r16 e17 => ?_)
              have hw18 : WD r16 := by rw [e17]; exact wX0_setShutter 0 (show 0 < 3 by decide) v1 0 hw 
              refine q_iload (pc := 135) K dX4_shelf_135 rfl ?_
              exact q_iret K hr dX4_shelf_137
            · have i23 := eqI c15
              refine q_iconst (pc := 127) (v := 1) K dX4_shelf_127 (by decide) ?_
              refine q_goto (pc := 128) (tgt := 132) K dX4_shelf_128 (by decide) ?_
              refine q_callVv (pc := 132) (o := 0) (rm := rmX0_setShutter) K (kX0_setShutter l hN hG 0 (show 0 < 3 by decide) v1 1 σ hw) gX4_shelf_X0_setShutter rfl hdV_X0_setShutter ⟨Nat.le_of_ble_eq_true rfl, Nat.le_of_ble_eq_true rfl⟩ rfl rfl ⟨Nat.zero_le _, Nat.zero_le _⟩ (wO_ch hG (show 0 < 3 by decide)) vw_0 rfl rfl (Nat.le_of_ble_eq_true rfl) dX4_shelf_132 ?_
              refine qq_nmV (fun r19 e20 => ?_)
              have hw21 : WD r19 := by rw [e20]; exact wX0_setShutter 0 (show 0 < 3 by decide) v1 1 hw 
              refine q_iload (pc := 135) K dX4_shelf_135 rfl ?_
              exact q_iret K hr dX4_shelf_137
        · have i54 := neI c4
          refine q_case (v := 2) (fun c26 => ?_) (fun c26 => ?_)
          · have i51 := eqI c26
            refine q_lookup (pc := 68) (off := 70) (tgt := 138) K dX4_shelf_68 (by decide) (by rw [c26]; rfl) (by decide) ?_
            refine q_aload_n (pc := 138) K dX4_shelf_138 rfl rfl ?_
            refine q_get (pc := 139) (o := 3) (f := 0) (v := .ref (gob G 0)) K (wO_x hG) vw_3 iwX4_shelf_X4 (by decide) mX4_shelf_f12 rfl dX4_shelf_139 ?_
            refine q_get (pc := 142) (o := 0) (f := 10) (v := .int (rF σ (7 * 0 + 3))) K (wO_ch hG (show 0 < 3 by decide)) vw_0 iwX4_shelf_X0 (by decide) mX4_shelf_f139 rfl dX4_shelf_142 ?_
            refine q_iload_n (pc := 145) K dX4_shelf_145 rfl rfl ?_
            refine q_callSi (pc := 146) (rm := rmX4_has) K (kX4_has l hN (rF σ (7 * 0 + 3)) v1 σ) gX4_shelf_X4_has rfl hdS_X4_has ⟨Nat.le_of_ble_eq_true rfl, Nat.le_of_ble_eq_true rfl⟩ rfl rfl ⟨Nat.zero_le _, Nat.zero_le _⟩ rfl rfl (Nat.le_of_ble_eq_true rfl) dX4_shelf_146 ?_
            refine q_if_eq (pc := 149) (tgt := 156) K dX4_shelf_149 (by decide) (fun c27 => ?_) (fun c27 => ?_)
            · have i46 := eqI c27
              refine q_iconst (pc := 156) (v := 0) K dX4_shelf_156 (by decide) ?_
              refine q_istore (pc := 157) (lv' := [some (.ref (gob G 3)), some (.int v1), some (.int v2), some (.int v3), some (.int 0)]) K dX4_shelf_157 (by decide) (Nat.le_of_ble_eq_true rfl) rfl ?_
              refine q_aload_n (pc := 159) K dX4_shelf_159 rfl rfl ?_
              refine q_get (pc := 160) (o := 3) (f := 0) (v := .ref (gob G 0)) K (wO_x hG) vw_3 iwX4_shelf_X4 (by decide) mX4_shelf_f12 rfl dX4_shelf_160 ?_
              refine q_iload_n (pc := 163) K dX4_shelf_163 rfl rfl ?_
              refine q_iload_n (pc := 164) K dX4_shelf_164 rfl rfl ?_
              refine q_iconst (pc := 165) (v := 1) K dX4_shelf_165 (by decide) ?_
              refine q_icmp_ne (pc := 166) (tgt := 173) K dX4_shelf_166 (by decide) (fun c28 => ?_) (fun c28 => ?_)
              · have i35 := neI c28
                refine q_iconst (pc := 173) (v := 0) K dX4_shelf_173 (by decide) ?_
                refine q_callVv (pc := 174) (o := 0) (rm := rmX0_setCandle) K (kX0_setCandle l hN hG 0 (show 0 < 3 by decide) v1 0 σ hw) gX4_shelf_X0_setCandle rfl hdV_X0_setCandle ⟨Nat.le_of_ble_eq_true rfl, Nat.le_of_ble_eq_true rfl⟩ rfl rfl ⟨Nat.zero_le _, Nat.zero_le _⟩ (wO_ch hG (show 0 < 3 by decide)) vw_0 rfl rfl (Nat.le_of_ble_eq_true rfl) dX4_shelf_174 ?_
                refine qq_nmV (fun r29 e30 => ?_)
                have hw31 : WD r29 := by rw [e30]; exact wX0_setCandle 0 (show 0 < 3 by decide) v1 0 hw 
                refine q_iload (pc := 177) K dX4_shelf_177 rfl ?_
                exact q_iret K hr dX4_shelf_179
              · have i36 := eqI c28
                refine q_iconst (pc := 169) (v := 1) K dX4_shelf_169 (by decide) ?_
                refine q_goto (pc := 170) (tgt := 174) K dX4_shelf_170 (by decide) ?_
                refine q_callVv (pc := 174) (o := 0) (rm := rmX0_setCandle) K (kX0_setCandle l hN hG 0 (show 0 < 3 by decide) v1 1 σ hw) gX4_shelf_X0_setCandle rfl hdV_X0_setCandle ⟨Nat.le_of_ble_eq_true rfl, Nat.le_of_ble_eq_true rfl⟩ rfl rfl ⟨Nat.zero_le _, Nat.zero_le _⟩ (wO_ch hG (show 0 < 3 by decide)) vw_0 rfl rfl (Nat.le_of_ble_eq_true rfl) dX4_shelf_174 ?_
                refine qq_nmV (fun r32 e33 => ?_)
                have hw34 : WD r32 := by rw [e33]; exact wX0_setCandle 0 (show 0 < 3 by decide) v1 1 hw 
                refine q_iload (pc := 177) K dX4_shelf_177 rfl ?_
                exact q_iret K hr dX4_shelf_179
            · have i47 := neI c27
              refine q_iconst (pc := 152) (v := 1) K dX4_shelf_152 (by decide) ?_
              refine q_goto (pc := 153) (tgt := 157) K dX4_shelf_153 (by decide) ?_
              refine q_istore (pc := 157) (lv' := [some (.ref (gob G 3)), some (.int v1), some (.int v2), some (.int v3), some (.int 1)]) K dX4_shelf_157 (by decide) (Nat.le_of_ble_eq_true rfl) rfl ?_
              refine q_aload_n (pc := 159) K dX4_shelf_159 rfl rfl ?_
              refine q_get (pc := 160) (o := 3) (f := 0) (v := .ref (gob G 0)) K (wO_x hG) vw_3 iwX4_shelf_X4 (by decide) mX4_shelf_f12 rfl dX4_shelf_160 ?_
              refine q_iload_n (pc := 163) K dX4_shelf_163 rfl rfl ?_
              refine q_iload_n (pc := 164) K dX4_shelf_164 rfl rfl ?_
              refine q_iconst (pc := 165) (v := 1) K dX4_shelf_165 (by decide) ?_
              refine q_icmp_ne (pc := 166) (tgt := 173) K dX4_shelf_166 (by decide) (fun c37 => ?_) (fun c37 => ?_)
              · have i44 := neI c37
                refine q_iconst (pc := 173) (v := 0) K dX4_shelf_173 (by decide) ?_
                refine q_callVv (pc := 174) (o := 0) (rm := rmX0_setCandle) K (kX0_setCandle l hN hG 0 (show 0 < 3 by decide) v1 0 σ hw) gX4_shelf_X0_setCandle rfl hdV_X0_setCandle ⟨Nat.le_of_ble_eq_true rfl, Nat.le_of_ble_eq_true rfl⟩ rfl rfl ⟨Nat.zero_le _, Nat.zero_le _⟩ (wO_ch hG (show 0 < 3 by decide)) vw_0 rfl rfl (Nat.le_of_ble_eq_true rfl) dX4_shelf_174 ?_
                refine qq_nmV (fun r38 e39 => ?_)
                have hw40 : WD r38 := by rw [e39]; exact wX0_setCandle 0 (show 0 < 3 by decide) v1 0 hw 
                refine q_iload (pc := 177) K dX4_shelf_177 rfl ?_
                exact q_iret K hr dX4_shelf_179
              · have i45 := eqI c37
                refine q_iconst (pc := 169) (v := 1) K dX4_shelf_169 (by decide) ?_
                refine q_goto (pc := 170) (tgt := 174) K dX4_shelf_170 (by decide) ?_
                refine q_callVv (pc := 174) (o := 0) (rm := rmX0_setCandle) K (kX0_setCandle l hN hG 0 (show 0 < 3 by decide) v1 1 σ hw) gX4_shelf_X0_setCandle rfl hdV_X0_setCandle ⟨Nat.le_of_ble_eq_true rfl, Nat.le_of_ble_eq_true rfl⟩ rfl rfl ⟨Nat.zero_le _, Nat.zero_le _⟩ (wO_ch hG (show 0 < 3 by decide)) vw_0 rfl rfl (Nat.le_of_ble_eq_true rfl) dX4_shelf_174 ?_
                refine qq_nmV (fun r41 e42 => ?_)
                have hw43 : WD r41 := by rw [e42]; exact wX0_setCandle 0 (show 0 < 3 by decide) v1 1 hw 
                refine q_iload (pc := 177) K dX4_shelf_177 rfl ?_
                exact q_iret K hr dX4_shelf_179
          · have i52 := neI c26
            refine q_lookup (pc := 68) (off := 112) (tgt := 180) K dX4_shelf_68 (by decide) (by show (if (0 : Int) = v2.toInt then (28 : Int) else (if (2 : Int) = v2.toInt then (70 : Int) else 112)) = 112; rw [if_neg (by omega), if_neg (by omega)]) (by decide) ?_
            refine q_aload_n (pc := 180) K dX4_shelf_180 rfl rfl ?_
            refine q_ldc (pc := 181) (v := (-1000001)) K dX4_shelf_181 mX4_shelf_c53 ?_
            refine q_callVi (pc := 183) (o := 3) (rm := rmX4_found) K (kX4_found l hN hG (-1000001) σ hw) gX4_shelf_X4_found rfl hdV_X4_found ⟨Nat.le_of_ble_eq_true rfl, Nat.le_of_ble_eq_true rfl⟩ rfl rfl ⟨Nat.zero_le _, Nat.zero_le _⟩ (wO_x hG) vw_3 rfl rfl (Nat.le_of_ble_eq_true rfl) dX4_shelf_183 ?_
            refine qq_nmI (fun r48 e49 => ?_)
            have hw50 : WD r48.2 := by rw [e49]; exact wX4_found (-1000001) hw 
            exact q_iret K hr dX4_shelf_186
      · have i60 := eqI c3
        have b61 := isW_f c3
        refine q_aload_n (pc := 60) K dX4_shelf_60 rfl rfl ?_
        refine q_ldc (pc := 61) (v := (-1000001)) K dX4_shelf_61 mX4_shelf_c53 ?_
        refine q_callVi (pc := 63) (o := 3) (rm := rmX4_found) K (kX4_found l hN hG (-1000001) σ hw) gX4_shelf_X4_found rfl hdV_X4_found ⟨Nat.le_of_ble_eq_true rfl, Nat.le_of_ble_eq_true rfl⟩ rfl rfl ⟨Nat.zero_le _, Nat.zero_le _⟩ (wO_x hG) vw_3 rfl rfl (Nat.le_of_ble_eq_true rfl) dX4_shelf_63 ?_
        refine qq_nmI (fun r55 e56 => ?_)
        have hw57 : WD r55.2 := by rw [e56]; exact wX4_found (-1000001) hw 
        exact q_iret K hr dX4_shelf_66
    · have i74 := eqI c2
      refine q_iload_n (pc := 19) K dX4_shelf_19 rfl rfl ?_
      refine q_iconst (pc := 20) (v := 0) K dX4_shelf_20 (by decide) ?_
      refine q_bipush (pc := 21) (v := 99) K dX4_shelf_21 (by decide) ?_
      refine q_callSi (pc := 23) (rm := rmX4_isWithin) K (kX4_isWithin l hN v3 0 99 σ) gX4_shelf_X4_isWithin rfl hdS_X4_isWithin ⟨Nat.le_of_ble_eq_true rfl, Nat.le_of_ble_eq_true rfl⟩ rfl rfl ⟨Nat.zero_le _, Nat.zero_le _⟩ rfl rfl (Nat.le_of_ble_eq_true rfl) dX4_shelf_23 ?_
      refine q_if_eq (pc := 26) (tgt := 44) K dX4_shelf_26 (by decide) (fun c62 => ?_) (fun c62 => ?_)
      · have i69 := eqI c62
        have b70 := isW_f c62
        refine q_aload_n (pc := 44) K dX4_shelf_44 rfl rfl ?_
        refine q_ldc (pc := 45) (v := (-1000001)) K dX4_shelf_45 mX4_shelf_c53 ?_
        refine q_callVi (pc := 47) (o := 3) (rm := rmX4_found) K (kX4_found l hN hG (-1000001) σ hw) gX4_shelf_X4_found rfl hdV_X4_found ⟨Nat.le_of_ble_eq_true rfl, Nat.le_of_ble_eq_true rfl⟩ rfl rfl ⟨Nat.zero_le _, Nat.zero_le _⟩ (wO_x hG) vw_3 rfl rfl (Nat.le_of_ble_eq_true rfl) dX4_shelf_47 ?_
        refine qq_nmI (fun r63 e64 => ?_)
        have hw65 : WD r63.2 := by rw [e64]; exact wX4_found (-1000001) hw 
        exact q_iret K hr dX4_shelf_50
      · have i71 := neI c62
        have b72 := isW_t c62
        refine q_aload_n (pc := 29) K dX4_shelf_29 rfl rfl ?_
        refine q_get (pc := 30) (o := 3) (f := 0) (v := .ref (gob G 0)) K (wO_x hG) vw_3 iwX4_shelf_X4 (by decide) mX4_shelf_f12 rfl dX4_shelf_30 ?_
        refine q_get (pc := 33) (o := 0) (f := 5) (v := .ref (gad G (8 * 0 + 5))) K (wO_ch hG (show 0 < 3 by decide)) vw_0 iwX4_shelf_X0 (by decide) mX4_shelf_f125 rfl dX4_shelf_33 ?_
        refine q_iload_n (pc := 36) K dX4_shelf_36 rfl rfl ?_
        refine q_iload_n (pc := 37) K dX4_shelf_37 rfl rfl ?_
        refine q_callSi (pc := 38) (rm := rmX4_put) K (kX4_put l hN hG (8 * 0 + 5) (by have := (show 0 < 3 by decide); omega) v1 v3 σ (vinN (show wln true (8 * 0 + 5) = 6 from rfl) (by omega) (by omega))) gX4_shelf_X4_put rfl hdS_X4_put ⟨Nat.le_of_ble_eq_true rfl, Nat.le_of_ble_eq_true rfl⟩ rfl rfl ⟨Nat.zero_le _, Nat.zero_le _⟩ rfl rfl (Nat.le_of_ble_eq_true rfl) dX4_shelf_38 ?_
        refine qq_nmI (fun r66 e67 => ?_)
        have hw68 : WD r66.2 := by rw [e67]; exact wX4_put (by decide) (wdA hw (by omega))
        refine q_goto (pc := 41) (tgt := 50) K dX4_shelf_41 (by decide) ?_
        exact q_iret K hr dX4_shelf_50
  · have i80 := eqI c1
    refine q_aload_n (pc := 7) K dX4_shelf_7 rfl rfl ?_
    refine q_ldc (pc := 8) (v := (-1000001)) K dX4_shelf_8 mX4_shelf_c53 ?_
    refine q_callVi (pc := 10) (o := 3) (rm := rmX4_found) K (kX4_found l hN hG (-1000001) σ hw) gX4_shelf_X4_found rfl hdV_X4_found ⟨Nat.le_of_ble_eq_true rfl, Nat.le_of_ble_eq_true rfl⟩ rfl rfl ⟨Nat.zero_le _, Nat.zero_le _⟩ (wO_x hG) vw_3 rfl rfl (Nat.le_of_ble_eq_true rfl) dX4_shelf_10 ?_
    refine qq_nmI (fun r75 e76 => ?_)
    have hw77 : WD r75.2 := by rw [e76]; exact wX4_found (-1000001) hw 
    exact q_iret K hr dX4_shelf_13
theorem hdV_X4_summer : yX4_summer.cls = RX4 ∧ yX4_summer.cls ≠ "java/lang/invoke/MethodHandle" ∧ yX4_summer.cls ≠ "java/lang/invoke/VarHandle" ∧ (parseMethodDescriptor yX4_summer.desc).map (fun d => d.parameters.length) = some 1 := by decide +kernel
theorem mX4_summer_f12 : Cond.fieldLink RX4 12 "WaxTreaties" "live" "LWaxTreaties$Chancery;" ∈ wsX4_summer := List.mem_of_getElem? (i := 2) rfl
theorem iwX4_summer_X4 : ∀ w ∈ wsX40, w ∈ wsX4_summer := fun w h => List.mem_cons_of_mem _ (List.mem_append_left _ (List.mem_append_right _ h))
theorem mX4_summer_f145 : Cond.fieldLink RX4 145 "WaxTreaties$Chancery" "summer" "I" ∈ wsX4_summer := List.mem_of_getElem? (i := 3) rfl
theorem iwX4_summer_X0 : ∀ w ∈ wsX00, w ∈ wsX4_summer := fun w h => List.mem_cons_of_mem _ (List.mem_append_right _ h)
theorem mX4_summer_c53 : Cond.constant RX4 53 (-1000001) ∈ wsX4_summer := List.mem_of_getElem? (i := 1) rfl
set_option maxRecDepth 100000 in
set_option maxHeartbeats 4000000 in
theorem kX4_summer (l : Launch) {G : gT} (hN : wN G) (hG : gfl G = true) (v1 : Int32) (σ : sg) (hw : WD σ) : cM l yX4_summer wsX4_summer rmX4_summer G [.ref (gob G 3), .int v1] σ (some (.int (fX4_summer v1 σ).1)) (fX4_summer v1 σ).2 := by
  refine cM_of (maxL := 3) (ret := (some .int)) (cc := cX4_summer) (fX4_summer v1 σ) RX4 hN (by decide +kernel) rfl rfl (Nat.le_of_ble_eq_true rfl) rfl ?_
  intro p e s m args below meth c K hr
  have km1000001 : ((-1000001) : Int32).toInt = -1000001 := rfl
  have k0 : (0 : Int32).toInt = 0 := rfl
  have k40 : (40 : Int32).toInt = 40 := rfl
  refine qq_st (lv' := [some (.ref (gob G 3)), some (.int v1), none]) rfl rfl rfl ?_
  refine qq_T (fX4_summer.eq_1 ..) ?_
  refine q_iload_n (pc := 0) K dX4_summer_0 rfl rfl ?_
  refine q_iconst (pc := 1) (v := 0) K dX4_summer_1 (by decide) ?_
  refine q_bipush (pc := 2) (v := 40) K dX4_summer_2 (by decide) ?_
  refine q_callSi (pc := 4) (rm := rmX4_isWithin) K (kX4_isWithin l hN v1 0 40 σ) gX4_summer_X4_isWithin rfl hdS_X4_isWithin ⟨Nat.le_of_ble_eq_true rfl, Nat.le_of_ble_eq_true rfl⟩ rfl rfl ⟨Nat.zero_le _, Nat.zero_le _⟩ rfl rfl (Nat.le_of_ble_eq_true rfl) dX4_summer_4 ?_
  refine q_if_ne (pc := 7) (tgt := 17) K dX4_summer_7 (by decide) (fun c1 => ?_) (fun c1 => ?_)
  · have i8 := neI c1
    have b9 := isW_t c1
    refine q_aload_n (pc := 17) K dX4_summer_17 rfl rfl ?_
    refine q_get (pc := 18) (o := 3) (f := 0) (v := .ref (gob G 0)) K (wO_x hG) vw_3 iwX4_summer_X4 (by decide) mX4_summer_f12 rfl dX4_summer_18 ?_
    refine q_get (pc := 21) (o := 0) (f := 12) (v := .int (rF σ (7 * 0 + 5))) K (wO_ch hG (show 0 < 3 by decide)) vw_0 iwX4_summer_X0 (by decide) mX4_summer_f145 rfl dX4_summer_21 ?_
    refine q_istore_n (pc := 24) (lv' := [some (.ref (gob G 3)), some (.int v1), some (.int (rF σ (7 * 0 + 5)))]) K dX4_summer_24 rfl (by decide) (Nat.le_of_ble_eq_true rfl) rfl ?_
    refine q_aload_n (pc := 25) K dX4_summer_25 rfl rfl ?_
    refine q_get (pc := 26) (o := 3) (f := 0) (v := .ref (gob G 0)) K (wO_x hG) vw_3 iwX4_summer_X4 (by decide) mX4_summer_f12 rfl dX4_summer_26 ?_
    refine q_iload_n (pc := 29) K dX4_summer_29 rfl rfl ?_
    refine q_put (pc := 30) (o := 0) (f := 12) (i := (7 * 0 + 5)) (ty := .int) K tyX0 tyX0_ok nmX0 (wO_ch hG (show 0 < 3 by decide)) vw_0 iwX4_summer_X0 (by decide) mX4_summer_f145 rfl (tyX0_ok 12 (by decide)) rfl rfl (Nat.le_of_ble_eq_true rfl) (wP_ch12 hG (show 0 < 3 by decide) _) dX4_summer_30 (fun s2 e3 => ?_)
    have hw4 : WD s2 := by rw [e3]; exact wdF hw (by have := (show 0 < 3 by decide); omega)
    refine q_iload_n (pc := 33) K dX4_summer_33 rfl rfl ?_
    exact q_iret K hr dX4_summer_34
  · have i10 := eqI c1
    have b11 := isW_f c1
    refine q_aload_n (pc := 10) K dX4_summer_10 rfl rfl ?_
    refine q_ldc (pc := 11) (v := (-1000001)) K dX4_summer_11 mX4_summer_c53 ?_
    refine q_callVi (pc := 13) (o := 3) (rm := rmX4_found) K (kX4_found l hN hG (-1000001) σ hw) gX4_summer_X4_found rfl hdV_X4_found ⟨Nat.le_of_ble_eq_true rfl, Nat.le_of_ble_eq_true rfl⟩ rfl rfl ⟨Nat.zero_le _, Nat.zero_le _⟩ (wO_x hG) vw_3 rfl rfl (Nat.le_of_ble_eq_true rfl) dX4_summer_13 ?_
    refine qq_nmI (fun r5 e6 => ?_)
    have hw7 : WD r5.2 := by rw [e6]; exact wX4_found (-1000001) hw 
    exact q_iret K hr dX4_summer_16
theorem hdV_X4_sun : yX4_sun.cls = RX4 ∧ yX4_sun.cls ≠ "java/lang/invoke/MethodHandle" ∧ yX4_sun.cls ≠ "java/lang/invoke/VarHandle" ∧ (parseMethodDescriptor yX4_sun.desc).map (fun d => d.parameters.length) = some 1 := by decide +kernel
theorem mX4_sun_c53 : Cond.constant RX4 53 (-1000001) ∈ wsX4_sun := List.mem_of_getElem? (i := 1) rfl
set_option maxRecDepth 100000 in
set_option maxHeartbeats 4000000 in
theorem kX4_sun (l : Launch) {G : gT} (hN : wN G) (hG : gfl G = true) (v1 : Int32) (σ : sg) (hw : WD σ) : cM l yX4_sun wsX4_sun rmX4_sun G [.ref (gob G 3), .int v1] σ (some (.int (fX4_sun v1 σ).1)) (fX4_sun v1 σ).2 := by
  refine cM_of (maxL := 2) (ret := (some .int)) (cc := cX4_sun) (fX4_sun v1 σ) RX4 hN (by decide +kernel) rfl rfl (Nat.le_of_ble_eq_true rfl) rfl ?_
  intro p e s m args below meth c K hr
  have km1000001 : ((-1000001) : Int32).toInt = -1000001 := rfl
  have k0 : (0 : Int32).toInt = 0 := rfl
  have k9999 : (9999 : Int32).toInt = 9999 := rfl
  refine qq_st (lv' := [some (.ref (gob G 3)), some (.int v1)]) rfl rfl rfl ?_
  refine qq_T (fX4_sun.eq_1 ..) ?_
  refine q_iload_n (pc := 0) K dX4_sun_0 rfl rfl ?_
  refine q_iconst (pc := 1) (v := 0) K dX4_sun_1 (by decide) ?_
  refine q_sipush (pc := 2) (v := 9999) K dX4_sun_2 (by decide) ?_
  refine q_callSi (pc := 5) (rm := rmX4_isWithin) K (kX4_isWithin l hN v1 0 9999 σ) gX4_sun_X4_isWithin rfl hdS_X4_isWithin ⟨Nat.le_of_ble_eq_true rfl, Nat.le_of_ble_eq_true rfl⟩ rfl rfl ⟨Nat.zero_le _, Nat.zero_le _⟩ rfl rfl (Nat.le_of_ble_eq_true rfl) dX4_sun_5 ?_
  refine q_if_eq (pc := 8) (tgt := 18) K dX4_sun_8 (by decide) (fun c1 => ?_) (fun c1 => ?_)
  · have i5 := eqI c1
    have b6 := isW_f c1
    refine q_aload_n (pc := 18) K dX4_sun_18 rfl rfl ?_
    refine q_ldc (pc := 19) (v := (-1000001)) K dX4_sun_19 mX4_sun_c53 ?_
    refine q_callVi (pc := 21) (o := 3) (rm := rmX4_found) K (kX4_found l hN hG (-1000001) σ hw) gX4_sun_X4_found rfl hdV_X4_found ⟨Nat.le_of_ble_eq_true rfl, Nat.le_of_ble_eq_true rfl⟩ rfl rfl ⟨Nat.zero_le _, Nat.zero_le _⟩ (wO_x hG) vw_3 rfl rfl (Nat.le_of_ble_eq_true rfl) dX4_sun_21 ?_
    refine qq_nmI (fun r2 e3 => ?_)
    have hw4 : WD r2.2 := by rw [e3]; exact wX4_found (-1000001) hw 
    exact q_iret K hr dX4_sun_24
  · have i7 := neI c1
    have b8 := isW_t c1
    refine q_iload_n (pc := 11) K dX4_sun_11 rfl rfl ?_
    refine q_callSi (pc := 12) (rm := rmX0_sunAt) K (kX0_sunAt l hN v1 σ) gX4_sun_X0_sunAt rfl hdS_X0_sunAt ⟨Nat.le_of_ble_eq_true rfl, Nat.le_of_ble_eq_true rfl⟩ rfl rfl ⟨Nat.zero_le _, Nat.zero_le _⟩ rfl rfl (Nat.le_of_ble_eq_true rfl) dX4_sun_12 ?_
    refine q_goto (pc := 15) (tgt := 24) K dX4_sun_15 (by decide) ?_
    exact q_iret K hr dX4_sun_24
theorem hdV_X4_heat : yX4_heat.cls = RX4 ∧ yX4_heat.cls ≠ "java/lang/invoke/MethodHandle" ∧ yX4_heat.cls ≠ "java/lang/invoke/VarHandle" ∧ (parseMethodDescriptor yX4_heat.desc).map (fun d => d.parameters.length) = some 2 := by decide +kernel
theorem mX4_heat_c53 : Cond.constant RX4 53 (-1000001) ∈ wsX4_heat := List.mem_of_getElem? (i := 1) rfl
theorem mX4_heat_f12 : Cond.fieldLink RX4 12 "WaxTreaties" "live" "LWaxTreaties$Chancery;" ∈ wsX4_heat := List.mem_of_getElem? (i := 2) rfl
theorem iwX4_heat_X4 : ∀ w ∈ wsX40, w ∈ wsX4_heat := fun w h => List.mem_cons_of_mem _ (List.mem_append_left _ (List.mem_append_right _ h))
set_option maxRecDepth 100000 in
set_option maxHeartbeats 4000000 in
theorem kX4_heat (l : Launch) {G : gT} (hN : wN G) (hG : gfl G = true) (v1 : Int32) (v2 : Int32) (σ : sg) (hw : WD σ) : cM l yX4_heat wsX4_heat rmX4_heat G [.ref (gob G 3), .int v1, .int v2] σ (some (.int (fX4_heat v1 v2 σ).1)) (fX4_heat v1 v2 σ).2 := by
  refine cM_of (maxL := 3) (ret := (some .int)) (cc := cX4_heat) (fX4_heat v1 v2 σ) RX4 hN (by decide +kernel) rfl rfl (Nat.le_of_ble_eq_true rfl) rfl ?_
  intro p e s m args below meth c K hr
  have km1000001 : ((-1000001) : Int32).toInt = -1000001 := rfl
  have k0 : (0 : Int32).toInt = 0 := rfl
  have k9999 : (9999 : Int32).toInt = 9999 := rfl
  refine qq_st (lv' := [some (.ref (gob G 3)), some (.int v1), some (.int v2)]) rfl rfl rfl ?_
  refine qq_T (fX4_heat.eq_1 ..) ?_
  refine q_iload_n (pc := 0) K dX4_heat_0 rfl rfl ?_
  refine q_callSi (pc := 1) (rm := rmX4_isShelf) K (kX4_isShelf l hN v1 σ) gX4_heat_X4_isShelf rfl hdS_X4_isShelf ⟨Nat.le_of_ble_eq_true rfl, Nat.le_of_ble_eq_true rfl⟩ rfl rfl ⟨Nat.zero_le _, Nat.zero_le _⟩ rfl rfl (Nat.le_of_ble_eq_true rfl) dX4_heat_1 ?_
  refine q_if_eq (pc := 4) (tgt := 18) K dX4_heat_4 (by decide) (fun c1 => ?_) (fun c1 => ?_)
  · have i13 := eqI c1
    refine q_aload_n (pc := 18) K dX4_heat_18 rfl rfl ?_
    refine q_ldc (pc := 19) (v := (-1000001)) K dX4_heat_19 mX4_heat_c53 ?_
    refine q_callVi (pc := 21) (o := 3) (rm := rmX4_found) K (kX4_found l hN hG (-1000001) σ hw) gX4_heat_X4_found rfl hdV_X4_found ⟨Nat.le_of_ble_eq_true rfl, Nat.le_of_ble_eq_true rfl⟩ rfl rfl ⟨Nat.zero_le _, Nat.zero_le _⟩ (wO_x hG) vw_3 rfl rfl (Nat.le_of_ble_eq_true rfl) dX4_heat_21 ?_
    refine qq_nmI (fun r2 e3 => ?_)
    have hw4 : WD r2.2 := by rw [e3]; exact wX4_found (-1000001) hw 
    exact q_iret K hr dX4_heat_24
  · have i14 := neI c1
    have b15 := isS_t c1
    refine q_iload_n (pc := 7) K dX4_heat_7 rfl rfl ?_
    refine q_iconst (pc := 8) (v := 0) K dX4_heat_8 (by decide) ?_
    refine q_sipush (pc := 9) (v := 9999) K dX4_heat_9 (by decide) ?_
    refine q_callSi (pc := 12) (rm := rmX4_isWithin) K (kX4_isWithin l hN v2 0 9999 σ) gX4_heat_X4_isWithin rfl hdS_X4_isWithin ⟨Nat.le_of_ble_eq_true rfl, Nat.le_of_ble_eq_true rfl⟩ rfl rfl ⟨Nat.zero_le _, Nat.zero_le _⟩ rfl rfl (Nat.le_of_ble_eq_true rfl) dX4_heat_12 ?_
    refine q_if_ne (pc := 15) (tgt := 25) K dX4_heat_15 (by decide) (fun c5 => ?_) (fun c5 => ?_)
    · have i9 := neI c5
      have b10 := isW_t c5
      refine q_aload_n (pc := 25) K dX4_heat_25 rfl rfl ?_
      refine q_get (pc := 26) (o := 3) (f := 0) (v := .ref (gob G 0)) K (wO_x hG) vw_3 iwX4_heat_X4 (by decide) mX4_heat_f12 rfl dX4_heat_26 ?_
      refine q_iload_n (pc := 29) K dX4_heat_29 rfl rfl ?_
      refine q_iload_n (pc := 30) K dX4_heat_30 rfl rfl ?_
      refine q_callVi (pc := 31) (o := 0) (rm := rmX0_heatOf) K (kX0_heatOf l hN hG 0 (show 0 < 3 by decide) v1 v2 σ hw (by omega)) gX4_heat_X0_heatOf rfl hdV_X0_heatOf ⟨Nat.le_of_ble_eq_true rfl, Nat.le_of_ble_eq_true rfl⟩ rfl rfl ⟨Nat.zero_le _, Nat.zero_le _⟩ (wO_ch hG (show 0 < 3 by decide)) vw_0 rfl rfl (Nat.le_of_ble_eq_true rfl) dX4_heat_31 ?_
      exact q_iret K hr dX4_heat_34
    · have i11 := eqI c5
      have b12 := isW_f c5
      refine q_aload_n (pc := 18) K dX4_heat_18 rfl rfl ?_
      refine q_ldc (pc := 19) (v := (-1000001)) K dX4_heat_19 mX4_heat_c53 ?_
      refine q_callVi (pc := 21) (o := 3) (rm := rmX4_found) K (kX4_found l hN hG (-1000001) σ hw) gX4_heat_X4_found rfl hdV_X4_found ⟨Nat.le_of_ble_eq_true rfl, Nat.le_of_ble_eq_true rfl⟩ rfl rfl ⟨Nat.zero_le _, Nat.zero_le _⟩ (wO_x hG) vw_3 rfl rfl (Nat.le_of_ble_eq_true rfl) dX4_heat_21 ?_
      refine qq_nmI (fun r6 e7 => ?_)
      have hw8 : WD r6.2 := by rw [e7]; exact wX4_found (-1000001) hw 
      exact q_iret K hr dX4_heat_24
theorem hdV_X4_lie : yX4_lie.cls = RX4 ∧ yX4_lie.cls ≠ "java/lang/invoke/MethodHandle" ∧ yX4_lie.cls ≠ "java/lang/invoke/VarHandle" ∧ (parseMethodDescriptor yX4_lie.desc).map (fun d => d.parameters.length) = some 1 := by decide +kernel
theorem mX4_lie_f12 : Cond.fieldLink RX4 12 "WaxTreaties" "live" "LWaxTreaties$Chancery;" ∈ wsX4_lie := List.mem_of_getElem? (i := 2) rfl
theorem iwX4_lie_X4 : ∀ w ∈ wsX40, w ∈ wsX4_lie := fun w h => List.mem_cons_of_mem _ (List.mem_append_left _ (List.mem_append_right _ h))
theorem mX4_lie_f151 : Cond.fieldLink RX4 151 "WaxTreaties$Chancery" "deeds" "I" ∈ wsX4_lie := List.mem_of_getElem? (i := 3) rfl
theorem iwX4_lie_X0 : ∀ w ∈ wsX00, w ∈ wsX4_lie := fun w h => List.mem_cons_of_mem _ (List.mem_append_right _ h)
theorem mX4_lie_f73 : Cond.fieldLink RX4 73 "WaxTreaties$Chancery" "shelf" "[I" ∈ wsX4_lie := List.mem_of_getElem? (i := 4) rfl
theorem mX4_lie_c53 : Cond.constant RX4 53 (-1000001) ∈ wsX4_lie := List.mem_of_getElem? (i := 1) rfl
set_option maxRecDepth 100000 in
set_option maxHeartbeats 4000000 in
theorem lX4_lie_18 {p : Program} (l : Launch) {e : Env} {s : State} {m : MethodId} {args : Array Value} {below : List Frame} {meth : Method} {c : Code} {Q : State → Prop} {G : gT} (hN : wN G) (hG : gfl G = true) (K : qK p s m args meth c cX4_lie 4 RX4 wsX4_lie G) : ∀ (k : Nat) (v1 v2 v3 : Int32) (σ : sg) (hw : WD σ) (hv3 : 0 ≤ v3.toInt ∧ v3.toInt ≤ 8) (hmu : (8 - v3.toInt).toNat < k) {ρ : Type} {E : ρ → Prop} {f : Int32 → ρ} (hk : ∀ r : Int32, qq p l e (headSpec wsX4_lie rmX4_lie).room s m args below meth c Q 4 G E (f r) 54 [none, none, some (.int r), none] [] σ), qq p l e (headSpec wsX4_lie rmX4_lie).room s m args below meth c Q 4 G E (bnd (LX4_lie_18 k v1 v2 v3 σ) f) 18 [some (.ref (gob G 3)), some (.int v1), some (.int v2), some (.int v3)] [] σ := by
  intro k
  induction k with
  | zero => intro v1 v2 v3 σ hw hv3 hmu ρ E f hk; exact absurd hmu (Nat.not_lt_zero _)
  | succ k ih =>
    intro v1 v2 v3 σ hw hv3 hmu ρ E f hk
    have k0 : (0 : Int32).toInt = 0 := rfl
    have k1 : (1 : Int32).toInt = 1 := rfl
    refine qq_in ?_
    refine qq_T (LX4_lie_18.eq_2 ..) ?_
    refine q_iload_n (pc := 18) K dX4_lie_18 rfl rfl ?_
    refine q_aload_n (pc := 19) K dX4_lie_19 rfl rfl ?_
    refine q_get (pc := 20) (o := 3) (f := 0) (v := .ref (gob G 0)) K (wO_x hG) vw_3 iwX4_lie_X4 (by decide) mX4_lie_f12 rfl dX4_lie_20 ?_
    refine q_get (pc := 23) (o := 0) (f := 8) (v := .int (rF σ (7 * 0 + 1))) K (wO_ch hG (show 0 < 3 by decide)) vw_0 iwX4_lie_X0 (by decide) mX4_lie_f151 rfl dX4_lie_23 ?_
    have w2 := wd_deeds hw (show 0 < 3 by decide)
    refine q_icmp_ge (pc := 26) (tgt := 54) K dX4_lie_26 (by decide) (fun c3 => ?_) (fun c3 => ?_)
    · have i10 := leI c3
      refine qq_drop 0 (lv' := [none, some (.int v1), some (.int v2), some (.int v3)]) rfl ?_
      refine qq_drop 1 (lv' := [none, none, some (.int v2), some (.int v3)]) rfl ?_
      refine qq_drop 3 (lv' := [none, none, some (.int v2), none]) rfl ?_
      exact qq_leaf (hk v2)
    · have i11 := nleI c3
      refine q_aload_n (pc := 29) K dX4_lie_29 rfl rfl ?_
      refine q_get (pc := 30) (o := 3) (f := 0) (v := .ref (gob G 0)) K (wO_x hG) vw_3 iwX4_lie_X4 (by decide) mX4_lie_f12 rfl dX4_lie_30 ?_
      refine q_get (pc := 33) (o := 0) (f := 1) (v := .ref (gad G (8 * 0 + 1))) K (wO_ch hG (show 0 < 3 by decide)) vw_0 iwX4_lie_X0 (by decide) mX4_lie_f73 rfl dX4_lie_33 ?_
      refine q_iload_n (pc := 36) K dX4_lie_36 rfl rfl ?_
      refine q_iald (pc := 37) (a := 8 * 0 + 1) K (by rw [wna_t hG]; have := (show 0 < 3 by decide); omega) (vinN (wlc1 hG (show 0 < 3 by decide)) (by omega) (by omega)) dX4_lie_37 ?_
      have w4 := wd_shelf hw (show 0 < 3 by decide) v3
      refine q_iload_n (pc := 38) K dX4_lie_38 rfl rfl ?_
      refine q_icmp_ne (pc := 39) (tgt := 48) K dX4_lie_39 (by decide) (fun c5 => ?_) (fun c5 => ?_)
      · have i8 := neI c5
        refine q_iinc (pc := 48) (v := (v3 + 1)) (lv' := [some (.ref (gob G 3)), some (.int v1), some (.int v2), some (.int (v3 + 1))]) K dX4_lie_48 rfl rfl (by decide) rfl ?_
        refine q_goto (pc := 51) (tgt := 18) K dX4_lie_51 (by decide) ?_
        have a6 := addI (x := v3) (y := 1) (by omega) (by omega)
        exact qq_out (ih v1 v2 (v3 + 1) σ hw (by omega) (by omega) hk)
      · have i9 := eqI c5
        refine q_iload_n (pc := 42) K dX4_lie_42 rfl rfl ?_
        refine q_iload_n (pc := 43) K dX4_lie_43 rfl rfl ?_
        refine q_callSi (pc := 44) (rm := rmX4_with) K (kX4_with l hN v2 v3 σ) gX4_lie_X4_with rfl hdS_X4_with ⟨Nat.le_of_ble_eq_true rfl, Nat.le_of_ble_eq_true rfl⟩ rfl rfl ⟨Nat.zero_le _, Nat.zero_le _⟩ rfl rfl (Nat.le_of_ble_eq_true rfl) dX4_lie_44 ?_
        refine q_istore_n (pc := 47) (lv' := [some (.ref (gob G 3)), some (.int v1), some (.int (fX4_with v2 v3)), some (.int v3)]) K dX4_lie_47 rfl (by decide) (Nat.le_of_ble_eq_true rfl) rfl ?_
        refine q_iinc (pc := 48) (v := (v3 + 1)) (lv' := [some (.ref (gob G 3)), some (.int v1), some (.int (fX4_with v2 v3)), some (.int (v3 + 1))]) K dX4_lie_48 rfl rfl (by decide) rfl ?_
        refine q_goto (pc := 51) (tgt := 18) K dX4_lie_51 (by decide) ?_
        have a7 := addI (x := v3) (y := 1) (by omega) (by omega)
        exact qq_out (ih v1 (fX4_with v2 v3) (v3 + 1) σ hw (by omega) (by omega) hk)
set_option maxRecDepth 100000 in
set_option maxHeartbeats 4000000 in
theorem kX4_lie (l : Launch) {G : gT} (hN : wN G) (hG : gfl G = true) (v1 : Int32) (σ : sg) (hw : WD σ) : cM l yX4_lie wsX4_lie rmX4_lie G [.ref (gob G 3), .int v1] σ (some (.int (fX4_lie v1 σ).1)) (fX4_lie v1 σ).2 := by
  refine cM_of (maxL := 4) (ret := (some .int)) (cc := cX4_lie) (fX4_lie v1 σ) RX4 hN (by decide +kernel) rfl rfl (Nat.le_of_ble_eq_true rfl) rfl ?_
  intro p e s m args below meth c K hr
  have km1000001 : ((-1000001) : Int32).toInt = -1000001 := rfl
  have k0 : (0 : Int32).toInt = 0 := rfl
  refine qq_st (lv' := [some (.ref (gob G 3)), some (.int v1), none, none]) rfl rfl rfl ?_
  refine qq_T (fX4_lie.eq_1 ..) ?_
  refine q_iload_n (pc := 0) K dX4_lie_0 rfl rfl ?_
  refine q_callSi (pc := 1) (rm := rmX4_isShelf) K (kX4_isShelf l hN v1 σ) gX4_lie_X4_isShelf rfl hdS_X4_isShelf ⟨Nat.le_of_ble_eq_true rfl, Nat.le_of_ble_eq_true rfl⟩ rfl rfl ⟨Nat.zero_le _, Nat.zero_le _⟩ rfl rfl (Nat.le_of_ble_eq_true rfl) dX4_lie_1 ?_
  refine q_if_ne (pc := 4) (tgt := 14) K dX4_lie_4 (by decide) (fun c1 => ?_) (fun c1 => ?_)
  · have i17 := neI c1
    have b18 := isS_t c1
    refine q_iconst (pc := 14) (v := 0) K dX4_lie_14 (by decide) ?_
    refine q_istore_n (pc := 15) (lv' := [some (.ref (gob G 3)), some (.int v1), some (.int 0), none]) K dX4_lie_15 rfl (by decide) (Nat.le_of_ble_eq_true rfl) rfl ?_
    refine q_iconst (pc := 16) (v := 0) K dX4_lie_16 (by decide) ?_
    refine q_istore_n (pc := 17) (lv' := [some (.ref (gob G 3)), some (.int v1), some (.int 0), some (.int 0)]) K dX4_lie_17 rfl (by decide) (Nat.le_of_ble_eq_true rfl) rfl ?_
    refine lX4_lie_18 l hN hG K 9 v1 0 0 σ hw (by omega) (by omega) (fun r12 => ?_)
    refine q_iload_n (pc := 54) K dX4_lie_54 rfl rfl ?_
    exact q_iret K hr dX4_lie_55
  · have i19 := eqI c1
    refine q_aload_n (pc := 7) K dX4_lie_7 rfl rfl ?_
    refine q_ldc (pc := 8) (v := (-1000001)) K dX4_lie_8 mX4_lie_c53 ?_
    refine q_callVi (pc := 10) (o := 3) (rm := rmX4_found) K (kX4_found l hN hG (-1000001) σ hw) gX4_lie_X4_found rfl hdV_X4_found ⟨Nat.le_of_ble_eq_true rfl, Nat.le_of_ble_eq_true rfl⟩ rfl rfl ⟨Nat.zero_le _, Nat.zero_le _⟩ (wO_x hG) vw_3 rfl rfl (Nat.le_of_ble_eq_true rfl) dX4_lie_10 ?_
    refine qq_nmI (fun r14 e15 => ?_)
    have hw16 : WD r14.2 := by rw [e15]; exact wX4_found (-1000001) hw 
    exact q_iret K hr dX4_lie_13
theorem hdV_X4_hours : yX4_hours.cls = RX4 ∧ yX4_hours.cls ≠ "java/lang/invoke/MethodHandle" ∧ yX4_hours.cls ≠ "java/lang/invoke/VarHandle" ∧ (parseMethodDescriptor yX4_hours.desc).map (fun d => d.parameters.length) = some 1 := by decide +kernel
theorem mX4_hours_f12 : Cond.fieldLink RX4 12 "WaxTreaties" "live" "LWaxTreaties$Chancery;" ∈ wsX4_hours := List.mem_of_getElem? (i := 1) rfl
theorem iwX4_hours_X4 : ∀ w ∈ wsX40, w ∈ wsX4_hours := fun w h => List.mem_cons_of_mem _ (List.mem_append_left _ (List.mem_append_right _ h))
set_option maxRecDepth 100000 in
set_option maxHeartbeats 4000000 in
theorem kX4_hours (l : Launch) {G : gT} (hN : wN G) (hG : gfl G = true) (v1 : Int32) (σ : sg) (hw : WD σ) : cM l yX4_hours wsX4_hours rmX4_hours G [.ref (gob G 3), .int v1] σ (some (.int (fX4_hours v1 σ).1)) (fX4_hours v1 σ).2 := by
  refine cM_of (maxL := 3) (ret := (some .int)) (cc := cX4_hours) (fX4_hours v1 σ) RX4 hN (by decide +kernel) rfl rfl (Nat.le_of_ble_eq_true rfl) rfl ?_
  intro p e s m args below meth c K hr
  have k0 : (0 : Int32).toInt = 0 := rfl
  have k100 : (100 : Int32).toInt = 100 := rfl
  refine qq_st (lv' := [some (.ref (gob G 3)), some (.int v1), none]) rfl rfl rfl ?_
  refine qq_T (fX4_hours.eq_1 ..) ?_
  refine q_aload_n (pc := 0) K dX4_hours_0 rfl rfl ?_
  refine q_iload_n (pc := 1) K dX4_hours_1 rfl rfl ?_
  refine q_bipush (pc := 2) (v := 100) K dX4_hours_2 (by decide) ?_
  refine q_callVi (pc := 4) (o := 3) (rm := rmX4_refusal) K (kX4_refusal l hN hG v1 100 σ hw) gX4_hours_X4_refusal rfl hdV_X4_refusal ⟨Nat.le_of_ble_eq_true rfl, Nat.le_of_ble_eq_true rfl⟩ rfl rfl ⟨Nat.zero_le _, Nat.zero_le _⟩ (wO_x hG) vw_3 rfl rfl (Nat.le_of_ble_eq_true rfl) dX4_hours_4 ?_
  refine q_istore_n (pc := 7) (lv' := [some (.ref (gob G 3)), some (.int v1), some (.int (fX4_refusal v1 100 σ))]) K dX4_hours_7 rfl (by decide) (Nat.le_of_ble_eq_true rfl) rfl ?_
  refine q_iload_n (pc := 8) K dX4_hours_8 rfl rfl ?_
  refine q_if_ne (pc := 9) (tgt := 23) K dX4_hours_9 (by decide) (fun c1 => ?_) (fun c1 => ?_)
  · have i8 := neI c1
    refine q_aload_n (pc := 23) K dX4_hours_23 rfl rfl ?_
    refine q_iload_n (pc := 24) K dX4_hours_24 rfl rfl ?_
    refine q_callVi (pc := 25) (o := 3) (rm := rmX4_found) K (kX4_found l hN hG (fX4_refusal v1 100 σ) σ hw) gX4_hours_X4_found rfl hdV_X4_found ⟨Nat.le_of_ble_eq_true rfl, Nat.le_of_ble_eq_true rfl⟩ rfl rfl ⟨Nat.zero_le _, Nat.zero_le _⟩ (wO_x hG) vw_3 rfl rfl (Nat.le_of_ble_eq_true rfl) dX4_hours_25 ?_
    refine qq_nmI (fun r2 e3 => ?_)
    have hw4 : WD r2.2 := by rw [e3]; exact wX4_found (fX4_refusal v1 100 σ) hw 
    exact q_iret K hr dX4_hours_28
  · have i9 := eqI c1
    have b10 := ref_f c1
    refine q_aload_n (pc := 12) K dX4_hours_12 rfl rfl ?_
    refine q_get (pc := 13) (o := 3) (f := 0) (v := .ref (gob G 0)) K (wO_x hG) vw_3 iwX4_hours_X4 (by decide) mX4_hours_f12 rfl dX4_hours_13 ?_
    refine q_iload_n (pc := 16) K dX4_hours_16 rfl rfl ?_
    refine q_callVi (pc := 17) (o := 0) (rm := rmX0_pass) K (kX0_pass l hN hG 0 (show 0 < 3 by decide) v1 σ hw (by omega)) gX4_hours_X0_pass rfl hdV_X0_pass ⟨Nat.le_of_ble_eq_true rfl, Nat.le_of_ble_eq_true rfl⟩ rfl rfl ⟨Nat.zero_le _, Nat.zero_le _⟩ (wO_ch hG (show 0 < 3 by decide)) vw_0 rfl rfl (Nat.le_of_ble_eq_true rfl) dX4_hours_17 ?_
    refine qq_nmI (fun r5 e6 => ?_)
    have hw7 : WD r5.2 := by rw [e6]; exact wX0_pass 0 (show 0 < 3 by decide) v1 hw (by omega)
    refine q_goto (pc := 20) (tgt := 28) K dX4_hours_20 (by decide) ?_
    exact q_iret K hr dX4_hours_28
theorem hdV_X4_now : yX4_now.cls = RX4 ∧ yX4_now.cls ≠ "java/lang/invoke/MethodHandle" ∧ yX4_now.cls ≠ "java/lang/invoke/VarHandle" ∧ (parseMethodDescriptor yX4_now.desc).map (fun d => d.parameters.length) = some 1 := by decide +kernel
theorem mX4_now_f12 : Cond.fieldLink RX4 12 "WaxTreaties" "live" "LWaxTreaties$Chancery;" ∈ wsX4_now := List.mem_of_getElem? (i := 1) rfl
theorem iwX4_now_X4 : ∀ w ∈ wsX40, w ∈ wsX4_now := fun w h => List.mem_cons_of_mem _ (List.mem_append_left _ (List.mem_append_right _ h))
theorem mX4_now_f95 : Cond.fieldLink RX4 95 "WaxTreaties$Chancery" "hour" "I" ∈ wsX4_now := List.mem_of_getElem? (i := 2) rfl
theorem iwX4_now_X0 : ∀ w ∈ wsX00, w ∈ wsX4_now := fun w h => List.mem_cons_of_mem _ (List.mem_append_right _ h)
theorem mX4_now_f119 : Cond.fieldLink RX4 119 "WaxTreaties$Chancery" "run" "I" ∈ wsX4_now := List.mem_of_getElem? (i := 3) rfl
theorem mX4_now_f145 : Cond.fieldLink RX4 145 "WaxTreaties$Chancery" "summer" "I" ∈ wsX4_now := List.mem_of_getElem? (i := 4) rfl
theorem mX4_now_c53 : Cond.constant RX4 53 (-1000001) ∈ wsX4_now := List.mem_of_getElem? (i := 5) rfl
set_option maxRecDepth 100000 in
set_option maxHeartbeats 4000000 in
theorem kX4_now (l : Launch) {G : gT} (hN : wN G) (hG : gfl G = true) (v1 : Int32) (σ : sg) (hw : WD σ) : cM l yX4_now wsX4_now rmX4_now G [.ref (gob G 3), .int v1] σ (some (.int (fX4_now v1 σ).1)) (fX4_now v1 σ).2 := by
  refine cM_of (maxL := 2) (ret := (some .int)) (cc := cX4_now) (fX4_now v1 σ) RX4 hN (by decide +kernel) rfl rfl (Nat.le_of_ble_eq_true rfl) rfl ?_
  intro p e s m args below meth c K hr
  have km1000001 : ((-1000001) : Int32).toInt = -1000001 := rfl
  have k0 : (0 : Int32).toInt = 0 := rfl
  have k1 : (1 : Int32).toInt = 1 := rfl
  have k2 : (2 : Int32).toInt = 2 := rfl
  have k3 : (3 : Int32).toInt = 3 := rfl
  have k4 : (4 : Int32).toInt = 4 := rfl
  have k5 : (5 : Int32).toInt = 5 := rfl
  have k6 : (6 : Int32).toInt = 6 := rfl
  refine qq_st (lv' := [some (.ref (gob G 3)), some (.int v1)]) rfl rfl rfl ?_
  refine qq_T (fX4_now.eq_1 ..) ?_
  refine q_iload_n (pc := 0) K dX4_now_0 rfl rfl ?_
  refine q_case (v := 0) (fun c1 => ?_) (fun c1 => ?_)
  · have i23 := eqI c1
    refine q_tableIn (pc := 1) (tgt := 44) K dX4_now_1 c1 (by decide) (by decide) rfl (by decide) ?_
    refine q_aload_n (pc := 44) K dX4_now_44 rfl rfl ?_
    refine q_get (pc := 45) (o := 3) (f := 0) (v := .ref (gob G 0)) K (wO_x hG) vw_3 iwX4_now_X4 (by decide) mX4_now_f12 rfl dX4_now_45 ?_
    refine q_get (pc := 48) (o := 0) (f := 11) (v := .int (rF σ (7 * 0 + 4))) K (wO_ch hG (show 0 < 3 by decide)) vw_0 iwX4_now_X0 (by decide) mX4_now_f95 rfl dX4_now_48 ?_
    exact q_iret K hr dX4_now_51
  · have i24 := neI c1
    refine q_case (v := 1) (fun c2 => ?_) (fun c2 => ?_)
    · have i21 := eqI c2
      refine q_tableIn (pc := 1) (tgt := 52) K dX4_now_1 c2 (by decide) (by decide) rfl (by decide) ?_
      refine q_aload_n (pc := 52) K dX4_now_52 rfl rfl ?_
      refine q_get (pc := 53) (o := 3) (f := 0) (v := .ref (gob G 0)) K (wO_x hG) vw_3 iwX4_now_X4 (by decide) mX4_now_f12 rfl dX4_now_53 ?_
      refine q_aload_n (pc := 56) K dX4_now_56 rfl rfl ?_
      refine q_get (pc := 57) (o := 3) (f := 0) (v := .ref (gob G 0)) K (wO_x hG) vw_3 iwX4_now_X4 (by decide) mX4_now_f12 rfl dX4_now_57 ?_
      refine q_get (pc := 60) (o := 0) (f := 7) (v := .int (rF σ (7 * 0))) K (wO_ch hG (show 0 < 3 by decide)) vw_0 iwX4_now_X0 (by decide) mX4_now_f119 rfl dX4_now_60 ?_
      refine q_callVi (pc := 63) (o := 0) (rm := rmX0_peaces) K (kX0_peaces l hN hG 0 (show 0 < 3 by decide) (rF σ (7 * 0)) σ hw) gX4_now_X0_peaces rfl hdV_X0_peaces ⟨Nat.le_of_ble_eq_true rfl, Nat.le_of_ble_eq_true rfl⟩ rfl rfl ⟨Nat.zero_le _, Nat.zero_le _⟩ (wO_ch hG (show 0 < 3 by decide)) vw_0 rfl rfl (Nat.le_of_ble_eq_true rfl) dX4_now_63 ?_
      exact q_iret K hr dX4_now_66
    · have i22 := neI c2
      refine q_case (v := 2) (fun c3 => ?_) (fun c3 => ?_)
      · have i19 := eqI c3
        refine q_tableIn (pc := 1) (tgt := 67) K dX4_now_1 c3 (by decide) (by decide) rfl (by decide) ?_
        refine q_aload_n (pc := 67) K dX4_now_67 rfl rfl ?_
        refine q_get (pc := 68) (o := 3) (f := 0) (v := .ref (gob G 0)) K (wO_x hG) vw_3 iwX4_now_X4 (by decide) mX4_now_f12 rfl dX4_now_68 ?_
        refine q_get (pc := 71) (o := 0) (f := 7) (v := .int (rF σ (7 * 0))) K (wO_ch hG (show 0 < 3 by decide)) vw_0 iwX4_now_X0 (by decide) mX4_now_f119 rfl dX4_now_71 ?_
        exact q_iret K hr dX4_now_74
      · have i20 := neI c3
        refine q_case (v := 3) (fun c4 => ?_) (fun c4 => ?_)
        · have i17 := eqI c4
          refine q_tableIn (pc := 1) (tgt := 75) K dX4_now_1 c4 (by decide) (by decide) rfl (by decide) ?_
          refine q_aload_n (pc := 75) K dX4_now_75 rfl rfl ?_
          refine q_get (pc := 76) (o := 3) (f := 0) (v := .ref (gob G 0)) K (wO_x hG) vw_3 iwX4_now_X4 (by decide) mX4_now_f12 rfl dX4_now_76 ?_
          refine q_callVi (pc := 79) (o := 0) (rm := rmX0_softOfAll) K (kX0_softOfAll l hN hG 0 (show 0 < 3 by decide) σ hw) gX4_now_X0_softOfAll rfl hdV_X0_softOfAll ⟨Nat.le_of_ble_eq_true rfl, Nat.le_of_ble_eq_true rfl⟩ rfl rfl ⟨Nat.zero_le _, Nat.zero_le _⟩ (wO_ch hG (show 0 < 3 by decide)) vw_0 rfl rfl (Nat.le_of_ble_eq_true rfl) dX4_now_79 ?_
          exact q_iret K hr dX4_now_82
        · have i18 := neI c4
          refine q_case (v := 4) (fun c5 => ?_) (fun c5 => ?_)
          · have i15 := eqI c5
            refine q_tableIn (pc := 1) (tgt := 83) K dX4_now_1 c5 (by decide) (by decide) rfl (by decide) ?_
            refine q_aload_n (pc := 83) K dX4_now_83 rfl rfl ?_
            refine q_get (pc := 84) (o := 3) (f := 0) (v := .ref (gob G 0)) K (wO_x hG) vw_3 iwX4_now_X4 (by decide) mX4_now_f12 rfl dX4_now_84 ?_
            refine q_callVi (pc := 87) (o := 0) (rm := rmX0_iceOfAll) K (kX0_iceOfAll l hN hG 0 (show 0 < 3 by decide) σ hw) gX4_now_X0_iceOfAll rfl hdV_X0_iceOfAll ⟨Nat.le_of_ble_eq_true rfl, Nat.le_of_ble_eq_true rfl⟩ rfl rfl ⟨Nat.zero_le _, Nat.zero_le _⟩ (wO_ch hG (show 0 < 3 by decide)) vw_0 rfl rfl (Nat.le_of_ble_eq_true rfl) dX4_now_87 ?_
            exact q_iret K hr dX4_now_90
          · have i16 := neI c5
            refine q_case (v := 5) (fun c6 => ?_) (fun c6 => ?_)
            · have i13 := eqI c6
              refine q_tableIn (pc := 1) (tgt := 91) K dX4_now_1 c6 (by decide) (by decide) rfl (by decide) ?_
              refine q_aload_n (pc := 91) K dX4_now_91 rfl rfl ?_
              refine q_get (pc := 92) (o := 3) (f := 0) (v := .ref (gob G 0)) K (wO_x hG) vw_3 iwX4_now_X4 (by decide) mX4_now_f12 rfl dX4_now_92 ?_
              refine q_callVi (pc := 95) (o := 0) (rm := rmX0_hottest) K (kX0_hottest l hN hG 0 (show 0 < 3 by decide) σ hw) gX4_now_X0_hottest rfl hdV_X0_hottest ⟨Nat.le_of_ble_eq_true rfl, Nat.le_of_ble_eq_true rfl⟩ rfl rfl ⟨Nat.zero_le _, Nat.zero_le _⟩ (wO_ch hG (show 0 < 3 by decide)) vw_0 rfl rfl (Nat.le_of_ble_eq_true rfl) dX4_now_95 ?_
              exact q_iret K hr dX4_now_98
            · have i14 := neI c6
              refine q_case (v := 6) (fun c7 => ?_) (fun c7 => ?_)
              · have i11 := eqI c7
                refine q_tableIn (pc := 1) (tgt := 99) K dX4_now_1 c7 (by decide) (by decide) rfl (by decide) ?_
                refine q_aload_n (pc := 99) K dX4_now_99 rfl rfl ?_
                refine q_get (pc := 100) (o := 3) (f := 0) (v := .ref (gob G 0)) K (wO_x hG) vw_3 iwX4_now_X4 (by decide) mX4_now_f12 rfl dX4_now_100 ?_
                refine q_get (pc := 103) (o := 0) (f := 12) (v := .int (rF σ (7 * 0 + 5))) K (wO_ch hG (show 0 < 3 by decide)) vw_0 iwX4_now_X0 (by decide) mX4_now_f145 rfl dX4_now_103 ?_
                exact q_iret K hr dX4_now_106
              · have i12 := neI c7
                refine q_tableOut (pc := 1) (tgt := 107) K dX4_now_1 (by omega) (by decide) ?_
                refine q_aload_n (pc := 107) K dX4_now_107 rfl rfl ?_
                refine q_ldc (pc := 108) (v := (-1000001)) K dX4_now_108 mX4_now_c53 ?_
                refine q_callVi (pc := 110) (o := 3) (rm := rmX4_found) K (kX4_found l hN hG (-1000001) σ hw) gX4_now_X4_found rfl hdV_X4_found ⟨Nat.le_of_ble_eq_true rfl, Nat.le_of_ble_eq_true rfl⟩ rfl rfl ⟨Nat.zero_le _, Nat.zero_le _⟩ (wO_x hG) vw_3 rfl rfl (Nat.le_of_ble_eq_true rfl) dX4_now_110 ?_
                refine qq_nmI (fun r8 e9 => ?_)
                have hw10 : WD r8.2 := by rw [e9]; exact wX4_found (-1000001) hw 
                exact q_iret K hr dX4_now_113
theorem hdV_X4_ahead : yX4_ahead.cls = RX4 ∧ yX4_ahead.cls ≠ "java/lang/invoke/MethodHandle" ∧ yX4_ahead.cls ≠ "java/lang/invoke/VarHandle" ∧ (parseMethodDescriptor yX4_ahead.desc).map (fun d => d.parameters.length) = some 2 := by decide +kernel
theorem mX4_ahead_c53 : Cond.constant RX4 53 (-1000001) ∈ wsX4_ahead := List.mem_of_getElem? (i := 3) rfl
theorem mX4_ahead_f12 : Cond.fieldLink RX4 12 "WaxTreaties" "live" "LWaxTreaties$Chancery;" ∈ wsX4_ahead := List.mem_of_getElem? (i := 1) rfl
theorem iwX4_ahead_X4 : ∀ w ∈ wsX40, w ∈ wsX4_ahead := fun w h => List.mem_cons_of_mem _ (List.mem_append_left _ (List.mem_append_right _ h))
theorem mX4_ahead_f151 : Cond.fieldLink RX4 151 "WaxTreaties$Chancery" "deeds" "I" ∈ wsX4_ahead := List.mem_of_getElem? (i := 2) rfl
theorem iwX4_ahead_X0 : ∀ w ∈ wsX00, w ∈ wsX4_ahead := fun w h => List.mem_cons_of_mem _ (List.mem_append_right _ h)
theorem mX4_ahead_f16 : Cond.fieldLink RX4 16 "WaxTreaties" "trial" "LWaxTreaties$Chancery;" ∈ wsX4_ahead := List.mem_of_getElem? (i := 5) rfl
theorem mX4_ahead_f119 : Cond.fieldLink RX4 119 "WaxTreaties$Chancery" "run" "I" ∈ wsX4_ahead := List.mem_of_getElem? (i := 6) rfl
theorem mX4_ahead_f79 : Cond.fieldLink RX4 79 "WaxTreaties$Chancery" "soft" "[I" ∈ wsX4_ahead := List.mem_of_getElem? (i := 7) rfl
theorem mX4_ahead_c179 : Cond.constant RX4 179 (-1000005) ∈ wsX4_ahead := List.mem_of_getElem? (i := 4) rfl
set_option maxRecDepth 100000 in
set_option maxHeartbeats 4000000 in
theorem kX4_ahead (l : Launch) {G : gT} (hN : wN G) (hG : gfl G = true) (v1 : Int32) (v2 : Int32) (σ : sg) (hw : WD σ) : cM l yX4_ahead wsX4_ahead rmX4_ahead G [.ref (gob G 3), .int v1, .int v2] σ (some (.int (fX4_ahead v1 v2 σ).1)) (fX4_ahead v1 v2 σ).2 := by
  refine cM_of (maxL := 3) (ret := (some .int)) (cc := cX4_ahead) (fX4_ahead v1 v2 σ) RX4 hN (by decide +kernel) rfl rfl (Nat.le_of_ble_eq_true rfl) rfl ?_
  intro p e s m args below meth c K hr
  have km1000005 : ((-1000005) : Int32).toInt = -1000005 := rfl
  have km1000001 : ((-1000001) : Int32).toInt = -1000001 := rfl
  have k0 : (0 : Int32).toInt = 0 := rfl
  have k1 : (1 : Int32).toInt = 1 := rfl
  have k2 : (2 : Int32).toInt = 2 := rfl
  have k3 : (3 : Int32).toInt = 3 := rfl
  have k100 : (100 : Int32).toInt = 100 := rfl
  refine qq_st (lv' := [some (.ref (gob G 3)), some (.int v1), some (.int v2)]) rfl rfl rfl ?_
  refine qq_T (fX4_ahead.eq_1 ..) ?_
  refine q_iload_n (pc := 0) K dX4_ahead_0 rfl rfl ?_
  refine q_iconst (pc := 1) (v := 0) K dX4_ahead_1 (by decide) ?_
  refine q_bipush (pc := 2) (v := 100) K dX4_ahead_2 (by decide) ?_
  refine q_callSi (pc := 4) (rm := rmX4_isWithin) K (kX4_isWithin l hN v1 0 100 σ) gX4_ahead_X4_isWithin rfl hdS_X4_isWithin ⟨Nat.le_of_ble_eq_true rfl, Nat.le_of_ble_eq_true rfl⟩ rfl rfl ⟨Nat.zero_le _, Nat.zero_le _⟩ rfl rfl (Nat.le_of_ble_eq_true rfl) dX4_ahead_4 ?_
  refine q_if_eq (pc := 7) (tgt := 27) K dX4_ahead_7 (by decide) (fun c1 => ?_) (fun c1 => ?_)
  · have i37 := eqI c1
    have b38 := isW_f c1
    refine q_aload_n (pc := 27) K dX4_ahead_27 rfl rfl ?_
    refine q_ldc (pc := 28) (v := (-1000001)) K dX4_ahead_28 mX4_ahead_c53 ?_
    refine q_callVi (pc := 30) (o := 3) (rm := rmX4_found) K (kX4_found l hN hG (-1000001) σ hw) gX4_ahead_X4_found rfl hdV_X4_found ⟨Nat.le_of_ble_eq_true rfl, Nat.le_of_ble_eq_true rfl⟩ rfl rfl ⟨Nat.zero_le _, Nat.zero_le _⟩ (wO_x hG) vw_3 rfl rfl (Nat.le_of_ble_eq_true rfl) dX4_ahead_30 ?_
    refine qq_nmI (fun r2 e3 => ?_)
    have hw4 : WD r2.2 := by rw [e3]; exact wX4_found (-1000001) hw 
    exact q_iret K hr dX4_ahead_33
  · have i39 := neI c1
    have b40 := isW_t c1
    refine q_iload_n (pc := 10) K dX4_ahead_10 rfl rfl ?_
    refine q_iconst (pc := 11) (v := 0) K dX4_ahead_11 (by decide) ?_
    refine q_iconst (pc := 12) (v := 2) K dX4_ahead_12 (by decide) ?_
    refine q_aload_n (pc := 13) K dX4_ahead_13 rfl rfl ?_
    refine q_get (pc := 14) (o := 3) (f := 0) (v := .ref (gob G 0)) K (wO_x hG) vw_3 iwX4_ahead_X4 (by decide) mX4_ahead_f12 rfl dX4_ahead_14 ?_
    refine q_get (pc := 17) (o := 0) (f := 8) (v := .int (rF σ (7 * 0 + 1))) K (wO_ch hG (show 0 < 3 by decide)) vw_0 iwX4_ahead_X0 (by decide) mX4_ahead_f151 rfl dX4_ahead_17 ?_
    have w5 := wd_deeds hw (show 0 < 3 by decide)
    refine q_iadd (pc := 20) K dX4_ahead_20 ?_
    have a6 := addI (x := 2) (y := (rF σ (7 * 0 + 1))) (by omega) (by omega)
    refine q_callSi (pc := 21) (rm := rmX4_isWithin) K (kX4_isWithin l hN v2 0 (2 + (rF σ (7 * 0 + 1))) σ) gX4_ahead_X4_isWithin rfl hdS_X4_isWithin ⟨Nat.le_of_ble_eq_true rfl, Nat.le_of_ble_eq_true rfl⟩ rfl rfl ⟨Nat.zero_le _, Nat.zero_le _⟩ rfl rfl (Nat.le_of_ble_eq_true rfl) dX4_ahead_21 ?_
    refine q_if_ne (pc := 24) (tgt := 34) K dX4_ahead_24 (by decide) (fun c7 => ?_) (fun c7 => ?_)
    · have i33 := neI c7
      have b34 := isW_t c7
      refine q_aload_n (pc := 34) K dX4_ahead_34 rfl rfl ?_
      refine q_iload_n (pc := 35) K dX4_ahead_35 rfl rfl ?_
      refine q_callVi (pc := 36) (o := 3) (rm := rmX4_isTooLate) K (kX4_isTooLate l hN hG v1 σ hw) gX4_ahead_X4_isTooLate rfl hdV_X4_isTooLate ⟨Nat.le_of_ble_eq_true rfl, Nat.le_of_ble_eq_true rfl⟩ rfl rfl ⟨Nat.zero_le _, Nat.zero_le _⟩ (wO_x hG) vw_3 rfl rfl (Nat.le_of_ble_eq_true rfl) dX4_ahead_36 ?_
      refine q_if_eq (pc := 39) (tgt := 49) K dX4_ahead_39 (by decide) (fun c8 => ?_) (fun c8 => ?_)
      · have i28 := eqI c8
        refine q_aload_n (pc := 49) K dX4_ahead_49 rfl rfl ?_
        refine q_get (pc := 50) (o := 3) (f := 1) (v := .ref (gob G 1)) K (wO_x hG) vw_3 iwX4_ahead_X4 (by decide) mX4_ahead_f16 rfl dX4_ahead_50 ?_
        refine q_aload_n (pc := 53) K dX4_ahead_53 rfl rfl ?_
        refine q_get (pc := 54) (o := 3) (f := 0) (v := .ref (gob G 0)) K (wO_x hG) vw_3 iwX4_ahead_X4 (by decide) mX4_ahead_f12 rfl dX4_ahead_54 ?_
        refine q_callVv (pc := 57) (o := 1) (rm := rmX0_take) K (kX0_take l hN hG 1 (show 1 < 3 by decide) 0 (show 0 < 3 by decide) σ hw) gX4_ahead_X0_take rfl hdV_X0_take ⟨Nat.le_of_ble_eq_true rfl, Nat.le_of_ble_eq_true rfl⟩ rfl rfl ⟨Nat.zero_le _, Nat.zero_le _⟩ (wO_ch hG (show 1 < 3 by decide)) vw_0 rfl rfl (Nat.le_of_ble_eq_true rfl) dX4_ahead_57 ?_
        refine qq_nmV (fun r9 e10 => ?_)
        have hw11 : WD r9 := by rw [e10]; exact wX0_take 1 (show 1 < 3 by decide) 0 (show 0 < 3 by decide) hw 
        refine q_aload_n (pc := 60) K dX4_ahead_60 rfl rfl ?_
        refine q_get (pc := 61) (o := 3) (f := 1) (v := .ref (gob G 1)) K (wO_x hG) vw_3 iwX4_ahead_X4 (by decide) mX4_ahead_f16 rfl dX4_ahead_61 ?_
        refine q_iload_n (pc := 64) K dX4_ahead_64 rfl rfl ?_
        refine q_callVi (pc := 65) (o := 1) (rm := rmX0_pass) K (kX0_pass l hN hG 1 (show 1 < 3 by decide) v1 r9 hw11 (by omega)) gX4_ahead_X0_pass rfl hdV_X0_pass ⟨Nat.le_of_ble_eq_true rfl, Nat.le_of_ble_eq_true rfl⟩ rfl rfl ⟨Nat.zero_le _, Nat.zero_le _⟩ (wO_ch hG (show 1 < 3 by decide)) vw_0 rfl rfl (Nat.le_of_ble_eq_true rfl) dX4_ahead_65 ?_
        refine qq_nmI (fun r12 e13 => ?_)
        have hw14 : WD r12.2 := by rw [e13]; exact wX0_pass 1 (show 1 < 3 by decide) v1 hw11 (by omega)
        refine q_pop (pc := 68) K dX4_ahead_68 rfl ?_
        refine q_iload_n (pc := 69) K dX4_ahead_69 rfl rfl ?_
        refine q_case (v := 0) (fun c15 => ?_) (fun c15 => ?_)
        · have i23 := eqI c15
          refine q_tableIn (pc := 70) (tgt := 96) K dX4_ahead_70 c15 (by decide) (by decide) rfl (by decide) ?_
          refine q_aload_n (pc := 96) K dX4_ahead_96 rfl rfl ?_
          refine q_get (pc := 97) (o := 3) (f := 1) (v := .ref (gob G 1)) K (wO_x hG) vw_3 iwX4_ahead_X4 (by decide) mX4_ahead_f16 rfl dX4_ahead_97 ?_
          refine q_aload_n (pc := 100) K dX4_ahead_100 rfl rfl ?_
          refine q_get (pc := 101) (o := 3) (f := 1) (v := .ref (gob G 1)) K (wO_x hG) vw_3 iwX4_ahead_X4 (by decide) mX4_ahead_f16 rfl dX4_ahead_101 ?_
          refine q_get (pc := 104) (o := 1) (f := 7) (v := .int (rF r12.2 (7 * 1))) K (wO_ch hG (show 1 < 3 by decide)) vw_0 iwX4_ahead_X0 (by decide) mX4_ahead_f119 rfl dX4_ahead_104 ?_
          refine q_callVi (pc := 107) (o := 1) (rm := rmX0_peaces) K (kX0_peaces l hN hG 1 (show 1 < 3 by decide) (rF r12.2 (7 * 1)) r12.2 hw14) gX4_ahead_X0_peaces rfl hdV_X0_peaces ⟨Nat.le_of_ble_eq_true rfl, Nat.le_of_ble_eq_true rfl⟩ rfl rfl ⟨Nat.zero_le _, Nat.zero_le _⟩ (wO_ch hG (show 1 < 3 by decide)) vw_0 rfl rfl (Nat.le_of_ble_eq_true rfl) dX4_ahead_107 ?_
          exact q_iret K hr dX4_ahead_110
        · have i24 := neI c15
          refine q_case (v := 1) (fun c16 => ?_) (fun c16 => ?_)
          · have i21 := eqI c16
            refine q_tableIn (pc := 70) (tgt := 111) K dX4_ahead_70 c16 (by decide) (by decide) rfl (by decide) ?_
            refine q_aload_n (pc := 111) K dX4_ahead_111 rfl rfl ?_
            refine q_get (pc := 112) (o := 3) (f := 1) (v := .ref (gob G 1)) K (wO_x hG) vw_3 iwX4_ahead_X4 (by decide) mX4_ahead_f16 rfl dX4_ahead_112 ?_
            refine q_get (pc := 115) (o := 1) (f := 7) (v := .int (rF r12.2 (7 * 1))) K (wO_ch hG (show 1 < 3 by decide)) vw_0 iwX4_ahead_X0 (by decide) mX4_ahead_f119 rfl dX4_ahead_115 ?_
            exact q_iret K hr dX4_ahead_118
          · have i22 := neI c16
            refine q_case (v := 2) (fun c17 => ?_) (fun c17 => ?_)
            · have i19 := eqI c17
              refine q_tableIn (pc := 70) (tgt := 119) K dX4_ahead_70 c17 (by decide) (by decide) rfl (by decide) ?_
              refine q_aload_n (pc := 119) K dX4_ahead_119 rfl rfl ?_
              refine q_get (pc := 120) (o := 3) (f := 1) (v := .ref (gob G 1)) K (wO_x hG) vw_3 iwX4_ahead_X4 (by decide) mX4_ahead_f16 rfl dX4_ahead_120 ?_
              refine q_callVi (pc := 123) (o := 1) (rm := rmX0_iceOfAll) K (kX0_iceOfAll l hN hG 1 (show 1 < 3 by decide) r12.2 hw14) gX4_ahead_X0_iceOfAll rfl hdV_X0_iceOfAll ⟨Nat.le_of_ble_eq_true rfl, Nat.le_of_ble_eq_true rfl⟩ rfl rfl ⟨Nat.zero_le _, Nat.zero_le _⟩ (wO_ch hG (show 1 < 3 by decide)) vw_0 rfl rfl (Nat.le_of_ble_eq_true rfl) dX4_ahead_123 ?_
              exact q_iret K hr dX4_ahead_126
            · have i20 := neI c17
              refine q_tableOut (pc := 70) (tgt := 127) K dX4_ahead_70 (by omega) (by decide) ?_
              refine q_aload_n (pc := 127) K dX4_ahead_127 rfl rfl ?_
              refine q_get (pc := 128) (o := 3) (f := 1) (v := .ref (gob G 1)) K (wO_x hG) vw_3 iwX4_ahead_X4 (by decide) mX4_ahead_f16 rfl dX4_ahead_128 ?_
              refine q_get (pc := 131) (o := 1) (f := 3) (v := .ref (gad G (8 * 1 + 3))) K (wO_ch hG (show 1 < 3 by decide)) vw_0 iwX4_ahead_X0 (by decide) mX4_ahead_f79 rfl dX4_ahead_131 ?_
              refine q_iload_n (pc := 134) K dX4_ahead_134 rfl rfl ?_
              refine q_iconst (pc := 135) (v := 3) K dX4_ahead_135 (by decide) ?_
              refine q_isub (pc := 136) K dX4_ahead_136 ?_
              have a18 := subI (x := v2) (y := 3) (by omega) (by omega)
              refine q_iald (pc := 137) (a := 8 * 1 + 3) K (by rw [wna_t hG]; have := (show 1 < 3 by decide); omega) (vinN (wlc3 hG (show 1 < 3 by decide)) (by omega) (by omega)) dX4_ahead_137 ?_
              exact q_iret K hr dX4_ahead_138
      · have i29 := neI c8
        refine q_aload_n (pc := 42) K dX4_ahead_42 rfl rfl ?_
        refine q_ldc (pc := 43) (v := (-1000005)) K dX4_ahead_43 mX4_ahead_c179 ?_
        refine q_callVi (pc := 45) (o := 3) (rm := rmX4_found) K (kX4_found l hN hG (-1000005) σ hw) gX4_ahead_X4_found rfl hdV_X4_found ⟨Nat.le_of_ble_eq_true rfl, Nat.le_of_ble_eq_true rfl⟩ rfl rfl ⟨Nat.zero_le _, Nat.zero_le _⟩ (wO_x hG) vw_3 rfl rfl (Nat.le_of_ble_eq_true rfl) dX4_ahead_45 ?_
        refine qq_nmI (fun r25 e26 => ?_)
        have hw27 : WD r25.2 := by rw [e26]; exact wX4_found (-1000005) hw 
        exact q_iret K hr dX4_ahead_48
    · have i35 := eqI c7
      have b36 := isW_f c7
      refine q_aload_n (pc := 27) K dX4_ahead_27 rfl rfl ?_
      refine q_ldc (pc := 28) (v := (-1000001)) K dX4_ahead_28 mX4_ahead_c53 ?_
      refine q_callVi (pc := 30) (o := 3) (rm := rmX4_found) K (kX4_found l hN hG (-1000001) σ hw) gX4_ahead_X4_found rfl hdV_X4_found ⟨Nat.le_of_ble_eq_true rfl, Nat.le_of_ble_eq_true rfl⟩ rfl rfl ⟨Nat.zero_le _, Nat.zero_le _⟩ (wO_x hG) vw_3 rfl rfl (Nat.le_of_ble_eq_true rfl) dX4_ahead_30 ?_
      refine qq_nmI (fun r30 e31 => ?_)
      have hw32 : WD r30.2 := by rw [e31]; exact wX4_found (-1000001) hw 
      exact q_iret K hr dX4_ahead_33
theorem hdV_X4_ends : yX4_ends.cls = RX4 ∧ yX4_ends.cls ≠ "java/lang/invoke/MethodHandle" ∧ yX4_ends.cls ≠ "java/lang/invoke/VarHandle" ∧ (parseMethodDescriptor yX4_ends.desc).map (fun d => d.parameters.length) = some 1 := by decide +kernel
theorem mX4_ends_f16 : Cond.fieldLink RX4 16 "WaxTreaties" "trial" "LWaxTreaties$Chancery;" ∈ wsX4_ends := List.mem_of_getElem? (i := 1) rfl
theorem iwX4_ends_X4 : ∀ w ∈ wsX40, w ∈ wsX4_ends := fun w h => List.mem_cons_of_mem _ (List.mem_append_left _ (List.mem_append_right _ h))
theorem mX4_ends_f12 : Cond.fieldLink RX4 12 "WaxTreaties" "live" "LWaxTreaties$Chancery;" ∈ wsX4_ends := List.mem_of_getElem? (i := 2) rfl
theorem mX4_ends_c190 : Cond.constant RX4 190 (-1000004) ∈ wsX4_ends := List.mem_of_getElem? (i := 3) rfl
set_option maxRecDepth 100000 in
set_option maxHeartbeats 4000000 in
theorem kX4_ends (l : Launch) {G : gT} (hN : wN G) (hG : gfl G = true) (v1 : Int32) (σ : sg) (hw : WD σ) : cM l yX4_ends wsX4_ends rmX4_ends G [.ref (gob G 3), .int v1] σ (some (.int (fX4_ends v1 σ).1)) (fX4_ends v1 σ).2 := by
  refine cM_of (maxL := 4) (ret := (some .int)) (cc := cX4_ends) (fX4_ends v1 σ) RX4 hN (by decide +kernel) rfl rfl (Nat.le_of_ble_eq_true rfl) rfl ?_
  intro p e s m args below meth c K hr
  have km1000004 : ((-1000004) : Int32).toInt = -1000004 := rfl
  have k0 : (0 : Int32).toInt = 0 := rfl
  have k100 : (100 : Int32).toInt = 100 := rfl
  refine qq_st (lv' := [some (.ref (gob G 3)), some (.int v1), none, none]) rfl rfl rfl ?_
  refine qq_T (fX4_ends.eq_1 ..) ?_
  refine q_aload_n (pc := 0) K dX4_ends_0 rfl rfl ?_
  refine q_iload_n (pc := 1) K dX4_ends_1 rfl rfl ?_
  refine q_callVi (pc := 2) (o := 3) (rm := rmX4_refusalOfEnd) K (kX4_refusalOfEnd l hN hG v1 σ hw) gX4_ends_X4_refusalOfEnd rfl hdV_X4_refusalOfEnd ⟨Nat.le_of_ble_eq_true rfl, Nat.le_of_ble_eq_true rfl⟩ rfl rfl ⟨Nat.zero_le _, Nat.zero_le _⟩ (wO_x hG) vw_3 rfl rfl (Nat.le_of_ble_eq_true rfl) dX4_ends_2 ?_
  refine q_istore_n (pc := 5) (lv' := [some (.ref (gob G 3)), some (.int v1), some (.int (fX4_refusalOfEnd v1 σ)), none]) K dX4_ends_5 rfl (by decide) (Nat.le_of_ble_eq_true rfl) rfl ?_
  refine q_iload_n (pc := 6) K dX4_ends_6 rfl rfl ?_
  refine q_if_eq (pc := 7) (tgt := 16) K dX4_ends_7 (by decide) (fun c1 => ?_) (fun c1 => ?_)
  · have i17 := eqI c1
    have b18 := refE_f hw c1
    refine q_aload_n (pc := 16) K dX4_ends_16 rfl rfl ?_
    refine q_get (pc := 17) (o := 3) (f := 1) (v := .ref (gob G 1)) K (wO_x hG) vw_3 iwX4_ends_X4 (by decide) mX4_ends_f16 rfl dX4_ends_17 ?_
    refine q_aload_n (pc := 20) K dX4_ends_20 rfl rfl ?_
    refine q_get (pc := 21) (o := 3) (f := 0) (v := .ref (gob G 0)) K (wO_x hG) vw_3 iwX4_ends_X4 (by decide) mX4_ends_f12 rfl dX4_ends_21 ?_
    refine q_callVv (pc := 24) (o := 1) (rm := rmX0_take) K (kX0_take l hN hG 1 (show 1 < 3 by decide) 0 (show 0 < 3 by decide) σ hw) gX4_ends_X0_take rfl hdV_X0_take ⟨Nat.le_of_ble_eq_true rfl, Nat.le_of_ble_eq_true rfl⟩ rfl rfl ⟨Nat.zero_le _, Nat.zero_le _⟩ (wO_ch hG (show 1 < 3 by decide)) vw_0 rfl rfl (Nat.le_of_ble_eq_true rfl) dX4_ends_24 ?_
    refine qq_nmV (fun r2 e3 => ?_)
    have hw4 : WD r2 := by rw [e3]; exact wX0_take 1 (show 1 < 3 by decide) 0 (show 0 < 3 by decide) hw 
    refine q_aload_n (pc := 27) K dX4_ends_27 rfl rfl ?_
    refine q_get (pc := 28) (o := 3) (f := 1) (v := .ref (gob G 1)) K (wO_x hG) vw_3 iwX4_ends_X4 (by decide) mX4_ends_f16 rfl dX4_ends_28 ?_
    refine q_iload_n (pc := 31) K dX4_ends_31 rfl rfl ?_
    refine q_callVi (pc := 32) (o := 1) (rm := rmX0_endOf) K (kX0_endOf l hN hG 1 (show 1 < 3 by decide) v1 r2 hw4) gX4_ends_X0_endOf rfl hdV_X0_endOf ⟨Nat.le_of_ble_eq_true rfl, Nat.le_of_ble_eq_true rfl⟩ rfl rfl ⟨Nat.zero_le _, Nat.zero_le _⟩ (wO_ch hG (show 1 < 3 by decide)) vw_0 rfl rfl (Nat.le_of_ble_eq_true rfl) dX4_ends_32 ?_
    refine qq_nmI (fun r5 e6 => ?_)
    have hw7 : WD r5.2 := by rw [e6]; exact wX0_endOf 1 (show 1 < 3 by decide) v1 hw4 
    refine q_istore_n (pc := 35) (lv' := [some (.ref (gob G 3)), some (.int v1), some (.int (fX4_refusalOfEnd v1 σ)), some (.int r5.1)]) K dX4_ends_35 rfl (by decide) (Nat.le_of_ble_eq_true rfl) rfl ?_
    refine q_iload_n (pc := 36) K dX4_ends_36 rfl rfl ?_
    refine q_bipush (pc := 37) (v := 100) K dX4_ends_37 (by decide) ?_
    refine q_icmp_gt (pc := 39) (tgt := 46) K dX4_ends_39 (by decide) (fun c8 => ?_) (fun c8 => ?_)
    · have i12 := ltI c8
      refine q_aload_n (pc := 46) K dX4_ends_46 rfl rfl ?_
      refine q_ldc (pc := 47) (v := (-1000004)) K dX4_ends_47 mX4_ends_c190 ?_
      refine q_callVi (pc := 49) (o := 3) (rm := rmX4_found) K (kX4_found l hN hG (-1000004) r5.2 hw7) gX4_ends_X4_found rfl hdV_X4_found ⟨Nat.le_of_ble_eq_true rfl, Nat.le_of_ble_eq_true rfl⟩ rfl rfl ⟨Nat.zero_le _, Nat.zero_le _⟩ (wO_x hG) vw_3 rfl rfl (Nat.le_of_ble_eq_true rfl) dX4_ends_49 ?_
      refine qq_nmI (fun r9 e10 => ?_)
      have hw11 : WD r9.2 := by rw [e10]; exact wX4_found (-1000004) hw7 
      exact q_iret K hr dX4_ends_52
    · have i13 := nltI c8
      refine q_iload_n (pc := 42) K dX4_ends_42 rfl rfl ?_
      refine q_goto (pc := 43) (tgt := 52) K dX4_ends_43 (by decide) ?_
      exact q_iret K hr dX4_ends_52
  · have i19 := neI c1
    refine q_aload_n (pc := 10) K dX4_ends_10 rfl rfl ?_
    refine q_iload_n (pc := 11) K dX4_ends_11 rfl rfl ?_
    refine q_callVi (pc := 12) (o := 3) (rm := rmX4_found) K (kX4_found l hN hG (fX4_refusalOfEnd v1 σ) σ hw) gX4_ends_X4_found rfl hdV_X4_found ⟨Nat.le_of_ble_eq_true rfl, Nat.le_of_ble_eq_true rfl⟩ rfl rfl ⟨Nat.zero_le _, Nat.zero_le _⟩ (wO_x hG) vw_3 rfl rfl (Nat.le_of_ble_eq_true rfl) dX4_ends_12 ?_
    refine qq_nmI (fun r14 e15 => ?_)
    have hw16 : WD r14.2 := by rw [e15]; exact wX4_found (fX4_refusalOfEnd v1 σ) hw 
    exact q_iret K hr dX4_ends_15
theorem hdV_X4_soonest : yX4_soonest.cls = RX4 ∧ yX4_soonest.cls ≠ "java/lang/invoke/MethodHandle" ∧ yX4_soonest.cls ≠ "java/lang/invoke/VarHandle" ∧ (parseMethodDescriptor yX4_soonest.desc).map (fun d => d.parameters.length) = some 0 := by decide +kernel
theorem mX4_soonest_f16 : Cond.fieldLink RX4 16 "WaxTreaties" "trial" "LWaxTreaties$Chancery;" ∈ wsX4_soonest := List.mem_of_getElem? (i := 2) rfl
theorem iwX4_soonest_X4 : ∀ w ∈ wsX40, w ∈ wsX4_soonest := fun w h => List.mem_cons_of_mem _ (List.mem_append_left _ (List.mem_append_right _ h))
theorem mX4_soonest_f12 : Cond.fieldLink RX4 12 "WaxTreaties" "live" "LWaxTreaties$Chancery;" ∈ wsX4_soonest := List.mem_of_getElem? (i := 3) rfl
theorem mX4_soonest_c190 : Cond.constant RX4 190 (-1000004) ∈ wsX4_soonest := List.mem_of_getElem? (i := 4) rfl
theorem mX4_soonest_c179 : Cond.constant RX4 179 (-1000005) ∈ wsX4_soonest := List.mem_of_getElem? (i := 1) rfl
set_option maxRecDepth 100000 in
set_option maxHeartbeats 4000000 in
theorem kX4_soonest (l : Launch) {G : gT} (hN : wN G) (hG : gfl G = true) (σ : sg) (hw : WD σ) : cM l yX4_soonest wsX4_soonest rmX4_soonest G [.ref (gob G 3)] σ (some (.int (fX4_soonest σ).1)) (fX4_soonest σ).2 := by
  refine cM_of (maxL := 2) (ret := (some .int)) (cc := cX4_soonest) (fX4_soonest σ) RX4 hN (by decide +kernel) rfl rfl (Nat.le_of_ble_eq_true rfl) rfl ?_
  intro p e s m args below meth c K hr
  have km1000005 : ((-1000005) : Int32).toInt = -1000005 := rfl
  have km1000004 : ((-1000004) : Int32).toInt = -1000004 := rfl
  have km1 : ((-1) : Int32).toInt = -1 := rfl
  have k0 : (0 : Int32).toInt = 0 := rfl
  have k100 : (100 : Int32).toInt = 100 := rfl
  refine qq_st (lv' := [some (.ref (gob G 3)), none]) rfl rfl rfl ?_
  refine qq_T (fX4_soonest.eq_1 ..) ?_
  refine q_aload_n (pc := 0) K dX4_soonest_0 rfl rfl ?_
  refine q_bipush (pc := 1) (v := 100) K dX4_soonest_1 (by decide) ?_
  refine q_callVi (pc := 3) (o := 3) (rm := rmX4_isTooLate) K (kX4_isTooLate l hN hG 100 σ hw) gX4_soonest_X4_isTooLate rfl hdV_X4_isTooLate ⟨Nat.le_of_ble_eq_true rfl, Nat.le_of_ble_eq_true rfl⟩ rfl rfl ⟨Nat.zero_le _, Nat.zero_le _⟩ (wO_x hG) vw_3 rfl rfl (Nat.le_of_ble_eq_true rfl) dX4_soonest_3 ?_
  refine q_if_eq (pc := 6) (tgt := 16) K dX4_soonest_6 (by decide) (fun c1 => ?_) (fun c1 => ?_)
  · have i17 := eqI c1
    refine q_aload_n (pc := 16) K dX4_soonest_16 rfl rfl ?_
    refine q_get (pc := 17) (o := 3) (f := 1) (v := .ref (gob G 1)) K (wO_x hG) vw_3 iwX4_soonest_X4 (by decide) mX4_soonest_f16 rfl dX4_soonest_17 ?_
    refine q_aload_n (pc := 20) K dX4_soonest_20 rfl rfl ?_
    refine q_get (pc := 21) (o := 3) (f := 0) (v := .ref (gob G 0)) K (wO_x hG) vw_3 iwX4_soonest_X4 (by decide) mX4_soonest_f12 rfl dX4_soonest_21 ?_
    refine q_callVv (pc := 24) (o := 1) (rm := rmX0_take) K (kX0_take l hN hG 1 (show 1 < 3 by decide) 0 (show 0 < 3 by decide) σ hw) gX4_soonest_X0_take rfl hdV_X0_take ⟨Nat.le_of_ble_eq_true rfl, Nat.le_of_ble_eq_true rfl⟩ rfl rfl ⟨Nat.zero_le _, Nat.zero_le _⟩ (wO_ch hG (show 1 < 3 by decide)) vw_0 rfl rfl (Nat.le_of_ble_eq_true rfl) dX4_soonest_24 ?_
    refine qq_nmV (fun r2 e3 => ?_)
    have hw4 : WD r2 := by rw [e3]; exact wX0_take 1 (show 1 < 3 by decide) 0 (show 0 < 3 by decide) hw 
    refine q_aload_n (pc := 27) K dX4_soonest_27 rfl rfl ?_
    refine q_get (pc := 28) (o := 3) (f := 1) (v := .ref (gob G 1)) K (wO_x hG) vw_3 iwX4_soonest_X4 (by decide) mX4_soonest_f16 rfl dX4_soonest_28 ?_
    refine q_callVi (pc := 31) (o := 1) (rm := rmX0_firstToEnd) K (kX0_firstToEnd l hN hG 1 (show 1 < 3 by decide) r2 hw4) gX4_soonest_X0_firstToEnd rfl hdV_X0_firstToEnd ⟨Nat.le_of_ble_eq_true rfl, Nat.le_of_ble_eq_true rfl⟩ rfl rfl ⟨Nat.zero_le _, Nat.zero_le _⟩ (wO_ch hG (show 1 < 3 by decide)) vw_0 rfl rfl (Nat.le_of_ble_eq_true rfl) dX4_soonest_31 ?_
    refine qq_nmI (fun r5 e6 => ?_)
    have hw7 : WD r5.2 := by rw [e6]; exact wX0_firstToEnd 1 (show 1 < 3 by decide) hw4 
    refine q_istore_n (pc := 34) (lv' := [some (.ref (gob G 3)), some (.int r5.1)]) K dX4_soonest_34 rfl (by decide) (Nat.le_of_ble_eq_true rfl) rfl ?_
    refine q_iload_n (pc := 35) K dX4_soonest_35 rfl rfl ?_
    refine q_iconst (pc := 36) (v := (-1)) K dX4_soonest_36 (by decide) ?_
    refine q_icmp_ne (pc := 37) (tgt := 49) K dX4_soonest_37 (by decide) (fun c8 => ?_) (fun c8 => ?_)
    · have i12 := neI c8
      refine q_iload_n (pc := 49) K dX4_soonest_49 rfl rfl ?_
      exact q_iret K hr dX4_soonest_50
    · have i13 := eqI c8
      refine q_aload_n (pc := 40) K dX4_soonest_40 rfl rfl ?_
      refine q_ldc (pc := 41) (v := (-1000004)) K dX4_soonest_41 mX4_soonest_c190 ?_
      refine q_callVi (pc := 43) (o := 3) (rm := rmX4_found) K (kX4_found l hN hG (-1000004) r5.2 hw7) gX4_soonest_X4_found rfl hdV_X4_found ⟨Nat.le_of_ble_eq_true rfl, Nat.le_of_ble_eq_true rfl⟩ rfl rfl ⟨Nat.zero_le _, Nat.zero_le _⟩ (wO_x hG) vw_3 rfl rfl (Nat.le_of_ble_eq_true rfl) dX4_soonest_43 ?_
      refine qq_nmI (fun r9 e10 => ?_)
      have hw11 : WD r9.2 := by rw [e10]; exact wX4_found (-1000004) hw7 
      refine q_goto (pc := 46) (tgt := 50) K dX4_soonest_46 (by decide) ?_
      exact q_iret K hr dX4_soonest_50
  · have i18 := neI c1
    refine q_aload_n (pc := 9) K dX4_soonest_9 rfl rfl ?_
    refine q_ldc (pc := 10) (v := (-1000005)) K dX4_soonest_10 mX4_soonest_c179 ?_
    refine q_callVi (pc := 12) (o := 3) (rm := rmX4_found) K (kX4_found l hN hG (-1000005) σ hw) gX4_soonest_X4_found rfl hdV_X4_found ⟨Nat.le_of_ble_eq_true rfl, Nat.le_of_ble_eq_true rfl⟩ rfl rfl ⟨Nat.zero_le _, Nat.zero_le _⟩ (wO_x hG) vw_3 rfl rfl (Nat.le_of_ble_eq_true rfl) dX4_soonest_12 ?_
    refine qq_nmI (fun r14 e15 => ?_)
    have hw16 : WD r14.2 := by rw [e15]; exact wX4_found (-1000005) hw 
    exact q_iret K hr dX4_soonest_15
theorem hdV_X4_place : yX4_place.cls = RX4 ∧ yX4_place.cls ≠ "java/lang/invoke/MethodHandle" ∧ yX4_place.cls ≠ "java/lang/invoke/VarHandle" ∧ (parseMethodDescriptor yX4_place.desc).map (fun d => d.parameters.length) = some 1 := by decide +kernel
theorem mX4_place_f16 : Cond.fieldLink RX4 16 "WaxTreaties" "trial" "LWaxTreaties$Chancery;" ∈ wsX4_place := List.mem_of_getElem? (i := 1) rfl
theorem iwX4_place_X4 : ∀ w ∈ wsX40, w ∈ wsX4_place := fun w h => List.mem_cons_of_mem _ (List.mem_append_left _ (List.mem_append_right _ h))
theorem mX4_place_f12 : Cond.fieldLink RX4 12 "WaxTreaties" "live" "LWaxTreaties$Chancery;" ∈ wsX4_place := List.mem_of_getElem? (i := 2) rfl
theorem mX4_place_f73 : Cond.fieldLink RX4 73 "WaxTreaties$Chancery" "shelf" "[I" ∈ wsX4_place := List.mem_of_getElem? (i := 3) rfl
theorem iwX4_place_X0 : ∀ w ∈ wsX00, w ∈ wsX4_place := fun w h => List.mem_cons_of_mem _ (List.mem_append_right _ h)
set_option maxRecDepth 100000 in
set_option maxHeartbeats 4000000 in
theorem lX4_place_24 {p : Program} (l : Launch) {e : Env} {s : State} {m : MethodId} {args : Array Value} {below : List Frame} {meth : Method} {c : Code} {Q : State → Prop} {G : gT} (hN : wN G) (hG : gfl G = true) (K : qK p s m args meth c cX4_place 7 RX4 wsX4_place G) : ∀ (k : Nat) (v1 v3 v4 v5 : Int32) (σ : sg) (hw : WD σ) (hv5 : 0 ≤ v5.toInt ∧ v5.toInt ≤ 6) (hdv1 : 0 ≤ v1.toInt ∧ v1.toInt ≤ 7) (hmu : (6 - v5.toInt).toNat < k) {ρ : Type} {E : ρ → Prop} {f : Int32 × sg → ρ} (hk : ∀ r : Int32 × sg, (WD r.2) → qq p l e (headSpec wsX4_place rmX4_place).room s m args below meth c Q 7 G E (f r) 83 [none, none, none, some (.int r.1), none, none, none] [] r.2), qq p l e (headSpec wsX4_place rmX4_place).room s m args below meth c Q 7 G E (bnd (LX4_place_24 k v1 v3 v4 v5 σ) f) 24 [some (.ref (gob G 3)), some (.int v1), none, some (.int v3), some (.int v4), some (.int v5), none] [] σ := by
  intro k
  induction k with
  | zero => intro v1 v3 v4 v5 σ hw hv5 hdv1 hmu ρ E f hk; exact absurd hmu (Nat.not_lt_zero _)
  | succ k ih =>
    intro v1 v3 v4 v5 σ hw hv5 hdv1 hmu ρ E f hk
    have k0 : (0 : Int32).toInt = 0 := rfl
    have k1 : (1 : Int32).toInt = 1 := rfl
    have k6 : (6 : Int32).toInt = 6 := rfl
    refine qq_in ?_
    refine qq_T (LX4_place_24.eq_2 ..) ?_
    refine q_iload (pc := 24) K dX4_place_24 rfl ?_
    refine q_bipush (pc := 26) (v := 6) K dX4_place_26 (by decide) ?_
    refine q_icmp_ge (pc := 28) (tgt := 83) K dX4_place_28 (by decide) (fun c2 => ?_) (fun c2 => ?_)
    · have i17 := leI c2
      refine qq_drop 0 (lv' := [none, some (.int v1), none, some (.int v3), some (.int v4), some (.int v5), none]) rfl ?_
      refine qq_drop 1 (lv' := [none, none, none, some (.int v3), some (.int v4), some (.int v5), none]) rfl ?_
      refine qq_drop 4 (lv' := [none, none, none, some (.int v3), none, some (.int v5), none]) rfl ?_
      refine qq_drop 5 (lv' := [none, none, none, some (.int v3), none, none, none]) rfl ?_
      exact qq_leaf (hk (v3, σ) hw)
    · have i18 := nleI c2
      refine q_aload_n (pc := 31) K dX4_place_31 rfl rfl ?_
      refine q_get (pc := 32) (o := 3) (f := 1) (v := .ref (gob G 1)) K (wO_x hG) vw_3 iwX4_place_X4 (by decide) mX4_place_f16 rfl dX4_place_32 ?_
      refine q_aload_n (pc := 35) K dX4_place_35 rfl rfl ?_
      refine q_get (pc := 36) (o := 3) (f := 0) (v := .ref (gob G 0)) K (wO_x hG) vw_3 iwX4_place_X4 (by decide) mX4_place_f12 rfl dX4_place_36 ?_
      refine q_callVv (pc := 39) (o := 1) (rm := rmX0_take) K (kX0_take l hN hG 1 (show 1 < 3 by decide) 0 (show 0 < 3 by decide) σ hw) gX4_place_X0_take rfl hdV_X0_take ⟨Nat.le_of_ble_eq_true rfl, Nat.le_of_ble_eq_true rfl⟩ rfl rfl ⟨Nat.zero_le _, Nat.zero_le _⟩ (wO_ch hG (show 1 < 3 by decide)) vw_0 rfl rfl (Nat.le_of_ble_eq_true rfl) dX4_place_39 ?_
      refine qq_nmV (fun r3 e4 => ?_)
      have hw5 : WD r3 := by rw [e4]; exact wX0_take 1 (show 1 < 3 by decide) 0 (show 0 < 3 by decide) hw 
      refine q_aload_n (pc := 42) K dX4_place_42 rfl rfl ?_
      refine q_get (pc := 43) (o := 3) (f := 1) (v := .ref (gob G 1)) K (wO_x hG) vw_3 iwX4_place_X4 (by decide) mX4_place_f16 rfl dX4_place_43 ?_
      refine q_get (pc := 46) (o := 1) (f := 1) (v := .ref (gad G (8 * 1 + 1))) K (wO_ch hG (show 1 < 3 by decide)) vw_0 iwX4_place_X0 (by decide) mX4_place_f73 rfl dX4_place_46 ?_
      refine q_iload_n (pc := 49) K dX4_place_49 rfl rfl ?_
      refine q_iload (pc := 50) K dX4_place_50 rfl ?_
      refine q_iast (pc := 52) (a := 8 * 1 + 1) K (by rw [wna_t hG]; have := (show 1 < 3 by decide); omega) (vinN (wlc1 hG (show 1 < 3 by decide)) (by omega) (by omega)) dX4_place_52 (fun s6 e7 => ?_)
      have hw8 : WD s6 := by rw [e7]; exact wdAs (j0 := 1) hw5 (by omega) (by omega)
      refine q_aload_n (pc := 53) K dX4_place_53 rfl rfl ?_
      refine q_get (pc := 54) (o := 3) (f := 1) (v := .ref (gob G 1)) K (wO_x hG) vw_3 iwX4_place_X4 (by decide) mX4_place_f16 rfl dX4_place_54 ?_
      refine q_iload_n (pc := 57) K dX4_place_57 rfl rfl ?_
      refine q_callVi (pc := 58) (o := 1) (rm := rmX0_endOf) K (kX0_endOf l hN hG 1 (show 1 < 3 by decide) v1 s6 hw8) gX4_place_X0_endOf rfl hdV_X0_endOf ⟨Nat.le_of_ble_eq_true rfl, Nat.le_of_ble_eq_true rfl⟩ rfl rfl ⟨Nat.zero_le _, Nat.zero_le _⟩ (wO_ch hG (show 1 < 3 by decide)) vw_0 rfl rfl (Nat.le_of_ble_eq_true rfl) dX4_place_58 ?_
      refine qq_nmI (fun r9 e10 => ?_)
      have hw11 : WD r9.2 := by rw [e10]; exact wX0_endOf 1 (show 1 < 3 by decide) v1 hw8 
      refine q_istore (pc := 61) (lv' := [some (.ref (gob G 3)), some (.int v1), none, some (.int v3), some (.int v4), some (.int v5), some (.int r9.1)]) K dX4_place_61 (by decide) (Nat.le_of_ble_eq_true rfl) rfl ?_
      refine q_iload (pc := 63) K dX4_place_63 rfl ?_
      refine q_iload (pc := 65) K dX4_place_65 rfl ?_
      refine q_icmp_le (pc := 67) (tgt := 77) K dX4_place_67 (by decide) (fun c12 => ?_) (fun c12 => ?_)
      · have i15 := leI c12
        refine q_iinc (pc := 77) (v := (v5 + 1)) (lv' := [some (.ref (gob G 3)), some (.int v1), none, some (.int v3), some (.int v4), some (.int (v5 + 1)), some (.int r9.1)]) K dX4_place_77 rfl rfl (by decide) rfl ?_
        refine q_goto (pc := 80) (tgt := 24) K dX4_place_80 (by decide) ?_
        refine qq_drop 6 (lv' := [some (.ref (gob G 3)), some (.int v1), none, some (.int v3), some (.int v4), some (.int (v5 + 1)), none]) rfl ?_
        have a13 := addI (x := v5) (y := 1) (by omega) (by omega)
        exact qq_out (ih v1 v3 v4 (v5 + 1) r9.2 hw11 (by omega) (by omega) (by omega) hk)
      · have i16 := nleI c12
        refine q_iload (pc := 70) K dX4_place_70 rfl ?_
        refine q_istore_n (pc := 72) (lv' := [some (.ref (gob G 3)), some (.int v1), none, some (.int v5), some (.int v4), some (.int v5), some (.int r9.1)]) K dX4_place_72 rfl (by decide) (Nat.le_of_ble_eq_true rfl) rfl ?_
        refine q_iload (pc := 73) K dX4_place_73 rfl ?_
        refine q_istore (pc := 75) (lv' := [some (.ref (gob G 3)), some (.int v1), none, some (.int v5), some (.int r9.1), some (.int v5), some (.int r9.1)]) K dX4_place_75 (by decide) (Nat.le_of_ble_eq_true rfl) rfl ?_
        refine q_iinc (pc := 77) (v := (v5 + 1)) (lv' := [some (.ref (gob G 3)), some (.int v1), none, some (.int v5), some (.int r9.1), some (.int (v5 + 1)), some (.int r9.1)]) K dX4_place_77 rfl rfl (by decide) rfl ?_
        refine q_goto (pc := 80) (tgt := 24) K dX4_place_80 (by decide) ?_
        refine qq_drop 6 (lv' := [some (.ref (gob G 3)), some (.int v1), none, some (.int v5), some (.int r9.1), some (.int (v5 + 1)), none]) rfl ?_
        have a14 := addI (x := v5) (y := 1) (by omega) (by omega)
        exact qq_out (ih v1 v5 r9.1 (v5 + 1) r9.2 hw11 (by omega) (by omega) (by omega) hk)
set_option maxRecDepth 100000 in
set_option maxHeartbeats 4000000 in
theorem kX4_place (l : Launch) {G : gT} (hN : wN G) (hG : gfl G = true) (v1 : Int32) (σ : sg) (hw : WD σ) : cM l yX4_place wsX4_place rmX4_place G [.ref (gob G 3), .int v1] σ (some (.int (fX4_place v1 σ).1)) (fX4_place v1 σ).2 := by
  refine cM_of (maxL := 7) (ret := (some .int)) (cc := cX4_place) (fX4_place v1 σ) RX4 hN (by decide +kernel) rfl rfl (Nat.le_of_ble_eq_true rfl) rfl ?_
  intro p e s m args below meth c K hr
  have km1 : ((-1) : Int32).toInt = -1 := rfl
  have k0 : (0 : Int32).toInt = 0 := rfl
  refine qq_st (lv' := [some (.ref (gob G 3)), some (.int v1), none, none, none, none, none]) rfl rfl rfl ?_
  refine qq_T (fX4_place.eq_1 ..) ?_
  refine q_aload_n (pc := 0) K dX4_place_0 rfl rfl ?_
  refine q_iload_n (pc := 1) K dX4_place_1 rfl rfl ?_
  refine q_callVi (pc := 2) (o := 3) (rm := rmX4_refusalOfEnd) K (kX4_refusalOfEnd l hN hG v1 σ hw) gX4_place_X4_refusalOfEnd rfl hdV_X4_refusalOfEnd ⟨Nat.le_of_ble_eq_true rfl, Nat.le_of_ble_eq_true rfl⟩ rfl rfl ⟨Nat.zero_le _, Nat.zero_le _⟩ (wO_x hG) vw_3 rfl rfl (Nat.le_of_ble_eq_true rfl) dX4_place_2 ?_
  refine q_istore_n (pc := 5) (lv' := [some (.ref (gob G 3)), some (.int v1), some (.int (fX4_refusalOfEnd v1 σ)), none, none, none, none]) K dX4_place_5 rfl (by decide) (Nat.le_of_ble_eq_true rfl) rfl ?_
  refine q_iload_n (pc := 6) K dX4_place_6 rfl rfl ?_
  refine q_if_eq (pc := 7) (tgt := 16) K dX4_place_7 (by decide) (fun c1 => ?_) (fun c1 => ?_)
  · have i25 := eqI c1
    have b26 := refE_f hw c1
    refine q_iconst (pc := 16) (v := 0) K dX4_place_16 (by decide) ?_
    refine q_istore_n (pc := 17) (lv' := [some (.ref (gob G 3)), some (.int v1), some (.int (fX4_refusalOfEnd v1 σ)), some (.int 0), none, none, none]) K dX4_place_17 rfl (by decide) (Nat.le_of_ble_eq_true rfl) rfl ?_
    refine q_iconst (pc := 18) (v := (-1)) K dX4_place_18 (by decide) ?_
    refine q_istore (pc := 19) (lv' := [some (.ref (gob G 3)), some (.int v1), some (.int (fX4_refusalOfEnd v1 σ)), some (.int 0), some (.int (-1)), none, none]) K dX4_place_19 (by decide) (Nat.le_of_ble_eq_true rfl) rfl ?_
    refine q_iconst (pc := 21) (v := 0) K dX4_place_21 (by decide) ?_
    refine q_istore (pc := 22) (lv' := [some (.ref (gob G 3)), some (.int v1), some (.int (fX4_refusalOfEnd v1 σ)), some (.int 0), some (.int (-1)), some (.int 0), none]) K dX4_place_22 (by decide) (Nat.le_of_ble_eq_true rfl) rfl ?_
    refine qq_drop 2 (lv' := [some (.ref (gob G 3)), some (.int v1), none, some (.int 0), some (.int (-1)), some (.int 0), none]) rfl ?_
    refine lX4_place_24 l hN hG K 7 v1 0 (-1) 0 σ hw (by omega) (by omega) (by omega) (fun r19 hw21 => ?_)
    refine q_iload_n (pc := 83) K dX4_place_83 rfl rfl ?_
    exact q_iret K hr dX4_place_84
  · have i27 := neI c1
    refine q_aload_n (pc := 10) K dX4_place_10 rfl rfl ?_
    refine q_iload_n (pc := 11) K dX4_place_11 rfl rfl ?_
    refine q_callVi (pc := 12) (o := 3) (rm := rmX4_found) K (kX4_found l hN hG (fX4_refusalOfEnd v1 σ) σ hw) gX4_place_X4_found rfl hdV_X4_found ⟨Nat.le_of_ble_eq_true rfl, Nat.le_of_ble_eq_true rfl⟩ rfl rfl ⟨Nat.zero_le _, Nat.zero_le _⟩ (wO_x hG) vw_3 rfl rfl (Nat.le_of_ble_eq_true rfl) dX4_place_12 ?_
    refine qq_nmI (fun r22 e23 => ?_)
    have hw24 : WD r22.2 := by rw [e23]; exact wX4_found (fX4_refusalOfEnd v1 σ) hw 
    exact q_iret K hr dX4_place_15
theorem hdV_X4_kindFor : yX4_kindFor.cls = RX4 ∧ yX4_kindFor.cls ≠ "java/lang/invoke/MethodHandle" ∧ yX4_kindFor.cls ≠ "java/lang/invoke/VarHandle" ∧ (parseMethodDescriptor yX4_kindFor.desc).map (fun d => d.parameters.length) = some 1 := by decide +kernel
theorem mX4_kindFor_f16 : Cond.fieldLink RX4 16 "WaxTreaties" "trial" "LWaxTreaties$Chancery;" ∈ wsX4_kindFor := List.mem_of_getElem? (i := 1) rfl
theorem iwX4_kindFor_X4 : ∀ w ∈ wsX40, w ∈ wsX4_kindFor := fun w h => List.mem_cons_of_mem _ (List.mem_append_left _ (List.mem_append_right _ h))
theorem mX4_kindFor_f12 : Cond.fieldLink RX4 12 "WaxTreaties" "live" "LWaxTreaties$Chancery;" ∈ wsX4_kindFor := List.mem_of_getElem? (i := 2) rfl
theorem mX4_kindFor_f70 : Cond.fieldLink RX4 70 "WaxTreaties$Chancery" "kind" "[I" ∈ wsX4_kindFor := List.mem_of_getElem? (i := 3) rfl
theorem iwX4_kindFor_X0 : ∀ w ∈ wsX00, w ∈ wsX4_kindFor := fun w h => List.mem_cons_of_mem _ (List.mem_append_right _ h)
set_option maxRecDepth 100000 in
set_option maxHeartbeats 4000000 in
theorem lX4_kindFor_24 {p : Program} (l : Launch) {e : Env} {s : State} {m : MethodId} {args : Array Value} {below : List Frame} {meth : Method} {c : Code} {Q : State → Prop} {G : gT} (hN : wN G) (hG : gfl G = true) (K : qK p s m args meth c cX4_kindFor 7 RX4 wsX4_kindFor G) : ∀ (k : Nat) (v1 v3 v4 v5 : Int32) (σ : sg) (hw : WD σ) (hv5 : 0 ≤ v5.toInt ∧ v5.toInt ≤ 7) (hdv1 : 0 ≤ v1.toInt ∧ v1.toInt ≤ 7) (hmu : (7 - v5.toInt).toNat < k) {ρ : Type} {E : ρ → Prop} {f : Int32 × sg → ρ} (hk : ∀ r : Int32 × sg, (WD r.2) → qq p l e (headSpec wsX4_kindFor rmX4_kindFor).room s m args below meth c Q 7 G E (f r) 83 [none, none, none, some (.int r.1), none, none, none] [] r.2), qq p l e (headSpec wsX4_kindFor rmX4_kindFor).room s m args below meth c Q 7 G E (bnd (LX4_kindFor_24 k v1 v3 v4 v5 σ) f) 24 [some (.ref (gob G 3)), some (.int v1), none, some (.int v3), some (.int v4), some (.int v5), none] [] σ := by
  intro k
  induction k with
  | zero => intro v1 v3 v4 v5 σ hw hv5 hdv1 hmu ρ E f hk; exact absurd hmu (Nat.not_lt_zero _)
  | succ k ih =>
    intro v1 v3 v4 v5 σ hw hv5 hdv1 hmu ρ E f hk
    have k0 : (0 : Int32).toInt = 0 := rfl
    have k1 : (1 : Int32).toInt = 1 := rfl
    have k7 : (7 : Int32).toInt = 7 := rfl
    refine qq_in ?_
    refine qq_T (LX4_kindFor_24.eq_2 ..) ?_
    refine q_iload (pc := 24) K dX4_kindFor_24 rfl ?_
    refine q_bipush (pc := 26) (v := 7) K dX4_kindFor_26 (by decide) ?_
    refine q_icmp_ge (pc := 28) (tgt := 83) K dX4_kindFor_28 (by decide) (fun c2 => ?_) (fun c2 => ?_)
    · have i17 := leI c2
      refine qq_drop 0 (lv' := [none, some (.int v1), none, some (.int v3), some (.int v4), some (.int v5), none]) rfl ?_
      refine qq_drop 1 (lv' := [none, none, none, some (.int v3), some (.int v4), some (.int v5), none]) rfl ?_
      refine qq_drop 4 (lv' := [none, none, none, some (.int v3), none, some (.int v5), none]) rfl ?_
      refine qq_drop 5 (lv' := [none, none, none, some (.int v3), none, none, none]) rfl ?_
      exact qq_leaf (hk (v3, σ) hw)
    · have i18 := nleI c2
      refine q_aload_n (pc := 31) K dX4_kindFor_31 rfl rfl ?_
      refine q_get (pc := 32) (o := 3) (f := 1) (v := .ref (gob G 1)) K (wO_x hG) vw_3 iwX4_kindFor_X4 (by decide) mX4_kindFor_f16 rfl dX4_kindFor_32 ?_
      refine q_aload_n (pc := 35) K dX4_kindFor_35 rfl rfl ?_
      refine q_get (pc := 36) (o := 3) (f := 0) (v := .ref (gob G 0)) K (wO_x hG) vw_3 iwX4_kindFor_X4 (by decide) mX4_kindFor_f12 rfl dX4_kindFor_36 ?_
      refine q_callVv (pc := 39) (o := 1) (rm := rmX0_take) K (kX0_take l hN hG 1 (show 1 < 3 by decide) 0 (show 0 < 3 by decide) σ hw) gX4_kindFor_X0_take rfl hdV_X0_take ⟨Nat.le_of_ble_eq_true rfl, Nat.le_of_ble_eq_true rfl⟩ rfl rfl ⟨Nat.zero_le _, Nat.zero_le _⟩ (wO_ch hG (show 1 < 3 by decide)) vw_0 rfl rfl (Nat.le_of_ble_eq_true rfl) dX4_kindFor_39 ?_
      refine qq_nmV (fun r3 e4 => ?_)
      have hw5 : WD r3 := by rw [e4]; exact wX0_take 1 (show 1 < 3 by decide) 0 (show 0 < 3 by decide) hw 
      refine q_aload_n (pc := 42) K dX4_kindFor_42 rfl rfl ?_
      refine q_get (pc := 43) (o := 3) (f := 1) (v := .ref (gob G 1)) K (wO_x hG) vw_3 iwX4_kindFor_X4 (by decide) mX4_kindFor_f16 rfl dX4_kindFor_43 ?_
      refine q_get (pc := 46) (o := 1) (f := 0) (v := .ref (gad G (8 * 1))) K (wO_ch hG (show 1 < 3 by decide)) vw_0 iwX4_kindFor_X0 (by decide) mX4_kindFor_f70 rfl dX4_kindFor_46 ?_
      refine q_iload_n (pc := 49) K dX4_kindFor_49 rfl rfl ?_
      refine q_iload (pc := 50) K dX4_kindFor_50 rfl ?_
      refine q_iast (pc := 52) (a := 8 * 1) K (by rw [wna_t hG]; have := (show 1 < 3 by decide); omega) (vinN (wlc0 hG (show 1 < 3 by decide)) (by omega) (by omega)) dX4_kindFor_52 (fun s6 e7 => ?_)
      have hw8 : WD s6 := by rw [e7]; exact wdA hw5 (by have := (show 1 < 3 by decide); omega)
      refine q_aload_n (pc := 53) K dX4_kindFor_53 rfl rfl ?_
      refine q_get (pc := 54) (o := 3) (f := 1) (v := .ref (gob G 1)) K (wO_x hG) vw_3 iwX4_kindFor_X4 (by decide) mX4_kindFor_f16 rfl dX4_kindFor_54 ?_
      refine q_iload_n (pc := 57) K dX4_kindFor_57 rfl rfl ?_
      refine q_callVi (pc := 58) (o := 1) (rm := rmX0_endOf) K (kX0_endOf l hN hG 1 (show 1 < 3 by decide) v1 s6 hw8) gX4_kindFor_X0_endOf rfl hdV_X0_endOf ⟨Nat.le_of_ble_eq_true rfl, Nat.le_of_ble_eq_true rfl⟩ rfl rfl ⟨Nat.zero_le _, Nat.zero_le _⟩ (wO_ch hG (show 1 < 3 by decide)) vw_0 rfl rfl (Nat.le_of_ble_eq_true rfl) dX4_kindFor_58 ?_
      refine qq_nmI (fun r9 e10 => ?_)
      have hw11 : WD r9.2 := by rw [e10]; exact wX0_endOf 1 (show 1 < 3 by decide) v1 hw8 
      refine q_istore (pc := 61) (lv' := [some (.ref (gob G 3)), some (.int v1), none, some (.int v3), some (.int v4), some (.int v5), some (.int r9.1)]) K dX4_kindFor_61 (by decide) (Nat.le_of_ble_eq_true rfl) rfl ?_
      refine q_iload (pc := 63) K dX4_kindFor_63 rfl ?_
      refine q_iload (pc := 65) K dX4_kindFor_65 rfl ?_
      refine q_icmp_le (pc := 67) (tgt := 77) K dX4_kindFor_67 (by decide) (fun c12 => ?_) (fun c12 => ?_)
      · have i15 := leI c12
        refine q_iinc (pc := 77) (v := (v5 + 1)) (lv' := [some (.ref (gob G 3)), some (.int v1), none, some (.int v3), some (.int v4), some (.int (v5 + 1)), some (.int r9.1)]) K dX4_kindFor_77 rfl rfl (by decide) rfl ?_
        refine q_goto (pc := 80) (tgt := 24) K dX4_kindFor_80 (by decide) ?_
        refine qq_drop 6 (lv' := [some (.ref (gob G 3)), some (.int v1), none, some (.int v3), some (.int v4), some (.int (v5 + 1)), none]) rfl ?_
        have a13 := addI (x := v5) (y := 1) (by omega) (by omega)
        exact qq_out (ih v1 v3 v4 (v5 + 1) r9.2 hw11 (by omega) (by omega) (by omega) hk)
      · have i16 := nleI c12
        refine q_iload (pc := 70) K dX4_kindFor_70 rfl ?_
        refine q_istore_n (pc := 72) (lv' := [some (.ref (gob G 3)), some (.int v1), none, some (.int v5), some (.int v4), some (.int v5), some (.int r9.1)]) K dX4_kindFor_72 rfl (by decide) (Nat.le_of_ble_eq_true rfl) rfl ?_
        refine q_iload (pc := 73) K dX4_kindFor_73 rfl ?_
        refine q_istore (pc := 75) (lv' := [some (.ref (gob G 3)), some (.int v1), none, some (.int v5), some (.int r9.1), some (.int v5), some (.int r9.1)]) K dX4_kindFor_75 (by decide) (Nat.le_of_ble_eq_true rfl) rfl ?_
        refine q_iinc (pc := 77) (v := (v5 + 1)) (lv' := [some (.ref (gob G 3)), some (.int v1), none, some (.int v5), some (.int r9.1), some (.int (v5 + 1)), some (.int r9.1)]) K dX4_kindFor_77 rfl rfl (by decide) rfl ?_
        refine q_goto (pc := 80) (tgt := 24) K dX4_kindFor_80 (by decide) ?_
        refine qq_drop 6 (lv' := [some (.ref (gob G 3)), some (.int v1), none, some (.int v5), some (.int r9.1), some (.int (v5 + 1)), none]) rfl ?_
        have a14 := addI (x := v5) (y := 1) (by omega) (by omega)
        exact qq_out (ih v1 v5 r9.1 (v5 + 1) r9.2 hw11 (by omega) (by omega) (by omega) hk)
set_option maxRecDepth 100000 in
set_option maxHeartbeats 4000000 in
theorem kX4_kindFor (l : Launch) {G : gT} (hN : wN G) (hG : gfl G = true) (v1 : Int32) (σ : sg) (hw : WD σ) : cM l yX4_kindFor wsX4_kindFor rmX4_kindFor G [.ref (gob G 3), .int v1] σ (some (.int (fX4_kindFor v1 σ).1)) (fX4_kindFor v1 σ).2 := by
  refine cM_of (maxL := 7) (ret := (some .int)) (cc := cX4_kindFor) (fX4_kindFor v1 σ) RX4 hN (by decide +kernel) rfl rfl (Nat.le_of_ble_eq_true rfl) rfl ?_
  intro p e s m args below meth c K hr
  have km1 : ((-1) : Int32).toInt = -1 := rfl
  have k0 : (0 : Int32).toInt = 0 := rfl
  refine qq_st (lv' := [some (.ref (gob G 3)), some (.int v1), none, none, none, none, none]) rfl rfl rfl ?_
  refine qq_T (fX4_kindFor.eq_1 ..) ?_
  refine q_aload_n (pc := 0) K dX4_kindFor_0 rfl rfl ?_
  refine q_iload_n (pc := 1) K dX4_kindFor_1 rfl rfl ?_
  refine q_callVi (pc := 2) (o := 3) (rm := rmX4_refusalOfEnd) K (kX4_refusalOfEnd l hN hG v1 σ hw) gX4_kindFor_X4_refusalOfEnd rfl hdV_X4_refusalOfEnd ⟨Nat.le_of_ble_eq_true rfl, Nat.le_of_ble_eq_true rfl⟩ rfl rfl ⟨Nat.zero_le _, Nat.zero_le _⟩ (wO_x hG) vw_3 rfl rfl (Nat.le_of_ble_eq_true rfl) dX4_kindFor_2 ?_
  refine q_istore_n (pc := 5) (lv' := [some (.ref (gob G 3)), some (.int v1), some (.int (fX4_refusalOfEnd v1 σ)), none, none, none, none]) K dX4_kindFor_5 rfl (by decide) (Nat.le_of_ble_eq_true rfl) rfl ?_
  refine q_iload_n (pc := 6) K dX4_kindFor_6 rfl rfl ?_
  refine q_if_eq (pc := 7) (tgt := 16) K dX4_kindFor_7 (by decide) (fun c1 => ?_) (fun c1 => ?_)
  · have i25 := eqI c1
    have b26 := refE_f hw c1
    refine q_iconst (pc := 16) (v := 0) K dX4_kindFor_16 (by decide) ?_
    refine q_istore_n (pc := 17) (lv' := [some (.ref (gob G 3)), some (.int v1), some (.int (fX4_refusalOfEnd v1 σ)), some (.int 0), none, none, none]) K dX4_kindFor_17 rfl (by decide) (Nat.le_of_ble_eq_true rfl) rfl ?_
    refine q_iconst (pc := 18) (v := (-1)) K dX4_kindFor_18 (by decide) ?_
    refine q_istore (pc := 19) (lv' := [some (.ref (gob G 3)), some (.int v1), some (.int (fX4_refusalOfEnd v1 σ)), some (.int 0), some (.int (-1)), none, none]) K dX4_kindFor_19 (by decide) (Nat.le_of_ble_eq_true rfl) rfl ?_
    refine q_iconst (pc := 21) (v := 0) K dX4_kindFor_21 (by decide) ?_
    refine q_istore (pc := 22) (lv' := [some (.ref (gob G 3)), some (.int v1), some (.int (fX4_refusalOfEnd v1 σ)), some (.int 0), some (.int (-1)), some (.int 0), none]) K dX4_kindFor_22 (by decide) (Nat.le_of_ble_eq_true rfl) rfl ?_
    refine qq_drop 2 (lv' := [some (.ref (gob G 3)), some (.int v1), none, some (.int 0), some (.int (-1)), some (.int 0), none]) rfl ?_
    refine lX4_kindFor_24 l hN hG K 8 v1 0 (-1) 0 σ hw (by omega) (by omega) (by omega) (fun r19 hw21 => ?_)
    refine q_iload_n (pc := 83) K dX4_kindFor_83 rfl rfl ?_
    exact q_iret K hr dX4_kindFor_84
  · have i27 := neI c1
    refine q_aload_n (pc := 10) K dX4_kindFor_10 rfl rfl ?_
    refine q_iload_n (pc := 11) K dX4_kindFor_11 rfl rfl ?_
    refine q_callVi (pc := 12) (o := 3) (rm := rmX4_found) K (kX4_found l hN hG (fX4_refusalOfEnd v1 σ) σ hw) gX4_kindFor_X4_found rfl hdV_X4_found ⟨Nat.le_of_ble_eq_true rfl, Nat.le_of_ble_eq_true rfl⟩ rfl rfl ⟨Nat.zero_le _, Nat.zero_le _⟩ (wO_x hG) vw_3 rfl rfl (Nat.le_of_ble_eq_true rfl) dX4_kindFor_12 ?_
    refine qq_nmI (fun r22 e23 => ?_)
    have hw24 : WD r22.2 := by rw [e23]; exact wX4_found (fX4_refusalOfEnd v1 σ) hw 
    exact q_iret K hr dX4_kindFor_15
theorem hdV_X4_ice : yX4_ice.cls = RX4 ∧ yX4_ice.cls ≠ "java/lang/invoke/MethodHandle" ∧ yX4_ice.cls ≠ "java/lang/invoke/VarHandle" ∧ (parseMethodDescriptor yX4_ice.desc).map (fun d => d.parameters.length) = some 2 := by decide +kernel
theorem mX4_ice_c53 : Cond.constant RX4 53 (-1000001) ∈ wsX4_ice := List.mem_of_getElem? (i := 1) rfl
theorem mX4_ice_f16 : Cond.fieldLink RX4 16 "WaxTreaties" "trial" "LWaxTreaties$Chancery;" ∈ wsX4_ice := List.mem_of_getElem? (i := 2) rfl
theorem iwX4_ice_X4 : ∀ w ∈ wsX40, w ∈ wsX4_ice := fun w h => List.mem_cons_of_mem _ (List.mem_append_left _ (List.mem_append_right _ h))
theorem mX4_ice_f12 : Cond.fieldLink RX4 12 "WaxTreaties" "live" "LWaxTreaties$Chancery;" ∈ wsX4_ice := List.mem_of_getElem? (i := 3) rfl
set_option maxRecDepth 100000 in
set_option maxHeartbeats 4000000 in
theorem lX4_ice_42 {p : Program} (l : Launch) {e : Env} {s : State} {m : MethodId} {args : Array Value} {below : List Frame} {meth : Method} {c : Code} {Q : State → Prop} {G : gT} (hN : wN G) (hG : gfl G = true) (K : qK p s m args meth c cX4_ice 8 RX4 wsX4_ice G) : ∀ (k : Nat) (v1 v2 v4 v5 v6 : Int32) (σ : sg) (hw : WD σ) (hv6 : 0 ≤ v6.toInt ∧ v6.toInt ≤ 6) (hnv2 : v2.toInt ≤ 100) (hmu : (6 - v6.toInt).toNat < k) {ρ : Type} {E : ρ → Prop} {f : Int32 × sg → ρ} (hk : ∀ r : Int32 × sg, (WD r.2) → qq p l e (headSpec wsX4_ice rmX4_ice).room s m args below meth c Q 8 G E (f r) 101 [none, none, none, none, some (.int r.1), none, none, none] [] r.2), qq p l e (headSpec wsX4_ice rmX4_ice).room s m args below meth c Q 8 G E (bnd (LX4_ice_42 k v1 v2 v4 v5 v6 σ) f) 42 [some (.ref (gob G 3)), some (.int v1), some (.int v2), none, some (.int v4), some (.int v5), some (.int v6), none] [] σ := by
  intro k
  induction k with
  | zero => intro v1 v2 v4 v5 v6 σ hw hv6 hnv2 hmu ρ E f hk; exact absurd hmu (Nat.not_lt_zero _)
  | succ k ih =>
    intro v1 v2 v4 v5 v6 σ hw hv6 hnv2 hmu ρ E f hk
    have k0 : (0 : Int32).toInt = 0 := rfl
    have k1 : (1 : Int32).toInt = 1 := rfl
    have k6 : (6 : Int32).toInt = 6 := rfl
    refine qq_in ?_
    refine qq_T (LX4_ice_42.eq_2 ..) ?_
    refine q_iload (pc := 42) K dX4_ice_42 rfl ?_
    refine q_bipush (pc := 44) (v := 6) K dX4_ice_44 (by decide) ?_
    refine q_icmp_ge (pc := 46) (tgt := 101) K dX4_ice_46 (by decide) (fun c6 => ?_) (fun c6 => ?_)
    · have i21 := leI c6
      refine qq_drop 0 (lv' := [none, some (.int v1), some (.int v2), none, some (.int v4), some (.int v5), some (.int v6), none]) rfl ?_
      refine qq_drop 1 (lv' := [none, none, some (.int v2), none, some (.int v4), some (.int v5), some (.int v6), none]) rfl ?_
      refine qq_drop 2 (lv' := [none, none, none, none, some (.int v4), some (.int v5), some (.int v6), none]) rfl ?_
      refine qq_drop 5 (lv' := [none, none, none, none, some (.int v4), none, some (.int v6), none]) rfl ?_
      refine qq_drop 6 (lv' := [none, none, none, none, some (.int v4), none, none, none]) rfl ?_
      exact qq_leaf (hk (v4, σ) hw)
    · have i22 := nleI c6
      refine q_aload_n (pc := 49) K dX4_ice_49 rfl rfl ?_
      refine q_get (pc := 50) (o := 3) (f := 1) (v := .ref (gob G 1)) K (wO_x hG) vw_3 iwX4_ice_X4 (by decide) mX4_ice_f16 rfl dX4_ice_50 ?_
      refine q_aload_n (pc := 53) K dX4_ice_53 rfl rfl ?_
      refine q_get (pc := 54) (o := 3) (f := 0) (v := .ref (gob G 0)) K (wO_x hG) vw_3 iwX4_ice_X4 (by decide) mX4_ice_f12 rfl dX4_ice_54 ?_
      refine q_callVv (pc := 57) (o := 1) (rm := rmX0_take) K (kX0_take l hN hG 1 (show 1 < 3 by decide) 0 (show 0 < 3 by decide) σ hw) gX4_ice_X0_take rfl hdV_X0_take ⟨Nat.le_of_ble_eq_true rfl, Nat.le_of_ble_eq_true rfl⟩ rfl rfl ⟨Nat.zero_le _, Nat.zero_le _⟩ (wO_ch hG (show 1 < 3 by decide)) vw_0 rfl rfl (Nat.le_of_ble_eq_true rfl) dX4_ice_57 ?_
      refine qq_nmV (fun r7 e8 => ?_)
      have hw9 : WD r7 := by rw [e8]; exact wX0_take 1 (show 1 < 3 by decide) 0 (show 0 < 3 by decide) hw 
      refine q_aload_n (pc := 60) K dX4_ice_60 rfl rfl ?_
      refine q_get (pc := 61) (o := 3) (f := 1) (v := .ref (gob G 1)) K (wO_x hG) vw_3 iwX4_ice_X4 (by decide) mX4_ice_f16 rfl dX4_ice_61 ?_
      refine q_iload (pc := 64) K dX4_ice_64 rfl ?_
      refine q_iload_n (pc := 66) K dX4_ice_66 rfl rfl ?_
      refine q_callVv (pc := 67) (o := 1) (rm := rmX0_bringIce) K (kX0_bringIce l hN hG 1 (show 1 < 3 by decide) v6 v1 r7 hw9 (by omega)) gX4_ice_X0_bringIce rfl hdV_X0_bringIce ⟨Nat.le_of_ble_eq_true rfl, Nat.le_of_ble_eq_true rfl⟩ rfl rfl ⟨Nat.zero_le _, Nat.zero_le _⟩ (wO_ch hG (show 1 < 3 by decide)) vw_0 rfl rfl (Nat.le_of_ble_eq_true rfl) dX4_ice_67 ?_
      refine qq_nmV (fun r10 e11 => ?_)
      have hw12 : WD r10 := by rw [e11]; exact wX0_bringIce 1 (show 1 < 3 by decide) v6 v1 hw9 (by omega)
      refine q_aload_n (pc := 70) K dX4_ice_70 rfl rfl ?_
      refine q_get (pc := 71) (o := 3) (f := 1) (v := .ref (gob G 1)) K (wO_x hG) vw_3 iwX4_ice_X4 (by decide) mX4_ice_f16 rfl dX4_ice_71 ?_
      refine q_iload_n (pc := 74) K dX4_ice_74 rfl rfl ?_
      refine q_callVi (pc := 75) (o := 1) (rm := rmX0_holdingBehind) K (kX0_holdingBehind l hN hG 1 (show 1 < 3 by decide) v2 r10 hw12 (by omega)) gX4_ice_X0_holdingBehind rfl hdV_X0_holdingBehind ⟨Nat.le_of_ble_eq_true rfl, Nat.le_of_ble_eq_true rfl⟩ rfl rfl ⟨Nat.zero_le _, Nat.zero_le _⟩ (wO_ch hG (show 1 < 3 by decide)) vw_0 rfl rfl (Nat.le_of_ble_eq_true rfl) dX4_ice_75 ?_
      refine qq_nmI (fun r13 e14 => ?_)
      have hw15 : WD r13.2 := by rw [e14]; exact wX0_holdingBehind 1 (show 1 < 3 by decide) v2 hw12 (by omega)
      refine q_istore (pc := 78) (lv' := [some (.ref (gob G 3)), some (.int v1), some (.int v2), none, some (.int v4), some (.int v5), some (.int v6), some (.int r13.1)]) K dX4_ice_78 (by decide) (Nat.le_of_ble_eq_true rfl) rfl ?_
      refine q_iload (pc := 80) K dX4_ice_80 rfl ?_
      refine q_iload (pc := 82) K dX4_ice_82 rfl ?_
      refine q_icmp_le (pc := 84) (tgt := 95) K dX4_ice_84 (by decide) (fun c16 => ?_) (fun c16 => ?_)
      · have i19 := leI c16
        refine q_iinc (pc := 95) (v := (v6 + 1)) (lv' := [some (.ref (gob G 3)), some (.int v1), some (.int v2), none, some (.int v4), some (.int v5), some (.int (v6 + 1)), some (.int r13.1)]) K dX4_ice_95 rfl rfl (by decide) rfl ?_
        refine q_goto (pc := 98) (tgt := 42) K dX4_ice_98 (by decide) ?_
        refine qq_drop 7 (lv' := [some (.ref (gob G 3)), some (.int v1), some (.int v2), none, some (.int v4), some (.int v5), some (.int (v6 + 1)), none]) rfl ?_
        have a17 := addI (x := v6) (y := 1) (by omega) (by omega)
        exact qq_out (ih v1 v2 v4 v5 (v6 + 1) r13.2 hw15 (by omega) (by omega) (by omega) hk)
      · have i20 := nleI c16
        refine q_iload (pc := 87) K dX4_ice_87 rfl ?_
        refine q_istore (pc := 89) (lv' := [some (.ref (gob G 3)), some (.int v1), some (.int v2), none, some (.int v6), some (.int v5), some (.int v6), some (.int r13.1)]) K dX4_ice_89 (by decide) (Nat.le_of_ble_eq_true rfl) rfl ?_
        refine q_iload (pc := 91) K dX4_ice_91 rfl ?_
        refine q_istore (pc := 93) (lv' := [some (.ref (gob G 3)), some (.int v1), some (.int v2), none, some (.int v6), some (.int r13.1), some (.int v6), some (.int r13.1)]) K dX4_ice_93 (by decide) (Nat.le_of_ble_eq_true rfl) rfl ?_
        refine q_iinc (pc := 95) (v := (v6 + 1)) (lv' := [some (.ref (gob G 3)), some (.int v1), some (.int v2), none, some (.int v6), some (.int r13.1), some (.int (v6 + 1)), some (.int r13.1)]) K dX4_ice_95 rfl rfl (by decide) rfl ?_
        refine q_goto (pc := 98) (tgt := 42) K dX4_ice_98 (by decide) ?_
        refine qq_drop 7 (lv' := [some (.ref (gob G 3)), some (.int v1), some (.int v2), none, some (.int v6), some (.int r13.1), some (.int (v6 + 1)), none]) rfl ?_
        have a18 := addI (x := v6) (y := 1) (by omega) (by omega)
        exact qq_out (ih v1 v2 v6 r13.1 (v6 + 1) r13.2 hw15 (by omega) (by omega) (by omega) hk)
set_option maxRecDepth 100000 in
set_option maxHeartbeats 4000000 in
theorem kX4_ice (l : Launch) {G : gT} (hN : wN G) (hG : gfl G = true) (v1 : Int32) (v2 : Int32) (σ : sg) (hw : WD σ) : cM l yX4_ice wsX4_ice rmX4_ice G [.ref (gob G 3), .int v1, .int v2] σ (some (.int (fX4_ice v1 v2 σ).1)) (fX4_ice v1 v2 σ).2 := by
  refine cM_of (maxL := 8) (ret := (some .int)) (cc := cX4_ice) (fX4_ice v1 v2 σ) RX4 hN (by decide +kernel) rfl rfl (Nat.le_of_ble_eq_true rfl) rfl ?_
  intro p e s m args below meth c K hr
  have km1000001 : ((-1000001) : Int32).toInt = -1000001 := rfl
  have km1 : ((-1) : Int32).toInt = -1 := rfl
  have k0 : (0 : Int32).toInt = 0 := rfl
  have k1 : (1 : Int32).toInt = 1 := rfl
  have k99 : (99 : Int32).toInt = 99 := rfl
  have k100 : (100 : Int32).toInt = 100 := rfl
  refine qq_st (lv' := [some (.ref (gob G 3)), some (.int v1), some (.int v2), none, none, none, none, none]) rfl rfl rfl ?_
  refine qq_T (fX4_ice.eq_1 ..) ?_
  refine q_iload_n (pc := 0) K dX4_ice_0 rfl rfl ?_
  refine q_iconst (pc := 1) (v := 1) K dX4_ice_1 (by decide) ?_
  refine q_bipush (pc := 2) (v := 99) K dX4_ice_2 (by decide) ?_
  refine q_callSi (pc := 4) (rm := rmX4_isWithin) K (kX4_isWithin l hN v1 1 99 σ) gX4_ice_X4_isWithin rfl hdS_X4_isWithin ⟨Nat.le_of_ble_eq_true rfl, Nat.le_of_ble_eq_true rfl⟩ rfl rfl ⟨Nat.zero_le _, Nat.zero_le _⟩ rfl rfl (Nat.le_of_ble_eq_true rfl) dX4_ice_4 ?_
  refine q_if_eq (pc := 7) (tgt := 20) K dX4_ice_7 (by decide) (fun c1 => ?_) (fun c1 => ?_)
  · have i32 := eqI c1
    have b33 := isW_f c1
    refine q_ldc (pc := 20) (v := (-1000001)) K dX4_ice_20 mX4_ice_c53 ?_
    refine q_istore_n (pc := 22) (lv' := [some (.ref (gob G 3)), some (.int v1), some (.int v2), some (.int (-1000001)), none, none, none, none]) K dX4_ice_22 rfl (by decide) (Nat.le_of_ble_eq_true rfl) rfl ?_
    refine q_iload_n (pc := 23) K dX4_ice_23 rfl rfl ?_
    refine q_if_eq_f (pc := 24) (tgt := 33) K (by decide) dX4_ice_24 (by decide) ?_
    refine q_aload_n (pc := 27) K dX4_ice_27 rfl rfl ?_
    refine q_iload_n (pc := 28) K dX4_ice_28 rfl rfl ?_
    refine q_callVi (pc := 29) (o := 3) (rm := rmX4_found) K (kX4_found l hN hG (-1000001) σ hw) gX4_ice_X4_found rfl hdV_X4_found ⟨Nat.le_of_ble_eq_true rfl, Nat.le_of_ble_eq_true rfl⟩ rfl rfl ⟨Nat.zero_le _, Nat.zero_le _⟩ (wO_x hG) vw_3 rfl rfl (Nat.le_of_ble_eq_true rfl) dX4_ice_29 ?_
    refine qq_nmI (fun r2 e3 => ?_)
    have hw4 : WD r2.2 := by rw [e3]; exact wX4_found (-1000001) hw 
    exact q_iret K hr dX4_ice_32
  · have i34 := neI c1
    have b35 := isW_t c1
    refine q_aload_n (pc := 10) K dX4_ice_10 rfl rfl ?_
    refine q_iload_n (pc := 11) K dX4_ice_11 rfl rfl ?_
    refine q_bipush (pc := 12) (v := 100) K dX4_ice_12 (by decide) ?_
    refine q_callVi (pc := 14) (o := 3) (rm := rmX4_refusal) K (kX4_refusal l hN hG v2 100 σ hw) gX4_ice_X4_refusal rfl hdV_X4_refusal ⟨Nat.le_of_ble_eq_true rfl, Nat.le_of_ble_eq_true rfl⟩ rfl rfl ⟨Nat.zero_le _, Nat.zero_le _⟩ (wO_x hG) vw_3 rfl rfl (Nat.le_of_ble_eq_true rfl) dX4_ice_14 ?_
    refine q_goto (pc := 17) (tgt := 22) K dX4_ice_17 (by decide) ?_
    refine q_istore_n (pc := 22) (lv' := [some (.ref (gob G 3)), some (.int v1), some (.int v2), some (.int (fX4_refusal v2 100 σ)), none, none, none, none]) K dX4_ice_22 rfl (by decide) (Nat.le_of_ble_eq_true rfl) rfl ?_
    refine q_iload_n (pc := 23) K dX4_ice_23 rfl rfl ?_
    refine q_if_eq (pc := 24) (tgt := 33) K dX4_ice_24 (by decide) (fun c5 => ?_) (fun c5 => ?_)
    · have i29 := eqI c5
      have b30 := ref_f c5
      refine q_iconst (pc := 33) (v := 0) K dX4_ice_33 (by decide) ?_
      refine q_istore (pc := 34) (lv' := [some (.ref (gob G 3)), some (.int v1), some (.int v2), some (.int (fX4_refusal v2 100 σ)), some (.int 0), none, none, none]) K dX4_ice_34 (by decide) (Nat.le_of_ble_eq_true rfl) rfl ?_
      refine q_iconst (pc := 36) (v := (-1)) K dX4_ice_36 (by decide) ?_
      refine q_istore (pc := 37) (lv' := [some (.ref (gob G 3)), some (.int v1), some (.int v2), some (.int (fX4_refusal v2 100 σ)), some (.int 0), some (.int (-1)), none, none]) K dX4_ice_37 (by decide) (Nat.le_of_ble_eq_true rfl) rfl ?_
      refine q_iconst (pc := 39) (v := 0) K dX4_ice_39 (by decide) ?_
      refine q_istore (pc := 40) (lv' := [some (.ref (gob G 3)), some (.int v1), some (.int v2), some (.int (fX4_refusal v2 100 σ)), some (.int 0), some (.int (-1)), some (.int 0), none]) K dX4_ice_40 (by decide) (Nat.le_of_ble_eq_true rfl) rfl ?_
      refine qq_drop 3 (lv' := [some (.ref (gob G 3)), some (.int v1), some (.int v2), none, some (.int 0), some (.int (-1)), some (.int 0), none]) rfl ?_
      refine lX4_ice_42 l hN hG K 7 v1 v2 0 (-1) 0 σ hw (by omega) (by omega) (by omega) (fun r23 hw25 => ?_)
      refine q_iload (pc := 101) K dX4_ice_101 rfl ?_
      exact q_iret K hr dX4_ice_103
    · have i31 := neI c5
      refine q_aload_n (pc := 27) K dX4_ice_27 rfl rfl ?_
      refine q_iload_n (pc := 28) K dX4_ice_28 rfl rfl ?_
      refine q_callVi (pc := 29) (o := 3) (rm := rmX4_found) K (kX4_found l hN hG (fX4_refusal v2 100 σ) σ hw) gX4_ice_X4_found rfl hdV_X4_found ⟨Nat.le_of_ble_eq_true rfl, Nat.le_of_ble_eq_true rfl⟩ rfl rfl ⟨Nat.zero_le _, Nat.zero_le _⟩ (wO_x hG) vw_3 rfl rfl (Nat.le_of_ble_eq_true rfl) dX4_ice_29 ?_
      refine qq_nmI (fun r26 e27 => ?_)
      have hw28 : WD r26.2 := by rw [e27]; exact wX4_found (fX4_refusal v2 100 σ) hw 
      exact q_iret K hr dX4_ice_32
theorem hdV_X4_blocks : yX4_blocks.cls = RX4 ∧ yX4_blocks.cls ≠ "java/lang/invoke/MethodHandle" ∧ yX4_blocks.cls ≠ "java/lang/invoke/VarHandle" ∧ (parseMethodDescriptor yX4_blocks.desc).map (fun d => d.parameters.length) = some 2 := by decide +kernel
theorem mX4_blocks_f12 : Cond.fieldLink RX4 12 "WaxTreaties" "live" "LWaxTreaties$Chancery;" ∈ wsX4_blocks := List.mem_of_getElem? (i := 1) rfl
theorem iwX4_blocks_X4 : ∀ w ∈ wsX40, w ∈ wsX4_blocks := fun w h => List.mem_cons_of_mem _ (List.mem_append_left _ (List.mem_append_right _ h))
theorem mX4_blocks_f73 : Cond.fieldLink RX4 73 "WaxTreaties$Chancery" "shelf" "[I" ∈ wsX4_blocks := List.mem_of_getElem? (i := 2) rfl
theorem iwX4_blocks_X0 : ∀ w ∈ wsX00, w ∈ wsX4_blocks := fun w h => List.mem_cons_of_mem _ (List.mem_append_right _ h)
theorem mX4_blocks_f125 : Cond.fieldLink RX4 125 "WaxTreaties$Chancery" "ice" "[I" ∈ wsX4_blocks := List.mem_of_getElem? (i := 3) rfl
theorem mX4_blocks_l204 : Cond.methodLink RX4 204 Lib.Math.min.name ∈ wsX4_blocks := List.mem_of_getElem? (i := 4) rfl
theorem mX4_blocks_s204 : Cond.static Lib.Math.min.name ∈ wsX4_blocks := List.mem_of_getElem? (i := 5) rfl
theorem mX4_blocks_iM : Cond.initialized "java/lang/Math" ∈ wsX4_blocks := List.mem_of_getElem? (i := 6) rfl
theorem mX4_blocks_d204 : Cond.code Lib.Math.min.name Lib.Math.min.code 2 (some .int) ∈ wsX4_blocks := List.mem_of_getElem? (i := 7) rfl
theorem mX4_blocks_c190 : Cond.constant RX4 190 (-1000004) ∈ wsX4_blocks := List.mem_of_getElem? (i := 9) rfl
theorem mX4_blocks_f16 : Cond.fieldLink RX4 16 "WaxTreaties" "trial" "LWaxTreaties$Chancery;" ∈ wsX4_blocks := List.mem_of_getElem? (i := 8) rfl
set_option maxRecDepth 100000 in
set_option maxHeartbeats 4000000 in
theorem lX4_blocks_50 {p : Program} (l : Launch) {e : Env} {s : State} {m : MethodId} {args : Array Value} {below : List Frame} {meth : Method} {c : Code} {G : gT} (hN : wN G) (hG : gfl G = true) (K : qK p s m args meth c cX4_blocks 7 RX4 wsX4_blocks G) : ∀ (k : Nat) (v1 v2 v4 v5 v6 : Int32) (σ : sg) (hw : WD σ) (hv6 : 0 ≤ v6.toInt ∧ v6.toInt ≤ 101) (he : v5.toInt ≤ 100) (hnv2 : v2.toInt ≤ 100) (hs : 0 ≤ v4.toInt ∧ v4.toInt ≤ 5) (hmu : (101 - v6.toInt).toNat < k) (hr : meth.sig.returnType = some .int) (T0 : Int32 × sg), qq p l e (headSpec wsX4_blocks rmX4_blocks).room s m args below meth c (MQ below (cQ G (some (.int T0.1)) T0.2) args s 0 0 (wA G)) 7 G (fun T => T = T0) (LX4_blocks_50 k v1 v2 v4 v5 v6 σ) 50 [some (.ref (gob G 3)), some (.int v1), some (.int v2), none, some (.int v4), some (.int v5), some (.int v6)] [] σ := by
  intro k
  induction k with
  | zero => intro v1 v2 v4 v5 v6 σ hw hv6 he hnv2 hs hmu hr T0; exact absurd hmu (Nat.not_lt_zero _)
  | succ k ih =>
    intro v1 v2 v4 v5 v6 σ hw hv6 he hnv2 hs hmu hr T0
    have km1000004 : ((-1000004) : Int32).toInt = -1000004 := rfl
    have k0 : (0 : Int32).toInt = 0 := rfl
    have k1 : (1 : Int32).toInt = 1 := rfl
    refine qq_T (LX4_blocks_50.eq_2 ..) ?_
    refine q_iload (pc := 50) K dX4_blocks_50 rfl ?_
    refine q_iload (pc := 52) K dX4_blocks_52 rfl ?_
    refine q_icmp_gt (pc := 54) (tgt := 100) K dX4_blocks_54 (by decide) (fun c3 => ?_) (fun c3 => ?_)
    · have i20 := ltI c3
      refine q_aload_n (pc := 100) K dX4_blocks_100 rfl rfl ?_
      refine q_ldc (pc := 101) (v := (-1000004)) K dX4_blocks_101 mX4_blocks_c190 ?_
      refine q_callVi (pc := 103) (o := 3) (rm := rmX4_found) K (kX4_found l hN hG (-1000004) σ hw) gX4_blocks_X4_found rfl hdV_X4_found ⟨Nat.le_of_ble_eq_true rfl, Nat.le_of_ble_eq_true rfl⟩ rfl rfl ⟨Nat.zero_le _, Nat.zero_le _⟩ (wO_x hG) vw_3 rfl rfl (Nat.le_of_ble_eq_true rfl) dX4_blocks_103 ?_
      refine qq_nmI (fun r4 e5 => ?_)
      have hw6 : WD r4.2 := by rw [e5]; exact wX4_found (-1000004) hw 
      exact q_iret K hr dX4_blocks_106
    · have i21 := nltI c3
      refine q_aload_n (pc := 57) K dX4_blocks_57 rfl rfl ?_
      refine q_get (pc := 58) (o := 3) (f := 1) (v := .ref (gob G 1)) K (wO_x hG) vw_3 iwX4_blocks_X4 (by decide) mX4_blocks_f16 rfl dX4_blocks_58 ?_
      refine q_aload_n (pc := 61) K dX4_blocks_61 rfl rfl ?_
      refine q_get (pc := 62) (o := 3) (f := 0) (v := .ref (gob G 0)) K (wO_x hG) vw_3 iwX4_blocks_X4 (by decide) mX4_blocks_f12 rfl dX4_blocks_62 ?_
      refine q_callVv (pc := 65) (o := 1) (rm := rmX0_take) K (kX0_take l hN hG 1 (show 1 < 3 by decide) 0 (show 0 < 3 by decide) σ hw) gX4_blocks_X0_take rfl hdV_X0_take ⟨Nat.le_of_ble_eq_true rfl, Nat.le_of_ble_eq_true rfl⟩ rfl rfl ⟨Nat.zero_le _, Nat.zero_le _⟩ (wO_ch hG (show 1 < 3 by decide)) vw_0 rfl rfl (Nat.le_of_ble_eq_true rfl) dX4_blocks_65 ?_
      refine qq_nmV (fun r7 e8 => ?_)
      have hw9 : WD r7 := by rw [e8]; exact wX0_take 1 (show 1 < 3 by decide) 0 (show 0 < 3 by decide) hw 
      refine q_aload_n (pc := 68) K dX4_blocks_68 rfl rfl ?_
      refine q_get (pc := 69) (o := 3) (f := 1) (v := .ref (gob G 1)) K (wO_x hG) vw_3 iwX4_blocks_X4 (by decide) mX4_blocks_f16 rfl dX4_blocks_69 ?_
      refine q_iload (pc := 72) K dX4_blocks_72 rfl ?_
      refine q_iload (pc := 74) K dX4_blocks_74 rfl ?_
      refine q_callVv (pc := 76) (o := 1) (rm := rmX0_bringIce) K (kX0_bringIce l hN hG 1 (show 1 < 3 by decide) v4 v6 r7 hw9 (by omega)) gX4_blocks_X0_bringIce rfl hdV_X0_bringIce ⟨Nat.le_of_ble_eq_true rfl, Nat.le_of_ble_eq_true rfl⟩ rfl rfl ⟨Nat.zero_le _, Nat.zero_le _⟩ (wO_ch hG (show 1 < 3 by decide)) vw_0 rfl rfl (Nat.le_of_ble_eq_true rfl) dX4_blocks_76 ?_
      refine qq_nmV (fun r10 e11 => ?_)
      have hw12 : WD r10 := by rw [e11]; exact wX0_bringIce 1 (show 1 < 3 by decide) v4 v6 hw9 (by omega)
      refine q_aload_n (pc := 79) K dX4_blocks_79 rfl rfl ?_
      refine q_get (pc := 80) (o := 3) (f := 1) (v := .ref (gob G 1)) K (wO_x hG) vw_3 iwX4_blocks_X4 (by decide) mX4_blocks_f16 rfl dX4_blocks_80 ?_
      refine q_iload_n (pc := 83) K dX4_blocks_83 rfl rfl ?_
      refine q_iload_n (pc := 84) K dX4_blocks_84 rfl rfl ?_
      refine q_callVi (pc := 85) (o := 1) (rm := rmX0_holdsBehind) K (kX0_holdsBehind l hN hG 1 (show 1 < 3 by decide) v1 v2 r10 hw12 (by omega)) gX4_blocks_X0_holdsBehind rfl hdV_X0_holdsBehind ⟨Nat.le_of_ble_eq_true rfl, Nat.le_of_ble_eq_true rfl⟩ rfl rfl ⟨Nat.zero_le _, Nat.zero_le _⟩ (wO_ch hG (show 1 < 3 by decide)) vw_0 rfl rfl (Nat.le_of_ble_eq_true rfl) dX4_blocks_85 ?_
      refine qq_nmI (fun r13 e14 => ?_)
      have hw15 : WD r13.2 := by rw [e14]; exact wX0_holdsBehind 1 (show 1 < 3 by decide) v1 v2 hw12 (by omega)
      refine q_if_eq (pc := 88) (tgt := 94) K dX4_blocks_88 (by decide) (fun c16 => ?_) (fun c16 => ?_)
      · have i18 := eqI c16
        refine q_iinc (pc := 94) (v := (v6 + 1)) (lv' := [some (.ref (gob G 3)), some (.int v1), some (.int v2), none, some (.int v4), some (.int v5), some (.int (v6 + 1))]) K dX4_blocks_94 rfl rfl (by decide) rfl ?_
        refine q_goto (pc := 97) (tgt := 50) K dX4_blocks_97 (by decide) ?_
        have a17 := addI (x := v6) (y := 1) (by omega) (by omega)
        exact ih v1 v2 v4 v5 (v6 + 1) r13.2 hw15 (by omega) (by omega) (by omega) (by omega) (by omega) hr _
      · have i19 := neI c16
        refine q_iload (pc := 91) K dX4_blocks_91 rfl ?_
        exact q_iret K hr dX4_blocks_93
set_option maxRecDepth 100000 in
set_option maxHeartbeats 4000000 in
theorem kX4_blocks (l : Launch) {G : gT} (hN : wN G) (hG : gfl G = true) (v1 : Int32) (v2 : Int32) (σ : sg) (hw : WD σ) : cM l yX4_blocks wsX4_blocks rmX4_blocks G [.ref (gob G 3), .int v1, .int v2] σ (some (.int (fX4_blocks v1 v2 σ).1)) (fX4_blocks v1 v2 σ).2 := by
  refine cM_of (maxL := 7) (ret := (some .int)) (cc := cX4_blocks) (fX4_blocks v1 v2 σ) RX4 hN (by decide +kernel) rfl rfl (Nat.le_of_ble_eq_true rfl) rfl ?_
  intro p e s m args below meth c K hr
  have k0 : (0 : Int32).toInt = 0 := rfl
  have k99 : (99 : Int32).toInt = 99 := rfl
  refine qq_st (lv' := [some (.ref (gob G 3)), some (.int v1), some (.int v2), none, none, none, none]) rfl rfl rfl ?_
  refine qq_T (fX4_blocks.eq_1 ..) ?_
  refine q_aload_n (pc := 0) K dX4_blocks_0 rfl rfl ?_
  refine q_iload_n (pc := 1) K dX4_blocks_1 rfl rfl ?_
  refine q_iload_n (pc := 2) K dX4_blocks_2 rfl rfl ?_
  refine q_callVi (pc := 3) (o := 3) (rm := rmX4_refusalOfDeed) K (kX4_refusalOfDeed l hN hG v1 v2 σ hw) gX4_blocks_X4_refusalOfDeed rfl hdV_X4_refusalOfDeed ⟨Nat.le_of_ble_eq_true rfl, Nat.le_of_ble_eq_true rfl⟩ rfl rfl ⟨Nat.zero_le _, Nat.zero_le _⟩ (wO_x hG) vw_3 rfl rfl (Nat.le_of_ble_eq_true rfl) dX4_blocks_3 ?_
  refine q_istore_n (pc := 6) (lv' := [some (.ref (gob G 3)), some (.int v1), some (.int v2), some (.int (fX4_refusalOfDeed v1 v2 σ)), none, none, none]) K dX4_blocks_6 rfl (by decide) (Nat.le_of_ble_eq_true rfl) rfl ?_
  refine q_iload_n (pc := 7) K dX4_blocks_7 rfl rfl ?_
  refine q_if_eq (pc := 8) (tgt := 17) K dX4_blocks_8 (by decide) (fun c1 => ?_) (fun c1 => ?_)
  · have i25 := eqI c1
    have b26 := refD_f hw c1
    refine q_aload_n (pc := 17) K dX4_blocks_17 rfl rfl ?_
    refine q_get (pc := 18) (o := 3) (f := 0) (v := .ref (gob G 0)) K (wO_x hG) vw_3 iwX4_blocks_X4 (by decide) mX4_blocks_f12 rfl dX4_blocks_18 ?_
    refine q_get (pc := 21) (o := 0) (f := 1) (v := .ref (gad G (8 * 0 + 1))) K (wO_ch hG (show 0 < 3 by decide)) vw_0 iwX4_blocks_X0 (by decide) mX4_blocks_f73 rfl dX4_blocks_21 ?_
    refine q_iload_n (pc := 24) K dX4_blocks_24 rfl rfl ?_
    refine q_iald (pc := 25) (a := 8 * 0 + 1) K (by rw [wna_t hG]; have := (show 0 < 3 by decide); omega) (vinN (wlc1 hG (show 0 < 3 by decide)) (by omega) (by omega)) dX4_blocks_25 ?_
    have w2 := wd_shelf hw (show 0 < 3 by decide) v1
    refine q_istore (pc := 26) (lv' := [some (.ref (gob G 3)), some (.int v1), some (.int v2), some (.int (fX4_refusalOfDeed v1 v2 σ)), some (.int (rA σ (8 * 0 + 1) v1)), none, none]) K dX4_blocks_26 (by decide) (Nat.le_of_ble_eq_true rfl) rfl ?_
    refine q_iload_n (pc := 28) K dX4_blocks_28 rfl rfl ?_
    refine q_bipush (pc := 29) (v := 99) K dX4_blocks_29 (by decide) ?_
    refine q_aload_n (pc := 31) K dX4_blocks_31 rfl rfl ?_
    refine q_get (pc := 32) (o := 3) (f := 0) (v := .ref (gob G 0)) K (wO_x hG) vw_3 iwX4_blocks_X4 (by decide) mX4_blocks_f12 rfl dX4_blocks_32 ?_
    refine q_get (pc := 35) (o := 0) (f := 5) (v := .ref (gad G (8 * 0 + 5))) K (wO_ch hG (show 0 < 3 by decide)) vw_0 iwX4_blocks_X0 (by decide) mX4_blocks_f125 rfl dX4_blocks_35 ?_
    refine q_iload (pc := 38) K dX4_blocks_38 rfl ?_
    refine q_iald (pc := 40) (a := 8 * 0 + 5) K (by rw [wna_t hG]; have := (show 0 < 3 by decide); omega) (vinN (wlc5 hG (show 0 < 3 by decide)) (by omega) (by omega)) dX4_blocks_40 ?_
    refine q_isub (pc := 41) K dX4_blocks_41 ?_
    refine q_mmin (pc := 42) K mX4_blocks_l204 mX4_blocks_s204 mX4_blocks_iM mX4_blocks_d204 (Nat.le_of_ble_eq_true rfl) (Nat.le_of_ble_eq_true rfl) dX4_blocks_42 ?_
    refine q_istore (pc := 45) (lv' := [some (.ref (gob G 3)), some (.int v1), some (.int v2), some (.int (fX4_refusalOfDeed v1 v2 σ)), some (.int (rA σ (8 * 0 + 1) v1)), some (.int (jmin v2 (99 - (rA σ (8 * 0 + 5) (rA σ (8 * 0 + 1) v1))))), none]) K dX4_blocks_45 (by decide) (Nat.le_of_ble_eq_true rfl) rfl ?_
    refine q_iconst (pc := 47) (v := 0) K dX4_blocks_47 (by decide) ?_
    refine q_istore (pc := 48) (lv' := [some (.ref (gob G 3)), some (.int v1), some (.int v2), some (.int (fX4_refusalOfDeed v1 v2 σ)), some (.int (rA σ (8 * 0 + 1) v1)), some (.int (jmin v2 (99 - (rA σ (8 * 0 + 5) (rA σ (8 * 0 + 1) v1))))), some (.int 0)]) K dX4_blocks_48 (by decide) (Nat.le_of_ble_eq_true rfl) rfl ?_
    refine qq_drop 3 (lv' := [some (.ref (gob G 3)), some (.int v1), some (.int v2), none, some (.int (rA σ (8 * 0 + 1) v1)), some (.int (jmin v2 (99 - (rA σ (8 * 0 + 5) (rA σ (8 * 0 + 1) v1))))), some (.int 0)]) rfl ?_
    exact lX4_blocks_50 l hN hG K 102 v1 v2 (rA σ (8 * 0 + 1) v1) (jmin v2 (99 - (rA σ (8 * 0 + 5) (rA σ (8 * 0 + 1) v1)))) 0 σ hw (by omega) (by have q9 := jminL v2 (99 - (rA σ (8 * 0 + 5) (rA σ (8 * 0 + 1) v1))); omega) (by omega) (by omega) (by omega) hr _
  · have i27 := neI c1
    refine q_aload_n (pc := 11) K dX4_blocks_11 rfl rfl ?_
    refine q_iload_n (pc := 12) K dX4_blocks_12 rfl rfl ?_
    refine q_callVi (pc := 13) (o := 3) (rm := rmX4_found) K (kX4_found l hN hG (fX4_refusalOfDeed v1 v2 σ) σ hw) gX4_blocks_X4_found rfl hdV_X4_found ⟨Nat.le_of_ble_eq_true rfl, Nat.le_of_ble_eq_true rfl⟩ rfl rfl ⟨Nat.zero_le _, Nat.zero_le _⟩ (wO_x hG) vw_3 rfl rfl (Nat.le_of_ble_eq_true rfl) dX4_blocks_13 ?_
    refine qq_nmI (fun r22 e23 => ?_)
    have hw24 : WD r22.2 := by rw [e23]; exact wX4_found (fX4_refusalOfDeed v1 v2 σ) hw 
    exact q_iret K hr dX4_blocks_16
theorem hdV_X4_bears : yX4_bears.cls = RX4 ∧ yX4_bears.cls ≠ "java/lang/invoke/MethodHandle" ∧ yX4_bears.cls ≠ "java/lang/invoke/VarHandle" ∧ (parseMethodDescriptor yX4_bears.desc).map (fun d => d.parameters.length) = some 2 := by decide +kernel
theorem mX4_bears_c190 : Cond.constant RX4 190 (-1000004) ∈ wsX4_bears := List.mem_of_getElem? (i := 4) rfl
theorem mX4_bears_f16 : Cond.fieldLink RX4 16 "WaxTreaties" "trial" "LWaxTreaties$Chancery;" ∈ wsX4_bears := List.mem_of_getElem? (i := 1) rfl
theorem iwX4_bears_X4 : ∀ w ∈ wsX40, w ∈ wsX4_bears := fun w h => List.mem_cons_of_mem _ (List.mem_append_left _ (List.mem_append_right _ h))
theorem mX4_bears_f12 : Cond.fieldLink RX4 12 "WaxTreaties" "live" "LWaxTreaties$Chancery;" ∈ wsX4_bears := List.mem_of_getElem? (i := 2) rfl
theorem mX4_bears_f145 : Cond.fieldLink RX4 145 "WaxTreaties$Chancery" "summer" "I" ∈ wsX4_bears := List.mem_of_getElem? (i := 3) rfl
theorem iwX4_bears_X0 : ∀ w ∈ wsX00, w ∈ wsX4_bears := fun w h => List.mem_cons_of_mem _ (List.mem_append_right _ h)
set_option maxRecDepth 100000 in
set_option maxHeartbeats 4000000 in
theorem lX4_bears_21 {p : Program} (l : Launch) {e : Env} {s : State} {m : MethodId} {args : Array Value} {below : List Frame} {meth : Method} {c : Code} {G : gT} (hN : wN G) (hG : gfl G = true) (K : qK p s m args meth c cX4_bears 5 RX4 wsX4_bears G) : ∀ (k : Nat) (v1 v2 v4 : Int32) (σ : sg) (hw : WD σ) (hv4 : -1 ≤ v4.toInt ∧ v4.toInt ≤ 40) (hnv2 : v2.toInt ≤ 100) (hmu : (v4.toInt + 1).toNat < k) (hr : meth.sig.returnType = some .int) (T0 : Int32 × sg), qq p l e (headSpec wsX4_bears rmX4_bears).room s m args below meth c (MQ below (cQ G (some (.int T0.1)) T0.2) args s 0 0 (wA G)) 5 G (fun T => T = T0) (LX4_bears_21 k v1 v2 v4 σ) 21 [some (.ref (gob G 3)), some (.int v1), some (.int v2), none, some (.int v4)] [] σ := by
  intro k
  induction k with
  | zero => intro v1 v2 v4 σ hw hv4 hnv2 hmu hr T0; exact absurd hmu (Nat.not_lt_zero _)
  | succ k ih =>
    intro v1 v2 v4 σ hw hv4 hnv2 hmu hr T0
    have km1000004 : ((-1000004) : Int32).toInt = -1000004 := rfl
    have km1 : ((-1) : Int32).toInt = -1 := rfl
    have k0 : (0 : Int32).toInt = 0 := rfl
    refine qq_T (LX4_bears_21.eq_2 ..) ?_
    refine q_iload (pc := 21) K dX4_bears_21 rfl ?_
    refine q_if_lt (pc := 23) (tgt := 67) K dX4_bears_23 (by decide) (fun c2 => ?_) (fun c2 => ?_)
    · have i19 := ltI c2
      refine q_aload_n (pc := 67) K dX4_bears_67 rfl rfl ?_
      refine q_ldc (pc := 68) (v := (-1000004)) K dX4_bears_68 mX4_bears_c190 ?_
      refine q_callVi (pc := 70) (o := 3) (rm := rmX4_found) K (kX4_found l hN hG (-1000004) σ hw) gX4_bears_X4_found rfl hdV_X4_found ⟨Nat.le_of_ble_eq_true rfl, Nat.le_of_ble_eq_true rfl⟩ rfl rfl ⟨Nat.zero_le _, Nat.zero_le _⟩ (wO_x hG) vw_3 rfl rfl (Nat.le_of_ble_eq_true rfl) dX4_bears_70 ?_
      refine qq_nmI (fun r3 e4 => ?_)
      have hw5 : WD r3.2 := by rw [e4]; exact wX4_found (-1000004) hw 
      exact q_iret K hr dX4_bears_73
    · have i20 := nltI c2
      refine q_aload_n (pc := 26) K dX4_bears_26 rfl rfl ?_
      refine q_get (pc := 27) (o := 3) (f := 1) (v := .ref (gob G 1)) K (wO_x hG) vw_3 iwX4_bears_X4 (by decide) mX4_bears_f16 rfl dX4_bears_27 ?_
      refine q_aload_n (pc := 30) K dX4_bears_30 rfl rfl ?_
      refine q_get (pc := 31) (o := 3) (f := 0) (v := .ref (gob G 0)) K (wO_x hG) vw_3 iwX4_bears_X4 (by decide) mX4_bears_f12 rfl dX4_bears_31 ?_
      refine q_callVv (pc := 34) (o := 1) (rm := rmX0_take) K (kX0_take l hN hG 1 (show 1 < 3 by decide) 0 (show 0 < 3 by decide) σ hw) gX4_bears_X0_take rfl hdV_X0_take ⟨Nat.le_of_ble_eq_true rfl, Nat.le_of_ble_eq_true rfl⟩ rfl rfl ⟨Nat.zero_le _, Nat.zero_le _⟩ (wO_ch hG (show 1 < 3 by decide)) vw_0 rfl rfl (Nat.le_of_ble_eq_true rfl) dX4_bears_34 ?_
      refine qq_nmV (fun r6 e7 => ?_)
      have hw8 : WD r6 := by rw [e7]; exact wX0_take 1 (show 1 < 3 by decide) 0 (show 0 < 3 by decide) hw 
      refine q_aload_n (pc := 37) K dX4_bears_37 rfl rfl ?_
      refine q_get (pc := 38) (o := 3) (f := 1) (v := .ref (gob G 1)) K (wO_x hG) vw_3 iwX4_bears_X4 (by decide) mX4_bears_f16 rfl dX4_bears_38 ?_
      refine q_iload (pc := 41) K dX4_bears_41 rfl ?_
      refine q_put (pc := 43) (o := 1) (f := 12) (i := (7 * 1 + 5)) (ty := .int) K tyX0 tyX0_ok nmX0 (wO_ch hG (show 1 < 3 by decide)) vw_0 iwX4_bears_X0 (by decide) mX4_bears_f145 rfl (tyX0_ok 12 (by decide)) rfl rfl (Nat.le_of_ble_eq_true rfl) (wP_ch12 hG (show 1 < 3 by decide) _) dX4_bears_43 (fun s9 e10 => ?_)
      have hw11 : WD s9 := by rw [e10]; exact wdF hw8 (by have := (show 1 < 3 by decide); omega)
      refine q_aload_n (pc := 46) K dX4_bears_46 rfl rfl ?_
      refine q_get (pc := 47) (o := 3) (f := 1) (v := .ref (gob G 1)) K (wO_x hG) vw_3 iwX4_bears_X4 (by decide) mX4_bears_f16 rfl dX4_bears_47 ?_
      refine q_iload_n (pc := 50) K dX4_bears_50 rfl rfl ?_
      refine q_iload_n (pc := 51) K dX4_bears_51 rfl rfl ?_
      refine q_callVi (pc := 52) (o := 1) (rm := rmX0_holdsBehind) K (kX0_holdsBehind l hN hG 1 (show 1 < 3 by decide) v1 v2 s9 hw11 (by omega)) gX4_bears_X0_holdsBehind rfl hdV_X0_holdsBehind ⟨Nat.le_of_ble_eq_true rfl, Nat.le_of_ble_eq_true rfl⟩ rfl rfl ⟨Nat.zero_le _, Nat.zero_le _⟩ (wO_ch hG (show 1 < 3 by decide)) vw_0 rfl rfl (Nat.le_of_ble_eq_true rfl) dX4_bears_52 ?_
      refine qq_nmI (fun r12 e13 => ?_)
      have hw14 : WD r12.2 := by rw [e13]; exact wX0_holdsBehind 1 (show 1 < 3 by decide) v1 v2 hw11 (by omega)
      refine q_if_eq (pc := 55) (tgt := 61) K dX4_bears_55 (by decide) (fun c15 => ?_) (fun c15 => ?_)
      · have i17 := eqI c15
        refine q_iinc (pc := 61) (v := (v4 + (-1))) (lv' := [some (.ref (gob G 3)), some (.int v1), some (.int v2), none, some (.int (v4 + (-1)))]) K dX4_bears_61 rfl rfl (by decide) rfl ?_
        refine q_goto (pc := 64) (tgt := 21) K dX4_bears_64 (by decide) ?_
        have a16 := addI (x := v4) (y := (-1)) (by omega) (by omega)
        exact ih v1 v2 (v4 + (-1)) r12.2 hw14 (by omega) (by omega) (by omega) hr _
      · have i18 := neI c15
        refine q_iload (pc := 58) K dX4_bears_58 rfl ?_
        exact q_iret K hr dX4_bears_60
set_option maxRecDepth 100000 in
set_option maxHeartbeats 4000000 in
theorem kX4_bears (l : Launch) {G : gT} (hN : wN G) (hG : gfl G = true) (v1 : Int32) (v2 : Int32) (σ : sg) (hw : WD σ) : cM l yX4_bears wsX4_bears rmX4_bears G [.ref (gob G 3), .int v1, .int v2] σ (some (.int (fX4_bears v1 v2 σ).1)) (fX4_bears v1 v2 σ).2 := by
  refine cM_of (maxL := 5) (ret := (some .int)) (cc := cX4_bears) (fX4_bears v1 v2 σ) RX4 hN (by decide +kernel) rfl rfl (Nat.le_of_ble_eq_true rfl) rfl ?_
  intro p e s m args below meth c K hr
  have k0 : (0 : Int32).toInt = 0 := rfl
  have k40 : (40 : Int32).toInt = 40 := rfl
  refine qq_st (lv' := [some (.ref (gob G 3)), some (.int v1), some (.int v2), none, none]) rfl rfl rfl ?_
  refine qq_T (fX4_bears.eq_1 ..) ?_
  refine q_aload_n (pc := 0) K dX4_bears_0 rfl rfl ?_
  refine q_iload_n (pc := 1) K dX4_bears_1 rfl rfl ?_
  refine q_iload_n (pc := 2) K dX4_bears_2 rfl rfl ?_
  refine q_callVi (pc := 3) (o := 3) (rm := rmX4_refusalOfDeed) K (kX4_refusalOfDeed l hN hG v1 v2 σ hw) gX4_bears_X4_refusalOfDeed rfl hdV_X4_refusalOfDeed ⟨Nat.le_of_ble_eq_true rfl, Nat.le_of_ble_eq_true rfl⟩ rfl rfl ⟨Nat.zero_le _, Nat.zero_le _⟩ (wO_x hG) vw_3 rfl rfl (Nat.le_of_ble_eq_true rfl) dX4_bears_3 ?_
  refine q_istore_n (pc := 6) (lv' := [some (.ref (gob G 3)), some (.int v1), some (.int v2), some (.int (fX4_refusalOfDeed v1 v2 σ)), none]) K dX4_bears_6 rfl (by decide) (Nat.le_of_ble_eq_true rfl) rfl ?_
  refine q_iload_n (pc := 7) K dX4_bears_7 rfl rfl ?_
  refine q_if_eq (pc := 8) (tgt := 17) K dX4_bears_8 (by decide) (fun c1 => ?_) (fun c1 => ?_)
  · have i24 := eqI c1
    have b25 := refD_f hw c1
    refine q_bipush (pc := 17) (v := 40) K dX4_bears_17 (by decide) ?_
    refine q_istore (pc := 19) (lv' := [some (.ref (gob G 3)), some (.int v1), some (.int v2), some (.int (fX4_refusalOfDeed v1 v2 σ)), some (.int 40)]) K dX4_bears_19 (by decide) (Nat.le_of_ble_eq_true rfl) rfl ?_
    refine qq_drop 3 (lv' := [some (.ref (gob G 3)), some (.int v1), some (.int v2), none, some (.int 40)]) rfl ?_
    exact lX4_bears_21 l hN hG K 42 v1 v2 40 σ hw (by omega) (by omega) (by omega) hr _
  · have i26 := neI c1
    refine q_aload_n (pc := 11) K dX4_bears_11 rfl rfl ?_
    refine q_iload_n (pc := 12) K dX4_bears_12 rfl rfl ?_
    refine q_callVi (pc := 13) (o := 3) (rm := rmX4_found) K (kX4_found l hN hG (fX4_refusalOfDeed v1 v2 σ) σ hw) gX4_bears_X4_found rfl hdV_X4_found ⟨Nat.le_of_ble_eq_true rfl, Nat.le_of_ble_eq_true rfl⟩ rfl rfl ⟨Nat.zero_le _, Nat.zero_le _⟩ (wO_x hG) vw_3 rfl rfl (Nat.le_of_ble_eq_true rfl) dX4_bears_13 ?_
    refine qq_nmI (fun r21 e22 => ?_)
    have hw23 : WD r21.2 := by rw [e22]; exact wX4_found (fX4_refusalOfDeed v1 v2 σ) hw 
    exact q_iret K hr dX4_bears_16
theorem hdV_X4_holdingSwapped : yX4_holdingSwapped.cls = RX4 ∧ yX4_holdingSwapped.cls ≠ "java/lang/invoke/MethodHandle" ∧ yX4_holdingSwapped.cls ≠ "java/lang/invoke/VarHandle" ∧ (parseMethodDescriptor yX4_holdingSwapped.desc).map (fun d => d.parameters.length) = some 3 := by decide +kernel
theorem mX4_holdingSwapped_f16 : Cond.fieldLink RX4 16 "WaxTreaties" "trial" "LWaxTreaties$Chancery;" ∈ wsX4_holdingSwapped := List.mem_of_getElem? (i := 1) rfl
theorem iwX4_holdingSwapped_X4 : ∀ w ∈ wsX40, w ∈ wsX4_holdingSwapped := fun w h => List.mem_cons_of_mem _ (List.mem_append_left _ (List.mem_append_right _ h))
theorem mX4_holdingSwapped_f12 : Cond.fieldLink RX4 12 "WaxTreaties" "live" "LWaxTreaties$Chancery;" ∈ wsX4_holdingSwapped := List.mem_of_getElem? (i := 2) rfl
theorem mX4_holdingSwapped_f73 : Cond.fieldLink RX4 73 "WaxTreaties$Chancery" "shelf" "[I" ∈ wsX4_holdingSwapped := List.mem_of_getElem? (i := 3) rfl
theorem iwX4_holdingSwapped_X0 : ∀ w ∈ wsX00, w ∈ wsX4_holdingSwapped := fun w h => List.mem_cons_of_mem _ (List.mem_append_right _ h)
set_option maxRecDepth 100000 in
set_option maxHeartbeats 4000000 in
theorem kX4_holdingSwapped (l : Launch) {G : gT} (hN : wN G) (hG : gfl G = true) (v1 : Int32) (v2 : Int32) (v3 : Int32) (σ : sg) (hw : WD σ) (hb : (0 ≤ v1.toInt ∧ v1.toInt ≤ 7) ∧ (0 ≤ v2.toInt ∧ v2.toInt ≤ 7)) (hn : v3.toInt ≤ 100) : cM l yX4_holdingSwapped wsX4_holdingSwapped rmX4_holdingSwapped G [.ref (gob G 3), .int v1, .int v2, .int v3] σ (some (.int (fX4_holdingSwapped v1 v2 v3 σ).1)) (fX4_holdingSwapped v1 v2 v3 σ).2 := by
  refine cM_of (maxL := 4) (ret := (some .int)) (cc := cX4_holdingSwapped) (fX4_holdingSwapped v1 v2 v3 σ) RX4 hN (by decide +kernel) rfl rfl (Nat.le_of_ble_eq_true rfl) rfl ?_
  intro p e s m args below meth c K hr
  have k0 : (0 : Int32).toInt = 0 := rfl
  refine qq_st (lv' := [some (.ref (gob G 3)), some (.int v1), some (.int v2), some (.int v3)]) rfl rfl rfl ?_
  refine qq_T (fX4_holdingSwapped.eq_1 ..) ?_
  refine q_aload_n (pc := 0) K dX4_holdingSwapped_0 rfl rfl ?_
  refine q_get (pc := 1) (o := 3) (f := 1) (v := .ref (gob G 1)) K (wO_x hG) vw_3 iwX4_holdingSwapped_X4 (by decide) mX4_holdingSwapped_f16 rfl dX4_holdingSwapped_1 ?_
  refine q_aload_n (pc := 4) K dX4_holdingSwapped_4 rfl rfl ?_
  refine q_get (pc := 5) (o := 3) (f := 0) (v := .ref (gob G 0)) K (wO_x hG) vw_3 iwX4_holdingSwapped_X4 (by decide) mX4_holdingSwapped_f12 rfl dX4_holdingSwapped_5 ?_
  refine q_callVv (pc := 8) (o := 1) (rm := rmX0_take) K (kX0_take l hN hG 1 (show 1 < 3 by decide) 0 (show 0 < 3 by decide) σ hw) gX4_holdingSwapped_X0_take rfl hdV_X0_take ⟨Nat.le_of_ble_eq_true rfl, Nat.le_of_ble_eq_true rfl⟩ rfl rfl ⟨Nat.zero_le _, Nat.zero_le _⟩ (wO_ch hG (show 1 < 3 by decide)) vw_0 rfl rfl (Nat.le_of_ble_eq_true rfl) dX4_holdingSwapped_8 ?_
  refine qq_nmV (fun r1 e2 => ?_)
  have hw3 : WD r1 := by rw [e2]; exact wX0_take 1 (show 1 < 3 by decide) 0 (show 0 < 3 by decide) hw 
  refine q_aload_n (pc := 11) K dX4_holdingSwapped_11 rfl rfl ?_
  refine q_get (pc := 12) (o := 3) (f := 1) (v := .ref (gob G 1)) K (wO_x hG) vw_3 iwX4_holdingSwapped_X4 (by decide) mX4_holdingSwapped_f16 rfl dX4_holdingSwapped_12 ?_
  refine q_get (pc := 15) (o := 1) (f := 1) (v := .ref (gad G (8 * 1 + 1))) K (wO_ch hG (show 1 < 3 by decide)) vw_0 iwX4_holdingSwapped_X0 (by decide) mX4_holdingSwapped_f73 rfl dX4_holdingSwapped_15 ?_
  refine q_iload_n (pc := 18) K dX4_holdingSwapped_18 rfl rfl ?_
  refine q_aload_n (pc := 19) K dX4_holdingSwapped_19 rfl rfl ?_
  refine q_get (pc := 20) (o := 3) (f := 0) (v := .ref (gob G 0)) K (wO_x hG) vw_3 iwX4_holdingSwapped_X4 (by decide) mX4_holdingSwapped_f12 rfl dX4_holdingSwapped_20 ?_
  refine q_get (pc := 23) (o := 0) (f := 1) (v := .ref (gad G (8 * 0 + 1))) K (wO_ch hG (show 0 < 3 by decide)) vw_0 iwX4_holdingSwapped_X0 (by decide) mX4_holdingSwapped_f73 rfl dX4_holdingSwapped_23 ?_
  refine q_iload_n (pc := 26) K dX4_holdingSwapped_26 rfl rfl ?_
  refine q_iald (pc := 27) (a := 8 * 0 + 1) K (by rw [wna_t hG]; have := (show 0 < 3 by decide); omega) (vinN (wlc1 hG (show 0 < 3 by decide)) (by omega) (by omega)) dX4_holdingSwapped_27 ?_
  have w4 := wd_shelf hw3 (show 0 < 3 by decide) v2
  refine q_iast (pc := 28) (a := 8 * 1 + 1) K (by rw [wna_t hG]; have := (show 1 < 3 by decide); omega) (vinN (wlc1 hG (show 1 < 3 by decide)) (by omega) (by omega)) dX4_holdingSwapped_28 (fun s5 e6 => ?_)
  have hw7 : WD s5 := by rw [e6]; exact wdAs (j0 := 1) hw3 (by omega) (by omega)
  refine q_aload_n (pc := 29) K dX4_holdingSwapped_29 rfl rfl ?_
  refine q_get (pc := 30) (o := 3) (f := 1) (v := .ref (gob G 1)) K (wO_x hG) vw_3 iwX4_holdingSwapped_X4 (by decide) mX4_holdingSwapped_f16 rfl dX4_holdingSwapped_30 ?_
  refine q_get (pc := 33) (o := 1) (f := 1) (v := .ref (gad G (8 * 1 + 1))) K (wO_ch hG (show 1 < 3 by decide)) vw_0 iwX4_holdingSwapped_X0 (by decide) mX4_holdingSwapped_f73 rfl dX4_holdingSwapped_33 ?_
  refine q_iload_n (pc := 36) K dX4_holdingSwapped_36 rfl rfl ?_
  refine q_aload_n (pc := 37) K dX4_holdingSwapped_37 rfl rfl ?_
  refine q_get (pc := 38) (o := 3) (f := 0) (v := .ref (gob G 0)) K (wO_x hG) vw_3 iwX4_holdingSwapped_X4 (by decide) mX4_holdingSwapped_f12 rfl dX4_holdingSwapped_38 ?_
  refine q_get (pc := 41) (o := 0) (f := 1) (v := .ref (gad G (8 * 0 + 1))) K (wO_ch hG (show 0 < 3 by decide)) vw_0 iwX4_holdingSwapped_X0 (by decide) mX4_holdingSwapped_f73 rfl dX4_holdingSwapped_41 ?_
  refine q_iload_n (pc := 44) K dX4_holdingSwapped_44 rfl rfl ?_
  refine q_iald (pc := 45) (a := 8 * 0 + 1) K (by rw [wna_t hG]; have := (show 0 < 3 by decide); omega) (vinN (wlc1 hG (show 0 < 3 by decide)) (by omega) (by omega)) dX4_holdingSwapped_45 ?_
  have w8 := wd_shelf hw7 (show 0 < 3 by decide) v1
  refine q_iast (pc := 46) (a := 8 * 1 + 1) K (by rw [wna_t hG]; have := (show 1 < 3 by decide); omega) (vinN (wlc1 hG (show 1 < 3 by decide)) (by omega) (by omega)) dX4_holdingSwapped_46 (fun s9 e10 => ?_)
  have hw11 : WD s9 := by rw [e10]; exact wdAs (j0 := 1) hw7 (by omega) (by omega)
  refine q_aload_n (pc := 47) K dX4_holdingSwapped_47 rfl rfl ?_
  refine q_get (pc := 48) (o := 3) (f := 1) (v := .ref (gob G 1)) K (wO_x hG) vw_3 iwX4_holdingSwapped_X4 (by decide) mX4_holdingSwapped_f16 rfl dX4_holdingSwapped_48 ?_
  refine q_iload_n (pc := 51) K dX4_holdingSwapped_51 rfl rfl ?_
  refine q_callVi (pc := 52) (o := 1) (rm := rmX0_holdingBehind) K (kX0_holdingBehind l hN hG 1 (show 1 < 3 by decide) v3 s9 hw11 (by omega)) gX4_holdingSwapped_X0_holdingBehind rfl hdV_X0_holdingBehind ⟨Nat.le_of_ble_eq_true rfl, Nat.le_of_ble_eq_true rfl⟩ rfl rfl ⟨Nat.zero_le _, Nat.zero_le _⟩ (wO_ch hG (show 1 < 3 by decide)) vw_0 rfl rfl (Nat.le_of_ble_eq_true rfl) dX4_holdingSwapped_52 ?_
  refine qq_nmI (fun r12 e13 => ?_)
  have hw14 : WD r12.2 := by rw [e13]; exact wX0_holdingBehind 1 (show 1 < 3 by decide) v3 hw11 (by omega)
  exact q_iret K hr dX4_holdingSwapped_55
theorem hdV_X4_holdingOpened : yX4_holdingOpened.cls = RX4 ∧ yX4_holdingOpened.cls ≠ "java/lang/invoke/MethodHandle" ∧ yX4_holdingOpened.cls ≠ "java/lang/invoke/VarHandle" ∧ (parseMethodDescriptor yX4_holdingOpened.desc).map (fun d => d.parameters.length) = some 2 := by decide +kernel
theorem mX4_holdingOpened_f16 : Cond.fieldLink RX4 16 "WaxTreaties" "trial" "LWaxTreaties$Chancery;" ∈ wsX4_holdingOpened := List.mem_of_getElem? (i := 1) rfl
theorem iwX4_holdingOpened_X4 : ∀ w ∈ wsX40, w ∈ wsX4_holdingOpened := fun w h => List.mem_cons_of_mem _ (List.mem_append_left _ (List.mem_append_right _ h))
theorem mX4_holdingOpened_f12 : Cond.fieldLink RX4 12 "WaxTreaties" "live" "LWaxTreaties$Chancery;" ∈ wsX4_holdingOpened := List.mem_of_getElem? (i := 2) rfl
theorem mX4_holdingOpened_f128 : Cond.fieldLink RX4 128 "WaxTreaties$Chancery" "open" "I" ∈ wsX4_holdingOpened := List.mem_of_getElem? (i := 3) rfl
theorem iwX4_holdingOpened_X0 : ∀ w ∈ wsX00, w ∈ wsX4_holdingOpened := fun w h => List.mem_cons_of_mem _ (List.mem_append_right _ h)
set_option maxRecDepth 100000 in
set_option maxHeartbeats 4000000 in
theorem kX4_holdingOpened (l : Launch) {G : gT} (hN : wN G) (hG : gfl G = true) (v1 : Int32) (v2 : Int32) (σ : sg) (hw : WD σ) (hn : v2.toInt ≤ 100) : cM l yX4_holdingOpened wsX4_holdingOpened rmX4_holdingOpened G [.ref (gob G 3), .int v1, .int v2] σ (some (.int (fX4_holdingOpened v1 v2 σ).1)) (fX4_holdingOpened v1 v2 σ).2 := by
  refine cM_of (maxL := 3) (ret := (some .int)) (cc := cX4_holdingOpened) (fX4_holdingOpened v1 v2 σ) RX4 hN (by decide +kernel) rfl rfl (Nat.le_of_ble_eq_true rfl) rfl ?_
  intro p e s m args below meth c K hr
  have k0 : (0 : Int32).toInt = 0 := rfl
  refine qq_st (lv' := [some (.ref (gob G 3)), some (.int v1), some (.int v2)]) rfl rfl rfl ?_
  refine qq_T (fX4_holdingOpened.eq_1 ..) ?_
  refine q_aload_n (pc := 0) K dX4_holdingOpened_0 rfl rfl ?_
  refine q_get (pc := 1) (o := 3) (f := 1) (v := .ref (gob G 1)) K (wO_x hG) vw_3 iwX4_holdingOpened_X4 (by decide) mX4_holdingOpened_f16 rfl dX4_holdingOpened_1 ?_
  refine q_aload_n (pc := 4) K dX4_holdingOpened_4 rfl rfl ?_
  refine q_get (pc := 5) (o := 3) (f := 0) (v := .ref (gob G 0)) K (wO_x hG) vw_3 iwX4_holdingOpened_X4 (by decide) mX4_holdingOpened_f12 rfl dX4_holdingOpened_5 ?_
  refine q_callVv (pc := 8) (o := 1) (rm := rmX0_take) K (kX0_take l hN hG 1 (show 1 < 3 by decide) 0 (show 0 < 3 by decide) σ hw) gX4_holdingOpened_X0_take rfl hdV_X0_take ⟨Nat.le_of_ble_eq_true rfl, Nat.le_of_ble_eq_true rfl⟩ rfl rfl ⟨Nat.zero_le _, Nat.zero_le _⟩ (wO_ch hG (show 1 < 3 by decide)) vw_0 rfl rfl (Nat.le_of_ble_eq_true rfl) dX4_holdingOpened_8 ?_
  refine qq_nmV (fun r1 e2 => ?_)
  have hw3 : WD r1 := by rw [e2]; exact wX0_take 1 (show 1 < 3 by decide) 0 (show 0 < 3 by decide) hw 
  refine q_aload_n (pc := 11) K dX4_holdingOpened_11 rfl rfl ?_
  refine q_get (pc := 12) (o := 3) (f := 1) (v := .ref (gob G 1)) K (wO_x hG) vw_3 iwX4_holdingOpened_X4 (by decide) mX4_holdingOpened_f16 rfl dX4_holdingOpened_12 ?_
  refine q_dup (pc := 15) K dX4_holdingOpened_15 rfl ?_
  refine q_get (pc := 16) (o := 1) (f := 9) (v := .int (rF r1 (7 * 1 + 2))) K (wO_ch hG (show 1 < 3 by decide)) vw_0 iwX4_holdingOpened_X0 (by decide) mX4_holdingOpened_f128 rfl dX4_holdingOpened_16 ?_
  refine q_iload_n (pc := 19) K dX4_holdingOpened_19 rfl rfl ?_
  refine q_ior (pc := 20) K dX4_holdingOpened_20 ?_
  refine q_put (pc := 21) (o := 1) (f := 9) (i := (7 * 1 + 2)) (ty := .int) K tyX0 tyX0_ok nmX0 (wO_ch hG (show 1 < 3 by decide)) vw_0 iwX4_holdingOpened_X0 (by decide) mX4_holdingOpened_f128 rfl (tyX0_ok 9 (by decide)) rfl rfl (Nat.le_of_ble_eq_true rfl) (wP_ch9 hG (show 1 < 3 by decide) _) dX4_holdingOpened_21 (fun s4 e5 => ?_)
  have hw6 : WD s4 := by rw [e5]; exact wdF hw3 (by have := (show 1 < 3 by decide); omega)
  refine q_aload_n (pc := 24) K dX4_holdingOpened_24 rfl rfl ?_
  refine q_get (pc := 25) (o := 3) (f := 1) (v := .ref (gob G 1)) K (wO_x hG) vw_3 iwX4_holdingOpened_X4 (by decide) mX4_holdingOpened_f16 rfl dX4_holdingOpened_25 ?_
  refine q_iload_n (pc := 28) K dX4_holdingOpened_28 rfl rfl ?_
  refine q_callVi (pc := 29) (o := 1) (rm := rmX0_holdingBehind) K (kX0_holdingBehind l hN hG 1 (show 1 < 3 by decide) v2 s4 hw6 (by omega)) gX4_holdingOpened_X0_holdingBehind rfl hdV_X0_holdingBehind ⟨Nat.le_of_ble_eq_true rfl, Nat.le_of_ble_eq_true rfl⟩ rfl rfl ⟨Nat.zero_le _, Nat.zero_le _⟩ (wO_ch hG (show 1 < 3 by decide)) vw_0 rfl rfl (Nat.le_of_ble_eq_true rfl) dX4_holdingOpened_29 ?_
  refine qq_nmI (fun r7 e8 => ?_)
  have hw9 : WD r7.2 := by rw [e8]; exact wX0_holdingBehind 1 (show 1 < 3 by decide) v2 hw6 (by omega)
  exact q_iret K hr dX4_holdingOpened_32
theorem hdV_X4_endsOpened : yX4_endsOpened.cls = RX4 ∧ yX4_endsOpened.cls ≠ "java/lang/invoke/MethodHandle" ∧ yX4_endsOpened.cls ≠ "java/lang/invoke/VarHandle" ∧ (parseMethodDescriptor yX4_endsOpened.desc).map (fun d => d.parameters.length) = some 3 := by decide +kernel
theorem mX4_endsOpened_f16 : Cond.fieldLink RX4 16 "WaxTreaties" "trial" "LWaxTreaties$Chancery;" ∈ wsX4_endsOpened := List.mem_of_getElem? (i := 1) rfl
theorem iwX4_endsOpened_X4 : ∀ w ∈ wsX40, w ∈ wsX4_endsOpened := fun w h => List.mem_cons_of_mem _ (List.mem_append_left _ (List.mem_append_right _ h))
theorem mX4_endsOpened_f12 : Cond.fieldLink RX4 12 "WaxTreaties" "live" "LWaxTreaties$Chancery;" ∈ wsX4_endsOpened := List.mem_of_getElem? (i := 2) rfl
theorem mX4_endsOpened_f128 : Cond.fieldLink RX4 128 "WaxTreaties$Chancery" "open" "I" ∈ wsX4_endsOpened := List.mem_of_getElem? (i := 3) rfl
theorem iwX4_endsOpened_X0 : ∀ w ∈ wsX00, w ∈ wsX4_endsOpened := fun w h => List.mem_cons_of_mem _ (List.mem_append_right _ h)
set_option maxRecDepth 100000 in
set_option maxHeartbeats 4000000 in
theorem kX4_endsOpened (l : Launch) {G : gT} (hN : wN G) (hG : gfl G = true) (v1 : Int32) (v2 : Int32) (v3 : Int32) (σ : sg) (hw : WD σ) (hn : v3.toInt ≤ 100) : cM l yX4_endsOpened wsX4_endsOpened rmX4_endsOpened G [.ref (gob G 3), .int v1, .int v2, .int v3] σ (some (.int (fX4_endsOpened v1 v2 v3 σ).1)) (fX4_endsOpened v1 v2 v3 σ).2 := by
  refine cM_of (maxL := 4) (ret := (some .boolean)) (cc := cX4_endsOpened) (fX4_endsOpened v1 v2 v3 σ) RX4 hN (by decide +kernel) rfl rfl (Nat.le_of_ble_eq_true rfl) rfl ?_
  intro p e s m args below meth c K hr
  have k0 : (0 : Int32).toInt = 0 := rfl
  have k1 : (1 : Int32).toInt = 1 := rfl
  refine qq_st (lv' := [some (.ref (gob G 3)), some (.int v1), some (.int v2), some (.int v3)]) rfl rfl rfl ?_
  refine qq_T (fX4_endsOpened.eq_1 ..) ?_
  refine q_aload_n (pc := 0) K dX4_endsOpened_0 rfl rfl ?_
  refine q_get (pc := 1) (o := 3) (f := 1) (v := .ref (gob G 1)) K (wO_x hG) vw_3 iwX4_endsOpened_X4 (by decide) mX4_endsOpened_f16 rfl dX4_endsOpened_1 ?_
  refine q_aload_n (pc := 4) K dX4_endsOpened_4 rfl rfl ?_
  refine q_get (pc := 5) (o := 3) (f := 0) (v := .ref (gob G 0)) K (wO_x hG) vw_3 iwX4_endsOpened_X4 (by decide) mX4_endsOpened_f12 rfl dX4_endsOpened_5 ?_
  refine q_callVv (pc := 8) (o := 1) (rm := rmX0_take) K (kX0_take l hN hG 1 (show 1 < 3 by decide) 0 (show 0 < 3 by decide) σ hw) gX4_endsOpened_X0_take rfl hdV_X0_take ⟨Nat.le_of_ble_eq_true rfl, Nat.le_of_ble_eq_true rfl⟩ rfl rfl ⟨Nat.zero_le _, Nat.zero_le _⟩ (wO_ch hG (show 1 < 3 by decide)) vw_0 rfl rfl (Nat.le_of_ble_eq_true rfl) dX4_endsOpened_8 ?_
  refine qq_nmV (fun r1 e2 => ?_)
  have hw3 : WD r1 := by rw [e2]; exact wX0_take 1 (show 1 < 3 by decide) 0 (show 0 < 3 by decide) hw 
  refine q_aload_n (pc := 11) K dX4_endsOpened_11 rfl rfl ?_
  refine q_get (pc := 12) (o := 3) (f := 1) (v := .ref (gob G 1)) K (wO_x hG) vw_3 iwX4_endsOpened_X4 (by decide) mX4_endsOpened_f16 rfl dX4_endsOpened_12 ?_
  refine q_dup (pc := 15) K dX4_endsOpened_15 rfl ?_
  refine q_get (pc := 16) (o := 1) (f := 9) (v := .int (rF r1 (7 * 1 + 2))) K (wO_ch hG (show 1 < 3 by decide)) vw_0 iwX4_endsOpened_X0 (by decide) mX4_endsOpened_f128 rfl dX4_endsOpened_16 ?_
  refine q_iload_n (pc := 19) K dX4_endsOpened_19 rfl rfl ?_
  refine q_ior (pc := 20) K dX4_endsOpened_20 ?_
  refine q_put (pc := 21) (o := 1) (f := 9) (i := (7 * 1 + 2)) (ty := .int) K tyX0 tyX0_ok nmX0 (wO_ch hG (show 1 < 3 by decide)) vw_0 iwX4_endsOpened_X0 (by decide) mX4_endsOpened_f128 rfl (tyX0_ok 9 (by decide)) rfl rfl (Nat.le_of_ble_eq_true rfl) (wP_ch9 hG (show 1 < 3 by decide) _) dX4_endsOpened_21 (fun s4 e5 => ?_)
  have hw6 : WD s4 := by rw [e5]; exact wdF hw3 (by have := (show 1 < 3 by decide); omega)
  refine q_aload_n (pc := 24) K dX4_endsOpened_24 rfl rfl ?_
  refine q_get (pc := 25) (o := 3) (f := 1) (v := .ref (gob G 1)) K (wO_x hG) vw_3 iwX4_endsOpened_X4 (by decide) mX4_endsOpened_f16 rfl dX4_endsOpened_25 ?_
  refine q_iload_n (pc := 28) K dX4_endsOpened_28 rfl rfl ?_
  refine q_iload_n (pc := 29) K dX4_endsOpened_29 rfl rfl ?_
  refine q_callVi (pc := 30) (o := 1) (rm := rmX0_holdsBehind) K (kX0_holdsBehind l hN hG 1 (show 1 < 3 by decide) v2 v3 s4 hw6 (by omega)) gX4_endsOpened_X0_holdsBehind rfl hdV_X0_holdsBehind ⟨Nat.le_of_ble_eq_true rfl, Nat.le_of_ble_eq_true rfl⟩ rfl rfl ⟨Nat.zero_le _, Nat.zero_le _⟩ (wO_ch hG (show 1 < 3 by decide)) vw_0 rfl rfl (Nat.le_of_ble_eq_true rfl) dX4_endsOpened_30 ?_
  refine qq_nmI (fun r7 e8 => ?_)
  have hw9 : WD r7.2 := by rw [e8]; exact wX0_holdsBehind 1 (show 1 < 3 by decide) v2 v3 hw6 (by omega)
  refine q_if_ne (pc := 33) (tgt := 40) K dX4_endsOpened_33 (by decide) (fun c10 => ?_) (fun c10 => ?_)
  · have i11 := neI c10
    refine q_iconst (pc := 40) (v := 0) K dX4_endsOpened_40 (by decide) ?_
    exact q_zret K hr (Or.inl rfl) dX4_endsOpened_41
  · have i12 := eqI c10
    refine q_iconst (pc := 36) (v := 1) K dX4_endsOpened_36 (by decide) ?_
    refine q_goto (pc := 37) (tgt := 41) K dX4_endsOpened_37 (by decide) ?_
    exact q_zret K hr (Or.inr rfl) dX4_endsOpened_41
theorem hdV_X4_worstSet : yX4_worstSet.cls = RX4 ∧ yX4_worstSet.cls ≠ "java/lang/invoke/MethodHandle" ∧ yX4_worstSet.cls ≠ "java/lang/invoke/VarHandle" ∧ (parseMethodDescriptor yX4_worstSet.desc).map (fun d => d.parameters.length) = some 2 := by decide +kernel
theorem mX4_worstSet_f12 : Cond.fieldLink RX4 12 "WaxTreaties" "live" "LWaxTreaties$Chancery;" ∈ wsX4_worstSet := List.mem_of_getElem? (i := 1) rfl
theorem iwX4_worstSet_X4 : ∀ w ∈ wsX40, w ∈ wsX4_worstSet := fun w h => List.mem_cons_of_mem _ (List.mem_append_left _ (List.mem_append_right _ h))
theorem mX4_worstSet_f128 : Cond.fieldLink RX4 128 "WaxTreaties$Chancery" "open" "I" ∈ wsX4_worstSet := List.mem_of_getElem? (i := 2) rfl
theorem iwX4_worstSet_X0 : ∀ w ∈ wsX00, w ∈ wsX4_worstSet := fun w h => List.mem_cons_of_mem _ (List.mem_append_right _ h)
set_option maxRecDepth 100000 in
set_option maxHeartbeats 4000000 in
theorem lX4_worstSet_9 {p : Program} (l : Launch) {e : Env} {s : State} {m : MethodId} {args : Array Value} {below : List Frame} {meth : Method} {c : Code} {Q : State → Prop} {G : gT} (hN : wN G) (hG : gfl G = true) (K : qK p s m args meth c cX4_worstSet 7 RX4 wsX4_worstSet G) : ∀ (k : Nat) (v1 v2 v3 v4 v5 : Int32) (σ : sg) (hw : WD σ) (hv5 : 0 ≤ v5.toInt ∧ v5.toInt ≤ 64) (hnv2 : v2.toInt ≤ 100) (hmu : (64 - v5.toInt).toNat < k) {ρ : Type} {E : ρ → Prop} {f : Int32 × sg → ρ} (hk : ∀ r : Int32 × sg, (WD r.2) → qq p l e (headSpec wsX4_worstSet rmX4_worstSet).room s m args below meth c Q 7 G E (f r) 67 [none, none, none, some (.int r.1), none, none, none] [] r.2), qq p l e (headSpec wsX4_worstSet rmX4_worstSet).room s m args below meth c Q 7 G E (bnd (LX4_worstSet_9 k v1 v2 v3 v4 v5 σ) f) 9 [some (.ref (gob G 3)), some (.int v1), some (.int v2), some (.int v3), some (.int v4), some (.int v5), none] [] σ := by
  intro k
  induction k with
  | zero => intro v1 v2 v3 v4 v5 σ hw hv5 hnv2 hmu ρ E f hk; exact absurd hmu (Nat.not_lt_zero _)
  | succ k ih =>
    intro v1 v2 v3 v4 v5 σ hw hv5 hnv2 hmu ρ E f hk
    have k0 : (0 : Int32).toInt = 0 := rfl
    have k1 : (1 : Int32).toInt = 1 := rfl
    have k64 : (64 : Int32).toInt = 64 := rfl
    refine qq_in ?_
    refine qq_T (LX4_worstSet_9.eq_2 ..) ?_
    refine q_iload (pc := 9) K dX4_worstSet_9 rfl ?_
    refine q_bipush (pc := 11) (v := 64) K dX4_worstSet_11 (by decide) ?_
    refine q_icmp_ge (pc := 13) (tgt := 67) K dX4_worstSet_13 (by decide) (fun c1 => ?_) (fun c1 => ?_)
    · have i18 := leI c1
      refine qq_drop 0 (lv' := [none, some (.int v1), some (.int v2), some (.int v3), some (.int v4), some (.int v5), none]) rfl ?_
      refine qq_drop 1 (lv' := [none, none, some (.int v2), some (.int v3), some (.int v4), some (.int v5), none]) rfl ?_
      refine qq_drop 2 (lv' := [none, none, none, some (.int v3), some (.int v4), some (.int v5), none]) rfl ?_
      refine qq_drop 4 (lv' := [none, none, none, some (.int v3), none, some (.int v5), none]) rfl ?_
      refine qq_drop 5 (lv' := [none, none, none, some (.int v3), none, none, none]) rfl ?_
      exact qq_leaf (hk (v3, σ) hw)
    · have i19 := nleI c1
      refine q_iload (pc := 16) K dX4_worstSet_16 rfl ?_
      refine q_aload_n (pc := 18) K dX4_worstSet_18 rfl rfl ?_
      refine q_get (pc := 19) (o := 3) (f := 0) (v := .ref (gob G 0)) K (wO_x hG) vw_3 iwX4_worstSet_X4 (by decide) mX4_worstSet_f12 rfl dX4_worstSet_19 ?_
      refine q_get (pc := 22) (o := 0) (f := 9) (v := .int (rF σ (7 * 0 + 2))) K (wO_ch hG (show 0 < 3 by decide)) vw_0 iwX4_worstSet_X0 (by decide) mX4_worstSet_f128 rfl dX4_worstSet_22 ?_
      refine q_iand (pc := 25) K dX4_worstSet_25 ?_
      refine q_if_ne (pc := 26) (tgt := 61) K dX4_worstSet_26 (by decide) (fun c2 => ?_) (fun c2 => ?_)
      · have i16 := neI c2
        refine q_iinc (pc := 61) (v := (v5 + 1)) (lv' := [some (.ref (gob G 3)), some (.int v1), some (.int v2), some (.int v3), some (.int v4), some (.int (v5 + 1)), none]) K dX4_worstSet_61 rfl rfl (by decide) rfl ?_
        refine q_goto (pc := 64) (tgt := 9) K dX4_worstSet_64 (by decide) ?_
        have a3 := addI (x := v5) (y := 1) (by omega) (by omega)
        exact qq_out (ih v1 v2 v3 v4 (v5 + 1) σ hw (by omega) (by omega) (by omega) hk)
      · have i17 := eqI c2
        refine q_iload (pc := 29) K dX4_worstSet_29 rfl ?_
        refine q_callSi (pc := 31) (rm := rmJ6_bitCount_0f7a4) K (kJ6_bitCount_0f7a4 l hN v5 σ) gX4_worstSet_J6_bitCount_0f7a4 rfl hdS_J6_bitCount_0f7a4 ⟨Nat.le_of_ble_eq_true rfl, Nat.le_of_ble_eq_true rfl⟩ rfl rfl ⟨Nat.zero_le _, Nat.zero_le _⟩ rfl rfl (Nat.le_of_ble_eq_true rfl) dX4_worstSet_31 ?_
        refine q_iload_n (pc := 34) K dX4_worstSet_34 rfl rfl ?_
        refine q_icmp_ne (pc := 35) (tgt := 61) K dX4_worstSet_35 (by decide) (fun c4 => ?_) (fun c4 => ?_)
        · have i14 := neI c4
          refine q_iinc (pc := 61) (v := (v5 + 1)) (lv' := [some (.ref (gob G 3)), some (.int v1), some (.int v2), some (.int v3), some (.int v4), some (.int (v5 + 1)), none]) K dX4_worstSet_61 rfl rfl (by decide) rfl ?_
          refine q_goto (pc := 64) (tgt := 9) K dX4_worstSet_64 (by decide) ?_
          have a5 := addI (x := v5) (y := 1) (by omega) (by omega)
          exact qq_out (ih v1 v2 v3 v4 (v5 + 1) σ hw (by omega) (by omega) (by omega) hk)
        · have i15 := eqI c4
          refine q_aload_n (pc := 38) K dX4_worstSet_38 rfl rfl ?_
          refine q_iload (pc := 39) K dX4_worstSet_39 rfl ?_
          refine q_iload_n (pc := 41) K dX4_worstSet_41 rfl rfl ?_
          refine q_callVi (pc := 42) (o := 3) (rm := rmX4_holdingOpened) K (kX4_holdingOpened l hN hG v5 v2 σ hw (by omega)) gX4_worstSet_X4_holdingOpened rfl hdV_X4_holdingOpened ⟨Nat.le_of_ble_eq_true rfl, Nat.le_of_ble_eq_true rfl⟩ rfl rfl ⟨Nat.zero_le _, Nat.zero_le _⟩ (wO_x hG) vw_3 rfl rfl (Nat.le_of_ble_eq_true rfl) dX4_worstSet_42 ?_
          refine qq_nmI (fun r6 e7 => ?_)
          have hw8 : WD r6.2 := by rw [e7]; exact wX4_holdingOpened v5 v2 hw (by omega)
          refine q_istore (pc := 45) (lv' := [some (.ref (gob G 3)), some (.int v1), some (.int v2), some (.int v3), some (.int v4), some (.int v5), some (.int r6.1)]) K dX4_worstSet_45 (by decide) (Nat.le_of_ble_eq_true rfl) rfl ?_
          refine q_iload (pc := 47) K dX4_worstSet_47 rfl ?_
          refine q_iload (pc := 49) K dX4_worstSet_49 rfl ?_
          refine q_icmp_ge (pc := 51) (tgt := 61) K dX4_worstSet_51 (by decide) (fun c9 => ?_) (fun c9 => ?_)
          · have i12 := leI c9
            refine q_iinc (pc := 61) (v := (v5 + 1)) (lv' := [some (.ref (gob G 3)), some (.int v1), some (.int v2), some (.int v3), some (.int v4), some (.int (v5 + 1)), some (.int r6.1)]) K dX4_worstSet_61 rfl rfl (by decide) rfl ?_
            refine q_goto (pc := 64) (tgt := 9) K dX4_worstSet_64 (by decide) ?_
            refine qq_drop 6 (lv' := [some (.ref (gob G 3)), some (.int v1), some (.int v2), some (.int v3), some (.int v4), some (.int (v5 + 1)), none]) rfl ?_
            have a10 := addI (x := v5) (y := 1) (by omega) (by omega)
            exact qq_out (ih v1 v2 v3 v4 (v5 + 1) r6.2 hw8 (by omega) (by omega) (by omega) hk)
          · have i13 := nleI c9
            refine q_iload (pc := 54) K dX4_worstSet_54 rfl ?_
            refine q_istore_n (pc := 56) (lv' := [some (.ref (gob G 3)), some (.int v1), some (.int v2), some (.int v5), some (.int v4), some (.int v5), some (.int r6.1)]) K dX4_worstSet_56 rfl (by decide) (Nat.le_of_ble_eq_true rfl) rfl ?_
            refine q_iload (pc := 57) K dX4_worstSet_57 rfl ?_
            refine q_istore (pc := 59) (lv' := [some (.ref (gob G 3)), some (.int v1), some (.int v2), some (.int v5), some (.int r6.1), some (.int v5), some (.int r6.1)]) K dX4_worstSet_59 (by decide) (Nat.le_of_ble_eq_true rfl) rfl ?_
            refine q_iinc (pc := 61) (v := (v5 + 1)) (lv' := [some (.ref (gob G 3)), some (.int v1), some (.int v2), some (.int v5), some (.int r6.1), some (.int (v5 + 1)), some (.int r6.1)]) K dX4_worstSet_61 rfl rfl (by decide) rfl ?_
            refine q_goto (pc := 64) (tgt := 9) K dX4_worstSet_64 (by decide) ?_
            refine qq_drop 6 (lv' := [some (.ref (gob G 3)), some (.int v1), some (.int v2), some (.int v5), some (.int r6.1), some (.int (v5 + 1)), none]) rfl ?_
            have a11 := addI (x := v5) (y := 1) (by omega) (by omega)
            exact qq_out (ih v1 v2 v5 r6.1 (v5 + 1) r6.2 hw8 (by omega) (by omega) (by omega) hk)
set_option maxRecDepth 100000 in
set_option maxHeartbeats 4000000 in
theorem kX4_worstSet (l : Launch) {G : gT} (hN : wN G) (hG : gfl G = true) (v1 : Int32) (v2 : Int32) (σ : sg) (hw : WD σ) (hn : v2.toInt ≤ 100) : cM l yX4_worstSet wsX4_worstSet rmX4_worstSet G [.ref (gob G 3), .int v1, .int v2] σ (some (.int (fX4_worstSet v1 v2 σ).1)) (fX4_worstSet v1 v2 σ).2 := by
  refine cM_of (maxL := 7) (ret := (some .int)) (cc := cX4_worstSet) (fX4_worstSet v1 v2 σ) RX4 hN (by decide +kernel) rfl rfl (Nat.le_of_ble_eq_true rfl) rfl ?_
  intro p e s m args below meth c K hr
  have k0 : (0 : Int32).toInt = 0 := rfl
  have k9 : (9 : Int32).toInt = 9 := rfl
  refine qq_st (lv' := [some (.ref (gob G 3)), some (.int v1), some (.int v2), none, none, none, none]) rfl rfl rfl ?_
  refine qq_T (fX4_worstSet.eq_1 ..) ?_
  refine q_iconst (pc := 0) (v := 0) K dX4_worstSet_0 (by decide) ?_
  refine q_istore_n (pc := 1) (lv' := [some (.ref (gob G 3)), some (.int v1), some (.int v2), some (.int 0), none, none, none]) K dX4_worstSet_1 rfl (by decide) (Nat.le_of_ble_eq_true rfl) rfl ?_
  refine q_bipush (pc := 2) (v := 9) K dX4_worstSet_2 (by decide) ?_
  refine q_istore (pc := 4) (lv' := [some (.ref (gob G 3)), some (.int v1), some (.int v2), some (.int 0), some (.int 9), none, none]) K dX4_worstSet_4 (by decide) (Nat.le_of_ble_eq_true rfl) rfl ?_
  refine q_iconst (pc := 6) (v := 0) K dX4_worstSet_6 (by decide) ?_
  refine q_istore (pc := 7) (lv' := [some (.ref (gob G 3)), some (.int v1), some (.int v2), some (.int 0), some (.int 9), some (.int 0), none]) K dX4_worstSet_7 (by decide) (Nat.le_of_ble_eq_true rfl) rfl ?_
  refine lX4_worstSet_9 l hN hG K 65 v1 v2 0 9 0 σ hw (by omega) (by omega) (by omega) (fun r20 hw22 => ?_)
  refine q_iload_n (pc := 67) K dX4_worstSet_67 rfl rfl ?_
  exact q_iret K hr dX4_worstSet_68
theorem hdV_X4_worstBesides : yX4_worstBesides.cls = RX4 ∧ yX4_worstBesides.cls ≠ "java/lang/invoke/MethodHandle" ∧ yX4_worstBesides.cls ≠ "java/lang/invoke/VarHandle" ∧ (parseMethodDescriptor yX4_worstBesides.desc).map (fun d => d.parameters.length) = some 2 := by decide +kernel
theorem mX4_worstBesides_f12 : Cond.fieldLink RX4 12 "WaxTreaties" "live" "LWaxTreaties$Chancery;" ∈ wsX4_worstBesides := List.mem_of_getElem? (i := 1) rfl
theorem iwX4_worstBesides_X4 : ∀ w ∈ wsX40, w ∈ wsX4_worstBesides := fun w h => List.mem_cons_of_mem _ (List.mem_append_left _ (List.mem_append_right _ h))
theorem mX4_worstBesides_f128 : Cond.fieldLink RX4 128 "WaxTreaties$Chancery" "open" "I" ∈ wsX4_worstBesides := List.mem_of_getElem? (i := 2) rfl
theorem iwX4_worstBesides_X0 : ∀ w ∈ wsX00, w ∈ wsX4_worstBesides := fun w h => List.mem_cons_of_mem _ (List.mem_append_right _ h)
theorem mX4_worstBesides_l204 : Cond.methodLink RX4 204 Lib.Math.min.name ∈ wsX4_worstBesides := List.mem_of_getElem? (i := 3) rfl
theorem mX4_worstBesides_s204 : Cond.static Lib.Math.min.name ∈ wsX4_worstBesides := List.mem_of_getElem? (i := 4) rfl
theorem mX4_worstBesides_iM : Cond.initialized "java/lang/Math" ∈ wsX4_worstBesides := List.mem_of_getElem? (i := 5) rfl
theorem mX4_worstBesides_d204 : Cond.code Lib.Math.min.name Lib.Math.min.code 2 (some .int) ∈ wsX4_worstBesides := List.mem_of_getElem? (i := 6) rfl
set_option maxRecDepth 100000 in
set_option maxHeartbeats 4000000 in
theorem lX4_worstBesides_6 {p : Program} (l : Launch) {e : Env} {s : State} {m : MethodId} {args : Array Value} {below : List Frame} {meth : Method} {c : Code} {Q : State → Prop} {G : gT} (hN : wN G) (hG : gfl G = true) (K : qK p s m args meth c cX4_worstBesides 5 RX4 wsX4_worstBesides G) : ∀ (k : Nat) (v1 v2 v3 v4 : Int32) (σ : sg) (hw : WD σ) (hv4 : 0 ≤ v4.toInt ∧ v4.toInt ≤ 6) (hnv2 : v2.toInt ≤ 100) (hmu : (6 - v4.toInt).toNat < k) {ρ : Type} {E : ρ → Prop} {f : Int32 × sg → ρ} (hk : ∀ r : Int32 × sg, (WD r.2) → qq p l e (headSpec wsX4_worstBesides rmX4_worstBesides).room s m args below meth c Q 5 G E (f r) 54 [some (.ref (gob G 3)), none, some (.int v2), some (.int r.1), none] [] r.2), qq p l e (headSpec wsX4_worstBesides rmX4_worstBesides).room s m args below meth c Q 5 G E (bnd (LX4_worstBesides_6 k v1 v2 v3 v4 σ) f) 6 [some (.ref (gob G 3)), some (.int v1), some (.int v2), some (.int v3), some (.int v4)] [] σ := by
  intro k
  induction k with
  | zero => intro v1 v2 v3 v4 σ hw hv4 hnv2 hmu ρ E f hk; exact absurd hmu (Nat.not_lt_zero _)
  | succ k ih =>
    intro v1 v2 v3 v4 σ hw hv4 hnv2 hmu ρ E f hk
    have k0 : (0 : Int32).toInt = 0 := rfl
    have k1 : (1 : Int32).toInt = 1 := rfl
    have k6 : (6 : Int32).toInt = 6 := rfl
    refine qq_in ?_
    refine qq_T (LX4_worstBesides_6.eq_2 ..) ?_
    refine q_iload (pc := 6) K dX4_worstBesides_6 rfl ?_
    refine q_bipush (pc := 8) (v := 6) K dX4_worstBesides_8 (by decide) ?_
    refine q_icmp_ge (pc := 10) (tgt := 54) K dX4_worstBesides_10 (by decide) (fun c1 => ?_) (fun c1 => ?_)
    · have i14 := leI c1
      refine qq_drop 1 (lv' := [some (.ref (gob G 3)), none, some (.int v2), some (.int v3), some (.int v4)]) rfl ?_
      refine qq_drop 4 (lv' := [some (.ref (gob G 3)), none, some (.int v2), some (.int v3), none]) rfl ?_
      exact qq_leaf (hk (v3, σ) hw)
    · have i15 := nleI c1
      refine q_iload (pc := 13) K dX4_worstBesides_13 rfl ?_
      refine q_iload_n (pc := 15) K dX4_worstBesides_15 rfl rfl ?_
      refine q_icmp_eq (pc := 16) (tgt := 48) K dX4_worstBesides_16 (by decide) (fun c2 => ?_) (fun c2 => ?_)
      · have i12 := eqI c2
        refine q_iinc (pc := 48) (v := (v4 + 1)) (lv' := [some (.ref (gob G 3)), some (.int v1), some (.int v2), some (.int v3), some (.int (v4 + 1))]) K dX4_worstBesides_48 rfl rfl (by decide) rfl ?_
        refine q_goto (pc := 51) (tgt := 6) K dX4_worstBesides_51 (by decide) ?_
        have a3 := addI (x := v4) (y := 1) (by omega) (by omega)
        exact qq_out (ih v1 v2 v3 (v4 + 1) σ hw (by omega) (by omega) (by omega) hk)
      · have i13 := neI c2
        refine q_aload_n (pc := 19) K dX4_worstBesides_19 rfl rfl ?_
        refine q_get (pc := 20) (o := 3) (f := 0) (v := .ref (gob G 0)) K (wO_x hG) vw_3 iwX4_worstBesides_X4 (by decide) mX4_worstBesides_f12 rfl dX4_worstBesides_20 ?_
        refine q_get (pc := 23) (o := 0) (f := 9) (v := .int (rF σ (7 * 0 + 2))) K (wO_ch hG (show 0 < 3 by decide)) vw_0 iwX4_worstBesides_X0 (by decide) mX4_worstBesides_f128 rfl dX4_worstBesides_23 ?_
        refine q_iload (pc := 26) K dX4_worstBesides_26 rfl ?_
        refine q_callSi (pc := 28) (rm := rmX4_has) K (kX4_has l hN (rF σ (7 * 0 + 2)) v4 σ) gX4_worstBesides_X4_has rfl hdS_X4_has ⟨Nat.le_of_ble_eq_true rfl, Nat.le_of_ble_eq_true rfl⟩ rfl rfl ⟨Nat.zero_le _, Nat.zero_le _⟩ rfl rfl (Nat.le_of_ble_eq_true rfl) dX4_worstBesides_28 ?_
        refine q_if_ne (pc := 31) (tgt := 48) K dX4_worstBesides_31 (by decide) (fun c4 => ?_) (fun c4 => ?_)
        · have i10 := neI c4
          refine q_iinc (pc := 48) (v := (v4 + 1)) (lv' := [some (.ref (gob G 3)), some (.int v1), some (.int v2), some (.int v3), some (.int (v4 + 1))]) K dX4_worstBesides_48 rfl rfl (by decide) rfl ?_
          refine q_goto (pc := 51) (tgt := 6) K dX4_worstBesides_51 (by decide) ?_
          have a5 := addI (x := v4) (y := 1) (by omega) (by omega)
          exact qq_out (ih v1 v2 v3 (v4 + 1) σ hw (by omega) (by omega) (by omega) hk)
        · have i11 := eqI c4
          refine q_iload_n (pc := 34) K dX4_worstBesides_34 rfl rfl ?_
          refine q_aload_n (pc := 35) K dX4_worstBesides_35 rfl rfl ?_
          refine q_iconst (pc := 36) (v := 1) K dX4_worstBesides_36 (by decide) ?_
          refine q_iload (pc := 37) K dX4_worstBesides_37 rfl ?_
          refine q_ishl (pc := 39) K dX4_worstBesides_39 ?_
          refine q_iload_n (pc := 40) K dX4_worstBesides_40 rfl rfl ?_
          refine q_callVi (pc := 41) (o := 3) (rm := rmX4_holdingOpened) K (kX4_holdingOpened l hN hG (jshl 1 v4) v2 σ hw (by omega)) gX4_worstBesides_X4_holdingOpened rfl hdV_X4_holdingOpened ⟨Nat.le_of_ble_eq_true rfl, Nat.le_of_ble_eq_true rfl⟩ rfl rfl ⟨Nat.zero_le _, Nat.zero_le _⟩ (wO_x hG) vw_3 rfl rfl (Nat.le_of_ble_eq_true rfl) dX4_worstBesides_41 ?_
          refine qq_nmI (fun r6 e7 => ?_)
          have hw8 : WD r6.2 := by rw [e7]; exact wX4_holdingOpened (jshl 1 v4) v2 hw (by omega)
          refine q_mmin (pc := 44) K mX4_worstBesides_l204 mX4_worstBesides_s204 mX4_worstBesides_iM mX4_worstBesides_d204 (Nat.le_of_ble_eq_true rfl) (Nat.le_of_ble_eq_true rfl) dX4_worstBesides_44 ?_
          refine q_istore_n (pc := 47) (lv' := [some (.ref (gob G 3)), some (.int v1), some (.int v2), some (.int (jmin v3 r6.1)), some (.int v4)]) K dX4_worstBesides_47 rfl (by decide) (Nat.le_of_ble_eq_true rfl) rfl ?_
          refine q_iinc (pc := 48) (v := (v4 + 1)) (lv' := [some (.ref (gob G 3)), some (.int v1), some (.int v2), some (.int (jmin v3 r6.1)), some (.int (v4 + 1))]) K dX4_worstBesides_48 rfl rfl (by decide) rfl ?_
          refine q_goto (pc := 51) (tgt := 6) K dX4_worstBesides_51 (by decide) ?_
          have a9 := addI (x := v4) (y := 1) (by omega) (by omega)
          exact qq_out (ih v1 v2 (jmin v3 r6.1) (v4 + 1) r6.2 hw8 (by omega) (by omega) (by omega) hk)
set_option maxRecDepth 100000 in
set_option maxHeartbeats 4000000 in
theorem kX4_worstBesides (l : Launch) {G : gT} (hN : wN G) (hG : gfl G = true) (v1 : Int32) (v2 : Int32) (σ : sg) (hw : WD σ) (hn : v2.toInt ≤ 100) : cM l yX4_worstBesides wsX4_worstBesides rmX4_worstBesides G [.ref (gob G 3), .int v1, .int v2] σ (some (.int (fX4_worstBesides v1 v2 σ).1)) (fX4_worstBesides v1 v2 σ).2 := by
  refine cM_of (maxL := 5) (ret := (some .int)) (cc := cX4_worstBesides) (fX4_worstBesides v1 v2 σ) RX4 hN (by decide +kernel) rfl rfl (Nat.le_of_ble_eq_true rfl) rfl ?_
  intro p e s m args below meth c K hr
  have k0 : (0 : Int32).toInt = 0 := rfl
  have k8 : (8 : Int32).toInt = 8 := rfl
  have k9 : (9 : Int32).toInt = 9 := rfl
  refine qq_st (lv' := [some (.ref (gob G 3)), some (.int v1), some (.int v2), none, none]) rfl rfl rfl ?_
  refine qq_T (fX4_worstBesides.eq_1 ..) ?_
  refine q_bipush (pc := 0) (v := 9) K dX4_worstBesides_0 (by decide) ?_
  refine q_istore_n (pc := 2) (lv' := [some (.ref (gob G 3)), some (.int v1), some (.int v2), some (.int 9), none]) K dX4_worstBesides_2 rfl (by decide) (Nat.le_of_ble_eq_true rfl) rfl ?_
  refine q_iconst (pc := 3) (v := 0) K dX4_worstBesides_3 (by decide) ?_
  refine q_istore (pc := 4) (lv' := [some (.ref (gob G 3)), some (.int v1), some (.int v2), some (.int 9), some (.int 0)]) K dX4_worstBesides_4 (by decide) (Nat.le_of_ble_eq_true rfl) rfl ?_
  refine lX4_worstBesides_6 l hN hG K 7 v1 v2 9 0 σ hw (by omega) (by omega) (by omega) (fun r16 hw18 => ?_)
  refine q_iload_n (pc := 54) K dX4_worstBesides_54 rfl rfl ?_
  refine q_bipush (pc := 55) (v := 8) K dX4_worstBesides_55 (by decide) ?_
  refine q_icmp_gt (pc := 57) (tgt := 64) K dX4_worstBesides_57 (by decide) (fun c19 => ?_) (fun c19 => ?_)
  · have i23 := ltI c19
    refine q_aload_n (pc := 64) K dX4_worstBesides_64 rfl rfl ?_
    refine q_iconst (pc := 65) (v := 0) K dX4_worstBesides_65 (by decide) ?_
    refine q_iload_n (pc := 66) K dX4_worstBesides_66 rfl rfl ?_
    refine q_callVi (pc := 67) (o := 3) (rm := rmX4_holdingOpened) K (kX4_holdingOpened l hN hG 0 v2 r16.2 hw18 (by omega)) gX4_worstBesides_X4_holdingOpened rfl hdV_X4_holdingOpened ⟨Nat.le_of_ble_eq_true rfl, Nat.le_of_ble_eq_true rfl⟩ rfl rfl ⟨Nat.zero_le _, Nat.zero_le _⟩ (wO_x hG) vw_3 rfl rfl (Nat.le_of_ble_eq_true rfl) dX4_worstBesides_67 ?_
    refine qq_nmI (fun r20 e21 => ?_)
    have hw22 : WD r20.2 := by rw [e21]; exact wX4_holdingOpened 0 v2 hw18 (by omega)
    exact q_iret K hr dX4_worstBesides_70
  · have i24 := nltI c19
    refine q_iload_n (pc := 60) K dX4_worstBesides_60 rfl rfl ?_
    refine q_goto (pc := 61) (tgt := 70) K dX4_worstBesides_61 (by decide) ?_
    exact q_iret K hr dX4_worstBesides_70
theorem hdV_X4_swap : yX4_swap.cls = RX4 ∧ yX4_swap.cls ≠ "java/lang/invoke/MethodHandle" ∧ yX4_swap.cls ≠ "java/lang/invoke/VarHandle" ∧ (parseMethodDescriptor yX4_swap.desc).map (fun d => d.parameters.length) = some 1 := by decide +kernel
theorem mX4_swap_f16 : Cond.fieldLink RX4 16 "WaxTreaties" "trial" "LWaxTreaties$Chancery;" ∈ wsX4_swap := List.mem_of_getElem? (i := 1) rfl
theorem iwX4_swap_X4 : ∀ w ∈ wsX40, w ∈ wsX4_swap := fun w h => List.mem_cons_of_mem _ (List.mem_append_left _ (List.mem_append_right _ h))
theorem mX4_swap_f12 : Cond.fieldLink RX4 12 "WaxTreaties" "live" "LWaxTreaties$Chancery;" ∈ wsX4_swap := List.mem_of_getElem? (i := 2) rfl
theorem mX4_swap_f151 : Cond.fieldLink RX4 151 "WaxTreaties$Chancery" "deeds" "I" ∈ wsX4_swap := List.mem_of_getElem? (i := 3) rfl
theorem iwX4_swap_X0 : ∀ w ∈ wsX00, w ∈ wsX4_swap := fun w h => List.mem_cons_of_mem _ (List.mem_append_right _ h)
theorem mX4_swap_c190 : Cond.constant RX4 190 (-1000004) ∈ wsX4_swap := List.mem_of_getElem? (i := 4) rfl
set_option maxRecDepth 100000 in
set_option maxHeartbeats 4000000 in
theorem lX4_swap_62 {p : Program} (l : Launch) {e : Env} {s : State} {m : MethodId} {args : Array Value} {below : List Frame} {meth : Method} {c : Code} {Q : State → Prop} {G : gT} (hN : wN G) (hG : gfl G = true) (K : qK p s m args meth c cX4_swap 8 RX4 wsX4_swap G) : ∀ (k : Nat) (v1 v3 v4 v5 v6 : Int32) (σ : sg) (hw : WD σ) (hv6 : 0 ≤ v6.toInt ∧ v6.toInt ≤ 8) (hnv1 : v1.toInt ≤ 100) (ha : 0 ≤ v5.toInt ∧ v5.toInt ≤ 7) (hmu : (8 - v6.toInt).toNat < k) {ρ : Type} {E : ρ → Prop} {f : Int32 × Int32 × sg → ρ} (hk : ∀ r : Int32 × Int32 × sg, (WD r.2.2) → qq p l e (headSpec wsX4_swap rmX4_swap).room s m args below meth c Q 8 G E (f r) 110 [some (.ref (gob G 3)), some (.int v1), none, some (.int r.1), some (.int r.2.1), some (.int v5), none, none] [] r.2.2), qq p l e (headSpec wsX4_swap rmX4_swap).room s m args below meth c Q 8 G E (bnd (LX4_swap_62 k v1 v3 v4 v5 v6 σ) f) 62 [some (.ref (gob G 3)), some (.int v1), none, some (.int v3), some (.int v4), some (.int v5), some (.int v6), none] [] σ := by
  intro k
  induction k with
  | zero => intro v1 v3 v4 v5 v6 σ hw hv6 hnv1 ha hmu ρ E f hk; exact absurd hmu (Nat.not_lt_zero _)
  | succ k ih =>
    intro v1 v3 v4 v5 v6 σ hw hv6 hnv1 ha hmu ρ E f hk
    have k0 : (0 : Int32).toInt = 0 := rfl
    have k1 : (1 : Int32).toInt = 1 := rfl
    have k10 : (10 : Int32).toInt = 10 := rfl
    refine qq_in ?_
    refine qq_T (LX4_swap_62.eq_2 ..) ?_
    refine q_iload (pc := 62) K dX4_swap_62 rfl ?_
    refine q_aload_n (pc := 64) K dX4_swap_64 rfl rfl ?_
    refine q_get (pc := 65) (o := 3) (f := 0) (v := .ref (gob G 0)) K (wO_x hG) vw_3 iwX4_swap_X4 (by decide) mX4_swap_f12 rfl dX4_swap_65 ?_
    refine q_get (pc := 68) (o := 0) (f := 8) (v := .int (rF σ (7 * 0 + 1))) K (wO_ch hG (show 0 < 3 by decide)) vw_0 iwX4_swap_X0 (by decide) mX4_swap_f151 rfl dX4_swap_68 ?_
    have w10 := wd_deeds hw (show 0 < 3 by decide)
    refine q_icmp_ge (pc := 71) (tgt := 110) K dX4_swap_71 (by decide) (fun c11 => ?_) (fun c11 => ?_)
    · have i20 := leI c11
      refine qq_drop 6 (lv' := [some (.ref (gob G 3)), some (.int v1), none, some (.int v3), some (.int v4), some (.int v5), none, none]) rfl ?_
      exact qq_leaf (hk (v3, v4, σ) hw)
    · have i21 := nleI c11
      refine q_aload_n (pc := 74) K dX4_swap_74 rfl rfl ?_
      refine q_iload (pc := 75) K dX4_swap_75 rfl ?_
      refine q_iload (pc := 77) K dX4_swap_77 rfl ?_
      refine q_iload_n (pc := 79) K dX4_swap_79 rfl rfl ?_
      refine q_callVi (pc := 80) (o := 3) (rm := rmX4_holdingSwapped) K (kX4_holdingSwapped l hN hG v5 v6 v1 σ hw (by omega) (by omega)) gX4_swap_X4_holdingSwapped rfl hdV_X4_holdingSwapped ⟨Nat.le_of_ble_eq_true rfl, Nat.le_of_ble_eq_true rfl⟩ rfl rfl ⟨Nat.zero_le _, Nat.zero_le _⟩ (wO_x hG) vw_3 rfl rfl (Nat.le_of_ble_eq_true rfl) dX4_swap_80 ?_
      refine qq_nmI (fun r12 e13 => ?_)
      have hw14 : WD r12.2 := by rw [e13]; exact wX4_holdingSwapped v5 v6 v1 hw (by omega) (by omega)
      refine q_istore (pc := 83) (lv' := [some (.ref (gob G 3)), some (.int v1), none, some (.int v3), some (.int v4), some (.int v5), some (.int v6), some (.int r12.1)]) K dX4_swap_83 (by decide) (Nat.le_of_ble_eq_true rfl) rfl ?_
      refine q_iload (pc := 85) K dX4_swap_85 rfl ?_
      refine q_iload_n (pc := 87) K dX4_swap_87 rfl rfl ?_
      refine q_icmp_le (pc := 88) (tgt := 104) K dX4_swap_88 (by decide) (fun c15 => ?_) (fun c15 => ?_)
      · have i18 := leI c15
        refine q_iinc (pc := 104) (v := (v6 + 1)) (lv' := [some (.ref (gob G 3)), some (.int v1), none, some (.int v3), some (.int v4), some (.int v5), some (.int (v6 + 1)), some (.int r12.1)]) K dX4_swap_104 rfl rfl (by decide) rfl ?_
        refine q_goto (pc := 107) (tgt := 62) K dX4_swap_107 (by decide) ?_
        refine qq_drop 7 (lv' := [some (.ref (gob G 3)), some (.int v1), none, some (.int v3), some (.int v4), some (.int v5), some (.int (v6 + 1)), none]) rfl ?_
        have a16 := addI (x := v6) (y := 1) (by omega) (by omega)
        exact qq_out (ih v1 v3 v4 v5 (v6 + 1) r12.2 hw14 (by omega) (by omega) (by omega) (by omega) hk)
      · have i19 := nleI c15
        refine q_bipush (pc := 91) (v := 10) K dX4_swap_91 (by decide) ?_
        refine q_iload (pc := 93) K dX4_swap_93 rfl ?_
        refine q_imul (pc := 95) K dX4_swap_95 ?_
        refine q_iload (pc := 96) K dX4_swap_96 rfl ?_
        refine q_iadd (pc := 98) K dX4_swap_98 ?_
        refine q_istore (pc := 99) (lv' := [some (.ref (gob G 3)), some (.int v1), none, some (.int v3), some (.int ((10 * v5) + v6)), some (.int v5), some (.int v6), some (.int r12.1)]) K dX4_swap_99 (by decide) (Nat.le_of_ble_eq_true rfl) rfl ?_
        refine q_iload (pc := 101) K dX4_swap_101 rfl ?_
        refine q_istore_n (pc := 103) (lv' := [some (.ref (gob G 3)), some (.int v1), none, some (.int r12.1), some (.int ((10 * v5) + v6)), some (.int v5), some (.int v6), some (.int r12.1)]) K dX4_swap_103 rfl (by decide) (Nat.le_of_ble_eq_true rfl) rfl ?_
        refine q_iinc (pc := 104) (v := (v6 + 1)) (lv' := [some (.ref (gob G 3)), some (.int v1), none, some (.int r12.1), some (.int ((10 * v5) + v6)), some (.int v5), some (.int (v6 + 1)), some (.int r12.1)]) K dX4_swap_104 rfl rfl (by decide) rfl ?_
        refine q_goto (pc := 107) (tgt := 62) K dX4_swap_107 (by decide) ?_
        refine qq_drop 7 (lv' := [some (.ref (gob G 3)), some (.int v1), none, some (.int r12.1), some (.int ((10 * v5) + v6)), some (.int v5), some (.int (v6 + 1)), none]) rfl ?_
        have a17 := addI (x := v6) (y := 1) (by omega) (by omega)
        exact qq_out (ih v1 r12.1 ((10 * v5) + v6) v5 (v6 + 1) r12.2 hw14 (by omega) (by omega) (by omega) (by omega) hk)
set_option maxRecDepth 100000 in
set_option maxHeartbeats 4000000 in
theorem lX4_swap_44 {p : Program} (l : Launch) {e : Env} {s : State} {m : MethodId} {args : Array Value} {below : List Frame} {meth : Method} {c : Code} {Q : State → Prop} {G : gT} (hN : wN G) (hG : gfl G = true) (K : qK p s m args meth c cX4_swap 8 RX4 wsX4_swap G) : ∀ (k : Nat) (v1 v3 v4 v5 : Int32) (σ : sg) (hw : WD σ) (hv5 : 0 ≤ v5.toInt ∧ v5.toInt ≤ 8) (hnv1 : v1.toInt ≤ 100) (hmu : (8 - v5.toInt).toNat < k) {ρ : Type} {E : ρ → Prop} {f : Int32 × sg → ρ} (hk : ∀ r : Int32 × sg, (WD r.2) → qq p l e (headSpec wsX4_swap rmX4_swap).room s m args below meth c Q 8 G E (f r) 116 [some (.ref (gob G 3)), none, none, none, some (.int r.1), none, none, none] [] r.2), qq p l e (headSpec wsX4_swap rmX4_swap).room s m args below meth c Q 8 G E (bnd (LX4_swap_44 k v1 v3 v4 v5 σ) f) 44 [some (.ref (gob G 3)), some (.int v1), none, some (.int v3), some (.int v4), some (.int v5), none, none] [] σ := by
  intro k
  induction k with
  | zero => intro v1 v3 v4 v5 σ hw hv5 hnv1 hmu ρ E f hk; exact absurd hmu (Nat.not_lt_zero _)
  | succ k ih =>
    intro v1 v3 v4 v5 σ hw hv5 hnv1 hmu ρ E f hk
    have k0 : (0 : Int32).toInt = 0 := rfl
    have k1 : (1 : Int32).toInt = 1 := rfl
    refine qq_in ?_
    refine qq_T (LX4_swap_44.eq_2 ..) ?_
    refine q_iload (pc := 44) K dX4_swap_44 rfl ?_
    refine q_aload_n (pc := 46) K dX4_swap_46 rfl rfl ?_
    refine q_get (pc := 47) (o := 3) (f := 0) (v := .ref (gob G 0)) K (wO_x hG) vw_3 iwX4_swap_X4 (by decide) mX4_swap_f12 rfl dX4_swap_47 ?_
    refine q_get (pc := 50) (o := 0) (f := 8) (v := .int (rF σ (7 * 0 + 1))) K (wO_ch hG (show 0 < 3 by decide)) vw_0 iwX4_swap_X0 (by decide) mX4_swap_f151 rfl dX4_swap_50 ?_
    have w8 := wd_deeds hw (show 0 < 3 by decide)
    refine q_icmp_ge (pc := 53) (tgt := 116) K dX4_swap_53 (by decide) (fun c9 => ?_) (fun c9 => ?_)
    · have i26 := leI c9
      refine qq_drop 1 (lv' := [some (.ref (gob G 3)), none, none, some (.int v3), some (.int v4), some (.int v5), none, none]) rfl ?_
      refine qq_drop 3 (lv' := [some (.ref (gob G 3)), none, none, none, some (.int v4), some (.int v5), none, none]) rfl ?_
      refine qq_drop 5 (lv' := [some (.ref (gob G 3)), none, none, none, some (.int v4), none, none, none]) rfl ?_
      exact qq_leaf (hk (v4, σ) hw)
    · have i27 := nleI c9
      refine q_iload (pc := 56) K dX4_swap_56 rfl ?_
      refine q_iconst (pc := 58) (v := 1) K dX4_swap_58 (by decide) ?_
      refine q_iadd (pc := 59) K dX4_swap_59 ?_
      refine q_istore (pc := 60) (lv' := [some (.ref (gob G 3)), some (.int v1), none, some (.int v3), some (.int v4), some (.int v5), some (.int (v5 + 1)), none]) K dX4_swap_60 (by decide) (Nat.le_of_ble_eq_true rfl) rfl ?_
      have a22 := addI (x := v5) (y := 1) (by omega) (by omega)
      refine lX4_swap_62 l hN hG K 9 v1 v3 v4 v5 (v5 + 1) σ hw (by omega) (by omega) (by omega) (by omega) (fun r23 hw25 => ?_)
      refine q_iinc (pc := 110) (v := (v5 + 1)) (lv' := [some (.ref (gob G 3)), some (.int v1), none, some (.int r23.1), some (.int r23.2.1), some (.int (v5 + 1)), none, none]) K dX4_swap_110 rfl rfl (by decide) rfl ?_
      refine q_goto (pc := 113) (tgt := 44) K dX4_swap_113 (by decide) ?_
      exact qq_out (ih v1 r23.1 r23.2.1 (v5 + 1) r23.2.2 hw25 (by omega) (by omega) (by omega) hk)
set_option maxRecDepth 100000 in
set_option maxHeartbeats 4000000 in
theorem kX4_swap (l : Launch) {G : gT} (hN : wN G) (hG : gfl G = true) (v1 : Int32) (σ : sg) (hw : WD σ) : cM l yX4_swap wsX4_swap rmX4_swap G [.ref (gob G 3), .int v1] σ (some (.int (fX4_swap v1 σ).1)) (fX4_swap v1 σ).2 := by
  refine cM_of (maxL := 8) (ret := (some .int)) (cc := cX4_swap) (fX4_swap v1 σ) RX4 hN (by decide +kernel) rfl rfl (Nat.le_of_ble_eq_true rfl) rfl ?_
  intro p e s m args below meth c K hr
  have km1000004 : ((-1000004) : Int32).toInt = -1000004 := rfl
  have km1 : ((-1) : Int32).toInt = -1 := rfl
  have k0 : (0 : Int32).toInt = 0 := rfl
  have k100 : (100 : Int32).toInt = 100 := rfl
  refine qq_st (lv' := [some (.ref (gob G 3)), some (.int v1), none, none, none, none, none, none]) rfl rfl rfl ?_
  refine qq_T (fX4_swap.eq_1 ..) ?_
  refine q_aload_n (pc := 0) K dX4_swap_0 rfl rfl ?_
  refine q_iload_n (pc := 1) K dX4_swap_1 rfl rfl ?_
  refine q_bipush (pc := 2) (v := 100) K dX4_swap_2 (by decide) ?_
  refine q_callVi (pc := 4) (o := 3) (rm := rmX4_refusal) K (kX4_refusal l hN hG v1 100 σ hw) gX4_swap_X4_refusal rfl hdV_X4_refusal ⟨Nat.le_of_ble_eq_true rfl, Nat.le_of_ble_eq_true rfl⟩ rfl rfl ⟨Nat.zero_le _, Nat.zero_le _⟩ (wO_x hG) vw_3 rfl rfl (Nat.le_of_ble_eq_true rfl) dX4_swap_4 ?_
  refine q_istore_n (pc := 7) (lv' := [some (.ref (gob G 3)), some (.int v1), some (.int (fX4_refusal v1 100 σ)), none, none, none, none, none]) K dX4_swap_7 rfl (by decide) (Nat.le_of_ble_eq_true rfl) rfl ?_
  refine q_iload_n (pc := 8) K dX4_swap_8 rfl rfl ?_
  refine q_if_eq (pc := 9) (tgt := 18) K dX4_swap_9 (by decide) (fun c1 => ?_) (fun c1 => ?_)
  · have i40 := eqI c1
    have b41 := ref_f c1
    refine q_aload_n (pc := 18) K dX4_swap_18 rfl rfl ?_
    refine q_get (pc := 19) (o := 3) (f := 1) (v := .ref (gob G 1)) K (wO_x hG) vw_3 iwX4_swap_X4 (by decide) mX4_swap_f16 rfl dX4_swap_19 ?_
    refine q_aload_n (pc := 22) K dX4_swap_22 rfl rfl ?_
    refine q_get (pc := 23) (o := 3) (f := 0) (v := .ref (gob G 0)) K (wO_x hG) vw_3 iwX4_swap_X4 (by decide) mX4_swap_f12 rfl dX4_swap_23 ?_
    refine q_callVv (pc := 26) (o := 1) (rm := rmX0_take) K (kX0_take l hN hG 1 (show 1 < 3 by decide) 0 (show 0 < 3 by decide) σ hw) gX4_swap_X0_take rfl hdV_X0_take ⟨Nat.le_of_ble_eq_true rfl, Nat.le_of_ble_eq_true rfl⟩ rfl rfl ⟨Nat.zero_le _, Nat.zero_le _⟩ (wO_ch hG (show 1 < 3 by decide)) vw_0 rfl rfl (Nat.le_of_ble_eq_true rfl) dX4_swap_26 ?_
    refine qq_nmV (fun r2 e3 => ?_)
    have hw4 : WD r2 := by rw [e3]; exact wX0_take 1 (show 1 < 3 by decide) 0 (show 0 < 3 by decide) hw 
    refine q_aload_n (pc := 29) K dX4_swap_29 rfl rfl ?_
    refine q_get (pc := 30) (o := 3) (f := 1) (v := .ref (gob G 1)) K (wO_x hG) vw_3 iwX4_swap_X4 (by decide) mX4_swap_f16 rfl dX4_swap_30 ?_
    refine q_iload_n (pc := 33) K dX4_swap_33 rfl rfl ?_
    refine q_callVi (pc := 34) (o := 1) (rm := rmX0_holdingBehind) K (kX0_holdingBehind l hN hG 1 (show 1 < 3 by decide) v1 r2 hw4 (by omega)) gX4_swap_X0_holdingBehind rfl hdV_X0_holdingBehind ⟨Nat.le_of_ble_eq_true rfl, Nat.le_of_ble_eq_true rfl⟩ rfl rfl ⟨Nat.zero_le _, Nat.zero_le _⟩ (wO_ch hG (show 1 < 3 by decide)) vw_0 rfl rfl (Nat.le_of_ble_eq_true rfl) dX4_swap_34 ?_
    refine qq_nmI (fun r5 e6 => ?_)
    have hw7 : WD r5.2 := by rw [e6]; exact wX0_holdingBehind 1 (show 1 < 3 by decide) v1 hw4 (by omega)
    refine q_istore_n (pc := 37) (lv' := [some (.ref (gob G 3)), some (.int v1), some (.int (fX4_refusal v1 100 σ)), some (.int r5.1), none, none, none, none]) K dX4_swap_37 rfl (by decide) (Nat.le_of_ble_eq_true rfl) rfl ?_
    refine q_iconst (pc := 38) (v := (-1)) K dX4_swap_38 (by decide) ?_
    refine q_istore (pc := 39) (lv' := [some (.ref (gob G 3)), some (.int v1), some (.int (fX4_refusal v1 100 σ)), some (.int r5.1), some (.int (-1)), none, none, none]) K dX4_swap_39 (by decide) (Nat.le_of_ble_eq_true rfl) rfl ?_
    refine q_iconst (pc := 41) (v := 0) K dX4_swap_41 (by decide) ?_
    refine q_istore (pc := 42) (lv' := [some (.ref (gob G 3)), some (.int v1), some (.int (fX4_refusal v1 100 σ)), some (.int r5.1), some (.int (-1)), some (.int 0), none, none]) K dX4_swap_42 (by decide) (Nat.le_of_ble_eq_true rfl) rfl ?_
    refine qq_drop 2 (lv' := [some (.ref (gob G 3)), some (.int v1), none, some (.int r5.1), some (.int (-1)), some (.int 0), none, none]) rfl ?_
    refine lX4_swap_44 l hN hG K 9 v1 r5.1 (-1) 0 r5.2 hw7 (by omega) (by omega) (by omega) (fun r28 hw30 => ?_)
    refine q_iload (pc := 116) K dX4_swap_116 rfl ?_
    refine q_iconst (pc := 118) (v := (-1)) K dX4_swap_118 (by decide) ?_
    refine q_icmp_ne (pc := 119) (tgt := 131) K dX4_swap_119 (by decide) (fun c31 => ?_) (fun c31 => ?_)
    · have i35 := neI c31
      refine q_iload (pc := 131) K dX4_swap_131 rfl ?_
      exact q_iret K hr dX4_swap_133
    · have i36 := eqI c31
      refine q_aload_n (pc := 122) K dX4_swap_122 rfl rfl ?_
      refine q_ldc (pc := 123) (v := (-1000004)) K dX4_swap_123 mX4_swap_c190 ?_
      refine q_callVi (pc := 125) (o := 3) (rm := rmX4_found) K (kX4_found l hN hG (-1000004) r28.2 hw30) gX4_swap_X4_found rfl hdV_X4_found ⟨Nat.le_of_ble_eq_true rfl, Nat.le_of_ble_eq_true rfl⟩ rfl rfl ⟨Nat.zero_le _, Nat.zero_le _⟩ (wO_x hG) vw_3 rfl rfl (Nat.le_of_ble_eq_true rfl) dX4_swap_125 ?_
      refine qq_nmI (fun r32 e33 => ?_)
      have hw34 : WD r32.2 := by rw [e33]; exact wX4_found (-1000004) hw30 
      refine q_goto (pc := 128) (tgt := 133) K dX4_swap_128 (by decide) ?_
      exact q_iret K hr dX4_swap_133
  · have i42 := neI c1
    refine q_aload_n (pc := 12) K dX4_swap_12 rfl rfl ?_
    refine q_iload_n (pc := 13) K dX4_swap_13 rfl rfl ?_
    refine q_callVi (pc := 14) (o := 3) (rm := rmX4_found) K (kX4_found l hN hG (fX4_refusal v1 100 σ) σ hw) gX4_swap_X4_found rfl hdV_X4_found ⟨Nat.le_of_ble_eq_true rfl, Nat.le_of_ble_eq_true rfl⟩ rfl rfl ⟨Nat.zero_le _, Nat.zero_le _⟩ (wO_x hG) vw_3 rfl rfl (Nat.le_of_ble_eq_true rfl) dX4_swap_14 ?_
    refine qq_nmI (fun r37 e38 => ?_)
    have hw39 : WD r37.2 := by rw [e38]; exact wX4_found (fX4_refusal v1 100 σ) hw 
    exact q_iret K hr dX4_swap_17
theorem hdV_X4_law : yX4_law.cls = RX4 ∧ yX4_law.cls ≠ "java/lang/invoke/MethodHandle" ∧ yX4_law.cls ≠ "java/lang/invoke/VarHandle" ∧ (parseMethodDescriptor yX4_law.desc).map (fun d => d.parameters.length) = some 1 := by decide +kernel
theorem mX4_law_f16 : Cond.fieldLink RX4 16 "WaxTreaties" "trial" "LWaxTreaties$Chancery;" ∈ wsX4_law := List.mem_of_getElem? (i := 1) rfl
theorem iwX4_law_X4 : ∀ w ∈ wsX40, w ∈ wsX4_law := fun w h => List.mem_cons_of_mem _ (List.mem_append_left _ (List.mem_append_right _ h))
theorem mX4_law_f12 : Cond.fieldLink RX4 12 "WaxTreaties" "live" "LWaxTreaties$Chancery;" ∈ wsX4_law := List.mem_of_getElem? (i := 2) rfl
set_option maxRecDepth 100000 in
set_option maxHeartbeats 4000000 in
theorem lX4_law_26 {p : Program} (l : Launch) {e : Env} {s : State} {m : MethodId} {args : Array Value} {below : List Frame} {meth : Method} {c : Code} {Q : State → Prop} {G : gT} (hN : wN G) (hG : gfl G = true) (K : qK p s m args meth c cX4_law 7 RX4 wsX4_law G) : ∀ (k : Nat) (v1 v3 v4 v5 : Int32) (σ : sg) (hw : WD σ) (hv5 : 0 ≤ v5.toInt ∧ v5.toInt ≤ 7) (hnv1 : v1.toInt ≤ 100) (hmu : (7 - v5.toInt).toNat < k) {ρ : Type} {E : ρ → Prop} {f : Int32 × sg → ρ} (hk : ∀ r : Int32 × sg, (WD r.2) → qq p l e (headSpec wsX4_law rmX4_law).room s m args below meth c Q 7 G E (f r) 83 [none, none, none, some (.int r.1), none, none, none] [] r.2), qq p l e (headSpec wsX4_law rmX4_law).room s m args below meth c Q 7 G E (bnd (LX4_law_26 k v1 v3 v4 v5 σ) f) 26 [some (.ref (gob G 3)), some (.int v1), none, some (.int v3), some (.int v4), some (.int v5), none] [] σ := by
  intro k
  induction k with
  | zero => intro v1 v3 v4 v5 σ hw hv5 hnv1 hmu ρ E f hk; exact absurd hmu (Nat.not_lt_zero _)
  | succ k ih =>
    intro v1 v3 v4 v5 σ hw hv5 hnv1 hmu ρ E f hk
    have k0 : (0 : Int32).toInt = 0 := rfl
    have k1 : (1 : Int32).toInt = 1 := rfl
    have k7 : (7 : Int32).toInt = 7 := rfl
    refine qq_in ?_
    refine qq_T (LX4_law_26.eq_2 ..) ?_
    refine q_iload (pc := 26) K dX4_law_26 rfl ?_
    refine q_bipush (pc := 28) (v := 7) K dX4_law_28 (by decide) ?_
    refine q_icmp_ge (pc := 30) (tgt := 83) K dX4_law_30 (by decide) (fun c2 => ?_) (fun c2 => ?_)
    · have i17 := leI c2
      refine qq_drop 0 (lv' := [none, some (.int v1), none, some (.int v3), some (.int v4), some (.int v5), none]) rfl ?_
      refine qq_drop 1 (lv' := [none, none, none, some (.int v3), some (.int v4), some (.int v5), none]) rfl ?_
      refine qq_drop 4 (lv' := [none, none, none, some (.int v3), none, some (.int v5), none]) rfl ?_
      refine qq_drop 5 (lv' := [none, none, none, some (.int v3), none, none, none]) rfl ?_
      exact qq_leaf (hk (v3, σ) hw)
    · have i18 := nleI c2
      refine q_aload_n (pc := 33) K dX4_law_33 rfl rfl ?_
      refine q_get (pc := 34) (o := 3) (f := 1) (v := .ref (gob G 1)) K (wO_x hG) vw_3 iwX4_law_X4 (by decide) mX4_law_f16 rfl dX4_law_34 ?_
      refine q_aload_n (pc := 37) K dX4_law_37 rfl rfl ?_
      refine q_get (pc := 38) (o := 3) (f := 0) (v := .ref (gob G 0)) K (wO_x hG) vw_3 iwX4_law_X4 (by decide) mX4_law_f12 rfl dX4_law_38 ?_
      refine q_callVv (pc := 41) (o := 1) (rm := rmX0_take) K (kX0_take l hN hG 1 (show 1 < 3 by decide) 0 (show 0 < 3 by decide) σ hw) gX4_law_X0_take rfl hdV_X0_take ⟨Nat.le_of_ble_eq_true rfl, Nat.le_of_ble_eq_true rfl⟩ rfl rfl ⟨Nat.zero_le _, Nat.zero_le _⟩ (wO_ch hG (show 1 < 3 by decide)) vw_0 rfl rfl (Nat.le_of_ble_eq_true rfl) dX4_law_41 ?_
      refine qq_nmV (fun r3 e4 => ?_)
      have hw5 : WD r3 := by rw [e4]; exact wX0_take 1 (show 1 < 3 by decide) 0 (show 0 < 3 by decide) hw 
      refine q_aload_n (pc := 44) K dX4_law_44 rfl rfl ?_
      refine q_get (pc := 45) (o := 3) (f := 1) (v := .ref (gob G 1)) K (wO_x hG) vw_3 iwX4_law_X4 (by decide) mX4_law_f16 rfl dX4_law_45 ?_
      refine q_iload (pc := 48) K dX4_law_48 rfl ?_
      refine q_callVv (pc := 50) (o := 1) (rm := rmX0_setAllKinds) K (kX0_setAllKinds l hN hG 1 (show 1 < 3 by decide) v5 r3 hw5) gX4_law_X0_setAllKinds rfl hdV_X0_setAllKinds ⟨Nat.le_of_ble_eq_true rfl, Nat.le_of_ble_eq_true rfl⟩ rfl rfl ⟨Nat.zero_le _, Nat.zero_le _⟩ (wO_ch hG (show 1 < 3 by decide)) vw_0 rfl rfl (Nat.le_of_ble_eq_true rfl) dX4_law_50 ?_
      refine qq_nmV (fun r6 e7 => ?_)
      have hw8 : WD r6 := by rw [e7]; exact wX0_setAllKinds 1 (show 1 < 3 by decide) v5 hw5 
      refine q_aload_n (pc := 53) K dX4_law_53 rfl rfl ?_
      refine q_get (pc := 54) (o := 3) (f := 1) (v := .ref (gob G 1)) K (wO_x hG) vw_3 iwX4_law_X4 (by decide) mX4_law_f16 rfl dX4_law_54 ?_
      refine q_iload_n (pc := 57) K dX4_law_57 rfl rfl ?_
      refine q_callVi (pc := 58) (o := 1) (rm := rmX0_holdingBehind) K (kX0_holdingBehind l hN hG 1 (show 1 < 3 by decide) v1 r6 hw8 (by omega)) gX4_law_X0_holdingBehind rfl hdV_X0_holdingBehind ⟨Nat.le_of_ble_eq_true rfl, Nat.le_of_ble_eq_true rfl⟩ rfl rfl ⟨Nat.zero_le _, Nat.zero_le _⟩ (wO_ch hG (show 1 < 3 by decide)) vw_0 rfl rfl (Nat.le_of_ble_eq_true rfl) dX4_law_58 ?_
      refine qq_nmI (fun r9 e10 => ?_)
      have hw11 : WD r9.2 := by rw [e10]; exact wX0_holdingBehind 1 (show 1 < 3 by decide) v1 hw8 (by omega)
      refine q_istore (pc := 61) (lv' := [some (.ref (gob G 3)), some (.int v1), none, some (.int v3), some (.int v4), some (.int v5), some (.int r9.1)]) K dX4_law_61 (by decide) (Nat.le_of_ble_eq_true rfl) rfl ?_
      refine q_iload (pc := 63) K dX4_law_63 rfl ?_
      refine q_iload (pc := 65) K dX4_law_65 rfl ?_
      refine q_icmp_le (pc := 67) (tgt := 77) K dX4_law_67 (by decide) (fun c12 => ?_) (fun c12 => ?_)
      · have i15 := leI c12
        refine q_iinc (pc := 77) (v := (v5 + 1)) (lv' := [some (.ref (gob G 3)), some (.int v1), none, some (.int v3), some (.int v4), some (.int (v5 + 1)), some (.int r9.1)]) K dX4_law_77 rfl rfl (by decide) rfl ?_
        refine q_goto (pc := 80) (tgt := 26) K dX4_law_80 (by decide) ?_
        refine qq_drop 6 (lv' := [some (.ref (gob G 3)), some (.int v1), none, some (.int v3), some (.int v4), some (.int (v5 + 1)), none]) rfl ?_
        have a13 := addI (x := v5) (y := 1) (by omega) (by omega)
        exact qq_out (ih v1 v3 v4 (v5 + 1) r9.2 hw11 (by omega) (by omega) (by omega) hk)
      · have i16 := nleI c12
        refine q_iload (pc := 70) K dX4_law_70 rfl ?_
        refine q_istore_n (pc := 72) (lv' := [some (.ref (gob G 3)), some (.int v1), none, some (.int v5), some (.int v4), some (.int v5), some (.int r9.1)]) K dX4_law_72 rfl (by decide) (Nat.le_of_ble_eq_true rfl) rfl ?_
        refine q_iload (pc := 73) K dX4_law_73 rfl ?_
        refine q_istore (pc := 75) (lv' := [some (.ref (gob G 3)), some (.int v1), none, some (.int v5), some (.int r9.1), some (.int v5), some (.int r9.1)]) K dX4_law_75 (by decide) (Nat.le_of_ble_eq_true rfl) rfl ?_
        refine q_iinc (pc := 77) (v := (v5 + 1)) (lv' := [some (.ref (gob G 3)), some (.int v1), none, some (.int v5), some (.int r9.1), some (.int (v5 + 1)), some (.int r9.1)]) K dX4_law_77 rfl rfl (by decide) rfl ?_
        refine q_goto (pc := 80) (tgt := 26) K dX4_law_80 (by decide) ?_
        refine qq_drop 6 (lv' := [some (.ref (gob G 3)), some (.int v1), none, some (.int v5), some (.int r9.1), some (.int (v5 + 1)), none]) rfl ?_
        have a14 := addI (x := v5) (y := 1) (by omega) (by omega)
        exact qq_out (ih v1 v5 r9.1 (v5 + 1) r9.2 hw11 (by omega) (by omega) (by omega) hk)
set_option maxRecDepth 100000 in
set_option maxHeartbeats 4000000 in
theorem kX4_law (l : Launch) {G : gT} (hN : wN G) (hG : gfl G = true) (v1 : Int32) (σ : sg) (hw : WD σ) : cM l yX4_law wsX4_law rmX4_law G [.ref (gob G 3), .int v1] σ (some (.int (fX4_law v1 σ).1)) (fX4_law v1 σ).2 := by
  refine cM_of (maxL := 7) (ret := (some .int)) (cc := cX4_law) (fX4_law v1 σ) RX4 hN (by decide +kernel) rfl rfl (Nat.le_of_ble_eq_true rfl) rfl ?_
  intro p e s m args below meth c K hr
  have km1 : ((-1) : Int32).toInt = -1 := rfl
  have k0 : (0 : Int32).toInt = 0 := rfl
  have k100 : (100 : Int32).toInt = 100 := rfl
  refine qq_st (lv' := [some (.ref (gob G 3)), some (.int v1), none, none, none, none, none]) rfl rfl rfl ?_
  refine qq_T (fX4_law.eq_1 ..) ?_
  refine q_aload_n (pc := 0) K dX4_law_0 rfl rfl ?_
  refine q_iload_n (pc := 1) K dX4_law_1 rfl rfl ?_
  refine q_bipush (pc := 2) (v := 100) K dX4_law_2 (by decide) ?_
  refine q_callVi (pc := 4) (o := 3) (rm := rmX4_refusal) K (kX4_refusal l hN hG v1 100 σ hw) gX4_law_X4_refusal rfl hdV_X4_refusal ⟨Nat.le_of_ble_eq_true rfl, Nat.le_of_ble_eq_true rfl⟩ rfl rfl ⟨Nat.zero_le _, Nat.zero_le _⟩ (wO_x hG) vw_3 rfl rfl (Nat.le_of_ble_eq_true rfl) dX4_law_4 ?_
  refine q_istore_n (pc := 7) (lv' := [some (.ref (gob G 3)), some (.int v1), some (.int (fX4_refusal v1 100 σ)), none, none, none, none]) K dX4_law_7 rfl (by decide) (Nat.le_of_ble_eq_true rfl) rfl ?_
  refine q_iload_n (pc := 8) K dX4_law_8 rfl rfl ?_
  refine q_if_eq (pc := 9) (tgt := 18) K dX4_law_9 (by decide) (fun c1 => ?_) (fun c1 => ?_)
  · have i25 := eqI c1
    have b26 := ref_f c1
    refine q_iconst (pc := 18) (v := 0) K dX4_law_18 (by decide) ?_
    refine q_istore_n (pc := 19) (lv' := [some (.ref (gob G 3)), some (.int v1), some (.int (fX4_refusal v1 100 σ)), some (.int 0), none, none, none]) K dX4_law_19 rfl (by decide) (Nat.le_of_ble_eq_true rfl) rfl ?_
    refine q_iconst (pc := 20) (v := (-1)) K dX4_law_20 (by decide) ?_
    refine q_istore (pc := 21) (lv' := [some (.ref (gob G 3)), some (.int v1), some (.int (fX4_refusal v1 100 σ)), some (.int 0), some (.int (-1)), none, none]) K dX4_law_21 (by decide) (Nat.le_of_ble_eq_true rfl) rfl ?_
    refine q_iconst (pc := 23) (v := 0) K dX4_law_23 (by decide) ?_
    refine q_istore (pc := 24) (lv' := [some (.ref (gob G 3)), some (.int v1), some (.int (fX4_refusal v1 100 σ)), some (.int 0), some (.int (-1)), some (.int 0), none]) K dX4_law_24 (by decide) (Nat.le_of_ble_eq_true rfl) rfl ?_
    refine qq_drop 2 (lv' := [some (.ref (gob G 3)), some (.int v1), none, some (.int 0), some (.int (-1)), some (.int 0), none]) rfl ?_
    refine lX4_law_26 l hN hG K 8 v1 0 (-1) 0 σ hw (by omega) (by omega) (by omega) (fun r19 hw21 => ?_)
    refine q_iload_n (pc := 83) K dX4_law_83 rfl rfl ?_
    exact q_iret K hr dX4_law_84
  · have i27 := neI c1
    refine q_aload_n (pc := 12) K dX4_law_12 rfl rfl ?_
    refine q_iload_n (pc := 13) K dX4_law_13 rfl rfl ?_
    refine q_callVi (pc := 14) (o := 3) (rm := rmX4_found) K (kX4_found l hN hG (fX4_refusal v1 100 σ) σ hw) gX4_law_X4_found rfl hdV_X4_found ⟨Nat.le_of_ble_eq_true rfl, Nat.le_of_ble_eq_true rfl⟩ rfl rfl ⟨Nat.zero_le _, Nat.zero_le _⟩ (wO_x hG) vw_3 rfl rfl (Nat.le_of_ble_eq_true rfl) dX4_law_14 ?_
    refine qq_nmI (fun r22 e23 => ?_)
    have hw24 : WD r22.2 := by rw [e23]; exact wX4_found (fX4_refusal v1 100 σ) hw 
    exact q_iret K hr dX4_law_17
theorem hdV_X4_enemy : yX4_enemy.cls = RX4 ∧ yX4_enemy.cls ≠ "java/lang/invoke/MethodHandle" ∧ yX4_enemy.cls ≠ "java/lang/invoke/VarHandle" ∧ (parseMethodDescriptor yX4_enemy.desc).map (fun d => d.parameters.length) = some 2 := by decide +kernel
set_option maxRecDepth 100000 in
set_option maxHeartbeats 4000000 in
theorem kX4_enemy (l : Launch) {G : gT} (hN : wN G) (hG : gfl G = true) (v1 : Int32) (v2 : Int32) (σ : sg) (hw : WD σ) : cM l yX4_enemy wsX4_enemy rmX4_enemy G [.ref (gob G 3), .int v1, .int v2] σ (some (.int (fX4_enemy v1 v2 σ).1)) (fX4_enemy v1 v2 σ).2 := by
  refine cM_of (maxL := 4) (ret := (some .int)) (cc := cX4_enemy) (fX4_enemy v1 v2 σ) RX4 hN (by decide +kernel) rfl rfl (Nat.le_of_ble_eq_true rfl) rfl ?_
  intro p e s m args below meth c K hr
  have k0 : (0 : Int32).toInt = 0 := rfl
  refine qq_st (lv' := [some (.ref (gob G 3)), some (.int v1), some (.int v2), none]) rfl rfl rfl ?_
  refine qq_T (fX4_enemy.eq_1 ..) ?_
  refine q_aload_n (pc := 0) K dX4_enemy_0 rfl rfl ?_
  refine q_iload_n (pc := 1) K dX4_enemy_1 rfl rfl ?_
  refine q_iload_n (pc := 2) K dX4_enemy_2 rfl rfl ?_
  refine q_callVi (pc := 3) (o := 3) (rm := rmX4_refusalOfEnemy) K (kX4_refusalOfEnemy l hN hG v1 v2 σ hw) gX4_enemy_X4_refusalOfEnemy rfl hdV_X4_refusalOfEnemy ⟨Nat.le_of_ble_eq_true rfl, Nat.le_of_ble_eq_true rfl⟩ rfl rfl ⟨Nat.zero_le _, Nat.zero_le _⟩ (wO_x hG) vw_3 rfl rfl (Nat.le_of_ble_eq_true rfl) dX4_enemy_3 ?_
  refine q_istore_n (pc := 6) (lv' := [some (.ref (gob G 3)), some (.int v1), some (.int v2), some (.int (fX4_refusalOfEnemy v1 v2 σ))]) K dX4_enemy_6 rfl (by decide) (Nat.le_of_ble_eq_true rfl) rfl ?_
  refine q_iload_n (pc := 7) K dX4_enemy_7 rfl rfl ?_
  refine q_if_ne (pc := 8) (tgt := 20) K dX4_enemy_8 (by decide) (fun c1 => ?_) (fun c1 => ?_)
  · have i8 := neI c1
    refine q_aload_n (pc := 20) K dX4_enemy_20 rfl rfl ?_
    refine q_iload_n (pc := 21) K dX4_enemy_21 rfl rfl ?_
    refine q_callVi (pc := 22) (o := 3) (rm := rmX4_found) K (kX4_found l hN hG (fX4_refusalOfEnemy v1 v2 σ) σ hw) gX4_enemy_X4_found rfl hdV_X4_found ⟨Nat.le_of_ble_eq_true rfl, Nat.le_of_ble_eq_true rfl⟩ rfl rfl ⟨Nat.zero_le _, Nat.zero_le _⟩ (wO_x hG) vw_3 rfl rfl (Nat.le_of_ble_eq_true rfl) dX4_enemy_22 ?_
    refine qq_nmI (fun r2 e3 => ?_)
    have hw4 : WD r2.2 := by rw [e3]; exact wX4_found (fX4_refusalOfEnemy v1 v2 σ) hw 
    exact q_iret K hr dX4_enemy_25
  · have i9 := eqI c1
    have b10 := refN_f c1
    refine q_aload_n (pc := 11) K dX4_enemy_11 rfl rfl ?_
    refine q_iload_n (pc := 12) K dX4_enemy_12 rfl rfl ?_
    refine q_iload_n (pc := 13) K dX4_enemy_13 rfl rfl ?_
    refine q_callVi (pc := 14) (o := 3) (rm := rmX4_worstSet) K (kX4_worstSet l hN hG v1 v2 σ hw (by omega)) gX4_enemy_X4_worstSet rfl hdV_X4_worstSet ⟨Nat.le_of_ble_eq_true rfl, Nat.le_of_ble_eq_true rfl⟩ rfl rfl ⟨Nat.zero_le _, Nat.zero_le _⟩ (wO_x hG) vw_3 rfl rfl (Nat.le_of_ble_eq_true rfl) dX4_enemy_14 ?_
    refine qq_nmI (fun r5 e6 => ?_)
    have hw7 : WD r5.2 := by rw [e6]; exact wX4_worstSet v1 v2 hw (by omega)
    refine q_goto (pc := 17) (tgt := 25) K dX4_enemy_17 (by decide) ?_
    exact q_iret K hr dX4_enemy_25
theorem hdV_X4_worst : yX4_worst.cls = RX4 ∧ yX4_worst.cls ≠ "java/lang/invoke/MethodHandle" ∧ yX4_worst.cls ≠ "java/lang/invoke/VarHandle" ∧ (parseMethodDescriptor yX4_worst.desc).map (fun d => d.parameters.length) = some 2 := by decide +kernel
set_option maxRecDepth 100000 in
set_option maxHeartbeats 4000000 in
theorem kX4_worst (l : Launch) {G : gT} (hN : wN G) (hG : gfl G = true) (v1 : Int32) (v2 : Int32) (σ : sg) (hw : WD σ) : cM l yX4_worst wsX4_worst rmX4_worst G [.ref (gob G 3), .int v1, .int v2] σ (some (.int (fX4_worst v1 v2 σ).1)) (fX4_worst v1 v2 σ).2 := by
  refine cM_of (maxL := 4) (ret := (some .int)) (cc := cX4_worst) (fX4_worst v1 v2 σ) RX4 hN (by decide +kernel) rfl rfl (Nat.le_of_ble_eq_true rfl) rfl ?_
  intro p e s m args below meth c K hr
  have k0 : (0 : Int32).toInt = 0 := rfl
  refine qq_st (lv' := [some (.ref (gob G 3)), some (.int v1), some (.int v2), none]) rfl rfl rfl ?_
  refine qq_T (fX4_worst.eq_1 ..) ?_
  refine q_aload_n (pc := 0) K dX4_worst_0 rfl rfl ?_
  refine q_iload_n (pc := 1) K dX4_worst_1 rfl rfl ?_
  refine q_iload_n (pc := 2) K dX4_worst_2 rfl rfl ?_
  refine q_callVi (pc := 3) (o := 3) (rm := rmX4_refusalOfEnemy) K (kX4_refusalOfEnemy l hN hG v1 v2 σ hw) gX4_worst_X4_refusalOfEnemy rfl hdV_X4_refusalOfEnemy ⟨Nat.le_of_ble_eq_true rfl, Nat.le_of_ble_eq_true rfl⟩ rfl rfl ⟨Nat.zero_le _, Nat.zero_le _⟩ (wO_x hG) vw_3 rfl rfl (Nat.le_of_ble_eq_true rfl) dX4_worst_3 ?_
  refine q_istore_n (pc := 6) (lv' := [some (.ref (gob G 3)), some (.int v1), some (.int v2), some (.int (fX4_refusalOfEnemy v1 v2 σ))]) K dX4_worst_6 rfl (by decide) (Nat.le_of_ble_eq_true rfl) rfl ?_
  refine q_iload_n (pc := 7) K dX4_worst_7 rfl rfl ?_
  refine q_if_ne (pc := 8) (tgt := 25) K dX4_worst_8 (by decide) (fun c1 => ?_) (fun c1 => ?_)
  · have i11 := neI c1
    refine q_aload_n (pc := 25) K dX4_worst_25 rfl rfl ?_
    refine q_iload_n (pc := 26) K dX4_worst_26 rfl rfl ?_
    refine q_callVi (pc := 27) (o := 3) (rm := rmX4_found) K (kX4_found l hN hG (fX4_refusalOfEnemy v1 v2 σ) σ hw) gX4_worst_X4_found rfl hdV_X4_found ⟨Nat.le_of_ble_eq_true rfl, Nat.le_of_ble_eq_true rfl⟩ rfl rfl ⟨Nat.zero_le _, Nat.zero_le _⟩ (wO_x hG) vw_3 rfl rfl (Nat.le_of_ble_eq_true rfl) dX4_worst_27 ?_
    refine qq_nmI (fun r2 e3 => ?_)
    have hw4 : WD r2.2 := by rw [e3]; exact wX4_found (fX4_refusalOfEnemy v1 v2 σ) hw 
    exact q_iret K hr dX4_worst_30
  · have i12 := eqI c1
    have b13 := refN_f c1
    refine q_aload_n (pc := 11) K dX4_worst_11 rfl rfl ?_
    refine q_aload_n (pc := 12) K dX4_worst_12 rfl rfl ?_
    refine q_iload_n (pc := 13) K dX4_worst_13 rfl rfl ?_
    refine q_iload_n (pc := 14) K dX4_worst_14 rfl rfl ?_
    refine q_callVi (pc := 15) (o := 3) (rm := rmX4_worstSet) K (kX4_worstSet l hN hG v1 v2 σ hw (by omega)) gX4_worst_X4_worstSet rfl hdV_X4_worstSet ⟨Nat.le_of_ble_eq_true rfl, Nat.le_of_ble_eq_true rfl⟩ rfl rfl ⟨Nat.zero_le _, Nat.zero_le _⟩ (wO_x hG) vw_3 rfl rfl (Nat.le_of_ble_eq_true rfl) dX4_worst_15 ?_
    refine qq_nmI (fun r5 e6 => ?_)
    have hw7 : WD r5.2 := by rw [e6]; exact wX4_worstSet v1 v2 hw (by omega)
    refine q_iload_n (pc := 18) K dX4_worst_18 rfl rfl ?_
    refine q_callVi (pc := 19) (o := 3) (rm := rmX4_holdingOpened) K (kX4_holdingOpened l hN hG r5.1 v2 r5.2 hw7 (by omega)) gX4_worst_X4_holdingOpened rfl hdV_X4_holdingOpened ⟨Nat.le_of_ble_eq_true rfl, Nat.le_of_ble_eq_true rfl⟩ rfl rfl ⟨Nat.zero_le _, Nat.zero_le _⟩ (wO_x hG) vw_3 rfl rfl (Nat.le_of_ble_eq_true rfl) dX4_worst_19 ?_
    refine qq_nmI (fun r8 e9 => ?_)
    have hw10 : WD r8.2 := by rw [e9]; exact wX4_holdingOpened r5.1 v2 hw7 (by omega)
    refine q_goto (pc := 22) (tgt := 30) K dX4_worst_22 (by decide) ?_
    exact q_iret K hr dX4_worst_30
theorem hdV_X4_least : yX4_least.cls = RX4 ∧ yX4_least.cls ≠ "java/lang/invoke/MethodHandle" ∧ yX4_least.cls ≠ "java/lang/invoke/VarHandle" ∧ (parseMethodDescriptor yX4_least.desc).map (fun d => d.parameters.length) = some 2 := by decide +kernel
theorem mX4_least_f12 : Cond.fieldLink RX4 12 "WaxTreaties" "live" "LWaxTreaties$Chancery;" ∈ wsX4_least := List.mem_of_getElem? (i := 1) rfl
theorem iwX4_least_X4 : ∀ w ∈ wsX40, w ∈ wsX4_least := fun w h => List.mem_cons_of_mem _ (List.mem_append_left _ (List.mem_append_right _ h))
theorem mX4_least_f128 : Cond.fieldLink RX4 128 "WaxTreaties$Chancery" "open" "I" ∈ wsX4_least := List.mem_of_getElem? (i := 2) rfl
theorem iwX4_least_X0 : ∀ w ∈ wsX00, w ∈ wsX4_least := fun w h => List.mem_cons_of_mem _ (List.mem_append_right _ h)
theorem mX4_least_c190 : Cond.constant RX4 190 (-1000004) ∈ wsX4_least := List.mem_of_getElem? (i := 3) rfl
set_option maxRecDepth 100000 in
set_option maxHeartbeats 4000000 in
theorem lX4_least_24 {p : Program} (l : Launch) {e : Env} {s : State} {m : MethodId} {args : Array Value} {below : List Frame} {meth : Method} {c : Code} {Q : State → Prop} {G : gT} (hN : wN G) (hG : gfl G = true) (K : qK p s m args meth c cX4_least 7 RX4 wsX4_least G) : ∀ (k : Nat) (v1 v2 v4 v5 : Int32) (σ : sg) (hw : WD σ) (hv5 : 0 ≤ v5.toInt ∧ v5.toInt ≤ 64) (hnv2 : v2.toInt ≤ 100) (hmu : (64 - v5.toInt).toNat < k) {ρ : Type} {E : ρ → Prop} {f : Int32 × sg → ρ} (hk : ∀ r : Int32 × sg, (WD r.2) → qq p l e (headSpec wsX4_least rmX4_least).room s m args below meth c Q 7 G E (f r) 79 [some (.ref (gob G 3)), none, none, none, some (.int r.1), none, none] [] r.2), qq p l e (headSpec wsX4_least rmX4_least).room s m args below meth c Q 7 G E (bnd (LX4_least_24 k v1 v2 v4 v5 σ) f) 24 [some (.ref (gob G 3)), some (.int v1), some (.int v2), none, some (.int v4), some (.int v5), none] [] σ := by
  intro k
  induction k with
  | zero => intro v1 v2 v4 v5 σ hw hv5 hnv2 hmu ρ E f hk; exact absurd hmu (Nat.not_lt_zero _)
  | succ k ih =>
    intro v1 v2 v4 v5 σ hw hv5 hnv2 hmu ρ E f hk
    have k0 : (0 : Int32).toInt = 0 := rfl
    have k1 : (1 : Int32).toInt = 1 := rfl
    have k64 : (64 : Int32).toInt = 64 := rfl
    refine qq_in ?_
    refine qq_T (LX4_least_24.eq_2 ..) ?_
    refine q_iload (pc := 24) K dX4_least_24 rfl ?_
    refine q_bipush (pc := 26) (v := 64) K dX4_least_26 (by decide) ?_
    refine q_icmp_ge (pc := 28) (tgt := 79) K dX4_least_28 (by decide) (fun c2 => ?_) (fun c2 => ?_)
    · have i19 := leI c2
      refine qq_drop 1 (lv' := [some (.ref (gob G 3)), none, some (.int v2), none, some (.int v4), some (.int v5), none]) rfl ?_
      refine qq_drop 2 (lv' := [some (.ref (gob G 3)), none, none, none, some (.int v4), some (.int v5), none]) rfl ?_
      refine qq_drop 5 (lv' := [some (.ref (gob G 3)), none, none, none, some (.int v4), none, none]) rfl ?_
      exact qq_leaf (hk (v4, σ) hw)
    · have i20 := nleI c2
      refine q_iload (pc := 31) K dX4_least_31 rfl ?_
      refine q_callSi (pc := 33) (rm := rmJ6_bitCount_0f7a4) K (kJ6_bitCount_0f7a4 l hN v5 σ) gX4_least_J6_bitCount_0f7a4 rfl hdS_J6_bitCount_0f7a4 ⟨Nat.le_of_ble_eq_true rfl, Nat.le_of_ble_eq_true rfl⟩ rfl rfl ⟨Nat.zero_le _, Nat.zero_le _⟩ rfl rfl (Nat.le_of_ble_eq_true rfl) dX4_least_33 ?_
      refine q_istore (pc := 36) (lv' := [some (.ref (gob G 3)), some (.int v1), some (.int v2), none, some (.int v4), some (.int v5), some (.int (fJ6_bitCount_0f7a4 v5))]) K dX4_least_36 (by decide) (Nat.le_of_ble_eq_true rfl) rfl ?_
      refine q_iload (pc := 38) K dX4_least_38 rfl ?_
      refine q_aload_n (pc := 40) K dX4_least_40 rfl rfl ?_
      refine q_get (pc := 41) (o := 3) (f := 0) (v := .ref (gob G 0)) K (wO_x hG) vw_3 iwX4_least_X4 (by decide) mX4_least_f12 rfl dX4_least_41 ?_
      refine q_get (pc := 44) (o := 0) (f := 9) (v := .int (rF σ (7 * 0 + 2))) K (wO_ch hG (show 0 < 3 by decide)) vw_0 iwX4_least_X0 (by decide) mX4_least_f128 rfl dX4_least_44 ?_
      refine q_iand (pc := 47) K dX4_least_47 ?_
      refine q_if_ne (pc := 48) (tgt := 73) K dX4_least_48 (by decide) (fun c3 => ?_) (fun c3 => ?_)
      · have i17 := neI c3
        refine q_iinc (pc := 73) (v := (v5 + 1)) (lv' := [some (.ref (gob G 3)), some (.int v1), some (.int v2), none, some (.int v4), some (.int (v5 + 1)), some (.int (fJ6_bitCount_0f7a4 v5))]) K dX4_least_73 rfl rfl (by decide) rfl ?_
        refine q_goto (pc := 76) (tgt := 24) K dX4_least_76 (by decide) ?_
        refine qq_drop 6 (lv' := [some (.ref (gob G 3)), some (.int v1), some (.int v2), none, some (.int v4), some (.int (v5 + 1)), none]) rfl ?_
        have a4 := addI (x := v5) (y := 1) (by omega) (by omega)
        exact qq_out (ih v1 v2 v4 (v5 + 1) σ hw (by omega) (by omega) (by omega) hk)
      · have i18 := eqI c3
        refine q_iload (pc := 51) K dX4_least_51 rfl ?_
        refine q_iload (pc := 53) K dX4_least_53 rfl ?_
        refine q_icmp_ge (pc := 55) (tgt := 73) K dX4_least_55 (by decide) (fun c5 => ?_) (fun c5 => ?_)
        · have i15 := leI c5
          refine q_iinc (pc := 73) (v := (v5 + 1)) (lv' := [some (.ref (gob G 3)), some (.int v1), some (.int v2), none, some (.int v4), some (.int (v5 + 1)), some (.int (fJ6_bitCount_0f7a4 v5))]) K dX4_least_73 rfl rfl (by decide) rfl ?_
          refine q_goto (pc := 76) (tgt := 24) K dX4_least_76 (by decide) ?_
          refine qq_drop 6 (lv' := [some (.ref (gob G 3)), some (.int v1), some (.int v2), none, some (.int v4), some (.int (v5 + 1)), none]) rfl ?_
          have a6 := addI (x := v5) (y := 1) (by omega) (by omega)
          exact qq_out (ih v1 v2 v4 (v5 + 1) σ hw (by omega) (by omega) (by omega) hk)
        · have i16 := nleI c5
          refine q_aload_n (pc := 58) K dX4_least_58 rfl rfl ?_
          refine q_iload (pc := 59) K dX4_least_59 rfl ?_
          refine q_iload_n (pc := 61) K dX4_least_61 rfl rfl ?_
          refine q_iload_n (pc := 62) K dX4_least_62 rfl rfl ?_
          refine q_callVi (pc := 63) (o := 3) (rm := rmX4_endsOpened) K (kX4_endsOpened l hN hG v5 v1 v2 σ hw (by omega)) gX4_least_X4_endsOpened rfl hdV_X4_endsOpened ⟨Nat.le_of_ble_eq_true rfl, Nat.le_of_ble_eq_true rfl⟩ rfl rfl ⟨Nat.zero_le _, Nat.zero_le _⟩ (wO_x hG) vw_3 rfl rfl (Nat.le_of_ble_eq_true rfl) dX4_least_63 ?_
          refine qq_nmI (fun r7 e8 => ?_)
          have hw9 : WD r7.2 := by rw [e8]; exact wX4_endsOpened v5 v1 v2 hw (by omega)
          refine q_if_eq (pc := 66) (tgt := 73) K dX4_least_66 (by decide) (fun c10 => ?_) (fun c10 => ?_)
          · have i13 := eqI c10
            refine q_iinc (pc := 73) (v := (v5 + 1)) (lv' := [some (.ref (gob G 3)), some (.int v1), some (.int v2), none, some (.int v4), some (.int (v5 + 1)), some (.int (fJ6_bitCount_0f7a4 v5))]) K dX4_least_73 rfl rfl (by decide) rfl ?_
            refine q_goto (pc := 76) (tgt := 24) K dX4_least_76 (by decide) ?_
            refine qq_drop 6 (lv' := [some (.ref (gob G 3)), some (.int v1), some (.int v2), none, some (.int v4), some (.int (v5 + 1)), none]) rfl ?_
            have a11 := addI (x := v5) (y := 1) (by omega) (by omega)
            exact qq_out (ih v1 v2 v4 (v5 + 1) r7.2 hw9 (by omega) (by omega) (by omega) hk)
          · have i14 := neI c10
            refine q_iload (pc := 69) K dX4_least_69 rfl ?_
            refine q_istore (pc := 71) (lv' := [some (.ref (gob G 3)), some (.int v1), some (.int v2), none, some (.int (fJ6_bitCount_0f7a4 v5)), some (.int v5), some (.int (fJ6_bitCount_0f7a4 v5))]) K dX4_least_71 (by decide) (Nat.le_of_ble_eq_true rfl) rfl ?_
            refine q_iinc (pc := 73) (v := (v5 + 1)) (lv' := [some (.ref (gob G 3)), some (.int v1), some (.int v2), none, some (.int (fJ6_bitCount_0f7a4 v5)), some (.int (v5 + 1)), some (.int (fJ6_bitCount_0f7a4 v5))]) K dX4_least_73 rfl rfl (by decide) rfl ?_
            refine q_goto (pc := 76) (tgt := 24) K dX4_least_76 (by decide) ?_
            refine qq_drop 6 (lv' := [some (.ref (gob G 3)), some (.int v1), some (.int v2), none, some (.int (fJ6_bitCount_0f7a4 v5)), some (.int (v5 + 1)), none]) rfl ?_
            have a12 := addI (x := v5) (y := 1) (by omega) (by omega)
            exact qq_out (ih v1 v2 (fJ6_bitCount_0f7a4 v5) (v5 + 1) r7.2 hw9 (by omega) (by omega) (by omega) hk)
set_option maxRecDepth 100000 in
set_option maxHeartbeats 4000000 in
theorem kX4_least (l : Launch) {G : gT} (hN : wN G) (hG : gfl G = true) (v1 : Int32) (v2 : Int32) (σ : sg) (hw : WD σ) : cM l yX4_least wsX4_least rmX4_least G [.ref (gob G 3), .int v1, .int v2] σ (some (.int (fX4_least v1 v2 σ).1)) (fX4_least v1 v2 σ).2 := by
  refine cM_of (maxL := 7) (ret := (some .int)) (cc := cX4_least) (fX4_least v1 v2 σ) RX4 hN (by decide +kernel) rfl rfl (Nat.le_of_ble_eq_true rfl) rfl ?_
  intro p e s m args below meth c K hr
  have km1000004 : ((-1000004) : Int32).toInt = -1000004 := rfl
  have k0 : (0 : Int32).toInt = 0 := rfl
  have k6 : (6 : Int32).toInt = 6 := rfl
  have k7 : (7 : Int32).toInt = 7 := rfl
  refine qq_st (lv' := [some (.ref (gob G 3)), some (.int v1), some (.int v2), none, none, none, none]) rfl rfl rfl ?_
  refine qq_T (fX4_least.eq_1 ..) ?_
  refine q_aload_n (pc := 0) K dX4_least_0 rfl rfl ?_
  refine q_iload_n (pc := 1) K dX4_least_1 rfl rfl ?_
  refine q_iload_n (pc := 2) K dX4_least_2 rfl rfl ?_
  refine q_callVi (pc := 3) (o := 3) (rm := rmX4_refusalOfDeed) K (kX4_refusalOfDeed l hN hG v1 v2 σ hw) gX4_least_X4_refusalOfDeed rfl hdV_X4_refusalOfDeed ⟨Nat.le_of_ble_eq_true rfl, Nat.le_of_ble_eq_true rfl⟩ rfl rfl ⟨Nat.zero_le _, Nat.zero_le _⟩ (wO_x hG) vw_3 rfl rfl (Nat.le_of_ble_eq_true rfl) dX4_least_3 ?_
  refine q_istore_n (pc := 6) (lv' := [some (.ref (gob G 3)), some (.int v1), some (.int v2), some (.int (fX4_refusalOfDeed v1 v2 σ)), none, none, none]) K dX4_least_6 rfl (by decide) (Nat.le_of_ble_eq_true rfl) rfl ?_
  refine q_iload_n (pc := 7) K dX4_least_7 rfl rfl ?_
  refine q_if_eq (pc := 8) (tgt := 17) K dX4_least_8 (by decide) (fun c1 => ?_) (fun c1 => ?_)
  · have i33 := eqI c1
    have b34 := refD_f hw c1
    refine q_bipush (pc := 17) (v := 7) K dX4_least_17 (by decide) ?_
    refine q_istore (pc := 19) (lv' := [some (.ref (gob G 3)), some (.int v1), some (.int v2), some (.int (fX4_refusalOfDeed v1 v2 σ)), some (.int 7), none, none]) K dX4_least_19 (by decide) (Nat.le_of_ble_eq_true rfl) rfl ?_
    refine q_iconst (pc := 21) (v := 0) K dX4_least_21 (by decide) ?_
    refine q_istore (pc := 22) (lv' := [some (.ref (gob G 3)), some (.int v1), some (.int v2), some (.int (fX4_refusalOfDeed v1 v2 σ)), some (.int 7), some (.int 0), none]) K dX4_least_22 (by decide) (Nat.le_of_ble_eq_true rfl) rfl ?_
    refine qq_drop 3 (lv' := [some (.ref (gob G 3)), some (.int v1), some (.int v2), none, some (.int 7), some (.int 0), none]) rfl ?_
    refine lX4_least_24 l hN hG K 65 v1 v2 7 0 σ hw (by omega) (by omega) (by omega) (fun r21 hw23 => ?_)
    refine q_iload (pc := 79) K dX4_least_79 rfl ?_
    refine q_bipush (pc := 81) (v := 6) K dX4_least_81 (by decide) ?_
    refine q_icmp_gt (pc := 83) (tgt := 91) K dX4_least_83 (by decide) (fun c24 => ?_) (fun c24 => ?_)
    · have i28 := ltI c24
      refine q_aload_n (pc := 91) K dX4_least_91 rfl rfl ?_
      refine q_ldc (pc := 92) (v := (-1000004)) K dX4_least_92 mX4_least_c190 ?_
      refine q_callVi (pc := 94) (o := 3) (rm := rmX4_found) K (kX4_found l hN hG (-1000004) r21.2 hw23) gX4_least_X4_found rfl hdV_X4_found ⟨Nat.le_of_ble_eq_true rfl, Nat.le_of_ble_eq_true rfl⟩ rfl rfl ⟨Nat.zero_le _, Nat.zero_le _⟩ (wO_x hG) vw_3 rfl rfl (Nat.le_of_ble_eq_true rfl) dX4_least_94 ?_
      refine qq_nmI (fun r25 e26 => ?_)
      have hw27 : WD r25.2 := by rw [e26]; exact wX4_found (-1000004) hw23 
      exact q_iret K hr dX4_least_97
    · have i29 := nltI c24
      refine q_iload (pc := 86) K dX4_least_86 rfl ?_
      refine q_goto (pc := 88) (tgt := 97) K dX4_least_88 (by decide) ?_
      exact q_iret K hr dX4_least_97
  · have i35 := neI c1
    refine q_aload_n (pc := 11) K dX4_least_11 rfl rfl ?_
    refine q_iload_n (pc := 12) K dX4_least_12 rfl rfl ?_
    refine q_callVi (pc := 13) (o := 3) (rm := rmX4_found) K (kX4_found l hN hG (fX4_refusalOfDeed v1 v2 σ) σ hw) gX4_least_X4_found rfl hdV_X4_found ⟨Nat.le_of_ble_eq_true rfl, Nat.le_of_ble_eq_true rfl⟩ rfl rfl ⟨Nat.zero_le _, Nat.zero_le _⟩ (wO_x hG) vw_3 rfl rfl (Nat.le_of_ble_eq_true rfl) dX4_least_13 ?_
    refine qq_nmI (fun r30 e31 => ?_)
    have hw32 : WD r30.2 := by rw [e31]; exact wX4_found (fX4_refusalOfDeed v1 v2 σ) hw 
    exact q_iret K hr dX4_least_16
theorem hdV_X4_nail : yX4_nail.cls = RX4 ∧ yX4_nail.cls ≠ "java/lang/invoke/MethodHandle" ∧ yX4_nail.cls ≠ "java/lang/invoke/VarHandle" ∧ (parseMethodDescriptor yX4_nail.desc).map (fun d => d.parameters.length) = some 1 := by decide +kernel
theorem mX4_nail_f12 : Cond.fieldLink RX4 12 "WaxTreaties" "live" "LWaxTreaties$Chancery;" ∈ wsX4_nail := List.mem_of_getElem? (i := 1) rfl
theorem iwX4_nail_X4 : ∀ w ∈ wsX40, w ∈ wsX4_nail := fun w h => List.mem_cons_of_mem _ (List.mem_append_left _ (List.mem_append_right _ h))
theorem mX4_nail_f128 : Cond.fieldLink RX4 128 "WaxTreaties$Chancery" "open" "I" ∈ wsX4_nail := List.mem_of_getElem? (i := 2) rfl
theorem iwX4_nail_X0 : ∀ w ∈ wsX00, w ∈ wsX4_nail := fun w h => List.mem_cons_of_mem _ (List.mem_append_right _ h)
theorem mX4_nail_c190 : Cond.constant RX4 190 (-1000004) ∈ wsX4_nail := List.mem_of_getElem? (i := 3) rfl
set_option maxRecDepth 100000 in
set_option maxHeartbeats 4000000 in
theorem lX4_nail_26 {p : Program} (l : Launch) {e : Env} {s : State} {m : MethodId} {args : Array Value} {below : List Frame} {meth : Method} {c : Code} {Q : State → Prop} {G : gT} (hN : wN G) (hG : gfl G = true) (K : qK p s m args meth c cX4_nail 7 RX4 wsX4_nail G) : ∀ (k : Nat) (v1 v3 v4 v5 : Int32) (σ : sg) (hw : WD σ) (hv5 : 0 ≤ v5.toInt ∧ v5.toInt ≤ 6) (hnv1 : v1.toInt ≤ 100) (hmu : (6 - v5.toInt).toNat < k) {ρ : Type} {E : ρ → Prop} {f : Int32 × sg → ρ} (hk : ∀ r : Int32 × sg, (WD r.2) → qq p l e (headSpec wsX4_nail rmX4_nail).room s m args below meth c Q 7 G E (f r) 77 [some (.ref (gob G 3)), none, none, some (.int r.1), none, none, none] [] r.2), qq p l e (headSpec wsX4_nail rmX4_nail).room s m args below meth c Q 7 G E (bnd (LX4_nail_26 k v1 v3 v4 v5 σ) f) 26 [some (.ref (gob G 3)), some (.int v1), none, some (.int v3), some (.int v4), some (.int v5), none] [] σ := by
  intro k
  induction k with
  | zero => intro v1 v3 v4 v5 σ hw hv5 hnv1 hmu ρ E f hk; exact absurd hmu (Nat.not_lt_zero _)
  | succ k ih =>
    intro v1 v3 v4 v5 σ hw hv5 hnv1 hmu ρ E f hk
    have k0 : (0 : Int32).toInt = 0 := rfl
    have k1 : (1 : Int32).toInt = 1 := rfl
    have k6 : (6 : Int32).toInt = 6 := rfl
    refine qq_in ?_
    refine qq_T (LX4_nail_26.eq_2 ..) ?_
    refine q_iload (pc := 26) K dX4_nail_26 rfl ?_
    refine q_bipush (pc := 28) (v := 6) K dX4_nail_28 (by decide) ?_
    refine q_icmp_ge (pc := 30) (tgt := 77) K dX4_nail_30 (by decide) (fun c2 => ?_) (fun c2 => ?_)
    · have i15 := leI c2
      refine qq_drop 1 (lv' := [some (.ref (gob G 3)), none, none, some (.int v3), some (.int v4), some (.int v5), none]) rfl ?_
      refine qq_drop 4 (lv' := [some (.ref (gob G 3)), none, none, some (.int v3), none, some (.int v5), none]) rfl ?_
      refine qq_drop 5 (lv' := [some (.ref (gob G 3)), none, none, some (.int v3), none, none, none]) rfl ?_
      exact qq_leaf (hk (v3, σ) hw)
    · have i16 := nleI c2
      refine q_aload_n (pc := 33) K dX4_nail_33 rfl rfl ?_
      refine q_get (pc := 34) (o := 3) (f := 0) (v := .ref (gob G 0)) K (wO_x hG) vw_3 iwX4_nail_X4 (by decide) mX4_nail_f12 rfl dX4_nail_34 ?_
      refine q_get (pc := 37) (o := 0) (f := 9) (v := .int (rF σ (7 * 0 + 2))) K (wO_ch hG (show 0 < 3 by decide)) vw_0 iwX4_nail_X0 (by decide) mX4_nail_f128 rfl dX4_nail_37 ?_
      refine q_iload (pc := 40) K dX4_nail_40 rfl ?_
      refine q_callSi (pc := 42) (rm := rmX4_has) K (kX4_has l hN (rF σ (7 * 0 + 2)) v5 σ) gX4_nail_X4_has rfl hdS_X4_has ⟨Nat.le_of_ble_eq_true rfl, Nat.le_of_ble_eq_true rfl⟩ rfl rfl ⟨Nat.zero_le _, Nat.zero_le _⟩ rfl rfl (Nat.le_of_ble_eq_true rfl) dX4_nail_42 ?_
      refine q_if_ne (pc := 45) (tgt := 71) K dX4_nail_45 (by decide) (fun c3 => ?_) (fun c3 => ?_)
      · have i13 := neI c3
        refine q_iinc (pc := 71) (v := (v5 + 1)) (lv' := [some (.ref (gob G 3)), some (.int v1), none, some (.int v3), some (.int v4), some (.int (v5 + 1)), none]) K dX4_nail_71 rfl rfl (by decide) rfl ?_
        refine q_goto (pc := 74) (tgt := 26) K dX4_nail_74 (by decide) ?_
        have a4 := addI (x := v5) (y := 1) (by omega) (by omega)
        exact qq_out (ih v1 v3 v4 (v5 + 1) σ hw (by omega) (by omega) (by omega) hk)
      · have i14 := eqI c3
        refine q_aload_n (pc := 48) K dX4_nail_48 rfl rfl ?_
        refine q_iload (pc := 49) K dX4_nail_49 rfl ?_
        refine q_iload_n (pc := 51) K dX4_nail_51 rfl rfl ?_
        refine q_callVi (pc := 52) (o := 3) (rm := rmX4_worstBesides) K (kX4_worstBesides l hN hG v5 v1 σ hw (by omega)) gX4_nail_X4_worstBesides rfl hdV_X4_worstBesides ⟨Nat.le_of_ble_eq_true rfl, Nat.le_of_ble_eq_true rfl⟩ rfl rfl ⟨Nat.zero_le _, Nat.zero_le _⟩ (wO_x hG) vw_3 rfl rfl (Nat.le_of_ble_eq_true rfl) dX4_nail_52 ?_
        refine qq_nmI (fun r5 e6 => ?_)
        have hw7 : WD r5.2 := by rw [e6]; exact wX4_worstBesides v5 v1 hw (by omega)
        refine q_istore (pc := 55) (lv' := [some (.ref (gob G 3)), some (.int v1), none, some (.int v3), some (.int v4), some (.int v5), some (.int r5.1)]) K dX4_nail_55 (by decide) (Nat.le_of_ble_eq_true rfl) rfl ?_
        refine q_iload (pc := 57) K dX4_nail_57 rfl ?_
        refine q_iload (pc := 59) K dX4_nail_59 rfl ?_
        refine q_icmp_le (pc := 61) (tgt := 71) K dX4_nail_61 (by decide) (fun c8 => ?_) (fun c8 => ?_)
        · have i11 := leI c8
          refine q_iinc (pc := 71) (v := (v5 + 1)) (lv' := [some (.ref (gob G 3)), some (.int v1), none, some (.int v3), some (.int v4), some (.int (v5 + 1)), some (.int r5.1)]) K dX4_nail_71 rfl rfl (by decide) rfl ?_
          refine q_goto (pc := 74) (tgt := 26) K dX4_nail_74 (by decide) ?_
          refine qq_drop 6 (lv' := [some (.ref (gob G 3)), some (.int v1), none, some (.int v3), some (.int v4), some (.int (v5 + 1)), none]) rfl ?_
          have a9 := addI (x := v5) (y := 1) (by omega) (by omega)
          exact qq_out (ih v1 v3 v4 (v5 + 1) r5.2 hw7 (by omega) (by omega) (by omega) hk)
        · have i12 := nleI c8
          refine q_iload (pc := 64) K dX4_nail_64 rfl ?_
          refine q_istore_n (pc := 66) (lv' := [some (.ref (gob G 3)), some (.int v1), none, some (.int v5), some (.int v4), some (.int v5), some (.int r5.1)]) K dX4_nail_66 rfl (by decide) (Nat.le_of_ble_eq_true rfl) rfl ?_
          refine q_iload (pc := 67) K dX4_nail_67 rfl ?_
          refine q_istore (pc := 69) (lv' := [some (.ref (gob G 3)), some (.int v1), none, some (.int v5), some (.int r5.1), some (.int v5), some (.int r5.1)]) K dX4_nail_69 (by decide) (Nat.le_of_ble_eq_true rfl) rfl ?_
          refine q_iinc (pc := 71) (v := (v5 + 1)) (lv' := [some (.ref (gob G 3)), some (.int v1), none, some (.int v5), some (.int r5.1), some (.int (v5 + 1)), some (.int r5.1)]) K dX4_nail_71 rfl rfl (by decide) rfl ?_
          refine q_goto (pc := 74) (tgt := 26) K dX4_nail_74 (by decide) ?_
          refine qq_drop 6 (lv' := [some (.ref (gob G 3)), some (.int v1), none, some (.int v5), some (.int r5.1), some (.int (v5 + 1)), none]) rfl ?_
          have a10 := addI (x := v5) (y := 1) (by omega) (by omega)
          exact qq_out (ih v1 v5 r5.1 (v5 + 1) r5.2 hw7 (by omega) (by omega) (by omega) hk)
set_option maxRecDepth 100000 in
set_option maxHeartbeats 4000000 in
theorem kX4_nail (l : Launch) {G : gT} (hN : wN G) (hG : gfl G = true) (v1 : Int32) (σ : sg) (hw : WD σ) : cM l yX4_nail wsX4_nail rmX4_nail G [.ref (gob G 3), .int v1] σ (some (.int (fX4_nail v1 σ).1)) (fX4_nail v1 σ).2 := by
  refine cM_of (maxL := 7) (ret := (some .int)) (cc := cX4_nail) (fX4_nail v1 σ) RX4 hN (by decide +kernel) rfl rfl (Nat.le_of_ble_eq_true rfl) rfl ?_
  intro p e s m args below meth c K hr
  have km1000004 : ((-1000004) : Int32).toInt = -1000004 := rfl
  have km1 : ((-1) : Int32).toInt = -1 := rfl
  have k0 : (0 : Int32).toInt = 0 := rfl
  have k100 : (100 : Int32).toInt = 100 := rfl
  refine qq_st (lv' := [some (.ref (gob G 3)), some (.int v1), none, none, none, none, none]) rfl rfl rfl ?_
  refine qq_T (fX4_nail.eq_1 ..) ?_
  refine q_aload_n (pc := 0) K dX4_nail_0 rfl rfl ?_
  refine q_iload_n (pc := 1) K dX4_nail_1 rfl rfl ?_
  refine q_bipush (pc := 2) (v := 100) K dX4_nail_2 (by decide) ?_
  refine q_callVi (pc := 4) (o := 3) (rm := rmX4_refusal) K (kX4_refusal l hN hG v1 100 σ hw) gX4_nail_X4_refusal rfl hdV_X4_refusal ⟨Nat.le_of_ble_eq_true rfl, Nat.le_of_ble_eq_true rfl⟩ rfl rfl ⟨Nat.zero_le _, Nat.zero_le _⟩ (wO_x hG) vw_3 rfl rfl (Nat.le_of_ble_eq_true rfl) dX4_nail_4 ?_
  refine q_istore_n (pc := 7) (lv' := [some (.ref (gob G 3)), some (.int v1), some (.int (fX4_refusal v1 100 σ)), none, none, none, none]) K dX4_nail_7 rfl (by decide) (Nat.le_of_ble_eq_true rfl) rfl ?_
  refine q_iload_n (pc := 8) K dX4_nail_8 rfl rfl ?_
  refine q_if_eq (pc := 9) (tgt := 18) K dX4_nail_9 (by decide) (fun c1 => ?_) (fun c1 => ?_)
  · have i29 := eqI c1
    have b30 := ref_f c1
    refine q_iconst (pc := 18) (v := (-1)) K dX4_nail_18 (by decide) ?_
    refine q_istore_n (pc := 19) (lv' := [some (.ref (gob G 3)), some (.int v1), some (.int (fX4_refusal v1 100 σ)), some (.int (-1)), none, none, none]) K dX4_nail_19 rfl (by decide) (Nat.le_of_ble_eq_true rfl) rfl ?_
    refine q_iconst (pc := 20) (v := (-1)) K dX4_nail_20 (by decide) ?_
    refine q_istore (pc := 21) (lv' := [some (.ref (gob G 3)), some (.int v1), some (.int (fX4_refusal v1 100 σ)), some (.int (-1)), some (.int (-1)), none, none]) K dX4_nail_21 (by decide) (Nat.le_of_ble_eq_true rfl) rfl ?_
    refine q_iconst (pc := 23) (v := 0) K dX4_nail_23 (by decide) ?_
    refine q_istore (pc := 24) (lv' := [some (.ref (gob G 3)), some (.int v1), some (.int (fX4_refusal v1 100 σ)), some (.int (-1)), some (.int (-1)), some (.int 0), none]) K dX4_nail_24 (by decide) (Nat.le_of_ble_eq_true rfl) rfl ?_
    refine qq_drop 2 (lv' := [some (.ref (gob G 3)), some (.int v1), none, some (.int (-1)), some (.int (-1)), some (.int 0), none]) rfl ?_
    refine lX4_nail_26 l hN hG K 7 v1 (-1) (-1) 0 σ hw (by omega) (by omega) (by omega) (fun r17 hw19 => ?_)
    refine q_iload_n (pc := 77) K dX4_nail_77 rfl rfl ?_
    refine q_iconst (pc := 78) (v := (-1)) K dX4_nail_78 (by decide) ?_
    refine q_icmp_ne (pc := 79) (tgt := 91) K dX4_nail_79 (by decide) (fun c20 => ?_) (fun c20 => ?_)
    · have i24 := neI c20
      refine q_iload_n (pc := 91) K dX4_nail_91 rfl rfl ?_
      exact q_iret K hr dX4_nail_92
    · have i25 := eqI c20
      refine q_aload_n (pc := 82) K dX4_nail_82 rfl rfl ?_
      refine q_ldc (pc := 83) (v := (-1000004)) K dX4_nail_83 mX4_nail_c190 ?_
      refine q_callVi (pc := 85) (o := 3) (rm := rmX4_found) K (kX4_found l hN hG (-1000004) r17.2 hw19) gX4_nail_X4_found rfl hdV_X4_found ⟨Nat.le_of_ble_eq_true rfl, Nat.le_of_ble_eq_true rfl⟩ rfl rfl ⟨Nat.zero_le _, Nat.zero_le _⟩ (wO_x hG) vw_3 rfl rfl (Nat.le_of_ble_eq_true rfl) dX4_nail_85 ?_
      refine qq_nmI (fun r21 e22 => ?_)
      have hw23 : WD r21.2 := by rw [e22]; exact wX4_found (-1000004) hw19 
      refine q_goto (pc := 88) (tgt := 92) K dX4_nail_88 (by decide) ?_
      exact q_iret K hr dX4_nail_92
  · have i31 := neI c1
    refine q_aload_n (pc := 12) K dX4_nail_12 rfl rfl ?_
    refine q_iload_n (pc := 13) K dX4_nail_13 rfl rfl ?_
    refine q_callVi (pc := 14) (o := 3) (rm := rmX4_found) K (kX4_found l hN hG (fX4_refusal v1 100 σ) σ hw) gX4_nail_X4_found rfl hdV_X4_found ⟨Nat.le_of_ble_eq_true rfl, Nat.le_of_ble_eq_true rfl⟩ rfl rfl ⟨Nat.zero_le _, Nat.zero_le _⟩ (wO_x hG) vw_3 rfl rfl (Nat.le_of_ble_eq_true rfl) dX4_nail_14 ?_
    refine qq_nmI (fun r26 e27 => ?_)
    have hw28 : WD r26.2 := by rw [e27]; exact wX4_found (fX4_refusal v1 100 σ) hw 
    exact q_iret K hr dX4_nail_17
theorem hdV_X4_hang : yX4_hang.cls = RX4 ∧ yX4_hang.cls ≠ "java/lang/invoke/MethodHandle" ∧ yX4_hang.cls ≠ "java/lang/invoke/VarHandle" ∧ (parseMethodDescriptor yX4_hang.desc).map (fun d => d.parameters.length) = some 1 := by decide +kernel
theorem mX4_hang_f12 : Cond.fieldLink RX4 12 "WaxTreaties" "live" "LWaxTreaties$Chancery;" ∈ wsX4_hang := List.mem_of_getElem? (i := 1) rfl
theorem iwX4_hang_X4 : ∀ w ∈ wsX40, w ∈ wsX4_hang := fun w h => List.mem_cons_of_mem _ (List.mem_append_left _ (List.mem_append_right _ h))
theorem mX4_hang_c53 : Cond.constant RX4 53 (-1000001) ∈ wsX4_hang := List.mem_of_getElem? (i := 2) rfl
set_option maxRecDepth 100000 in
set_option maxHeartbeats 4000000 in
theorem kX4_hang (l : Launch) {G : gT} (hN : wN G) (hG : gfl G = true) (v1 : Int32) (σ : sg) (hw : WD σ) : cM l yX4_hang wsX4_hang rmX4_hang G [.ref (gob G 3), .int v1] σ (some (.int (fX4_hang v1 σ).1)) (fX4_hang v1 σ).2 := by
  refine cM_of (maxL := 2) (ret := (some .int)) (cc := cX4_hang) (fX4_hang v1 σ) RX4 hN (by decide +kernel) rfl rfl (Nat.le_of_ble_eq_true rfl) rfl ?_
  intro p e s m args below meth c K hr
  have km1000001 : ((-1000001) : Int32).toInt = -1000001 := rfl
  have k0 : (0 : Int32).toInt = 0 := rfl
  refine qq_st (lv' := [some (.ref (gob G 3)), some (.int v1)]) rfl rfl rfl ?_
  refine qq_T (fX4_hang.eq_1 ..) ?_
  refine q_aload_n (pc := 0) K dX4_hang_0 rfl rfl ?_
  refine q_get (pc := 1) (o := 3) (f := 0) (v := .ref (gob G 0)) K (wO_x hG) vw_3 iwX4_hang_X4 (by decide) mX4_hang_f12 rfl dX4_hang_1 ?_
  refine q_iload_n (pc := 4) K dX4_hang_4 rfl rfl ?_
  refine q_callVi (pc := 5) (o := 0) (rm := rmX0_isDeed) K (kX0_isDeed l hN hG 0 (show 0 < 3 by decide) v1 σ hw) gX4_hang_X0_isDeed rfl hdV_X0_isDeed ⟨Nat.le_of_ble_eq_true rfl, Nat.le_of_ble_eq_true rfl⟩ rfl rfl ⟨Nat.zero_le _, Nat.zero_le _⟩ (wO_ch hG (show 0 < 3 by decide)) vw_0 rfl rfl (Nat.le_of_ble_eq_true rfl) dX4_hang_5 ?_
  refine q_if_eq (pc := 8) (tgt := 22) K dX4_hang_8 (by decide) (fun c1 => ?_) (fun c1 => ?_)
  · have i5 := eqI c1
    refine q_aload_n (pc := 22) K dX4_hang_22 rfl rfl ?_
    refine q_ldc (pc := 23) (v := (-1000001)) K dX4_hang_23 mX4_hang_c53 ?_
    refine q_callVi (pc := 25) (o := 3) (rm := rmX4_found) K (kX4_found l hN hG (-1000001) σ hw) gX4_hang_X4_found rfl hdV_X4_found ⟨Nat.le_of_ble_eq_true rfl, Nat.le_of_ble_eq_true rfl⟩ rfl rfl ⟨Nat.zero_le _, Nat.zero_le _⟩ (wO_x hG) vw_3 rfl rfl (Nat.le_of_ble_eq_true rfl) dX4_hang_25 ?_
    refine qq_nmI (fun r2 e3 => ?_)
    have hw4 : WD r2.2 := by rw [e3]; exact wX4_found (-1000001) hw 
    exact q_iret K hr dX4_hang_28
  · have i6 := neI c1
    have b7 := isD_t hw (by omega) c1
    refine q_aload_n (pc := 11) K dX4_hang_11 rfl rfl ?_
    refine q_get (pc := 12) (o := 3) (f := 0) (v := .ref (gob G 0)) K (wO_x hG) vw_3 iwX4_hang_X4 (by decide) mX4_hang_f12 rfl dX4_hang_12 ?_
    refine q_iload_n (pc := 15) K dX4_hang_15 rfl rfl ?_
    refine q_callVi (pc := 16) (o := 0) (rm := rmX0_hangingOn) K (kX0_hangingOn l hN hG 0 (show 0 < 3 by decide) v1 σ hw (by omega)) gX4_hang_X0_hangingOn rfl hdV_X0_hangingOn ⟨Nat.le_of_ble_eq_true rfl, Nat.le_of_ble_eq_true rfl⟩ rfl rfl ⟨Nat.zero_le _, Nat.zero_le _⟩ (wO_ch hG (show 0 < 3 by decide)) vw_0 rfl rfl (Nat.le_of_ble_eq_true rfl) dX4_hang_16 ?_
    refine q_goto (pc := 19) (tgt := 28) K dX4_hang_19 (by decide) ?_
    exact q_iret K hr dX4_hang_28
theorem hdV_X4_falls : yX4_falls.cls = RX4 ∧ yX4_falls.cls ≠ "java/lang/invoke/MethodHandle" ∧ yX4_falls.cls ≠ "java/lang/invoke/VarHandle" ∧ (parseMethodDescriptor yX4_falls.desc).map (fun d => d.parameters.length) = some 1 := by decide +kernel
theorem mX4_falls_f12 : Cond.fieldLink RX4 12 "WaxTreaties" "live" "LWaxTreaties$Chancery;" ∈ wsX4_falls := List.mem_of_getElem? (i := 1) rfl
theorem iwX4_falls_X4 : ∀ w ∈ wsX40, w ∈ wsX4_falls := fun w h => List.mem_cons_of_mem _ (List.mem_append_left _ (List.mem_append_right _ h))
theorem mX4_falls_c53 : Cond.constant RX4 53 (-1000001) ∈ wsX4_falls := List.mem_of_getElem? (i := 2) rfl
set_option maxRecDepth 100000 in
set_option maxHeartbeats 4000000 in
theorem kX4_falls (l : Launch) {G : gT} (hN : wN G) (hG : gfl G = true) (v1 : Int32) (σ : sg) (hw : WD σ) : cM l yX4_falls wsX4_falls rmX4_falls G [.ref (gob G 3), .int v1] σ (some (.int (fX4_falls v1 σ).1)) (fX4_falls v1 σ).2 := by
  refine cM_of (maxL := 2) (ret := (some .int)) (cc := cX4_falls) (fX4_falls v1 σ) RX4 hN (by decide +kernel) rfl rfl (Nat.le_of_ble_eq_true rfl) rfl ?_
  intro p e s m args below meth c K hr
  have km1000001 : ((-1000001) : Int32).toInt = -1000001 := rfl
  have k0 : (0 : Int32).toInt = 0 := rfl
  refine qq_st (lv' := [some (.ref (gob G 3)), some (.int v1)]) rfl rfl rfl ?_
  refine qq_T (fX4_falls.eq_1 ..) ?_
  refine q_aload_n (pc := 0) K dX4_falls_0 rfl rfl ?_
  refine q_get (pc := 1) (o := 3) (f := 0) (v := .ref (gob G 0)) K (wO_x hG) vw_3 iwX4_falls_X4 (by decide) mX4_falls_f12 rfl dX4_falls_1 ?_
  refine q_iload_n (pc := 4) K dX4_falls_4 rfl rfl ?_
  refine q_callVi (pc := 5) (o := 0) (rm := rmX0_isDeed) K (kX0_isDeed l hN hG 0 (show 0 < 3 by decide) v1 σ hw) gX4_falls_X0_isDeed rfl hdV_X0_isDeed ⟨Nat.le_of_ble_eq_true rfl, Nat.le_of_ble_eq_true rfl⟩ rfl rfl ⟨Nat.zero_le _, Nat.zero_le _⟩ (wO_ch hG (show 0 < 3 by decide)) vw_0 rfl rfl (Nat.le_of_ble_eq_true rfl) dX4_falls_5 ?_
  refine q_if_eq (pc := 8) (tgt := 22) K dX4_falls_8 (by decide) (fun c1 => ?_) (fun c1 => ?_)
  · have i5 := eqI c1
    refine q_aload_n (pc := 22) K dX4_falls_22 rfl rfl ?_
    refine q_ldc (pc := 23) (v := (-1000001)) K dX4_falls_23 mX4_falls_c53 ?_
    refine q_callVi (pc := 25) (o := 3) (rm := rmX4_found) K (kX4_found l hN hG (-1000001) σ hw) gX4_falls_X4_found rfl hdV_X4_found ⟨Nat.le_of_ble_eq_true rfl, Nat.le_of_ble_eq_true rfl⟩ rfl rfl ⟨Nat.zero_le _, Nat.zero_le _⟩ (wO_x hG) vw_3 rfl rfl (Nat.le_of_ble_eq_true rfl) dX4_falls_25 ?_
    refine qq_nmI (fun r2 e3 => ?_)
    have hw4 : WD r2.2 := by rw [e3]; exact wX4_found (-1000001) hw 
    exact q_iret K hr dX4_falls_28
  · have i6 := neI c1
    have b7 := isD_t hw (by omega) c1
    refine q_aload_n (pc := 11) K dX4_falls_11 rfl rfl ?_
    refine q_get (pc := 12) (o := 3) (f := 0) (v := .ref (gob G 0)) K (wO_x hG) vw_3 iwX4_falls_X4 (by decide) mX4_falls_f12 rfl dX4_falls_12 ?_
    refine q_iload_n (pc := 15) K dX4_falls_15 rfl rfl ?_
    refine q_callVi (pc := 16) (o := 0) (rm := rmX0_fallingWith) K (kX0_fallingWith l hN hG 0 (show 0 < 3 by decide) v1 σ hw) gX4_falls_X0_fallingWith rfl hdV_X0_fallingWith ⟨Nat.le_of_ble_eq_true rfl, Nat.le_of_ble_eq_true rfl⟩ rfl rfl ⟨Nat.zero_le _, Nat.zero_le _⟩ (wO_ch hG (show 0 < 3 by decide)) vw_0 rfl rfl (Nat.le_of_ble_eq_true rfl) dX4_falls_16 ?_
    refine q_goto (pc := 19) (tgt := 28) K dX4_falls_19 (by decide) ?_
    exact q_iret K hr dX4_falls_28
theorem hdV_X4_war : yX4_war.cls = RX4 ∧ yX4_war.cls ≠ "java/lang/invoke/MethodHandle" ∧ yX4_war.cls ≠ "java/lang/invoke/VarHandle" ∧ (parseMethodDescriptor yX4_war.desc).map (fun d => d.parameters.length) = some 0 := by decide +kernel
theorem mX4_war_f12 : Cond.fieldLink RX4 12 "WaxTreaties" "live" "LWaxTreaties$Chancery;" ∈ wsX4_war := List.mem_of_getElem? (i := 1) rfl
theorem iwX4_war_X4 : ∀ w ∈ wsX40, w ∈ wsX4_war := fun w h => List.mem_cons_of_mem _ (List.mem_append_left _ (List.mem_append_right _ h))
theorem mX4_war_f119 : Cond.fieldLink RX4 119 "WaxTreaties$Chancery" "run" "I" ∈ wsX4_war := List.mem_of_getElem? (i := 2) rfl
theorem iwX4_war_X0 : ∀ w ∈ wsX00, w ∈ wsX4_war := fun w h => List.mem_cons_of_mem _ (List.mem_append_right _ h)
theorem mX4_war_f151 : Cond.fieldLink RX4 151 "WaxTreaties$Chancery" "deeds" "I" ∈ wsX4_war := List.mem_of_getElem? (i := 3) rfl
theorem mX4_war_f85 : Cond.fieldLink RX4 85 "WaxTreaties$Chancery" "hangsOn" "[I" ∈ wsX4_war := List.mem_of_getElem? (i := 4) rfl
set_option maxRecDepth 100000 in
set_option maxHeartbeats 4000000 in
theorem lX4_war_19 {p : Program} (l : Launch) {e : Env} {s : State} {m : MethodId} {args : Array Value} {below : List Frame} {meth : Method} {c : Code} {Q : State → Prop} {G : gT} (hN : wN G) (hG : gfl G = true) (K : qK p s m args meth c cX4_war 4 RX4 wsX4_war G) : ∀ (k : Nat) (v1 v2 v3 : Int32) (σ : sg) (hw : WD σ) (hv3 : 0 ≤ v3.toInt ∧ v3.toInt ≤ 8) (hmu : (8 - v3.toInt).toNat < k) {ρ : Type} {E : ρ → Prop} {f : Int32 → ρ} (hk : ∀ r : Int32, qq p l e (headSpec wsX4_war rmX4_war).room s m args below meth c Q 4 G E (f r) 60 [none, none, some (.int r), none] [] σ), qq p l e (headSpec wsX4_war rmX4_war).room s m args below meth c Q 4 G E (bnd (LX4_war_19 k v1 v2 v3 σ) f) 19 [some (.ref (gob G 3)), some (.int v1), some (.int v2), some (.int v3)] [] σ := by
  intro k
  induction k with
  | zero => intro v1 v2 v3 σ hw hv3 hmu ρ E f hk; exact absurd hmu (Nat.not_lt_zero _)
  | succ k ih =>
    intro v1 v2 v3 σ hw hv3 hmu ρ E f hk
    have km1 : ((-1) : Int32).toInt = -1 := rfl
    have k0 : (0 : Int32).toInt = 0 := rfl
    have k1 : (1 : Int32).toInt = 1 := rfl
    refine qq_in ?_
    refine qq_T (LX4_war_19.eq_2 ..) ?_
    refine q_iload_n (pc := 19) K dX4_war_19 rfl rfl ?_
    refine q_aload_n (pc := 20) K dX4_war_20 rfl rfl ?_
    refine q_get (pc := 21) (o := 3) (f := 0) (v := .ref (gob G 0)) K (wO_x hG) vw_3 iwX4_war_X4 (by decide) mX4_war_f12 rfl dX4_war_21 ?_
    refine q_get (pc := 24) (o := 0) (f := 8) (v := .int (rF σ (7 * 0 + 1))) K (wO_ch hG (show 0 < 3 by decide)) vw_0 iwX4_war_X0 (by decide) mX4_war_f151 rfl dX4_war_24 ?_
    have w1 := wd_deeds hw (show 0 < 3 by decide)
    refine q_icmp_ge (pc := 27) (tgt := 60) K dX4_war_27 (by decide) (fun c2 => ?_) (fun c2 => ?_)
    · have i12 := leI c2
      refine qq_drop 0 (lv' := [none, some (.int v1), some (.int v2), some (.int v3)]) rfl ?_
      refine qq_drop 1 (lv' := [none, none, some (.int v2), some (.int v3)]) rfl ?_
      refine qq_drop 3 (lv' := [none, none, some (.int v2), none]) rfl ?_
      exact qq_leaf (hk v2)
    · have i13 := nleI c2
      refine q_iload_n (pc := 30) K dX4_war_30 rfl rfl ?_
      refine q_iload_n (pc := 31) K dX4_war_31 rfl rfl ?_
      refine q_callSi (pc := 32) (rm := rmX4_has) K (kX4_has l hN v1 v3 σ) gX4_war_X4_has rfl hdS_X4_has ⟨Nat.le_of_ble_eq_true rfl, Nat.le_of_ble_eq_true rfl⟩ rfl rfl ⟨Nat.zero_le _, Nat.zero_le _⟩ rfl rfl (Nat.le_of_ble_eq_true rfl) dX4_war_32 ?_
      refine q_if_eq (pc := 35) (tgt := 54) K dX4_war_35 (by decide) (fun c3 => ?_) (fun c3 => ?_)
      · have i10 := eqI c3
        refine q_iinc (pc := 54) (v := (v3 + 1)) (lv' := [some (.ref (gob G 3)), some (.int v1), some (.int v2), some (.int (v3 + 1))]) K dX4_war_54 rfl rfl (by decide) rfl ?_
        refine q_goto (pc := 57) (tgt := 19) K dX4_war_57 (by decide) ?_
        have a4 := addI (x := v3) (y := 1) (by omega) (by omega)
        exact qq_out (ih v1 v2 (v3 + 1) σ hw (by omega) (by omega) hk)
      · have i11 := neI c3
        refine q_aload_n (pc := 38) K dX4_war_38 rfl rfl ?_
        refine q_get (pc := 39) (o := 3) (f := 0) (v := .ref (gob G 0)) K (wO_x hG) vw_3 iwX4_war_X4 (by decide) mX4_war_f12 rfl dX4_war_39 ?_
        refine q_get (pc := 42) (o := 0) (f := 4) (v := .ref (gad G (8 * 0 + 4))) K (wO_ch hG (show 0 < 3 by decide)) vw_0 iwX4_war_X0 (by decide) mX4_war_f85 rfl dX4_war_42 ?_
        refine q_iload_n (pc := 45) K dX4_war_45 rfl rfl ?_
        refine q_iald (pc := 46) (a := 8 * 0 + 4) K (by rw [wna_t hG]; have := (show 0 < 3 by decide); omega) (vinN (wlc4 hG (show 0 < 3 by decide)) (by omega) (by omega)) dX4_war_46 ?_
        refine q_iconst (pc := 47) (v := (-1)) K dX4_war_47 (by decide) ?_
        refine q_icmp_ne (pc := 48) (tgt := 54) K dX4_war_48 (by decide) (fun c5 => ?_) (fun c5 => ?_)
        · have i8 := neI c5
          refine q_iinc (pc := 54) (v := (v3 + 1)) (lv' := [some (.ref (gob G 3)), some (.int v1), some (.int v2), some (.int (v3 + 1))]) K dX4_war_54 rfl rfl (by decide) rfl ?_
          refine q_goto (pc := 57) (tgt := 19) K dX4_war_57 (by decide) ?_
          have a6 := addI (x := v3) (y := 1) (by omega) (by omega)
          exact qq_out (ih v1 v2 (v3 + 1) σ hw (by omega) (by omega) hk)
        · have i9 := eqI c5
          refine q_iinc (pc := 51) (v := (v2 + 1)) (lv' := [some (.ref (gob G 3)), some (.int v1), some (.int (v2 + 1)), some (.int v3)]) K dX4_war_51 rfl rfl (by decide) rfl ?_
          refine q_iinc (pc := 54) (v := (v3 + 1)) (lv' := [some (.ref (gob G 3)), some (.int v1), some (.int (v2 + 1)), some (.int (v3 + 1))]) K dX4_war_54 rfl rfl (by decide) rfl ?_
          refine q_goto (pc := 57) (tgt := 19) K dX4_war_57 (by decide) ?_
          have a7 := addI (x := v3) (y := 1) (by omega) (by omega)
          exact qq_out (ih v1 (v2 + 1) (v3 + 1) σ hw (by omega) (by omega) hk)
set_option maxRecDepth 100000 in
set_option maxHeartbeats 4000000 in
theorem kX4_war (l : Launch) {G : gT} (hN : wN G) (hG : gfl G = true) (σ : sg) (hw : WD σ) : cM l yX4_war wsX4_war rmX4_war G [.ref (gob G 3)] σ (some (.int (fX4_war σ))) σ := by
  refine cM_of (maxL := 4) (ret := (some .int)) (cc := cX4_war) (fX4_war σ) RX4 hN (by decide +kernel) rfl rfl (Nat.le_of_ble_eq_true rfl) rfl ?_
  intro p e s m args below meth c K hr
  have k0 : (0 : Int32).toInt = 0 := rfl
  refine qq_st (lv' := [some (.ref (gob G 3)), none, none, none]) rfl rfl rfl ?_
  refine qq_T (fX4_war.eq_1 ..) ?_
  refine q_aload_n (pc := 0) K dX4_war_0 rfl rfl ?_
  refine q_get (pc := 1) (o := 3) (f := 0) (v := .ref (gob G 0)) K (wO_x hG) vw_3 iwX4_war_X4 (by decide) mX4_war_f12 rfl dX4_war_1 ?_
  refine q_aload_n (pc := 4) K dX4_war_4 rfl rfl ?_
  refine q_get (pc := 5) (o := 3) (f := 0) (v := .ref (gob G 0)) K (wO_x hG) vw_3 iwX4_war_X4 (by decide) mX4_war_f12 rfl dX4_war_5 ?_
  refine q_get (pc := 8) (o := 0) (f := 7) (v := .int (rF σ (7 * 0))) K (wO_ch hG (show 0 < 3 by decide)) vw_0 iwX4_war_X0 (by decide) mX4_war_f119 rfl dX4_war_8 ?_
  refine q_callVi (pc := 11) (o := 0) (rm := rmX0_peaces) K (kX0_peaces l hN hG 0 (show 0 < 3 by decide) (rF σ (7 * 0)) σ hw) gX4_war_X0_peaces rfl hdV_X0_peaces ⟨Nat.le_of_ble_eq_true rfl, Nat.le_of_ble_eq_true rfl⟩ rfl rfl ⟨Nat.zero_le _, Nat.zero_le _⟩ (wO_ch hG (show 0 < 3 by decide)) vw_0 rfl rfl (Nat.le_of_ble_eq_true rfl) dX4_war_11 ?_
  refine q_istore_n (pc := 14) (lv' := [some (.ref (gob G 3)), some (.int (fX0_peaces 0 (rF σ (7 * 0)) σ)), none, none]) K dX4_war_14 rfl (by decide) (Nat.le_of_ble_eq_true rfl) rfl ?_
  refine q_iconst (pc := 15) (v := 0) K dX4_war_15 (by decide) ?_
  refine q_istore_n (pc := 16) (lv' := [some (.ref (gob G 3)), some (.int (fX0_peaces 0 (rF σ (7 * 0)) σ)), some (.int 0), none]) K dX4_war_16 rfl (by decide) (Nat.le_of_ble_eq_true rfl) rfl ?_
  refine q_iconst (pc := 17) (v := 0) K dX4_war_17 (by decide) ?_
  refine q_istore_n (pc := 18) (lv' := [some (.ref (gob G 3)), some (.int (fX0_peaces 0 (rF σ (7 * 0)) σ)), some (.int 0), some (.int 0)]) K dX4_war_18 rfl (by decide) (Nat.le_of_ble_eq_true rfl) rfl ?_
  refine lX4_war_19 l hN hG K 9 (fX0_peaces 0 (rF σ (7 * 0)) σ) 0 0 σ hw (by omega) (by omega) (fun r14 => ?_)
  refine q_iload_n (pc := 60) K dX4_war_60 rfl rfl ?_
  exact q_iretP K hr dX4_war_61
theorem hdV_X4_key : yX4_key.cls = RX4 ∧ yX4_key.cls ≠ "java/lang/invoke/MethodHandle" ∧ yX4_key.cls ≠ "java/lang/invoke/VarHandle" ∧ (parseMethodDescriptor yX4_key.desc).map (fun d => d.parameters.length) = some 0 := by decide +kernel
theorem mX4_key_f12 : Cond.fieldLink RX4 12 "WaxTreaties" "live" "LWaxTreaties$Chancery;" ∈ wsX4_key := List.mem_of_getElem? (i := 1) rfl
theorem iwX4_key_X4 : ∀ w ∈ wsX40, w ∈ wsX4_key := fun w h => List.mem_cons_of_mem _ (List.mem_append_left _ (List.mem_append_right _ h))
theorem mX4_key_f151 : Cond.fieldLink RX4 151 "WaxTreaties$Chancery" "deeds" "I" ∈ wsX4_key := List.mem_of_getElem? (i := 2) rfl
theorem iwX4_key_X0 : ∀ w ∈ wsX00, w ∈ wsX4_key := fun w h => List.mem_cons_of_mem _ (List.mem_append_right _ h)
theorem mX4_key_c190 : Cond.constant RX4 190 (-1000004) ∈ wsX4_key := List.mem_of_getElem? (i := 3) rfl
set_option maxRecDepth 100000 in
set_option maxHeartbeats 4000000 in
theorem lX4_key_6 {p : Program} (l : Launch) {e : Env} {s : State} {m : MethodId} {args : Array Value} {below : List Frame} {meth : Method} {c : Code} {Q : State → Prop} {G : gT} (hN : wN G) (hG : gfl G = true) (K : qK p s m args meth c cX4_key 5 RX4 wsX4_key G) : ∀ (k : Nat) (v1 v2 v3 : Int32) (σ : sg) (hw : WD σ) (hv3 : 0 ≤ v3.toInt ∧ v3.toInt ≤ 8) (hmu : (8 - v3.toInt).toNat < k) {ρ : Type} {E : ρ → Prop} {f : Int32 → ρ} (hk : ∀ r : Int32, qq p l e (headSpec wsX4_key rmX4_key).room s m args below meth c Q 5 G E (f r) 47 [some (.ref (gob G 3)), some (.int r), none, none, none] [] σ), qq p l e (headSpec wsX4_key rmX4_key).room s m args below meth c Q 5 G E (bnd (LX4_key_6 k v1 v2 v3 σ) f) 6 [some (.ref (gob G 3)), some (.int v1), some (.int v2), some (.int v3), none] [] σ := by
  intro k
  induction k with
  | zero => intro v1 v2 v3 σ hw hv3 hmu ρ E f hk; exact absurd hmu (Nat.not_lt_zero _)
  | succ k ih =>
    intro v1 v2 v3 σ hw hv3 hmu ρ E f hk
    have k0 : (0 : Int32).toInt = 0 := rfl
    have k1 : (1 : Int32).toInt = 1 := rfl
    refine qq_in ?_
    refine qq_T (LX4_key_6.eq_2 ..) ?_
    refine q_iload_n (pc := 6) K dX4_key_6 rfl rfl ?_
    refine q_aload_n (pc := 7) K dX4_key_7 rfl rfl ?_
    refine q_get (pc := 8) (o := 3) (f := 0) (v := .ref (gob G 0)) K (wO_x hG) vw_3 iwX4_key_X4 (by decide) mX4_key_f12 rfl dX4_key_8 ?_
    refine q_get (pc := 11) (o := 0) (f := 8) (v := .int (rF σ (7 * 0 + 1))) K (wO_ch hG (show 0 < 3 by decide)) vw_0 iwX4_key_X0 (by decide) mX4_key_f151 rfl dX4_key_11 ?_
    have w1 := wd_deeds hw (show 0 < 3 by decide)
    refine q_icmp_ge (pc := 14) (tgt := 47) K dX4_key_14 (by decide) (fun c2 => ?_) (fun c2 => ?_)
    · have i8 := leI c2
      refine qq_drop 2 (lv' := [some (.ref (gob G 3)), some (.int v1), none, some (.int v3), none]) rfl ?_
      refine qq_drop 3 (lv' := [some (.ref (gob G 3)), some (.int v1), none, none, none]) rfl ?_
      exact qq_leaf (hk v1)
    · have i9 := nleI c2
      refine q_aload_n (pc := 17) K dX4_key_17 rfl rfl ?_
      refine q_get (pc := 18) (o := 3) (f := 0) (v := .ref (gob G 0)) K (wO_x hG) vw_3 iwX4_key_X4 (by decide) mX4_key_f12 rfl dX4_key_18 ?_
      refine q_iload_n (pc := 21) K dX4_key_21 rfl rfl ?_
      refine q_callVi (pc := 22) (o := 0) (rm := rmX0_fallingWith) K (kX0_fallingWith l hN hG 0 (show 0 < 3 by decide) v3 σ hw) gX4_key_X0_fallingWith rfl hdV_X0_fallingWith ⟨Nat.le_of_ble_eq_true rfl, Nat.le_of_ble_eq_true rfl⟩ rfl rfl ⟨Nat.zero_le _, Nat.zero_le _⟩ (wO_ch hG (show 0 < 3 by decide)) vw_0 rfl rfl (Nat.le_of_ble_eq_true rfl) dX4_key_22 ?_
      refine q_callSi (pc := 25) (rm := rmJ6_bitCount_0f7a4) K (kJ6_bitCount_0f7a4 l hN (fX0_fallingWith 0 v3 σ) σ) gX4_key_J6_bitCount_0f7a4 rfl hdS_J6_bitCount_0f7a4 ⟨Nat.le_of_ble_eq_true rfl, Nat.le_of_ble_eq_true rfl⟩ rfl rfl ⟨Nat.zero_le _, Nat.zero_le _⟩ rfl rfl (Nat.le_of_ble_eq_true rfl) dX4_key_25 ?_
      refine q_istore (pc := 28) (lv' := [some (.ref (gob G 3)), some (.int v1), some (.int v2), some (.int v3), some (.int (fJ6_bitCount_0f7a4 (fX0_fallingWith 0 v3 σ)))]) K dX4_key_28 (by decide) (Nat.le_of_ble_eq_true rfl) rfl ?_
      refine q_iload (pc := 30) K dX4_key_30 rfl ?_
      refine q_iload_n (pc := 32) K dX4_key_32 rfl rfl ?_
      refine q_icmp_le (pc := 33) (tgt := 41) K dX4_key_33 (by decide) (fun c3 => ?_) (fun c3 => ?_)
      · have i6 := leI c3
        refine q_iinc (pc := 41) (v := (v3 + 1)) (lv' := [some (.ref (gob G 3)), some (.int v1), some (.int v2), some (.int (v3 + 1)), some (.int (fJ6_bitCount_0f7a4 (fX0_fallingWith 0 v3 σ)))]) K dX4_key_41 rfl rfl (by decide) rfl ?_
        refine q_goto (pc := 44) (tgt := 6) K dX4_key_44 (by decide) ?_
        refine qq_drop 4 (lv' := [some (.ref (gob G 3)), some (.int v1), some (.int v2), some (.int (v3 + 1)), none]) rfl ?_
        have a4 := addI (x := v3) (y := 1) (by omega) (by omega)
        exact qq_out (ih v1 v2 (v3 + 1) σ hw (by omega) (by omega) hk)
      · have i7 := nleI c3
        refine q_iload_n (pc := 36) K dX4_key_36 rfl rfl ?_
        refine q_istore_n (pc := 37) (lv' := [some (.ref (gob G 3)), some (.int v3), some (.int v2), some (.int v3), some (.int (fJ6_bitCount_0f7a4 (fX0_fallingWith 0 v3 σ)))]) K dX4_key_37 rfl (by decide) (Nat.le_of_ble_eq_true rfl) rfl ?_
        refine q_iload (pc := 38) K dX4_key_38 rfl ?_
        refine q_istore_n (pc := 40) (lv' := [some (.ref (gob G 3)), some (.int v3), some (.int (fJ6_bitCount_0f7a4 (fX0_fallingWith 0 v3 σ))), some (.int v3), some (.int (fJ6_bitCount_0f7a4 (fX0_fallingWith 0 v3 σ)))]) K dX4_key_40 rfl (by decide) (Nat.le_of_ble_eq_true rfl) rfl ?_
        refine q_iinc (pc := 41) (v := (v3 + 1)) (lv' := [some (.ref (gob G 3)), some (.int v3), some (.int (fJ6_bitCount_0f7a4 (fX0_fallingWith 0 v3 σ))), some (.int (v3 + 1)), some (.int (fJ6_bitCount_0f7a4 (fX0_fallingWith 0 v3 σ)))]) K dX4_key_41 rfl rfl (by decide) rfl ?_
        refine q_goto (pc := 44) (tgt := 6) K dX4_key_44 (by decide) ?_
        refine qq_drop 4 (lv' := [some (.ref (gob G 3)), some (.int v3), some (.int (fJ6_bitCount_0f7a4 (fX0_fallingWith 0 v3 σ))), some (.int (v3 + 1)), none]) rfl ?_
        have a5 := addI (x := v3) (y := 1) (by omega) (by omega)
        exact qq_out (ih v3 (fJ6_bitCount_0f7a4 (fX0_fallingWith 0 v3 σ)) (v3 + 1) σ hw (by omega) (by omega) hk)
set_option maxRecDepth 100000 in
set_option maxHeartbeats 4000000 in
theorem kX4_key (l : Launch) {G : gT} (hN : wN G) (hG : gfl G = true) (σ : sg) (hw : WD σ) : cM l yX4_key wsX4_key rmX4_key G [.ref (gob G 3)] σ (some (.int (fX4_key σ).1)) (fX4_key σ).2 := by
  refine cM_of (maxL := 5) (ret := (some .int)) (cc := cX4_key) (fX4_key σ) RX4 hN (by decide +kernel) rfl rfl (Nat.le_of_ble_eq_true rfl) rfl ?_
  intro p e s m args below meth c K hr
  have km1000004 : ((-1000004) : Int32).toInt = -1000004 := rfl
  have km1 : ((-1) : Int32).toInt = -1 := rfl
  have k0 : (0 : Int32).toInt = 0 := rfl
  refine qq_st (lv' := [some (.ref (gob G 3)), none, none, none, none]) rfl rfl rfl ?_
  refine qq_T (fX4_key.eq_1 ..) ?_
  refine q_iconst (pc := 0) (v := (-1)) K dX4_key_0 (by decide) ?_
  refine q_istore_n (pc := 1) (lv' := [some (.ref (gob G 3)), some (.int (-1)), none, none, none]) K dX4_key_1 rfl (by decide) (Nat.le_of_ble_eq_true rfl) rfl ?_
  refine q_iconst (pc := 2) (v := (-1)) K dX4_key_2 (by decide) ?_
  refine q_istore_n (pc := 3) (lv' := [some (.ref (gob G 3)), some (.int (-1)), some (.int (-1)), none, none]) K dX4_key_3 rfl (by decide) (Nat.le_of_ble_eq_true rfl) rfl ?_
  refine q_iconst (pc := 4) (v := 0) K dX4_key_4 (by decide) ?_
  refine q_istore_n (pc := 5) (lv' := [some (.ref (gob G 3)), some (.int (-1)), some (.int (-1)), some (.int 0), none]) K dX4_key_5 rfl (by decide) (Nat.le_of_ble_eq_true rfl) rfl ?_
  refine lX4_key_6 l hN hG K 9 (-1) (-1) 0 σ hw (by omega) (by omega) (fun r10 => ?_)
  refine q_iload_n (pc := 47) K dX4_key_47 rfl rfl ?_
  refine q_iconst (pc := 48) (v := (-1)) K dX4_key_48 (by decide) ?_
  refine q_icmp_ne (pc := 49) (tgt := 61) K dX4_key_49 (by decide) (fun c12 => ?_) (fun c12 => ?_)
  · have i16 := neI c12
    refine q_iload_n (pc := 61) K dX4_key_61 rfl rfl ?_
    exact q_iret K hr dX4_key_62
  · have i17 := eqI c12
    refine q_aload_n (pc := 52) K dX4_key_52 rfl rfl ?_
    refine q_ldc (pc := 53) (v := (-1000004)) K dX4_key_53 mX4_key_c190 ?_
    refine q_callVi (pc := 55) (o := 3) (rm := rmX4_found) K (kX4_found l hN hG (-1000004) σ hw) gX4_key_X4_found rfl hdV_X4_found ⟨Nat.le_of_ble_eq_true rfl, Nat.le_of_ble_eq_true rfl⟩ rfl rfl ⟨Nat.zero_le _, Nat.zero_le _⟩ (wO_x hG) vw_3 rfl rfl (Nat.le_of_ble_eq_true rfl) dX4_key_55 ?_
    refine qq_nmI (fun r13 e14 => ?_)
    have hw15 : WD r13.2 := by rw [e14]; exact wX4_found (-1000004) hw 
    refine q_goto (pc := 58) (tgt := 62) K dX4_key_58 (by decide) ?_
    exact q_iret K hr dX4_key_62
theorem hdV_X4_began : yX4_began.cls = RX4 ∧ yX4_began.cls ≠ "java/lang/invoke/MethodHandle" ∧ yX4_began.cls ≠ "java/lang/invoke/VarHandle" ∧ (parseMethodDescriptor yX4_began.desc).map (fun d => d.parameters.length) = some 0 := by decide +kernel
theorem mX4_began_f12 : Cond.fieldLink RX4 12 "WaxTreaties" "live" "LWaxTreaties$Chancery;" ∈ wsX4_began := List.mem_of_getElem? (i := 1) rfl
theorem iwX4_began_X4 : ∀ w ∈ wsX40, w ∈ wsX4_began := fun w h => List.mem_cons_of_mem _ (List.mem_append_left _ (List.mem_append_right _ h))
theorem mX4_began_f95 : Cond.fieldLink RX4 95 "WaxTreaties$Chancery" "hour" "I" ∈ wsX4_began := List.mem_of_getElem? (i := 2) rfl
theorem iwX4_began_X0 : ∀ w ∈ wsX00, w ∈ wsX4_began := fun w h => List.mem_cons_of_mem _ (List.mem_append_right _ h)
theorem mX4_began_f16 : Cond.fieldLink RX4 16 "WaxTreaties" "trial" "LWaxTreaties$Chancery;" ∈ wsX4_began := List.mem_of_getElem? (i := 4) rfl
theorem mX4_began_f119 : Cond.fieldLink RX4 119 "WaxTreaties$Chancery" "run" "I" ∈ wsX4_began := List.mem_of_getElem? (i := 5) rfl
theorem mX4_began_c179 : Cond.constant RX4 179 (-1000005) ∈ wsX4_began := List.mem_of_getElem? (i := 3) rfl
set_option maxRecDepth 100000 in
set_option maxHeartbeats 4000000 in
theorem lX4_began_23 {p : Program} (l : Launch) {e : Env} {s : State} {m : MethodId} {args : Array Value} {below : List Frame} {meth : Method} {c : Code} {Q : State → Prop} {G : gT} (hN : wN G) (hG : gfl G = true) (K : qK p s m args meth c cX4_began 3 RX4 wsX4_began G) : ∀ (k : Nat) (v1 v2 : Int32) (σ : sg) (hw : WD σ) (hv2 : 0 ≤ v2.toInt ∧ v2.toInt ≤ 25) (hmu : (25 - v2.toInt).toNat < k) {ρ : Type} {E : ρ → Prop} {f : Int32 × sg → ρ} (hk : ∀ r : Int32 × sg, (WD r.2) → qq p l e (headSpec wsX4_began rmX4_began).room s m args below meth c Q 3 G E (f r) 101 [none, some (.int r.1), none] [] r.2), qq p l e (headSpec wsX4_began rmX4_began).room s m args below meth c Q 3 G E (bnd (LX4_began_23 k v1 v2 σ) f) 23 [some (.ref (gob G 3)), some (.int v1), some (.int v2)] [] σ := by
  intro k
  induction k with
  | zero => intro v1 v2 σ hw hv2 hmu ρ E f hk; exact absurd hmu (Nat.not_lt_zero _)
  | succ k ih =>
    intro v1 v2 σ hw hv2 hmu ρ E f hk
    have k0 : (0 : Int32).toInt = 0 := rfl
    have k1 : (1 : Int32).toInt = 1 := rfl
    have k24 : (24 : Int32).toInt = 24 := rfl
    refine qq_in ?_
    refine qq_T (LX4_began_23.eq_2 ..) ?_
    refine q_iload_n (pc := 23) K dX4_began_23 rfl rfl ?_
    refine q_bipush (pc := 24) (v := 24) K dX4_began_24 (by decide) ?_
    refine q_icmp_gt (pc := 26) (tgt := 101) K dX4_began_26 (by decide) (fun c2 => ?_) (fun c2 => ?_)
    · have i20 := ltI c2
      refine qq_drop 0 (lv' := [none, some (.int v1), some (.int v2)]) rfl ?_
      refine qq_drop 2 (lv' := [none, some (.int v1), none]) rfl ?_
      exact qq_leaf (hk (v1, σ) hw)
    · have i21 := nltI c2
      refine q_aload_n (pc := 29) K dX4_began_29 rfl rfl ?_
      refine q_get (pc := 30) (o := 3) (f := 1) (v := .ref (gob G 1)) K (wO_x hG) vw_3 iwX4_began_X4 (by decide) mX4_began_f16 rfl dX4_began_30 ?_
      refine q_aload_n (pc := 33) K dX4_began_33 rfl rfl ?_
      refine q_get (pc := 34) (o := 3) (f := 0) (v := .ref (gob G 0)) K (wO_x hG) vw_3 iwX4_began_X4 (by decide) mX4_began_f12 rfl dX4_began_34 ?_
      refine q_callVv (pc := 37) (o := 1) (rm := rmX0_take) K (kX0_take l hN hG 1 (show 1 < 3 by decide) 0 (show 0 < 3 by decide) σ hw) gX4_began_X0_take rfl hdV_X0_take ⟨Nat.le_of_ble_eq_true rfl, Nat.le_of_ble_eq_true rfl⟩ rfl rfl ⟨Nat.zero_le _, Nat.zero_le _⟩ (wO_ch hG (show 1 < 3 by decide)) vw_0 rfl rfl (Nat.le_of_ble_eq_true rfl) dX4_began_37 ?_
      refine qq_nmV (fun r3 e4 => ?_)
      have hw5 : WD r3 := by rw [e4]; exact wX0_take 1 (show 1 < 3 by decide) 0 (show 0 < 3 by decide) hw 
      refine q_aload_n (pc := 40) K dX4_began_40 rfl rfl ?_
      refine q_get (pc := 41) (o := 3) (f := 1) (v := .ref (gob G 1)) K (wO_x hG) vw_3 iwX4_began_X4 (by decide) mX4_began_f16 rfl dX4_began_41 ?_
      refine q_callVv (pc := 44) (o := 1) (rm := rmX0_makeSealsAnew) K (kX0_makeSealsAnew l hN hG 1 (show 1 < 3 by decide) r3 hw5) gX4_began_X0_makeSealsAnew rfl hdV_X0_makeSealsAnew ⟨Nat.le_of_ble_eq_true rfl, Nat.le_of_ble_eq_true rfl⟩ rfl rfl ⟨Nat.zero_le _, Nat.zero_le _⟩ (wO_ch hG (show 1 < 3 by decide)) vw_0 rfl rfl (Nat.le_of_ble_eq_true rfl) dX4_began_44 ?_
      refine qq_nmV (fun r6 e7 => ?_)
      have hw8 : WD r6 := by rw [e7]; exact wX0_makeSealsAnew 1 (show 1 < 3 by decide) hw5 
      refine q_aload_n (pc := 47) K dX4_began_47 rfl rfl ?_
      refine q_get (pc := 48) (o := 3) (f := 1) (v := .ref (gob G 1)) K (wO_x hG) vw_3 iwX4_began_X4 (by decide) mX4_began_f16 rfl dX4_began_48 ?_
      refine q_aload_n (pc := 51) K dX4_began_51 rfl rfl ?_
      refine q_get (pc := 52) (o := 3) (f := 0) (v := .ref (gob G 0)) K (wO_x hG) vw_3 iwX4_began_X4 (by decide) mX4_began_f12 rfl dX4_began_52 ?_
      refine q_get (pc := 55) (o := 0) (f := 11) (v := .int (rF r6 (7 * 0 + 4))) K (wO_ch hG (show 0 < 3 by decide)) vw_0 iwX4_began_X0 (by decide) mX4_began_f95 rfl dX4_began_55 ?_
      refine q_iload_n (pc := 58) K dX4_began_58 rfl rfl ?_
      refine q_isub (pc := 59) K dX4_began_59 ?_
      refine q_put (pc := 60) (o := 1) (f := 11) (i := (7 * 1 + 4)) (ty := .int) K tyX0 tyX0_ok nmX0 (wO_ch hG (show 1 < 3 by decide)) vw_0 iwX4_began_X0 (by decide) mX4_began_f95 rfl (tyX0_ok 11 (by decide)) rfl rfl (Nat.le_of_ble_eq_true rfl) (wP_ch11 hG (show 1 < 3 by decide) _) dX4_began_60 (fun s9 e10 => ?_)
      have hw11 : WD s9 := by rw [e10]; exact wdF hw8 (by have := (show 1 < 3 by decide); omega)
      refine q_aload_n (pc := 63) K dX4_began_63 rfl rfl ?_
      refine q_get (pc := 64) (o := 3) (f := 1) (v := .ref (gob G 1)) K (wO_x hG) vw_3 iwX4_began_X4 (by decide) mX4_began_f16 rfl dX4_began_64 ?_
      refine q_iload_n (pc := 67) K dX4_began_67 rfl rfl ?_
      refine q_callVi (pc := 68) (o := 1) (rm := rmX0_pass) K (kX0_pass l hN hG 1 (show 1 < 3 by decide) v2 s9 hw11 (by omega)) gX4_began_X0_pass rfl hdV_X0_pass ⟨Nat.le_of_ble_eq_true rfl, Nat.le_of_ble_eq_true rfl⟩ rfl rfl ⟨Nat.zero_le _, Nat.zero_le _⟩ (wO_ch hG (show 1 < 3 by decide)) vw_0 rfl rfl (Nat.le_of_ble_eq_true rfl) dX4_began_68 ?_
      refine qq_nmI (fun r12 e13 => ?_)
      have hw14 : WD r12.2 := by rw [e13]; exact wX0_pass 1 (show 1 < 3 by decide) v2 hw11 (by omega)
      refine q_pop (pc := 71) K dX4_began_71 rfl ?_
      refine q_aload_n (pc := 72) K dX4_began_72 rfl rfl ?_
      refine q_get (pc := 73) (o := 3) (f := 1) (v := .ref (gob G 1)) K (wO_x hG) vw_3 iwX4_began_X4 (by decide) mX4_began_f16 rfl dX4_began_73 ?_
      refine q_get (pc := 76) (o := 1) (f := 7) (v := .int (rF r12.2 (7 * 1))) K (wO_ch hG (show 1 < 3 by decide)) vw_0 iwX4_began_X0 (by decide) mX4_began_f119 rfl dX4_began_76 ?_
      refine q_aload_n (pc := 79) K dX4_began_79 rfl rfl ?_
      refine q_get (pc := 80) (o := 3) (f := 0) (v := .ref (gob G 0)) K (wO_x hG) vw_3 iwX4_began_X4 (by decide) mX4_began_f12 rfl dX4_began_80 ?_
      refine q_get (pc := 83) (o := 0) (f := 7) (v := .int (rF r12.2 (7 * 0))) K (wO_ch hG (show 0 < 3 by decide)) vw_0 iwX4_began_X0 (by decide) mX4_began_f119 rfl dX4_began_83 ?_
      refine q_icmp_ne (pc := 86) (tgt := 95) K dX4_began_86 (by decide) (fun c15 => ?_) (fun c15 => ?_)
      · have i18 := neI c15
        refine q_iinc (pc := 95) (v := (v2 + 1)) (lv' := [some (.ref (gob G 3)), some (.int v1), some (.int (v2 + 1))]) K dX4_began_95 rfl rfl (by decide) rfl ?_
        refine q_goto (pc := 98) (tgt := 23) K dX4_began_98 (by decide) ?_
        have a16 := addI (x := v2) (y := 1) (by omega) (by omega)
        exact qq_out (ih v1 (v2 + 1) r12.2 hw14 (by omega) (by omega) hk)
      · have i19 := eqI c15
        refine q_iload_n (pc := 89) K dX4_began_89 rfl rfl ?_
        refine q_iload_n (pc := 90) K dX4_began_90 rfl rfl ?_
        refine q_callSi (pc := 91) (rm := rmX4_with) K (kX4_with l hN v1 v2 r12.2) gX4_began_X4_with rfl hdS_X4_with ⟨Nat.le_of_ble_eq_true rfl, Nat.le_of_ble_eq_true rfl⟩ rfl rfl ⟨Nat.zero_le _, Nat.zero_le _⟩ rfl rfl (Nat.le_of_ble_eq_true rfl) dX4_began_91 ?_
        refine q_istore_n (pc := 94) (lv' := [some (.ref (gob G 3)), some (.int (fX4_with v1 v2)), some (.int v2)]) K dX4_began_94 rfl (by decide) (Nat.le_of_ble_eq_true rfl) rfl ?_
        refine q_iinc (pc := 95) (v := (v2 + 1)) (lv' := [some (.ref (gob G 3)), some (.int (fX4_with v1 v2)), some (.int (v2 + 1))]) K dX4_began_95 rfl rfl (by decide) rfl ?_
        refine q_goto (pc := 98) (tgt := 23) K dX4_began_98 (by decide) ?_
        have a17 := addI (x := v2) (y := 1) (by omega) (by omega)
        exact qq_out (ih (fX4_with v1 v2) (v2 + 1) r12.2 hw14 (by omega) (by omega) hk)
set_option maxRecDepth 100000 in
set_option maxHeartbeats 4000000 in
theorem kX4_began (l : Launch) {G : gT} (hN : wN G) (hG : gfl G = true) (σ : sg) (hw : WD σ) : cM l yX4_began wsX4_began rmX4_began G [.ref (gob G 3)] σ (some (.int (fX4_began σ).1)) (fX4_began σ).2 := by
  refine cM_of (maxL := 3) (ret := (some .int)) (cc := cX4_began) (fX4_began σ) RX4 hN (by decide +kernel) rfl rfl (Nat.le_of_ble_eq_true rfl) rfl ?_
  intro p e s m args below meth c K hr
  have km1000005 : ((-1000005) : Int32).toInt = -1000005 := rfl
  have k0 : (0 : Int32).toInt = 0 := rfl
  have k1 : (1 : Int32).toInt = 1 := rfl
  have k24 : (24 : Int32).toInt = 24 := rfl
  refine qq_st (lv' := [some (.ref (gob G 3)), none, none]) rfl rfl rfl ?_
  refine qq_T (fX4_began.eq_1 ..) ?_
  refine q_aload_n (pc := 0) K dX4_began_0 rfl rfl ?_
  refine q_get (pc := 1) (o := 3) (f := 0) (v := .ref (gob G 0)) K (wO_x hG) vw_3 iwX4_began_X4 (by decide) mX4_began_f12 rfl dX4_began_1 ?_
  refine q_get (pc := 4) (o := 0) (f := 11) (v := .int (rF σ (7 * 0 + 4))) K (wO_ch hG (show 0 < 3 by decide)) vw_0 iwX4_began_X0 (by decide) mX4_began_f95 rfl dX4_began_4 ?_
  refine q_bipush (pc := 7) (v := 24) K dX4_began_7 (by decide) ?_
  refine q_icmp_ge (pc := 9) (tgt := 19) K dX4_began_9 (by decide) (fun c1 => ?_) (fun c1 => ?_)
  · have i28 := leI c1
    refine q_iconst (pc := 19) (v := 0) K dX4_began_19 (by decide) ?_
    refine q_istore_n (pc := 20) (lv' := [some (.ref (gob G 3)), some (.int 0), none]) K dX4_began_20 rfl (by decide) (Nat.le_of_ble_eq_true rfl) rfl ?_
    refine q_iconst (pc := 21) (v := 1) K dX4_began_21 (by decide) ?_
    refine q_istore_n (pc := 22) (lv' := [some (.ref (gob G 3)), some (.int 0), some (.int 1)]) K dX4_began_22 rfl (by decide) (Nat.le_of_ble_eq_true rfl) rfl ?_
    refine lX4_began_23 l hN hG K 26 0 1 σ hw (by omega) (by omega) (fun r22 hw24 => ?_)
    refine q_iload_n (pc := 101) K dX4_began_101 rfl rfl ?_
    exact q_iret K hr dX4_began_102
  · have i29 := nleI c1
    refine q_aload_n (pc := 12) K dX4_began_12 rfl rfl ?_
    refine q_ldc (pc := 13) (v := (-1000005)) K dX4_began_13 mX4_began_c179 ?_
    refine q_callVi (pc := 15) (o := 3) (rm := rmX4_found) K (kX4_found l hN hG (-1000005) σ hw) gX4_began_X4_found rfl hdV_X4_found ⟨Nat.le_of_ble_eq_true rfl, Nat.le_of_ble_eq_true rfl⟩ rfl rfl ⟨Nat.zero_le _, Nat.zero_le _⟩ (wO_x hG) vw_3 rfl rfl (Nat.le_of_ble_eq_true rfl) dX4_began_15 ?_
    refine qq_nmI (fun r25 e26 => ?_)
    have hw27 : WD r25.2 := by rw [e26]; exact wX4_found (-1000005) hw 
    exact q_iret K hr dX4_began_18
theorem hdV_X4_opened : yX4_opened.cls = RX4 ∧ yX4_opened.cls ≠ "java/lang/invoke/MethodHandle" ∧ yX4_opened.cls ≠ "java/lang/invoke/VarHandle" ∧ (parseMethodDescriptor yX4_opened.desc).map (fun d => d.parameters.length) = some 2 := by decide +kernel
theorem mX4_opened_f12 : Cond.fieldLink RX4 12 "WaxTreaties" "live" "LWaxTreaties$Chancery;" ∈ wsX4_opened := List.mem_of_getElem? (i := 1) rfl
theorem iwX4_opened_X4 : ∀ w ∈ wsX40, w ∈ wsX4_opened := fun w h => List.mem_cons_of_mem _ (List.mem_append_left _ (List.mem_append_right _ h))
theorem mX4_opened_f151 : Cond.fieldLink RX4 151 "WaxTreaties$Chancery" "deeds" "I" ∈ wsX4_opened := List.mem_of_getElem? (i := 2) rfl
theorem iwX4_opened_X0 : ∀ w ∈ wsX00, w ∈ wsX4_opened := fun w h => List.mem_cons_of_mem _ (List.mem_append_right _ h)
theorem mX4_opened_c53 : Cond.constant RX4 53 (-1000001) ∈ wsX4_opened := List.mem_of_getElem? (i := 3) rfl
theorem mX4_opened_f16 : Cond.fieldLink RX4 16 "WaxTreaties" "trial" "LWaxTreaties$Chancery;" ∈ wsX4_opened := List.mem_of_getElem? (i := 4) rfl
theorem mX4_opened_f128 : Cond.fieldLink RX4 128 "WaxTreaties$Chancery" "open" "I" ∈ wsX4_opened := List.mem_of_getElem? (i := 5) rfl
theorem mX4_opened_f119 : Cond.fieldLink RX4 119 "WaxTreaties$Chancery" "run" "I" ∈ wsX4_opened := List.mem_of_getElem? (i := 6) rfl
set_option maxRecDepth 100000 in
set_option maxHeartbeats 4000000 in
theorem lX4_opened_48 {p : Program} (l : Launch) {e : Env} {s : State} {m : MethodId} {args : Array Value} {below : List Frame} {meth : Method} {c : Code} {Q : State → Prop} {G : gT} (hN : wN G) (hG : gfl G = true) (K : qK p s m args meth c cX4_opened 6 RX4 wsX4_opened G) : ∀ (k : Nat) (v1 v2 v4 v5 : Int32) (σ : sg) (hw : WD σ) (hv5 : 0 ≤ v5.toInt ∧ v5.toInt ≤ 64) (hnv2 : v2.toInt ≤ 24) (hmu : (64 - v5.toInt).toNat < k) {ρ : Type} {E : ρ → Prop} {f : Int32 × sg → ρ} (hk : ∀ r : Int32 × sg, (WD r.2) → qq p l e (headSpec wsX4_opened rmX4_opened).room s m args below meth c Q 6 G E (f r) 104 [none, none, none, none, some (.int r.1), none] [] r.2), qq p l e (headSpec wsX4_opened rmX4_opened).room s m args below meth c Q 6 G E (bnd (LX4_opened_48 k v1 v2 v4 v5 σ) f) 48 [some (.ref (gob G 3)), some (.int v1), some (.int v2), none, some (.int v4), some (.int v5)] [] σ := by
  intro k
  induction k with
  | zero => intro v1 v2 v4 v5 σ hw hv5 hnv2 hmu ρ E f hk; exact absurd hmu (Nat.not_lt_zero _)
  | succ k ih =>
    intro v1 v2 v4 v5 σ hw hv5 hnv2 hmu ρ E f hk
    have k0 : (0 : Int32).toInt = 0 := rfl
    have k1 : (1 : Int32).toInt = 1 := rfl
    have k64 : (64 : Int32).toInt = 64 := rfl
    refine qq_in ?_
    refine qq_T (LX4_opened_48.eq_2 ..) ?_
    refine q_iload (pc := 48) K dX4_opened_48 rfl ?_
    refine q_bipush (pc := 50) (v := 64) K dX4_opened_50 (by decide) ?_
    refine q_icmp_ge (pc := 52) (tgt := 104) K dX4_opened_52 (by decide) (fun c7 => ?_) (fun c7 => ?_)
    · have i22 := leI c7
      refine qq_drop 0 (lv' := [none, some (.int v1), some (.int v2), none, some (.int v4), some (.int v5)]) rfl ?_
      refine qq_drop 1 (lv' := [none, none, some (.int v2), none, some (.int v4), some (.int v5)]) rfl ?_
      refine qq_drop 2 (lv' := [none, none, none, none, some (.int v4), some (.int v5)]) rfl ?_
      refine qq_drop 5 (lv' := [none, none, none, none, some (.int v4), none]) rfl ?_
      exact qq_leaf (hk (v4, σ) hw)
    · have i23 := nleI c7
      refine q_aload_n (pc := 55) K dX4_opened_55 rfl rfl ?_
      refine q_get (pc := 56) (o := 3) (f := 1) (v := .ref (gob G 1)) K (wO_x hG) vw_3 iwX4_opened_X4 (by decide) mX4_opened_f16 rfl dX4_opened_56 ?_
      refine q_aload_n (pc := 59) K dX4_opened_59 rfl rfl ?_
      refine q_get (pc := 60) (o := 3) (f := 0) (v := .ref (gob G 0)) K (wO_x hG) vw_3 iwX4_opened_X4 (by decide) mX4_opened_f12 rfl dX4_opened_60 ?_
      refine q_callVv (pc := 63) (o := 1) (rm := rmX0_take) K (kX0_take l hN hG 1 (show 1 < 3 by decide) 0 (show 0 < 3 by decide) σ hw) gX4_opened_X0_take rfl hdV_X0_take ⟨Nat.le_of_ble_eq_true rfl, Nat.le_of_ble_eq_true rfl⟩ rfl rfl ⟨Nat.zero_le _, Nat.zero_le _⟩ (wO_ch hG (show 1 < 3 by decide)) vw_0 rfl rfl (Nat.le_of_ble_eq_true rfl) dX4_opened_63 ?_
      refine qq_nmV (fun r8 e9 => ?_)
      have hw10 : WD r8 := by rw [e9]; exact wX0_take 1 (show 1 < 3 by decide) 0 (show 0 < 3 by decide) hw 
      refine q_aload_n (pc := 66) K dX4_opened_66 rfl rfl ?_
      refine q_get (pc := 67) (o := 3) (f := 1) (v := .ref (gob G 1)) K (wO_x hG) vw_3 iwX4_opened_X4 (by decide) mX4_opened_f16 rfl dX4_opened_67 ?_
      refine q_iload (pc := 70) K dX4_opened_70 rfl ?_
      refine q_put (pc := 72) (o := 1) (f := 9) (i := (7 * 1 + 2)) (ty := .int) K tyX0 tyX0_ok nmX0 (wO_ch hG (show 1 < 3 by decide)) vw_0 iwX4_opened_X0 (by decide) mX4_opened_f128 rfl (tyX0_ok 9 (by decide)) rfl rfl (Nat.le_of_ble_eq_true rfl) (wP_ch9 hG (show 1 < 3 by decide) _) dX4_opened_72 (fun s11 e12 => ?_)
      have hw13 : WD s11 := by rw [e12]; exact wdF hw10 (by have := (show 1 < 3 by decide); omega)
      refine q_aload_n (pc := 75) K dX4_opened_75 rfl rfl ?_
      refine q_get (pc := 76) (o := 3) (f := 1) (v := .ref (gob G 1)) K (wO_x hG) vw_3 iwX4_opened_X4 (by decide) mX4_opened_f16 rfl dX4_opened_76 ?_
      refine q_iload_n (pc := 79) K dX4_opened_79 rfl rfl ?_
      refine q_callVi (pc := 80) (o := 1) (rm := rmX0_pass) K (kX0_pass l hN hG 1 (show 1 < 3 by decide) v2 s11 hw13 (by omega)) gX4_opened_X0_pass rfl hdV_X0_pass ⟨Nat.le_of_ble_eq_true rfl, Nat.le_of_ble_eq_true rfl⟩ rfl rfl ⟨Nat.zero_le _, Nat.zero_le _⟩ (wO_ch hG (show 1 < 3 by decide)) vw_0 rfl rfl (Nat.le_of_ble_eq_true rfl) dX4_opened_80 ?_
      refine qq_nmI (fun r14 e15 => ?_)
      have hw16 : WD r14.2 := by rw [e15]; exact wX0_pass 1 (show 1 < 3 by decide) v2 hw13 (by omega)
      refine q_pop (pc := 83) K dX4_opened_83 rfl ?_
      refine q_aload_n (pc := 84) K dX4_opened_84 rfl rfl ?_
      refine q_get (pc := 85) (o := 3) (f := 1) (v := .ref (gob G 1)) K (wO_x hG) vw_3 iwX4_opened_X4 (by decide) mX4_opened_f16 rfl dX4_opened_85 ?_
      refine q_get (pc := 88) (o := 1) (f := 7) (v := .int (rF r14.2 (7 * 1))) K (wO_ch hG (show 1 < 3 by decide)) vw_0 iwX4_opened_X0 (by decide) mX4_opened_f119 rfl dX4_opened_88 ?_
      refine q_iload_n (pc := 91) K dX4_opened_91 rfl rfl ?_
      refine q_icmp_ne (pc := 92) (tgt := 98) K dX4_opened_92 (by decide) (fun c17 => ?_) (fun c17 => ?_)
      · have i20 := neI c17
        refine q_iinc (pc := 98) (v := (v5 + 1)) (lv' := [some (.ref (gob G 3)), some (.int v1), some (.int v2), none, some (.int v4), some (.int (v5 + 1))]) K dX4_opened_98 rfl rfl (by decide) rfl ?_
        refine q_goto (pc := 101) (tgt := 48) K dX4_opened_101 (by decide) ?_
        have a18 := addI (x := v5) (y := 1) (by omega) (by omega)
        exact qq_out (ih v1 v2 v4 (v5 + 1) r14.2 hw16 (by omega) (by omega) (by omega) hk)
      · have i21 := eqI c17
        refine q_iinc (pc := 95) (v := (v4 + 1)) (lv' := [some (.ref (gob G 3)), some (.int v1), some (.int v2), none, some (.int (v4 + 1)), some (.int v5)]) K dX4_opened_95 rfl rfl (by decide) rfl ?_
        refine q_iinc (pc := 98) (v := (v5 + 1)) (lv' := [some (.ref (gob G 3)), some (.int v1), some (.int v2), none, some (.int (v4 + 1)), some (.int (v5 + 1))]) K dX4_opened_98 rfl rfl (by decide) rfl ?_
        refine q_goto (pc := 101) (tgt := 48) K dX4_opened_101 (by decide) ?_
        have a19 := addI (x := v5) (y := 1) (by omega) (by omega)
        exact qq_out (ih v1 v2 (v4 + 1) (v5 + 1) r14.2 hw16 (by omega) (by omega) (by omega) hk)
set_option maxRecDepth 100000 in
set_option maxHeartbeats 4000000 in
theorem kX4_opened (l : Launch) {G : gT} (hN : wN G) (hG : gfl G = true) (v1 : Int32) (v2 : Int32) (σ : sg) (hw : WD σ) : cM l yX4_opened wsX4_opened rmX4_opened G [.ref (gob G 3), .int v1, .int v2] σ (some (.int (fX4_opened v1 v2 σ).1)) (fX4_opened v1 v2 σ).2 := by
  refine cM_of (maxL := 6) (ret := (some .int)) (cc := cX4_opened) (fX4_opened v1 v2 σ) RX4 hN (by decide +kernel) rfl rfl (Nat.le_of_ble_eq_true rfl) rfl ?_
  intro p e s m args below meth c K hr
  have km1000001 : ((-1000001) : Int32).toInt = -1000001 := rfl
  have k0 : (0 : Int32).toInt = 0 := rfl
  have k1 : (1 : Int32).toInt = 1 := rfl
  have k24 : (24 : Int32).toInt = 24 := rfl
  refine qq_st (lv' := [some (.ref (gob G 3)), some (.int v1), some (.int v2), none, none, none]) rfl rfl rfl ?_
  refine qq_T (fX4_opened.eq_1 ..) ?_
  refine q_iload_n (pc := 0) K dX4_opened_0 rfl rfl ?_
  refine q_iconst (pc := 1) (v := 0) K dX4_opened_1 (by decide) ?_
  refine q_iconst (pc := 2) (v := 1) K dX4_opened_2 (by decide) ?_
  refine q_aload_n (pc := 3) K dX4_opened_3 rfl rfl ?_
  refine q_get (pc := 4) (o := 3) (f := 0) (v := .ref (gob G 0)) K (wO_x hG) vw_3 iwX4_opened_X4 (by decide) mX4_opened_f12 rfl dX4_opened_4 ?_
  refine q_get (pc := 7) (o := 0) (f := 8) (v := .int (rF σ (7 * 0 + 1))) K (wO_ch hG (show 0 < 3 by decide)) vw_0 iwX4_opened_X0 (by decide) mX4_opened_f151 rfl dX4_opened_7 ?_
  have w1 := wd_deeds hw (show 0 < 3 by decide)
  refine q_ishl (pc := 10) K dX4_opened_10 ?_
  refine q_iconst (pc := 11) (v := 1) K dX4_opened_11 (by decide) ?_
  refine q_isub (pc := 12) K dX4_opened_12 ?_
  refine q_callSi (pc := 13) (rm := rmX4_isWithin) K (kX4_isWithin l hN v1 0 ((jshl 1 (rF σ (7 * 0 + 1))) - 1) σ) gX4_opened_X4_isWithin rfl hdS_X4_isWithin ⟨Nat.le_of_ble_eq_true rfl, Nat.le_of_ble_eq_true rfl⟩ rfl rfl ⟨Nat.zero_le _, Nat.zero_le _⟩ rfl rfl (Nat.le_of_ble_eq_true rfl) dX4_opened_13 ?_
  refine q_if_eq (pc := 16) (tgt := 29) K dX4_opened_16 (by decide) (fun c2 => ?_) (fun c2 => ?_)
  · have i33 := eqI c2
    have b34 := isW_f c2
    refine q_ldc (pc := 29) (v := (-1000001)) K dX4_opened_29 mX4_opened_c53 ?_
    refine q_istore_n (pc := 31) (lv' := [some (.ref (gob G 3)), some (.int v1), some (.int v2), some (.int (-1000001)), none, none]) K dX4_opened_31 rfl (by decide) (Nat.le_of_ble_eq_true rfl) rfl ?_
    refine q_iload_n (pc := 32) K dX4_opened_32 rfl rfl ?_
    refine q_if_eq_f (pc := 33) (tgt := 42) K (by decide) dX4_opened_33 (by decide) ?_
    refine q_aload_n (pc := 36) K dX4_opened_36 rfl rfl ?_
    refine q_iload_n (pc := 37) K dX4_opened_37 rfl rfl ?_
    refine q_callVi (pc := 38) (o := 3) (rm := rmX4_found) K (kX4_found l hN hG (-1000001) σ hw) gX4_opened_X4_found rfl hdV_X4_found ⟨Nat.le_of_ble_eq_true rfl, Nat.le_of_ble_eq_true rfl⟩ rfl rfl ⟨Nat.zero_le _, Nat.zero_le _⟩ (wO_x hG) vw_3 rfl rfl (Nat.le_of_ble_eq_true rfl) dX4_opened_38 ?_
    refine qq_nmI (fun r3 e4 => ?_)
    have hw5 : WD r3.2 := by rw [e4]; exact wX4_found (-1000001) hw 
    exact q_iret K hr dX4_opened_41
  · have i35 := neI c2
    have b36 := isW_t c2
    refine q_aload_n (pc := 19) K dX4_opened_19 rfl rfl ?_
    refine q_iload_n (pc := 20) K dX4_opened_20 rfl rfl ?_
    refine q_bipush (pc := 21) (v := 24) K dX4_opened_21 (by decide) ?_
    refine q_callVi (pc := 23) (o := 3) (rm := rmX4_refusal) K (kX4_refusal l hN hG v2 24 σ hw) gX4_opened_X4_refusal rfl hdV_X4_refusal ⟨Nat.le_of_ble_eq_true rfl, Nat.le_of_ble_eq_true rfl⟩ rfl rfl ⟨Nat.zero_le _, Nat.zero_le _⟩ (wO_x hG) vw_3 rfl rfl (Nat.le_of_ble_eq_true rfl) dX4_opened_23 ?_
    refine q_goto (pc := 26) (tgt := 31) K dX4_opened_26 (by decide) ?_
    refine q_istore_n (pc := 31) (lv' := [some (.ref (gob G 3)), some (.int v1), some (.int v2), some (.int (fX4_refusal v2 24 σ)), none, none]) K dX4_opened_31 rfl (by decide) (Nat.le_of_ble_eq_true rfl) rfl ?_
    refine q_iload_n (pc := 32) K dX4_opened_32 rfl rfl ?_
    refine q_if_eq (pc := 33) (tgt := 42) K dX4_opened_33 (by decide) (fun c6 => ?_) (fun c6 => ?_)
    · have i30 := eqI c6
      have b31 := ref_f c6
      refine q_iconst (pc := 42) (v := 0) K dX4_opened_42 (by decide) ?_
      refine q_istore (pc := 43) (lv' := [some (.ref (gob G 3)), some (.int v1), some (.int v2), some (.int (fX4_refusal v2 24 σ)), some (.int 0), none]) K dX4_opened_43 (by decide) (Nat.le_of_ble_eq_true rfl) rfl ?_
      refine q_iconst (pc := 45) (v := 0) K dX4_opened_45 (by decide) ?_
      refine q_istore (pc := 46) (lv' := [some (.ref (gob G 3)), some (.int v1), some (.int v2), some (.int (fX4_refusal v2 24 σ)), some (.int 0), some (.int 0)]) K dX4_opened_46 (by decide) (Nat.le_of_ble_eq_true rfl) rfl ?_
      refine qq_drop 3 (lv' := [some (.ref (gob G 3)), some (.int v1), some (.int v2), none, some (.int 0), some (.int 0)]) rfl ?_
      refine lX4_opened_48 l hN hG K 65 v1 v2 0 0 σ hw (by omega) (by omega) (by omega) (fun r24 hw26 => ?_)
      refine q_iload (pc := 104) K dX4_opened_104 rfl ?_
      exact q_iret K hr dX4_opened_106
    · have i32 := neI c6
      refine q_aload_n (pc := 36) K dX4_opened_36 rfl rfl ?_
      refine q_iload_n (pc := 37) K dX4_opened_37 rfl rfl ?_
      refine q_callVi (pc := 38) (o := 3) (rm := rmX4_found) K (kX4_found l hN hG (fX4_refusal v2 24 σ) σ hw) gX4_opened_X4_found rfl hdV_X4_found ⟨Nat.le_of_ble_eq_true rfl, Nat.le_of_ble_eq_true rfl⟩ rfl rfl ⟨Nat.zero_le _, Nat.zero_le _⟩ (wO_x hG) vw_3 rfl rfl (Nat.le_of_ble_eq_true rfl) dX4_opened_38 ?_
      refine qq_nmI (fun r27 e28 => ?_)
      have hw29 : WD r27.2 := by rw [e28]; exact wX4_found (fX4_refusal v2 24 σ) hw 
      exact q_iret K hr dX4_opened_41
theorem hdV_X4_days : yX4_days.cls = RX4 ∧ yX4_days.cls ≠ "java/lang/invoke/MethodHandle" ∧ yX4_days.cls ≠ "java/lang/invoke/VarHandle" ∧ (parseMethodDescriptor yX4_days.desc).map (fun d => d.parameters.length) = some 1 := by decide +kernel
theorem mX4_days_f12 : Cond.fieldLink RX4 12 "WaxTreaties" "live" "LWaxTreaties$Chancery;" ∈ wsX4_days := List.mem_of_getElem? (i := 3) rfl
theorem iwX4_days_X4 : ∀ w ∈ wsX40, w ∈ wsX4_days := fun w h => List.mem_cons_of_mem _ (List.mem_append_left _ (List.mem_append_right _ h))
theorem mX4_days_f145 : Cond.fieldLink RX4 145 "WaxTreaties$Chancery" "summer" "I" ∈ wsX4_days := List.mem_of_getElem? (i := 4) rfl
theorem iwX4_days_X0 : ∀ w ∈ wsX00, w ∈ wsX4_days := fun w h => List.mem_cons_of_mem _ (List.mem_append_right _ h)
theorem mX4_days_f128 : Cond.fieldLink RX4 128 "WaxTreaties$Chancery" "open" "I" ∈ wsX4_days := List.mem_of_getElem? (i := 5) rfl
theorem mX4_days_c179 : Cond.constant RX4 179 (-1000005) ∈ wsX4_days := List.mem_of_getElem? (i := 2) rfl
theorem mX4_days_c53 : Cond.constant RX4 53 (-1000001) ∈ wsX4_days := List.mem_of_getElem? (i := 1) rfl
set_option maxRecDepth 100000 in
set_option maxHeartbeats 4000000 in
theorem lX4_days_39 {p : Program} (l : Launch) {e : Env} {s : State} {m : MethodId} {args : Array Value} {below : List Frame} {meth : Method} {c : Code} {Q : State → Prop} {G : gT} (hN : wN G) (hG : gfl G = true) (K : qK p s m args meth c cX4_days 5 RX4 wsX4_days G) : ∀ (k : Nat) (v1 v2 v3 : Int32) (σ : sg) (hw : WD σ) (hv3 : 0 ≤ v3.toInt ∧ v3.toInt ≤ 12) (hnv1 : v1.toInt ≤ 12) (hmu : (12 - v3.toInt).toNat < k) {ρ : Type} {E : ρ → Prop} {f : Int32 × sg → ρ} (hk : ∀ r : Int32 × sg, (WD r.2) → qq p l e (headSpec wsX4_days rmX4_days).room s m args below meth c Q 5 G E (f r) 120 [none, none, some (.int r.1), none, none] [] r.2), qq p l e (headSpec wsX4_days rmX4_days).room s m args below meth c Q 5 G E (bnd (LX4_days_39 k v1 v2 v3 σ) f) 39 [some (.ref (gob G 3)), some (.int v1), some (.int v2), some (.int v3), none] [] σ := by
  intro k
  induction k with
  | zero => intro v1 v2 v3 σ hw hv3 hnv1 hmu ρ E f hk; exact absurd hmu (Nat.not_lt_zero _)
  | succ k ih =>
    intro v1 v2 v3 σ hw hv3 hnv1 hmu ρ E f hk
    have k0 : (0 : Int32).toInt = 0 := rfl
    have k1 : (1 : Int32).toInt = 1 := rfl
    have k6 : (6 : Int32).toInt = 6 := rfl
    have k24 : (24 : Int32).toInt = 24 := rfl
    have k41 : (41 : Int32).toInt = 41 := rfl
    refine qq_in ?_
    refine qq_T (LX4_days_39.eq_2 ..) ?_
    refine q_iload_n (pc := 39) K dX4_days_39 rfl rfl ?_
    refine q_iload_n (pc := 40) K dX4_days_40 rfl rfl ?_
    refine q_icmp_ge (pc := 41) (tgt := 120) K dX4_days_41 (by decide) (fun c3 => ?_) (fun c3 => ?_)
    · have i30 := leI c3
      refine qq_drop 0 (lv' := [none, some (.int v1), some (.int v2), some (.int v3), none]) rfl ?_
      refine qq_drop 1 (lv' := [none, none, some (.int v2), some (.int v3), none]) rfl ?_
      refine qq_drop 3 (lv' := [none, none, some (.int v2), none, none]) rfl ?_
      exact qq_leaf (hk (v2, σ) hw)
    · have i31 := nleI c3
      refine q_aload_n (pc := 44) K dX4_days_44 rfl rfl ?_
      refine q_get (pc := 45) (o := 3) (f := 0) (v := .ref (gob G 0)) K (wO_x hG) vw_3 iwX4_days_X4 (by decide) mX4_days_f12 rfl dX4_days_45 ?_
      refine q_aload_n (pc := 48) K dX4_days_48 rfl rfl ?_
      refine q_get (pc := 49) (o := 3) (f := 0) (v := .ref (gob G 0)) K (wO_x hG) vw_3 iwX4_days_X4 (by decide) mX4_days_f12 rfl dX4_days_49 ?_
      refine q_callVi (pc := 52) (o := 0) (rm := rmX0_draw) K (kX0_draw l hN hG 0 (show 0 < 3 by decide) σ hw) gX4_days_X0_draw rfl hdV_X0_draw ⟨Nat.le_of_ble_eq_true rfl, Nat.le_of_ble_eq_true rfl⟩ rfl rfl ⟨Nat.zero_le _, Nat.zero_le _⟩ (wO_ch hG (show 0 < 3 by decide)) vw_0 rfl rfl (Nat.le_of_ble_eq_true rfl) dX4_days_52 ?_
      refine qq_nmI (fun r4 e5 => ?_)
      have hw6 : WD r4.2 := by rw [e5]; exact wX0_draw 0 (show 0 < 3 by decide) hw 
      refine q_bipush (pc := 55) (v := 41) K dX4_days_55 (by decide) ?_
      refine q_irem (pc := 57) K dX4_days_57 (by decide) ?_
      refine q_put (pc := 58) (o := 0) (f := 12) (i := (7 * 0 + 5)) (ty := .int) K tyX0 tyX0_ok nmX0 (wO_ch hG (show 0 < 3 by decide)) vw_0 iwX4_days_X0 (by decide) mX4_days_f145 rfl (tyX0_ok 12 (by decide)) rfl rfl (Nat.le_of_ble_eq_true rfl) (wP_ch12 hG (show 0 < 3 by decide) _) dX4_days_58 (fun s7 e8 => ?_)
      have hw9 : WD s7 := by rw [e8]; exact wdF hw6 (by have := (show 0 < 3 by decide); omega)
      refine q_aload_n (pc := 61) K dX4_days_61 rfl rfl ?_
      refine q_get (pc := 62) (o := 3) (f := 0) (v := .ref (gob G 0)) K (wO_x hG) vw_3 iwX4_days_X4 (by decide) mX4_days_f12 rfl dX4_days_62 ?_
      refine q_callVi (pc := 65) (o := 0) (rm := rmX0_draw) K (kX0_draw l hN hG 0 (show 0 < 3 by decide) s7 hw9) gX4_days_X0_draw rfl hdV_X0_draw ⟨Nat.le_of_ble_eq_true rfl, Nat.le_of_ble_eq_true rfl⟩ rfl rfl ⟨Nat.zero_le _, Nat.zero_le _⟩ (wO_ch hG (show 0 < 3 by decide)) vw_0 rfl rfl (Nat.le_of_ble_eq_true rfl) dX4_days_65 ?_
      refine qq_nmI (fun r10 e11 => ?_)
      have hw12 : WD r10.2 := by rw [e11]; exact wX0_draw 0 (show 0 < 3 by decide) hw9 
      refine q_bipush (pc := 68) (v := 6) K dX4_days_68 (by decide) ?_
      refine q_irem (pc := 70) K dX4_days_70 (by decide) ?_
      refine q_istore (pc := 71) (lv' := [some (.ref (gob G 3)), some (.int v1), some (.int v2), some (.int v3), some (.int (jrem r10.1 6))]) K dX4_days_71 (by decide) (Nat.le_of_ble_eq_true rfl) rfl ?_
      refine q_aload_n (pc := 73) K dX4_days_73 rfl rfl ?_
      refine q_get (pc := 74) (o := 3) (f := 0) (v := .ref (gob G 0)) K (wO_x hG) vw_3 iwX4_days_X4 (by decide) mX4_days_f12 rfl dX4_days_74 ?_
      refine q_iload (pc := 77) K dX4_days_77 rfl ?_
      refine q_aload_n (pc := 79) K dX4_days_79 rfl rfl ?_
      refine q_get (pc := 80) (o := 3) (f := 0) (v := .ref (gob G 0)) K (wO_x hG) vw_3 iwX4_days_X4 (by decide) mX4_days_f12 rfl dX4_days_80 ?_
      refine q_get (pc := 83) (o := 0) (f := 9) (v := .int (rF r10.2 (7 * 0 + 2))) K (wO_ch hG (show 0 < 3 by decide)) vw_0 iwX4_days_X0 (by decide) mX4_days_f128 rfl dX4_days_83 ?_
      refine q_iload (pc := 86) K dX4_days_86 rfl ?_
      refine q_callSi (pc := 88) (rm := rmX4_has) K (kX4_has l hN (rF r10.2 (7 * 0 + 2)) (jrem r10.1 6) r10.2) gX4_days_X4_has rfl hdS_X4_has ⟨Nat.le_of_ble_eq_true rfl, Nat.le_of_ble_eq_true rfl⟩ rfl rfl ⟨Nat.zero_le _, Nat.zero_le _⟩ rfl rfl (Nat.le_of_ble_eq_true rfl) dX4_days_88 ?_
      refine q_if_ne (pc := 91) (tgt := 98) K dX4_days_91 (by decide) (fun c13 => ?_) (fun c13 => ?_)
      · have i28 := neI c13
        refine q_iconst (pc := 98) (v := 0) K dX4_days_98 (by decide) ?_
        refine q_callVv (pc := 99) (o := 0) (rm := rmX0_setShutter) K (kX0_setShutter l hN hG 0 (show 0 < 3 by decide) (jrem r10.1 6) 0 r10.2 hw12) gX4_days_X0_setShutter rfl hdV_X0_setShutter ⟨Nat.le_of_ble_eq_true rfl, Nat.le_of_ble_eq_true rfl⟩ rfl rfl ⟨Nat.zero_le _, Nat.zero_le _⟩ (wO_ch hG (show 0 < 3 by decide)) vw_0 rfl rfl (Nat.le_of_ble_eq_true rfl) dX4_days_99 ?_
        refine qq_nmV (fun r14 e15 => ?_)
        have hw16 : WD r14 := by rw [e15]; exact wX0_setShutter 0 (show 0 < 3 by decide) (jrem r10.1 6) 0 hw12 
        refine q_iload_n (pc := 102) K dX4_days_102 rfl rfl ?_
        refine q_aload_n (pc := 103) K dX4_days_103 rfl rfl ?_
        refine q_get (pc := 104) (o := 3) (f := 0) (v := .ref (gob G 0)) K (wO_x hG) vw_3 iwX4_days_X4 (by decide) mX4_days_f12 rfl dX4_days_104 ?_
        refine q_bipush (pc := 107) (v := 24) K dX4_days_107 (by decide) ?_
        refine q_callVi (pc := 109) (o := 0) (rm := rmX0_pass) K (kX0_pass l hN hG 0 (show 0 < 3 by decide) 24 r14 hw16 (by omega)) gX4_days_X0_pass rfl hdV_X0_pass ⟨Nat.le_of_ble_eq_true rfl, Nat.le_of_ble_eq_true rfl⟩ rfl rfl ⟨Nat.zero_le _, Nat.zero_le _⟩ (wO_ch hG (show 0 < 3 by decide)) vw_0 rfl rfl (Nat.le_of_ble_eq_true rfl) dX4_days_109 ?_
        refine qq_nmI (fun r17 e18 => ?_)
        have hw19 : WD r17.2 := by rw [e18]; exact wX0_pass 0 (show 0 < 3 by decide) 24 hw16 (by omega)
        refine q_iadd (pc := 112) K dX4_days_112 ?_
        refine q_istore_n (pc := 113) (lv' := [some (.ref (gob G 3)), some (.int v1), some (.int (v2 + r17.1)), some (.int v3), some (.int (jrem r10.1 6))]) K dX4_days_113 rfl (by decide) (Nat.le_of_ble_eq_true rfl) rfl ?_
        refine q_iinc (pc := 114) (v := (v3 + 1)) (lv' := [some (.ref (gob G 3)), some (.int v1), some (.int (v2 + r17.1)), some (.int (v3 + 1)), some (.int (jrem r10.1 6))]) K dX4_days_114 rfl rfl (by decide) rfl ?_
        refine q_goto (pc := 117) (tgt := 39) K dX4_days_117 (by decide) ?_
        refine qq_drop 4 (lv' := [some (.ref (gob G 3)), some (.int v1), some (.int (v2 + r17.1)), some (.int (v3 + 1)), none]) rfl ?_
        have a20 := addI (x := v3) (y := 1) (by omega) (by omega)
        exact qq_out (ih v1 (v2 + r17.1) (v3 + 1) r17.2 hw19 (by omega) (by omega) (by omega) hk)
      · have i29 := eqI c13
        refine q_iconst (pc := 94) (v := 1) K dX4_days_94 (by decide) ?_
        refine q_goto (pc := 95) (tgt := 99) K dX4_days_95 (by decide) ?_
        refine q_callVv (pc := 99) (o := 0) (rm := rmX0_setShutter) K (kX0_setShutter l hN hG 0 (show 0 < 3 by decide) (jrem r10.1 6) 1 r10.2 hw12) gX4_days_X0_setShutter rfl hdV_X0_setShutter ⟨Nat.le_of_ble_eq_true rfl, Nat.le_of_ble_eq_true rfl⟩ rfl rfl ⟨Nat.zero_le _, Nat.zero_le _⟩ (wO_ch hG (show 0 < 3 by decide)) vw_0 rfl rfl (Nat.le_of_ble_eq_true rfl) dX4_days_99 ?_
        refine qq_nmV (fun r21 e22 => ?_)
        have hw23 : WD r21 := by rw [e22]; exact wX0_setShutter 0 (show 0 < 3 by decide) (jrem r10.1 6) 1 hw12 
        refine q_iload_n (pc := 102) K dX4_days_102 rfl rfl ?_
        refine q_aload_n (pc := 103) K dX4_days_103 rfl rfl ?_
        refine q_get (pc := 104) (o := 3) (f := 0) (v := .ref (gob G 0)) K (wO_x hG) vw_3 iwX4_days_X4 (by decide) mX4_days_f12 rfl dX4_days_104 ?_
        refine q_bipush (pc := 107) (v := 24) K dX4_days_107 (by decide) ?_
        refine q_callVi (pc := 109) (o := 0) (rm := rmX0_pass) K (kX0_pass l hN hG 0 (show 0 < 3 by decide) 24 r21 hw23 (by omega)) gX4_days_X0_pass rfl hdV_X0_pass ⟨Nat.le_of_ble_eq_true rfl, Nat.le_of_ble_eq_true rfl⟩ rfl rfl ⟨Nat.zero_le _, Nat.zero_le _⟩ (wO_ch hG (show 0 < 3 by decide)) vw_0 rfl rfl (Nat.le_of_ble_eq_true rfl) dX4_days_109 ?_
        refine qq_nmI (fun r24 e25 => ?_)
        have hw26 : WD r24.2 := by rw [e25]; exact wX0_pass 0 (show 0 < 3 by decide) 24 hw23 (by omega)
        refine q_iadd (pc := 112) K dX4_days_112 ?_
        refine q_istore_n (pc := 113) (lv' := [some (.ref (gob G 3)), some (.int v1), some (.int (v2 + r24.1)), some (.int v3), some (.int (jrem r10.1 6))]) K dX4_days_113 rfl (by decide) (Nat.le_of_ble_eq_true rfl) rfl ?_
        refine q_iinc (pc := 114) (v := (v3 + 1)) (lv' := [some (.ref (gob G 3)), some (.int v1), some (.int (v2 + r24.1)), some (.int (v3 + 1)), some (.int (jrem r10.1 6))]) K dX4_days_114 rfl rfl (by decide) rfl ?_
        refine q_goto (pc := 117) (tgt := 39) K dX4_days_117 (by decide) ?_
        refine qq_drop 4 (lv' := [some (.ref (gob G 3)), some (.int v1), some (.int (v2 + r24.1)), some (.int (v3 + 1)), none]) rfl ?_
        have a27 := addI (x := v3) (y := 1) (by omega) (by omega)
        exact qq_out (ih v1 (v2 + r24.1) (v3 + 1) r24.2 hw26 (by omega) (by omega) (by omega) hk)
set_option maxRecDepth 100000 in
set_option maxHeartbeats 4000000 in
theorem kX4_days (l : Launch) {G : gT} (hN : wN G) (hG : gfl G = true) (v1 : Int32) (σ : sg) (hw : WD σ) : cM l yX4_days wsX4_days rmX4_days G [.ref (gob G 3), .int v1] σ (some (.int (fX4_days v1 σ).1)) (fX4_days v1 σ).2 := by
  refine cM_of (maxL := 5) (ret := (some .int)) (cc := cX4_days) (fX4_days v1 σ) RX4 hN (by decide +kernel) rfl rfl (Nat.le_of_ble_eq_true rfl) rfl ?_
  intro p e s m args below meth c K hr
  have km1000005 : ((-1000005) : Int32).toInt = -1000005 := rfl
  have km1000001 : ((-1000001) : Int32).toInt = -1000001 := rfl
  have k0 : (0 : Int32).toInt = 0 := rfl
  have k1 : (1 : Int32).toInt = 1 := rfl
  have k12 : (12 : Int32).toInt = 12 := rfl
  have k24 : (24 : Int32).toInt = 24 := rfl
  refine qq_st (lv' := [some (.ref (gob G 3)), some (.int v1), none, none, none]) rfl rfl rfl ?_
  refine qq_T (fX4_days.eq_1 ..) ?_
  refine q_iload_n (pc := 0) K dX4_days_0 rfl rfl ?_
  refine q_iconst (pc := 1) (v := 1) K dX4_days_1 (by decide) ?_
  refine q_bipush (pc := 2) (v := 12) K dX4_days_2 (by decide) ?_
  refine q_callSi (pc := 4) (rm := rmX4_isWithin) K (kX4_isWithin l hN v1 1 12 σ) gX4_days_X4_isWithin rfl hdS_X4_isWithin ⟨Nat.le_of_ble_eq_true rfl, Nat.le_of_ble_eq_true rfl⟩ rfl rfl ⟨Nat.zero_le _, Nat.zero_le _⟩ rfl rfl (Nat.le_of_ble_eq_true rfl) dX4_days_4 ?_
  refine q_if_ne (pc := 7) (tgt := 17) K dX4_days_7 (by decide) (fun c1 => ?_) (fun c1 => ?_)
  · have i43 := neI c1
    have b44 := isW_t c1
    refine q_aload_n (pc := 17) K dX4_days_17 rfl rfl ?_
    refine q_iload_n (pc := 18) K dX4_days_18 rfl rfl ?_
    refine q_bipush (pc := 19) (v := 24) K dX4_days_19 (by decide) ?_
    refine q_imul (pc := 21) K dX4_days_21 ?_
    refine q_callVi (pc := 22) (o := 3) (rm := rmX4_isTooLate) K (kX4_isTooLate l hN hG (v1 * 24) σ hw) gX4_days_X4_isTooLate rfl hdV_X4_isTooLate ⟨Nat.le_of_ble_eq_true rfl, Nat.le_of_ble_eq_true rfl⟩ rfl rfl ⟨Nat.zero_le _, Nat.zero_le _⟩ (wO_x hG) vw_3 rfl rfl (Nat.le_of_ble_eq_true rfl) dX4_days_22 ?_
    refine q_if_eq (pc := 25) (tgt := 35) K dX4_days_25 (by decide) (fun c2 => ?_) (fun c2 => ?_)
    · have i38 := eqI c2
      refine q_iconst (pc := 35) (v := 0) K dX4_days_35 (by decide) ?_
      refine q_istore_n (pc := 36) (lv' := [some (.ref (gob G 3)), some (.int v1), some (.int 0), none, none]) K dX4_days_36 rfl (by decide) (Nat.le_of_ble_eq_true rfl) rfl ?_
      refine q_iconst (pc := 37) (v := 0) K dX4_days_37 (by decide) ?_
      refine q_istore_n (pc := 38) (lv' := [some (.ref (gob G 3)), some (.int v1), some (.int 0), some (.int 0), none]) K dX4_days_38 rfl (by decide) (Nat.le_of_ble_eq_true rfl) rfl ?_
      refine lX4_days_39 l hN hG K 13 v1 0 0 σ hw (by omega) (by omega) (by omega) (fun r32 hw34 => ?_)
      refine q_iload_n (pc := 120) K dX4_days_120 rfl rfl ?_
      exact q_iret K hr dX4_days_121
    · have i39 := neI c2
      refine q_aload_n (pc := 28) K dX4_days_28 rfl rfl ?_
      refine q_ldc (pc := 29) (v := (-1000005)) K dX4_days_29 mX4_days_c179 ?_
      refine q_callVi (pc := 31) (o := 3) (rm := rmX4_found) K (kX4_found l hN hG (-1000005) σ hw) gX4_days_X4_found rfl hdV_X4_found ⟨Nat.le_of_ble_eq_true rfl, Nat.le_of_ble_eq_true rfl⟩ rfl rfl ⟨Nat.zero_le _, Nat.zero_le _⟩ (wO_x hG) vw_3 rfl rfl (Nat.le_of_ble_eq_true rfl) dX4_days_31 ?_
      refine qq_nmI (fun r35 e36 => ?_)
      have hw37 : WD r35.2 := by rw [e36]; exact wX4_found (-1000005) hw 
      exact q_iret K hr dX4_days_34
  · have i45 := eqI c1
    have b46 := isW_f c1
    refine q_aload_n (pc := 10) K dX4_days_10 rfl rfl ?_
    refine q_ldc (pc := 11) (v := (-1000001)) K dX4_days_11 mX4_days_c53 ?_
    refine q_callVi (pc := 13) (o := 3) (rm := rmX4_found) K (kX4_found l hN hG (-1000001) σ hw) gX4_days_X4_found rfl hdV_X4_found ⟨Nat.le_of_ble_eq_true rfl, Nat.le_of_ble_eq_true rfl⟩ rfl rfl ⟨Nat.zero_le _, Nat.zero_le _⟩ (wO_x hG) vw_3 rfl rfl (Nat.le_of_ble_eq_true rfl) dX4_days_13 ?_
    refine qq_nmI (fun r40 e41 => ?_)
    have hw42 : WD r40.2 := by rw [e41]; exact wX4_found (-1000001) hw 
    exact q_iret K hr dX4_days_16
theorem hdV_X4_seed : yX4_seed.cls = RX4 ∧ yX4_seed.cls ≠ "java/lang/invoke/MethodHandle" ∧ yX4_seed.cls ≠ "java/lang/invoke/VarHandle" ∧ (parseMethodDescriptor yX4_seed.desc).map (fun d => d.parameters.length) = some 1 := by decide +kernel
theorem mX4_seed_f12 : Cond.fieldLink RX4 12 "WaxTreaties" "live" "LWaxTreaties$Chancery;" ∈ wsX4_seed := List.mem_of_getElem? (i := 1) rfl
theorem iwX4_seed_X4 : ∀ w ∈ wsX40, w ∈ wsX4_seed := fun w h => List.mem_cons_of_mem _ (List.mem_append_left _ (List.mem_append_right _ h))
theorem mX4_seed_f252 : Cond.fieldLink RX4 252 "WaxTreaties$Chancery" "z" "I" ∈ wsX4_seed := List.mem_of_getElem? (i := 2) rfl
theorem iwX4_seed_X0 : ∀ w ∈ wsX00, w ∈ wsX4_seed := fun w h => List.mem_cons_of_mem _ (List.mem_append_right _ h)
set_option maxRecDepth 100000 in
set_option maxHeartbeats 4000000 in
theorem kX4_seed (l : Launch) {G : gT} (hN : wN G) (hG : gfl G = true) (v1 : Int32) (σ : sg) (hw : WD σ) : cM l yX4_seed wsX4_seed rmX4_seed G [.ref (gob G 3), .int v1] σ (some (.int (fX4_seed v1 σ).1)) (fX4_seed v1 σ).2 := by
  refine cM_of (maxL := 3) (ret := (some .int)) (cc := cX4_seed) (fX4_seed v1 σ) RX4 hN (by decide +kernel) rfl rfl (Nat.le_of_ble_eq_true rfl) rfl ?_
  intro p e s m args below meth c K hr
  have k0 : (0 : Int32).toInt = 0 := rfl
  refine qq_st (lv' := [some (.ref (gob G 3)), some (.int v1), none]) rfl rfl rfl ?_
  refine qq_T (fX4_seed.eq_1 ..) ?_
  refine q_aload_n (pc := 0) K dX4_seed_0 rfl rfl ?_
  refine q_get (pc := 1) (o := 3) (f := 0) (v := .ref (gob G 0)) K (wO_x hG) vw_3 iwX4_seed_X4 (by decide) mX4_seed_f12 rfl dX4_seed_1 ?_
  refine q_get (pc := 4) (o := 0) (f := 13) (v := .int (rF σ (7 * 0 + 6))) K (wO_ch hG (show 0 < 3 by decide)) vw_0 iwX4_seed_X0 (by decide) mX4_seed_f252 rfl dX4_seed_4 ?_
  refine q_istore_n (pc := 7) (lv' := [some (.ref (gob G 3)), some (.int v1), some (.int (rF σ (7 * 0 + 6)))]) K dX4_seed_7 rfl (by decide) (Nat.le_of_ble_eq_true rfl) rfl ?_
  refine q_aload_n (pc := 8) K dX4_seed_8 rfl rfl ?_
  refine q_get (pc := 9) (o := 3) (f := 0) (v := .ref (gob G 0)) K (wO_x hG) vw_3 iwX4_seed_X4 (by decide) mX4_seed_f12 rfl dX4_seed_9 ?_
  refine q_iload_n (pc := 12) K dX4_seed_12 rfl rfl ?_
  refine q_put (pc := 13) (o := 0) (f := 13) (i := (7 * 0 + 6)) (ty := .int) K tyX0 tyX0_ok nmX0 (wO_ch hG (show 0 < 3 by decide)) vw_0 iwX4_seed_X0 (by decide) mX4_seed_f252 rfl (tyX0_ok 13 (by decide)) rfl rfl (Nat.le_of_ble_eq_true rfl) (wP_ch13 hG (show 0 < 3 by decide) _) dX4_seed_13 (fun s1 e2 => ?_)
  have hw3 : WD s1 := by rw [e2]; exact wdF hw (by have := (show 0 < 3 by decide); omega)
  refine q_iload_n (pc := 16) K dX4_seed_16 rfl rfl ?_
  exact q_iret K hr dX4_seed_17
theorem hdV_X4_wipe : yX4_wipe.cls = RX4 ∧ yX4_wipe.cls ≠ "java/lang/invoke/MethodHandle" ∧ yX4_wipe.cls ≠ "java/lang/invoke/VarHandle" ∧ (parseMethodDescriptor yX4_wipe.desc).map (fun d => d.parameters.length) = some 0 := by decide +kernel
theorem mX4_wipe_f29 : Cond.fieldLink RX4 29 "WaxTreaties" "tape" "LWaxTreaties$Tape;" ∈ wsX4_wipe := List.mem_of_getElem? (i := 1) rfl
theorem iwX4_wipe_X4 : ∀ w ∈ wsX40, w ∈ wsX4_wipe := fun w h => List.mem_cons_of_mem _ (List.mem_append_left _ (List.mem_append_right _ h))
theorem mX4_wipe_f255 : Cond.fieldLink RX4 255 "WaxTreaties$Tape" "length" "I" ∈ wsX4_wipe := List.mem_of_getElem? (i := 2) rfl
theorem iwX4_wipe_X3 : ∀ w ∈ wsX30, w ∈ wsX4_wipe := fun w h => List.mem_cons_of_mem _ (List.mem_append_right _ h)
set_option maxRecDepth 100000 in
set_option maxHeartbeats 4000000 in
theorem kX4_wipe (l : Launch) {G : gT} (hN : wN G) (hG : gfl G = true) (σ : sg) (hw : WD σ) : cM l yX4_wipe wsX4_wipe rmX4_wipe G [.ref (gob G 3)] σ (some (.int (fX4_wipe σ).1)) (fX4_wipe σ).2 := by
  refine cM_of (maxL := 2) (ret := (some .int)) (cc := cX4_wipe) (fX4_wipe σ) RX4 hN (by decide +kernel) rfl rfl (Nat.le_of_ble_eq_true rfl) rfl ?_
  intro p e s m args below meth c K hr
  have k0 : (0 : Int32).toInt = 0 := rfl
  refine qq_st (lv' := [some (.ref (gob G 3)), none]) rfl rfl rfl ?_
  refine qq_T (fX4_wipe.eq_1 ..) ?_
  refine q_aload_n (pc := 0) K dX4_wipe_0 rfl rfl ?_
  refine q_get (pc := 1) (o := 3) (f := 4) (v := .ref (gob G 4)) K (wO_x hG) vw_3 iwX4_wipe_X4 (by decide) mX4_wipe_f29 rfl dX4_wipe_1 ?_
  refine q_get (pc := 4) (o := 4) (f := 1) (v := .int (rF σ 22)) K (wO_tp hG) vw_2 iwX4_wipe_X3 (by decide) mX4_wipe_f255 rfl dX4_wipe_4 ?_
  have w1 := wd_len hw
  refine q_istore_n (pc := 7) (lv' := [some (.ref (gob G 3)), some (.int (rF σ 22))]) K dX4_wipe_7 rfl (by decide) (Nat.le_of_ble_eq_true rfl) rfl ?_
  refine q_aload_n (pc := 8) K dX4_wipe_8 rfl rfl ?_
  refine q_get (pc := 9) (o := 3) (f := 4) (v := .ref (gob G 4)) K (wO_x hG) vw_3 iwX4_wipe_X4 (by decide) mX4_wipe_f29 rfl dX4_wipe_9 ?_
  refine q_iconst (pc := 12) (v := 0) K dX4_wipe_12 (by decide) ?_
  refine q_put (pc := 13) (o := 4) (f := 1) (i := 22) (ty := .int) K tyX3 tyX3_ok nmX3 (wO_tp hG) vw_2 iwX4_wipe_X3 (by decide) mX4_wipe_f255 rfl (tyX3_ok 1 (by decide)) rfl rfl (Nat.le_of_ble_eq_true rfl) (wP_tp1 hG _) dX4_wipe_13 (fun s2 e3 => ?_)
  have hw4 : WD s2 := by rw [e3]; exact wdFl hw (by omega) (by omega)
  have f5 := congrArg Int32.toInt (show rF s2 22 = 0 by rw [e3]; exact sF_same9)
  refine q_iload_n (pc := 16) K dX4_wipe_16 rfl rfl ?_
  exact q_iret K hr dX4_wipe_17
theorem hdV_X4_hold : yX4_hold.cls = RX4 ∧ yX4_hold.cls ≠ "java/lang/invoke/MethodHandle" ∧ yX4_hold.cls ≠ "java/lang/invoke/VarHandle" ∧ (parseMethodDescriptor yX4_hold.desc).map (fun d => d.parameters.length) = some 2 := by decide +kernel
theorem mX4_hold_c53 : Cond.constant RX4 53 (-1000001) ∈ wsX4_hold := List.mem_of_getElem? (i := 3) rfl
theorem mX4_hold_f12 : Cond.fieldLink RX4 12 "WaxTreaties" "live" "LWaxTreaties$Chancery;" ∈ wsX4_hold := List.mem_of_getElem? (i := 1) rfl
theorem iwX4_hold_X4 : ∀ w ∈ wsX40, w ∈ wsX4_hold := fun w h => List.mem_cons_of_mem _ (List.mem_append_left _ (List.mem_append_right _ h))
theorem mX4_hold_f151 : Cond.fieldLink RX4 151 "WaxTreaties$Chancery" "deeds" "I" ∈ wsX4_hold := List.mem_of_getElem? (i := 2) rfl
theorem iwX4_hold_X0 : ∀ w ∈ wsX00, w ∈ wsX4_hold := fun w h => List.mem_cons_of_mem _ (List.mem_append_right _ h)
theorem mX4_hold_f265 : Cond.fieldLink RX4 265 "WaxTreaties$Chancery" "spots" "[I" ∈ wsX4_hold := List.mem_of_getElem? (i := 4) rfl
set_option maxRecDepth 100000 in
set_option maxHeartbeats 4000000 in
theorem kX4_hold (l : Launch) {G : gT} (hN : wN G) (hG : gfl G = true) (v1 : Int32) (v2 : Int32) (σ : sg) (hw : WD σ) : cM l yX4_hold wsX4_hold rmX4_hold G [.ref (gob G 3), .int v1, .int v2] σ (some (.int (fX4_hold v1 v2 σ).1)) (fX4_hold v1 v2 σ).2 := by
  refine cM_of (maxL := 3) (ret := (some .int)) (cc := cX4_hold) (fX4_hold v1 v2 σ) RX4 hN (by decide +kernel) rfl rfl (Nat.le_of_ble_eq_true rfl) rfl ?_
  intro p e s m args below meth c K hr
  have km1000001 : ((-1000001) : Int32).toInt = -1000001 := rfl
  have km1 : ((-1) : Int32).toInt = -1 := rfl
  have k0 : (0 : Int32).toInt = 0 := rfl
  have k1 : (1 : Int32).toInt = 1 := rfl
  have k9 : (9 : Int32).toInt = 9 := rfl
  refine qq_st (lv' := [some (.ref (gob G 3)), some (.int v1), some (.int v2)]) rfl rfl rfl ?_
  refine qq_T (fX4_hold.eq_1 ..) ?_
  refine q_iload_n (pc := 0) K dX4_hold_0 rfl rfl ?_
  refine q_iconst (pc := 1) (v := 0) K dX4_hold_1 (by decide) ?_
  refine q_bipush (pc := 2) (v := 9) K dX4_hold_2 (by decide) ?_
  refine q_callSi (pc := 4) (rm := rmX4_isWithin) K (kX4_isWithin l hN v1 0 9 σ) gX4_hold_X4_isWithin rfl hdS_X4_isWithin ⟨Nat.le_of_ble_eq_true rfl, Nat.le_of_ble_eq_true rfl⟩ rfl rfl ⟨Nat.zero_le _, Nat.zero_le _⟩ rfl rfl (Nat.le_of_ble_eq_true rfl) dX4_hold_4 ?_
  refine q_if_eq (pc := 7) (tgt := 27) K dX4_hold_7 (by decide) (fun c1 => ?_) (fun c1 => ?_)
  · have i18 := eqI c1
    have b19 := isW_f c1
    refine q_aload_n (pc := 27) K dX4_hold_27 rfl rfl ?_
    refine q_ldc (pc := 28) (v := (-1000001)) K dX4_hold_28 mX4_hold_c53 ?_
    refine q_callVi (pc := 30) (o := 3) (rm := rmX4_found) K (kX4_found l hN hG (-1000001) σ hw) gX4_hold_X4_found rfl hdV_X4_found ⟨Nat.le_of_ble_eq_true rfl, Nat.le_of_ble_eq_true rfl⟩ rfl rfl ⟨Nat.zero_le _, Nat.zero_le _⟩ (wO_x hG) vw_3 rfl rfl (Nat.le_of_ble_eq_true rfl) dX4_hold_30 ?_
    refine qq_nmI (fun r2 e3 => ?_)
    have hw4 : WD r2.2 := by rw [e3]; exact wX4_found (-1000001) hw 
    exact q_iret K hr dX4_hold_33
  · have i20 := neI c1
    have b21 := isW_t c1
    refine q_iload_n (pc := 10) K dX4_hold_10 rfl rfl ?_
    refine q_iconst (pc := 11) (v := (-1)) K dX4_hold_11 (by decide) ?_
    refine q_aload_n (pc := 12) K dX4_hold_12 rfl rfl ?_
    refine q_get (pc := 13) (o := 3) (f := 0) (v := .ref (gob G 0)) K (wO_x hG) vw_3 iwX4_hold_X4 (by decide) mX4_hold_f12 rfl dX4_hold_13 ?_
    refine q_get (pc := 16) (o := 0) (f := 8) (v := .int (rF σ (7 * 0 + 1))) K (wO_ch hG (show 0 < 3 by decide)) vw_0 iwX4_hold_X0 (by decide) mX4_hold_f151 rfl dX4_hold_16 ?_
    have w5 := wd_deeds hw (show 0 < 3 by decide)
    refine q_iconst (pc := 19) (v := 1) K dX4_hold_19 (by decide) ?_
    refine q_isub (pc := 20) K dX4_hold_20 ?_
    have a6 := subI (x := (rF σ (7 * 0 + 1))) (y := 1) (by omega) (by omega)
    refine q_callSi (pc := 21) (rm := rmX4_isWithin) K (kX4_isWithin l hN v2 (-1) ((rF σ (7 * 0 + 1)) - 1) σ) gX4_hold_X4_isWithin rfl hdS_X4_isWithin ⟨Nat.le_of_ble_eq_true rfl, Nat.le_of_ble_eq_true rfl⟩ rfl rfl ⟨Nat.zero_le _, Nat.zero_le _⟩ rfl rfl (Nat.le_of_ble_eq_true rfl) dX4_hold_21 ?_
    refine q_if_ne (pc := 24) (tgt := 34) K dX4_hold_24 (by decide) (fun c7 => ?_) (fun c7 => ?_)
    · have i14 := neI c7
      have b15 := isW_t c7
      refine q_aload_n (pc := 34) K dX4_hold_34 rfl rfl ?_
      refine q_get (pc := 35) (o := 3) (f := 0) (v := .ref (gob G 0)) K (wO_x hG) vw_3 iwX4_hold_X4 (by decide) mX4_hold_f12 rfl dX4_hold_35 ?_
      refine q_get (pc := 38) (o := 0) (f := 6) (v := .ref (gad G (8 * 0 + 6))) K (wO_ch hG (show 0 < 3 by decide)) vw_0 iwX4_hold_X0 (by decide) mX4_hold_f265 rfl dX4_hold_38 ?_
      refine q_iload_n (pc := 41) K dX4_hold_41 rfl rfl ?_
      refine q_iload_n (pc := 42) K dX4_hold_42 rfl rfl ?_
      refine q_iast (pc := 43) (a := 8 * 0 + 6) K (by rw [wna_t hG]; have := (show 0 < 3 by decide); omega) (vinN (wlc6 hG (show 0 < 3 by decide)) (by omega) (by omega)) dX4_hold_43 (fun s8 e9 => ?_)
      have hw10 : WD s8 := by rw [e9]; exact wdA hw (by have := (show 0 < 3 by decide); omega)
      refine q_iconst (pc := 44) (v := 1) K dX4_hold_44 (by decide) ?_
      exact q_iret K hr dX4_hold_45
    · have i16 := eqI c7
      have b17 := isW_f c7
      refine q_aload_n (pc := 27) K dX4_hold_27 rfl rfl ?_
      refine q_ldc (pc := 28) (v := (-1000001)) K dX4_hold_28 mX4_hold_c53 ?_
      refine q_callVi (pc := 30) (o := 3) (rm := rmX4_found) K (kX4_found l hN hG (-1000001) σ hw) gX4_hold_X4_found rfl hdV_X4_found ⟨Nat.le_of_ble_eq_true rfl, Nat.le_of_ble_eq_true rfl⟩ rfl rfl ⟨Nat.zero_le _, Nat.zero_le _⟩ (wO_x hG) vw_3 rfl rfl (Nat.le_of_ble_eq_true rfl) dX4_hold_30 ?_
      refine qq_nmI (fun r11 e12 => ?_)
      have hw13 : WD r11.2 := by rw [e12]; exact wX4_found (-1000001) hw 
      exact q_iret K hr dX4_hold_33
theorem hdV_X4_as : yX4_as.cls = RX4 ∧ yX4_as.cls ≠ "java/lang/invoke/MethodHandle" ∧ yX4_as.cls ≠ "java/lang/invoke/VarHandle" ∧ (parseMethodDescriptor yX4_as.desc).map (fun d => d.parameters.length) = some 2 := by decide +kernel
theorem mX4_as_c53 : Cond.constant RX4 53 (-1000001) ∈ wsX4_as := List.mem_of_getElem? (i := 1) rfl
theorem mX4_as_f12 : Cond.fieldLink RX4 12 "WaxTreaties" "live" "LWaxTreaties$Chancery;" ∈ wsX4_as := List.mem_of_getElem? (i := 2) rfl
theorem iwX4_as_X4 : ∀ w ∈ wsX40, w ∈ wsX4_as := fun w h => List.mem_cons_of_mem _ (List.mem_append_left _ (List.mem_append_right _ h))
theorem mX4_as_f265 : Cond.fieldLink RX4 265 "WaxTreaties$Chancery" "spots" "[I" ∈ wsX4_as := List.mem_of_getElem? (i := 3) rfl
theorem iwX4_as_X0 : ∀ w ∈ wsX00, w ∈ wsX4_as := fun w h => List.mem_cons_of_mem _ (List.mem_append_right _ h)
theorem mX4_as_f70 : Cond.fieldLink RX4 70 "WaxTreaties$Chancery" "kind" "[I" ∈ wsX4_as := List.mem_of_getElem? (i := 5) rfl
theorem mX4_as_c272 : Cond.constant RX4 272 (-1000003) ∈ wsX4_as := List.mem_of_getElem? (i := 6) rfl
theorem mX4_as_c268 : Cond.constant RX4 268 (-1000006) ∈ wsX4_as := List.mem_of_getElem? (i := 4) rfl
set_option maxRecDepth 100000 in
set_option maxHeartbeats 4000000 in
theorem kX4_as (l : Launch) {G : gT} (hN : wN G) (hG : gfl G = true) (v1 : Int32) (v2 : Int32) (σ : sg) (hw : WD σ) : cM l yX4_as wsX4_as rmX4_as G [.ref (gob G 3), .int v1, .int v2] σ (some (.int (fX4_as v1 v2 σ).1)) (fX4_as v1 v2 σ).2 := by
  refine cM_of (maxL := 4) (ret := (some .int)) (cc := cX4_as) (fX4_as v1 v2 σ) RX4 hN (by decide +kernel) rfl rfl (Nat.le_of_ble_eq_true rfl) rfl ?_
  intro p e s m args below meth c K hr
  have km1000006 : ((-1000006) : Int32).toInt = -1000006 := rfl
  have km1000003 : ((-1000003) : Int32).toInt = -1000003 := rfl
  have km1000001 : ((-1000001) : Int32).toInt = -1000001 := rfl
  have k0 : (0 : Int32).toInt = 0 := rfl
  have k9 : (9 : Int32).toInt = 9 := rfl
  refine qq_st (lv' := [some (.ref (gob G 3)), some (.int v1), some (.int v2), none]) rfl rfl rfl ?_
  refine qq_T (fX4_as.eq_1 ..) ?_
  refine q_iload_n (pc := 0) K dX4_as_0 rfl rfl ?_
  refine q_iconst (pc := 1) (v := 0) K dX4_as_1 (by decide) ?_
  refine q_bipush (pc := 2) (v := 9) K dX4_as_2 (by decide) ?_
  refine q_callSi (pc := 4) (rm := rmX4_isWithin) K (kX4_isWithin l hN v1 0 9 σ) gX4_as_X4_isWithin rfl hdS_X4_isWithin ⟨Nat.le_of_ble_eq_true rfl, Nat.le_of_ble_eq_true rfl⟩ rfl rfl ⟨Nat.zero_le _, Nat.zero_le _⟩ rfl rfl (Nat.le_of_ble_eq_true rfl) dX4_as_4 ?_
  refine q_if_eq (pc := 7) (tgt := 17) K dX4_as_7 (by decide) (fun c1 => ?_) (fun c1 => ?_)
  · have i25 := eqI c1
    have b26 := isW_f c1
    refine q_aload_n (pc := 17) K dX4_as_17 rfl rfl ?_
    refine q_ldc (pc := 18) (v := (-1000001)) K dX4_as_18 mX4_as_c53 ?_
    refine q_callVi (pc := 20) (o := 3) (rm := rmX4_found) K (kX4_found l hN hG (-1000001) σ hw) gX4_as_X4_found rfl hdV_X4_found ⟨Nat.le_of_ble_eq_true rfl, Nat.le_of_ble_eq_true rfl⟩ rfl rfl ⟨Nat.zero_le _, Nat.zero_le _⟩ (wO_x hG) vw_3 rfl rfl (Nat.le_of_ble_eq_true rfl) dX4_as_20 ?_
    refine qq_nmI (fun r2 e3 => ?_)
    have hw4 : WD r2.2 := by rw [e3]; exact wX4_found (-1000001) hw 
    exact q_iret K hr dX4_as_23
  · have i27 := neI c1
    have b28 := isW_t c1
    refine q_iload_n (pc := 10) K dX4_as_10 rfl rfl ?_
    refine q_callSi (pc := 11) (rm := rmX1_isKind) K (kX1_isKind l hN v2 σ) gX4_as_X1_isKind rfl hdS_X1_isKind ⟨Nat.le_of_ble_eq_true rfl, Nat.le_of_ble_eq_true rfl⟩ rfl rfl ⟨Nat.zero_le _, Nat.zero_le _⟩ rfl rfl (Nat.le_of_ble_eq_true rfl) dX4_as_11 ?_
    refine q_if_ne (pc := 14) (tgt := 24) K dX4_as_14 (by decide) (fun c5 => ?_) (fun c5 => ?_)
    · have i22 := neI c5
      have b23 := isK_t c5
      refine q_aload_n (pc := 24) K dX4_as_24 rfl rfl ?_
      refine q_get (pc := 25) (o := 3) (f := 0) (v := .ref (gob G 0)) K (wO_x hG) vw_3 iwX4_as_X4 (by decide) mX4_as_f12 rfl dX4_as_25 ?_
      refine q_get (pc := 28) (o := 0) (f := 6) (v := .ref (gad G (8 * 0 + 6))) K (wO_ch hG (show 0 < 3 by decide)) vw_0 iwX4_as_X0 (by decide) mX4_as_f265 rfl dX4_as_28 ?_
      refine q_iload_n (pc := 31) K dX4_as_31 rfl rfl ?_
      refine q_iald (pc := 32) (a := 8 * 0 + 6) K (by rw [wna_t hG]; have := (show 0 < 3 by decide); omega) (vinN (wlc6 hG (show 0 < 3 by decide)) (by omega) (by omega)) dX4_as_32 ?_
      refine q_istore_n (pc := 33) (lv' := [some (.ref (gob G 3)), some (.int v1), some (.int v2), some (.int (rA σ (8 * 0 + 6) v1))]) K dX4_as_33 rfl (by decide) (Nat.le_of_ble_eq_true rfl) rfl ?_
      refine q_aload_n (pc := 34) K dX4_as_34 rfl rfl ?_
      refine q_get (pc := 35) (o := 3) (f := 0) (v := .ref (gob G 0)) K (wO_x hG) vw_3 iwX4_as_X4 (by decide) mX4_as_f12 rfl dX4_as_35 ?_
      refine q_iload_n (pc := 38) K dX4_as_38 rfl rfl ?_
      refine q_callVi (pc := 39) (o := 0) (rm := rmX0_isDeed) K (kX0_isDeed l hN hG 0 (show 0 < 3 by decide) (rA σ (8 * 0 + 6) v1) σ hw) gX4_as_X0_isDeed rfl hdV_X0_isDeed ⟨Nat.le_of_ble_eq_true rfl, Nat.le_of_ble_eq_true rfl⟩ rfl rfl ⟨Nat.zero_le _, Nat.zero_le _⟩ (wO_ch hG (show 0 < 3 by decide)) vw_0 rfl rfl (Nat.le_of_ble_eq_true rfl) dX4_as_39 ?_
      refine q_if_ne (pc := 42) (tgt := 53) K dX4_as_42 (by decide) (fun c6 => ?_) (fun c6 => ?_)
      · have i16 := neI c6
        have b17 := isD_t hw (by omega) c6
        refine q_aload_n (pc := 53) K dX4_as_53 rfl rfl ?_
        refine q_get (pc := 54) (o := 3) (f := 0) (v := .ref (gob G 0)) K (wO_x hG) vw_3 iwX4_as_X4 (by decide) mX4_as_f12 rfl dX4_as_54 ?_
        refine q_get (pc := 57) (o := 0) (f := 0) (v := .ref (gad G (8 * 0))) K (wO_ch hG (show 0 < 3 by decide)) vw_0 iwX4_as_X0 (by decide) mX4_as_f70 rfl dX4_as_57 ?_
        refine q_iload_n (pc := 60) K dX4_as_60 rfl rfl ?_
        refine q_iald (pc := 61) (a := 8 * 0) K (by rw [wna_t hG]; have := (show 0 < 3 by decide); omega) (vinN (wlc0 hG (show 0 < 3 by decide)) (by omega) (by omega)) dX4_as_61 ?_
        refine q_iload_n (pc := 62) K dX4_as_62 rfl rfl ?_
        refine q_callSi (pc := 63) (rm := rmX1_isOneOf) K (kX1_isOneOf l hN (rA σ (8 * 0) (rA σ (8 * 0 + 6) v1)) v2 σ) gX4_as_X1_isOneOf rfl hdS_X1_isOneOf ⟨Nat.le_of_ble_eq_true rfl, Nat.le_of_ble_eq_true rfl⟩ rfl rfl ⟨Nat.zero_le _, Nat.zero_le _⟩ rfl rfl (Nat.le_of_ble_eq_true rfl) dX4_as_63 ?_
        refine q_if_eq (pc := 66) (tgt := 73) K dX4_as_66 (by decide) (fun c7 => ?_) (fun c7 => ?_)
        · have i11 := eqI c7
          refine q_aload_n (pc := 73) K dX4_as_73 rfl rfl ?_
          refine q_ldcw (pc := 74) (v := (-1000003)) K dX4_as_74 mX4_as_c272 ?_
          refine q_callVi (pc := 77) (o := 3) (rm := rmX4_found) K (kX4_found l hN hG (-1000003) σ hw) gX4_as_X4_found rfl hdV_X4_found ⟨Nat.le_of_ble_eq_true rfl, Nat.le_of_ble_eq_true rfl⟩ rfl rfl ⟨Nat.zero_le _, Nat.zero_le _⟩ (wO_x hG) vw_3 rfl rfl (Nat.le_of_ble_eq_true rfl) dX4_as_77 ?_
          refine qq_nmI (fun r8 e9 => ?_)
          have hw10 : WD r8.2 := by rw [e9]; exact wX4_found (-1000003) hw 
          exact q_iret K hr dX4_as_80
        · have i12 := neI c7
          refine q_iload_n (pc := 69) K dX4_as_69 rfl rfl ?_
          refine q_goto (pc := 70) (tgt := 80) K dX4_as_70 (by decide) ?_
          exact q_iret K hr dX4_as_80
      · have i18 := eqI c6
        refine q_aload_n (pc := 45) K dX4_as_45 rfl rfl ?_
        refine q_ldcw (pc := 46) (v := (-1000006)) K dX4_as_46 mX4_as_c268 ?_
        refine q_callVi (pc := 49) (o := 3) (rm := rmX4_found) K (kX4_found l hN hG (-1000006) σ hw) gX4_as_X4_found rfl hdV_X4_found ⟨Nat.le_of_ble_eq_true rfl, Nat.le_of_ble_eq_true rfl⟩ rfl rfl ⟨Nat.zero_le _, Nat.zero_le _⟩ (wO_x hG) vw_3 rfl rfl (Nat.le_of_ble_eq_true rfl) dX4_as_49 ?_
        refine qq_nmI (fun r13 e14 => ?_)
        have hw15 : WD r13.2 := by rw [e14]; exact wX4_found (-1000006) hw 
        exact q_iret K hr dX4_as_52
    · have i24 := eqI c5
      refine q_aload_n (pc := 17) K dX4_as_17 rfl rfl ?_
      refine q_ldc (pc := 18) (v := (-1000001)) K dX4_as_18 mX4_as_c53 ?_
      refine q_callVi (pc := 20) (o := 3) (rm := rmX4_found) K (kX4_found l hN hG (-1000001) σ hw) gX4_as_X4_found rfl hdV_X4_found ⟨Nat.le_of_ble_eq_true rfl, Nat.le_of_ble_eq_true rfl⟩ rfl rfl ⟨Nat.zero_le _, Nat.zero_le _⟩ (wO_x hG) vw_3 rfl rfl (Nat.le_of_ble_eq_true rfl) dX4_as_20 ?_
      refine qq_nmI (fun r19 e20 => ?_)
      have hw21 : WD r19.2 := by rw [e20]; exact wX4_found (-1000001) hw 
      exact q_iret K hr dX4_as_23
theorem hdV_X4_sheet : yX4_sheet.cls = RX4 ∧ yX4_sheet.cls ≠ "java/lang/invoke/MethodHandle" ∧ yX4_sheet.cls ≠ "java/lang/invoke/VarHandle" ∧ (parseMethodDescriptor yX4_sheet.desc).map (fun d => d.parameters.length) = some 3 := by decide +kernel
theorem mX4_sheet_c53 : Cond.constant RX4 53 (-1000001) ∈ wsX4_sheet := List.mem_of_getElem? (i := 1) rfl
theorem mX4_sheet_f35 : Cond.fieldLink RX4 35 "WaxTreaties" "sheets" "[LWaxTreaties$Sheet;" ∈ wsX4_sheet := List.mem_of_getElem? (i := 3) rfl
theorem iwX4_sheet_X4 : ∀ w ∈ wsX40, w ∈ wsX4_sheet := fun w h => List.mem_cons_of_mem _ (List.mem_append_left _ (List.mem_append_right _ h))
theorem mX4_sheet_f280 : Cond.fieldLink RX4 280 "WaxTreaties$Sheet" "size" "I" ∈ wsX4_sheet := List.mem_of_getElem? (i := 4) rfl
theorem iwX4_sheet_X2 : ∀ w ∈ wsX20, w ∈ wsX4_sheet := fun w h => List.mem_cons_of_mem _ (List.mem_append_right _ h)
theorem mX4_sheet_c276 : Cond.constant RX4 276 (-1000007) ∈ wsX4_sheet := List.mem_of_getElem? (i := 2) rfl
set_option maxRecDepth 100000 in
set_option maxHeartbeats 4000000 in
theorem kX4_sheet (l : Launch) {G : gT} (hN : wN G) (hG : gfl G = true) (v1 : Int32) (v2 : Int32) (v3 : Int32) (σ : sg) (hw : WD σ) : cM l yX4_sheet wsX4_sheet rmX4_sheet G [.ref (gob G 3), .int v1, .int v2, .int v3] σ (some (.int (fX4_sheet v1 v2 v3 σ).1)) (fX4_sheet v1 v2 v3 σ).2 := by
  refine cM_of (maxL := 4) (ret := (some .int)) (cc := cX4_sheet) (fX4_sheet v1 v2 v3 σ) RX4 hN (by decide +kernel) rfl rfl (Nat.le_of_ble_eq_true rfl) rfl ?_
  intro p e s m args below meth c K hr
  have km1000007 : ((-1000007) : Int32).toInt = -1000007 := rfl
  have km1000001 : ((-1000001) : Int32).toInt = -1000001 := rfl
  have k0 : (0 : Int32).toInt = 0 := rfl
  have k8 : (8 : Int32).toInt = 8 := rfl
  have k16 : (16 : Int32).toInt = 16 := rfl
  have k32 : (32 : Int32).toInt = 32 := rfl
  have k40 : (40 : Int32).toInt = 40 := rfl
  refine qq_st (lv' := [some (.ref (gob G 3)), some (.int v1), some (.int v2), some (.int v3)]) rfl rfl rfl ?_
  refine qq_T (fX4_sheet.eq_1 ..) ?_
  refine q_iload_n (pc := 0) K dX4_sheet_0 rfl rfl ?_
  refine q_callSi (pc := 1) (rm := rmX4_isSheet) K (kX4_isSheet l hN v1 σ) gX4_sheet_X4_isSheet rfl hdS_X4_isSheet ⟨Nat.le_of_ble_eq_true rfl, Nat.le_of_ble_eq_true rfl⟩ rfl rfl ⟨Nat.zero_le _, Nat.zero_le _⟩ rfl rfl (Nat.le_of_ble_eq_true rfl) dX4_sheet_1 ?_
  refine q_if_eq (pc := 4) (tgt := 29) K dX4_sheet_4 (by decide) (fun c1 => ?_) (fun c1 => ?_)
  · have i92 := eqI c1
    refine q_aload_n (pc := 29) K dX4_sheet_29 rfl rfl ?_
    refine q_ldc (pc := 30) (v := (-1000001)) K dX4_sheet_30 mX4_sheet_c53 ?_
    refine q_callVi (pc := 32) (o := 3) (rm := rmX4_found) K (kX4_found l hN hG (-1000001) σ hw) gX4_sheet_X4_found rfl hdV_X4_found ⟨Nat.le_of_ble_eq_true rfl, Nat.le_of_ble_eq_true rfl⟩ rfl rfl ⟨Nat.zero_le _, Nat.zero_le _⟩ (wO_x hG) vw_3 rfl rfl (Nat.le_of_ble_eq_true rfl) dX4_sheet_32 ?_
    refine qq_nmI (fun r2 e3 => ?_)
    have hw4 : WD r2.2 := by rw [e3]; exact wX4_found (-1000001) hw 
    exact q_iret K hr dX4_sheet_35
  · have i93 := neI c1
    have b94 := isH_t c1
    refine q_iload_n (pc := 7) K dX4_sheet_7 rfl rfl ?_
    refine q_if_eq (pc := 8) (tgt := 36) K dX4_sheet_8 (by decide) (fun c5 => ?_) (fun c5 => ?_)
    · have i90 := eqI c5
      refine q_iload_n (pc := 36) K dX4_sheet_36 rfl rfl ?_
      refine q_if_ge (pc := 37) (tgt := 48) K dX4_sheet_37 (by decide) (fun c6 => ?_) (fun c6 => ?_)
      · have i22 := leI c6
        refine q_iload_n (pc := 48) K dX4_sheet_48 rfl rfl ?_
        refine q_bipush (pc := 49) (v := 40) K dX4_sheet_49 (by decide) ?_
        refine q_icmp_le (pc := 51) (tgt := 61) K dX4_sheet_51 (by decide) (fun c7 => ?_) (fun c7 => ?_)
        · have i17 := leI c7
          refine q_aload_n (pc := 61) K dX4_sheet_61 rfl rfl ?_
          refine q_get (pc := 62) (o := 3) (f := 5) (v := .ref (gsa G)) K (wO_x hG) vw_3 iwX4_sheet_X4 (by decide) mX4_sheet_f35 rfl dX4_sheet_62 ?_
          refine q_iload_n (pc := 65) K dX4_sheet_65 rfl rfl ?_
          have t8 : v1.toNatClampNeg < 4 := clLt (n := 4) (by omega) (by omega)
          refine q_aald (pc := 66) K hG (vinM (n := 4) (by omega) (by omega)) dX4_sheet_66 ?_
          refine q_iload_n (pc := 67) K dX4_sheet_67 rfl rfl ?_
          refine q_iload_n (pc := 68) K dX4_sheet_68 rfl rfl ?_
          refine q_callVv (pc := 69) (o := (5 + (v1.toNatClampNeg))) (rm := rmX2_makeAnew) K (kX2_makeAnew l hN hG (v1.toNatClampNeg) t8 v2 v3 σ hw (by omega)) gX4_sheet_X2_makeAnew rfl hdV_X2_makeAnew ⟨Nat.le_of_ble_eq_true rfl, Nat.le_of_ble_eq_true rfl⟩ rfl rfl ⟨Nat.zero_le _, Nat.zero_le _⟩ (wO_sh hG t8) vw_1 rfl rfl (Nat.le_of_ble_eq_true rfl) dX4_sheet_69 ?_
          refine qq_nmV (fun r9 e10 => ?_)
          have hw11 : WD r9 := by rw [e10]; exact wX2_makeAnew (v1.toNatClampNeg) t8 v2 v3 hw (by omega)
          refine q_aload_n (pc := 72) K dX4_sheet_72 rfl rfl ?_
          refine q_get (pc := 73) (o := 3) (f := 5) (v := .ref (gsa G)) K (wO_x hG) vw_3 iwX4_sheet_X4 (by decide) mX4_sheet_f35 rfl dX4_sheet_73 ?_
          refine q_iload_n (pc := 76) K dX4_sheet_76 rfl rfl ?_
          have t12 : v1.toNatClampNeg < 4 := clLt (n := 4) (by omega) (by omega)
          refine q_aald (pc := 77) K hG (vinM (n := 4) (by omega) (by omega)) dX4_sheet_77 ?_
          refine q_get (pc := 78) (o := (5 + (v1.toNatClampNeg))) (f := 2) (v := .int (rF r9 (28 + 2 * (v1.toNatClampNeg)))) K (wO_sh hG t12) vw_1 iwX4_sheet_X2 (by decide) mX4_sheet_f280 rfl dX4_sheet_78 ?_
          have w13 := wd_size hw11 t12
          exact q_iret K hr dX4_sheet_81
        · have i18 := nleI c7
          refine q_aload_n (pc := 54) K dX4_sheet_54 rfl rfl ?_
          refine q_ldc (pc := 55) (v := (-1000001)) K dX4_sheet_55 mX4_sheet_c53 ?_
          refine q_callVi (pc := 57) (o := 3) (rm := rmX4_found) K (kX4_found l hN hG (-1000001) σ hw) gX4_sheet_X4_found rfl hdV_X4_found ⟨Nat.le_of_ble_eq_true rfl, Nat.le_of_ble_eq_true rfl⟩ rfl rfl ⟨Nat.zero_le _, Nat.zero_le _⟩ (wO_x hG) vw_3 rfl rfl (Nat.le_of_ble_eq_true rfl) dX4_sheet_57 ?_
          refine qq_nmI (fun r14 e15 => ?_)
          have hw16 : WD r14.2 := by rw [e15]; exact wX4_found (-1000001) hw 
          exact q_iret K hr dX4_sheet_60
      · have i23 := nleI c6
        refine q_aload_n (pc := 40) K dX4_sheet_40 rfl rfl ?_
        refine q_ldcw (pc := 41) (v := (-1000007)) K dX4_sheet_41 mX4_sheet_c276 ?_
        refine q_callVi (pc := 44) (o := 3) (rm := rmX4_found) K (kX4_found l hN hG (-1000007) σ hw) gX4_sheet_X4_found rfl hdV_X4_found ⟨Nat.le_of_ble_eq_true rfl, Nat.le_of_ble_eq_true rfl⟩ rfl rfl ⟨Nat.zero_le _, Nat.zero_le _⟩ (wO_x hG) vw_3 rfl rfl (Nat.le_of_ble_eq_true rfl) dX4_sheet_44 ?_
        refine qq_nmI (fun r19 e20 => ?_)
        have hw21 : WD r19.2 := by rw [e20]; exact wX4_found (-1000007) hw 
        exact q_iret K hr dX4_sheet_47
    · have i91 := neI c5
      refine q_iload_n (pc := 11) K dX4_sheet_11 rfl rfl ?_
      refine q_bipush (pc := 12) (v := 8) K dX4_sheet_12 (by decide) ?_
      refine q_icmp_eq (pc := 14) (tgt := 36) K dX4_sheet_14 (by decide) (fun c24 => ?_) (fun c24 => ?_)
      · have i88 := eqI c24
        refine q_iload_n (pc := 36) K dX4_sheet_36 rfl rfl ?_
        refine q_if_ge (pc := 37) (tgt := 48) K dX4_sheet_37 (by decide) (fun c25 => ?_) (fun c25 => ?_)
        · have i41 := leI c25
          refine q_iload_n (pc := 48) K dX4_sheet_48 rfl rfl ?_
          refine q_bipush (pc := 49) (v := 40) K dX4_sheet_49 (by decide) ?_
          refine q_icmp_le (pc := 51) (tgt := 61) K dX4_sheet_51 (by decide) (fun c26 => ?_) (fun c26 => ?_)
          · have i36 := leI c26
            refine q_aload_n (pc := 61) K dX4_sheet_61 rfl rfl ?_
            refine q_get (pc := 62) (o := 3) (f := 5) (v := .ref (gsa G)) K (wO_x hG) vw_3 iwX4_sheet_X4 (by decide) mX4_sheet_f35 rfl dX4_sheet_62 ?_
            refine q_iload_n (pc := 65) K dX4_sheet_65 rfl rfl ?_
            have t27 : v1.toNatClampNeg < 4 := clLt (n := 4) (by omega) (by omega)
            refine q_aald (pc := 66) K hG (vinM (n := 4) (by omega) (by omega)) dX4_sheet_66 ?_
            refine q_iload_n (pc := 67) K dX4_sheet_67 rfl rfl ?_
            refine q_iload_n (pc := 68) K dX4_sheet_68 rfl rfl ?_
            refine q_callVv (pc := 69) (o := (5 + (v1.toNatClampNeg))) (rm := rmX2_makeAnew) K (kX2_makeAnew l hN hG (v1.toNatClampNeg) t27 v2 v3 σ hw (by omega)) gX4_sheet_X2_makeAnew rfl hdV_X2_makeAnew ⟨Nat.le_of_ble_eq_true rfl, Nat.le_of_ble_eq_true rfl⟩ rfl rfl ⟨Nat.zero_le _, Nat.zero_le _⟩ (wO_sh hG t27) vw_1 rfl rfl (Nat.le_of_ble_eq_true rfl) dX4_sheet_69 ?_
            refine qq_nmV (fun r28 e29 => ?_)
            have hw30 : WD r28 := by rw [e29]; exact wX2_makeAnew (v1.toNatClampNeg) t27 v2 v3 hw (by omega)
            refine q_aload_n (pc := 72) K dX4_sheet_72 rfl rfl ?_
            refine q_get (pc := 73) (o := 3) (f := 5) (v := .ref (gsa G)) K (wO_x hG) vw_3 iwX4_sheet_X4 (by decide) mX4_sheet_f35 rfl dX4_sheet_73 ?_
            refine q_iload_n (pc := 76) K dX4_sheet_76 rfl rfl ?_
            have t31 : v1.toNatClampNeg < 4 := clLt (n := 4) (by omega) (by omega)
            refine q_aald (pc := 77) K hG (vinM (n := 4) (by omega) (by omega)) dX4_sheet_77 ?_
            refine q_get (pc := 78) (o := (5 + (v1.toNatClampNeg))) (f := 2) (v := .int (rF r28 (28 + 2 * (v1.toNatClampNeg)))) K (wO_sh hG t31) vw_1 iwX4_sheet_X2 (by decide) mX4_sheet_f280 rfl dX4_sheet_78 ?_
            have w32 := wd_size hw30 t31
            exact q_iret K hr dX4_sheet_81
          · have i37 := nleI c26
            refine q_aload_n (pc := 54) K dX4_sheet_54 rfl rfl ?_
            refine q_ldc (pc := 55) (v := (-1000001)) K dX4_sheet_55 mX4_sheet_c53 ?_
            refine q_callVi (pc := 57) (o := 3) (rm := rmX4_found) K (kX4_found l hN hG (-1000001) σ hw) gX4_sheet_X4_found rfl hdV_X4_found ⟨Nat.le_of_ble_eq_true rfl, Nat.le_of_ble_eq_true rfl⟩ rfl rfl ⟨Nat.zero_le _, Nat.zero_le _⟩ (wO_x hG) vw_3 rfl rfl (Nat.le_of_ble_eq_true rfl) dX4_sheet_57 ?_
            refine qq_nmI (fun r33 e34 => ?_)
            have hw35 : WD r33.2 := by rw [e34]; exact wX4_found (-1000001) hw 
            exact q_iret K hr dX4_sheet_60
        · have i42 := nleI c25
          refine q_aload_n (pc := 40) K dX4_sheet_40 rfl rfl ?_
          refine q_ldcw (pc := 41) (v := (-1000007)) K dX4_sheet_41 mX4_sheet_c276 ?_
          refine q_callVi (pc := 44) (o := 3) (rm := rmX4_found) K (kX4_found l hN hG (-1000007) σ hw) gX4_sheet_X4_found rfl hdV_X4_found ⟨Nat.le_of_ble_eq_true rfl, Nat.le_of_ble_eq_true rfl⟩ rfl rfl ⟨Nat.zero_le _, Nat.zero_le _⟩ (wO_x hG) vw_3 rfl rfl (Nat.le_of_ble_eq_true rfl) dX4_sheet_44 ?_
          refine qq_nmI (fun r38 e39 => ?_)
          have hw40 : WD r38.2 := by rw [e39]; exact wX4_found (-1000007) hw 
          exact q_iret K hr dX4_sheet_47
      · have i89 := neI c24
        refine q_iload_n (pc := 17) K dX4_sheet_17 rfl rfl ?_
        refine q_bipush (pc := 18) (v := 16) K dX4_sheet_18 (by decide) ?_
        refine q_icmp_eq (pc := 20) (tgt := 36) K dX4_sheet_20 (by decide) (fun c43 => ?_) (fun c43 => ?_)
        · have i86 := eqI c43
          refine q_iload_n (pc := 36) K dX4_sheet_36 rfl rfl ?_
          refine q_if_ge (pc := 37) (tgt := 48) K dX4_sheet_37 (by decide) (fun c44 => ?_) (fun c44 => ?_)
          · have i60 := leI c44
            refine q_iload_n (pc := 48) K dX4_sheet_48 rfl rfl ?_
            refine q_bipush (pc := 49) (v := 40) K dX4_sheet_49 (by decide) ?_
            refine q_icmp_le (pc := 51) (tgt := 61) K dX4_sheet_51 (by decide) (fun c45 => ?_) (fun c45 => ?_)
            · have i55 := leI c45
              refine q_aload_n (pc := 61) K dX4_sheet_61 rfl rfl ?_
              refine q_get (pc := 62) (o := 3) (f := 5) (v := .ref (gsa G)) K (wO_x hG) vw_3 iwX4_sheet_X4 (by decide) mX4_sheet_f35 rfl dX4_sheet_62 ?_
              refine q_iload_n (pc := 65) K dX4_sheet_65 rfl rfl ?_
              have t46 : v1.toNatClampNeg < 4 := clLt (n := 4) (by omega) (by omega)
              refine q_aald (pc := 66) K hG (vinM (n := 4) (by omega) (by omega)) dX4_sheet_66 ?_
              refine q_iload_n (pc := 67) K dX4_sheet_67 rfl rfl ?_
              refine q_iload_n (pc := 68) K dX4_sheet_68 rfl rfl ?_
              refine q_callVv (pc := 69) (o := (5 + (v1.toNatClampNeg))) (rm := rmX2_makeAnew) K (kX2_makeAnew l hN hG (v1.toNatClampNeg) t46 v2 v3 σ hw (by omega)) gX4_sheet_X2_makeAnew rfl hdV_X2_makeAnew ⟨Nat.le_of_ble_eq_true rfl, Nat.le_of_ble_eq_true rfl⟩ rfl rfl ⟨Nat.zero_le _, Nat.zero_le _⟩ (wO_sh hG t46) vw_1 rfl rfl (Nat.le_of_ble_eq_true rfl) dX4_sheet_69 ?_
              refine qq_nmV (fun r47 e48 => ?_)
              have hw49 : WD r47 := by rw [e48]; exact wX2_makeAnew (v1.toNatClampNeg) t46 v2 v3 hw (by omega)
              refine q_aload_n (pc := 72) K dX4_sheet_72 rfl rfl ?_
              refine q_get (pc := 73) (o := 3) (f := 5) (v := .ref (gsa G)) K (wO_x hG) vw_3 iwX4_sheet_X4 (by decide) mX4_sheet_f35 rfl dX4_sheet_73 ?_
              refine q_iload_n (pc := 76) K dX4_sheet_76 rfl rfl ?_
              have t50 : v1.toNatClampNeg < 4 := clLt (n := 4) (by omega) (by omega)
              refine q_aald (pc := 77) K hG (vinM (n := 4) (by omega) (by omega)) dX4_sheet_77 ?_
              refine q_get (pc := 78) (o := (5 + (v1.toNatClampNeg))) (f := 2) (v := .int (rF r47 (28 + 2 * (v1.toNatClampNeg)))) K (wO_sh hG t50) vw_1 iwX4_sheet_X2 (by decide) mX4_sheet_f280 rfl dX4_sheet_78 ?_
              have w51 := wd_size hw49 t50
              exact q_iret K hr dX4_sheet_81
            · have i56 := nleI c45
              refine q_aload_n (pc := 54) K dX4_sheet_54 rfl rfl ?_
              refine q_ldc (pc := 55) (v := (-1000001)) K dX4_sheet_55 mX4_sheet_c53 ?_
              refine q_callVi (pc := 57) (o := 3) (rm := rmX4_found) K (kX4_found l hN hG (-1000001) σ hw) gX4_sheet_X4_found rfl hdV_X4_found ⟨Nat.le_of_ble_eq_true rfl, Nat.le_of_ble_eq_true rfl⟩ rfl rfl ⟨Nat.zero_le _, Nat.zero_le _⟩ (wO_x hG) vw_3 rfl rfl (Nat.le_of_ble_eq_true rfl) dX4_sheet_57 ?_
              refine qq_nmI (fun r52 e53 => ?_)
              have hw54 : WD r52.2 := by rw [e53]; exact wX4_found (-1000001) hw 
              exact q_iret K hr dX4_sheet_60
          · have i61 := nleI c44
            refine q_aload_n (pc := 40) K dX4_sheet_40 rfl rfl ?_
            refine q_ldcw (pc := 41) (v := (-1000007)) K dX4_sheet_41 mX4_sheet_c276 ?_
            refine q_callVi (pc := 44) (o := 3) (rm := rmX4_found) K (kX4_found l hN hG (-1000007) σ hw) gX4_sheet_X4_found rfl hdV_X4_found ⟨Nat.le_of_ble_eq_true rfl, Nat.le_of_ble_eq_true rfl⟩ rfl rfl ⟨Nat.zero_le _, Nat.zero_le _⟩ (wO_x hG) vw_3 rfl rfl (Nat.le_of_ble_eq_true rfl) dX4_sheet_44 ?_
            refine qq_nmI (fun r57 e58 => ?_)
            have hw59 : WD r57.2 := by rw [e58]; exact wX4_found (-1000007) hw 
            exact q_iret K hr dX4_sheet_47
        · have i87 := neI c43
          refine q_iload_n (pc := 23) K dX4_sheet_23 rfl rfl ?_
          refine q_bipush (pc := 24) (v := 32) K dX4_sheet_24 (by decide) ?_
          refine q_icmp_eq (pc := 26) (tgt := 36) K dX4_sheet_26 (by decide) (fun c62 => ?_) (fun c62 => ?_)
          · have i84 := eqI c62
            refine q_iload_n (pc := 36) K dX4_sheet_36 rfl rfl ?_
            refine q_if_ge (pc := 37) (tgt := 48) K dX4_sheet_37 (by decide) (fun c63 => ?_) (fun c63 => ?_)
            · have i79 := leI c63
              refine q_iload_n (pc := 48) K dX4_sheet_48 rfl rfl ?_
              refine q_bipush (pc := 49) (v := 40) K dX4_sheet_49 (by decide) ?_
              refine q_icmp_le (pc := 51) (tgt := 61) K dX4_sheet_51 (by decide) (fun c64 => ?_) (fun c64 => ?_)
              · have i74 := leI c64
                refine q_aload_n (pc := 61) K dX4_sheet_61 rfl rfl ?_
                refine q_get (pc := 62) (o := 3) (f := 5) (v := .ref (gsa G)) K (wO_x hG) vw_3 iwX4_sheet_X4 (by decide) mX4_sheet_f35 rfl dX4_sheet_62 ?_
                refine q_iload_n (pc := 65) K dX4_sheet_65 rfl rfl ?_
                have t65 : v1.toNatClampNeg < 4 := clLt (n := 4) (by omega) (by omega)
                refine q_aald (pc := 66) K hG (vinM (n := 4) (by omega) (by omega)) dX4_sheet_66 ?_
                refine q_iload_n (pc := 67) K dX4_sheet_67 rfl rfl ?_
                refine q_iload_n (pc := 68) K dX4_sheet_68 rfl rfl ?_
                refine q_callVv (pc := 69) (o := (5 + (v1.toNatClampNeg))) (rm := rmX2_makeAnew) K (kX2_makeAnew l hN hG (v1.toNatClampNeg) t65 v2 v3 σ hw (by omega)) gX4_sheet_X2_makeAnew rfl hdV_X2_makeAnew ⟨Nat.le_of_ble_eq_true rfl, Nat.le_of_ble_eq_true rfl⟩ rfl rfl ⟨Nat.zero_le _, Nat.zero_le _⟩ (wO_sh hG t65) vw_1 rfl rfl (Nat.le_of_ble_eq_true rfl) dX4_sheet_69 ?_
                refine qq_nmV (fun r66 e67 => ?_)
                have hw68 : WD r66 := by rw [e67]; exact wX2_makeAnew (v1.toNatClampNeg) t65 v2 v3 hw (by omega)
                refine q_aload_n (pc := 72) K dX4_sheet_72 rfl rfl ?_
                refine q_get (pc := 73) (o := 3) (f := 5) (v := .ref (gsa G)) K (wO_x hG) vw_3 iwX4_sheet_X4 (by decide) mX4_sheet_f35 rfl dX4_sheet_73 ?_
                refine q_iload_n (pc := 76) K dX4_sheet_76 rfl rfl ?_
                have t69 : v1.toNatClampNeg < 4 := clLt (n := 4) (by omega) (by omega)
                refine q_aald (pc := 77) K hG (vinM (n := 4) (by omega) (by omega)) dX4_sheet_77 ?_
                refine q_get (pc := 78) (o := (5 + (v1.toNatClampNeg))) (f := 2) (v := .int (rF r66 (28 + 2 * (v1.toNatClampNeg)))) K (wO_sh hG t69) vw_1 iwX4_sheet_X2 (by decide) mX4_sheet_f280 rfl dX4_sheet_78 ?_
                have w70 := wd_size hw68 t69
                exact q_iret K hr dX4_sheet_81
              · have i75 := nleI c64
                refine q_aload_n (pc := 54) K dX4_sheet_54 rfl rfl ?_
                refine q_ldc (pc := 55) (v := (-1000001)) K dX4_sheet_55 mX4_sheet_c53 ?_
                refine q_callVi (pc := 57) (o := 3) (rm := rmX4_found) K (kX4_found l hN hG (-1000001) σ hw) gX4_sheet_X4_found rfl hdV_X4_found ⟨Nat.le_of_ble_eq_true rfl, Nat.le_of_ble_eq_true rfl⟩ rfl rfl ⟨Nat.zero_le _, Nat.zero_le _⟩ (wO_x hG) vw_3 rfl rfl (Nat.le_of_ble_eq_true rfl) dX4_sheet_57 ?_
                refine qq_nmI (fun r71 e72 => ?_)
                have hw73 : WD r71.2 := by rw [e72]; exact wX4_found (-1000001) hw 
                exact q_iret K hr dX4_sheet_60
            · have i80 := nleI c63
              refine q_aload_n (pc := 40) K dX4_sheet_40 rfl rfl ?_
              refine q_ldcw (pc := 41) (v := (-1000007)) K dX4_sheet_41 mX4_sheet_c276 ?_
              refine q_callVi (pc := 44) (o := 3) (rm := rmX4_found) K (kX4_found l hN hG (-1000007) σ hw) gX4_sheet_X4_found rfl hdV_X4_found ⟨Nat.le_of_ble_eq_true rfl, Nat.le_of_ble_eq_true rfl⟩ rfl rfl ⟨Nat.zero_le _, Nat.zero_le _⟩ (wO_x hG) vw_3 rfl rfl (Nat.le_of_ble_eq_true rfl) dX4_sheet_44 ?_
              refine qq_nmI (fun r76 e77 => ?_)
              have hw78 : WD r76.2 := by rw [e77]; exact wX4_found (-1000007) hw 
              exact q_iret K hr dX4_sheet_47
          · have i85 := neI c62
            refine q_aload_n (pc := 29) K dX4_sheet_29 rfl rfl ?_
            refine q_ldc (pc := 30) (v := (-1000001)) K dX4_sheet_30 mX4_sheet_c53 ?_
            refine q_callVi (pc := 32) (o := 3) (rm := rmX4_found) K (kX4_found l hN hG (-1000001) σ hw) gX4_sheet_X4_found rfl hdV_X4_found ⟨Nat.le_of_ble_eq_true rfl, Nat.le_of_ble_eq_true rfl⟩ rfl rfl ⟨Nat.zero_le _, Nat.zero_le _⟩ (wO_x hG) vw_3 rfl rfl (Nat.le_of_ble_eq_true rfl) dX4_sheet_32 ?_
            refine qq_nmI (fun r81 e82 => ?_)
            have hw83 : WD r81.2 := by rw [e82]; exact wX4_found (-1000001) hw 
            exact q_iret K hr dX4_sheet_35
theorem hdV_X4_write : yX4_write.cls = RX4 ∧ yX4_write.cls ≠ "java/lang/invoke/MethodHandle" ∧ yX4_write.cls ≠ "java/lang/invoke/VarHandle" ∧ (parseMethodDescriptor yX4_write.desc).map (fun d => d.parameters.length) = some 3 := by decide +kernel
theorem mX4_write_f35 : Cond.fieldLink RX4 35 "WaxTreaties" "sheets" "[LWaxTreaties$Sheet;" ∈ wsX4_write := List.mem_of_getElem? (i := 1) rfl
theorem iwX4_write_X4 : ∀ w ∈ wsX40, w ∈ wsX4_write := fun w h => List.mem_cons_of_mem _ (List.mem_append_left _ (List.mem_append_right _ h))
theorem mX4_write_f280 : Cond.fieldLink RX4 280 "WaxTreaties$Sheet" "size" "I" ∈ wsX4_write := List.mem_of_getElem? (i := 2) rfl
theorem iwX4_write_X2 : ∀ w ∈ wsX20, w ∈ wsX4_write := fun w h => List.mem_cons_of_mem _ (List.mem_append_right _ h)
theorem mX4_write_f286 : Cond.fieldLink RX4 286 "WaxTreaties$Sheet" "numbers" "[I" ∈ wsX4_write := List.mem_of_getElem? (i := 4) rfl
theorem mX4_write_c53 : Cond.constant RX4 53 (-1000001) ∈ wsX4_write := List.mem_of_getElem? (i := 3) rfl
set_option maxRecDepth 100000 in
set_option maxHeartbeats 4000000 in
theorem kX4_write (l : Launch) {G : gT} (hN : wN G) (hG : gfl G = true) (v1 : Int32) (v2 : Int32) (v3 : Int32) (σ : sg) (hw : WD σ) : cM l yX4_write wsX4_write rmX4_write G [.ref (gob G 3), .int v1, .int v2, .int v3] σ (some (.int (fX4_write v1 v2 v3 σ).1)) (fX4_write v1 v2 v3 σ).2 := by
  refine cM_of (maxL := 5) (ret := (some .int)) (cc := cX4_write) (fX4_write v1 v2 v3 σ) RX4 hN (by decide +kernel) rfl rfl (Nat.le_of_ble_eq_true rfl) rfl ?_
  intro p e s m args below meth c K hr
  have km1000001 : ((-1000001) : Int32).toInt = -1000001 := rfl
  have k0 : (0 : Int32).toInt = 0 := rfl
  have k1 : (1 : Int32).toInt = 1 := rfl
  refine qq_st (lv' := [some (.ref (gob G 3)), some (.int v1), some (.int v2), some (.int v3), none]) rfl rfl rfl ?_
  refine qq_T (fX4_write.eq_1 ..) ?_
  refine q_aload_n (pc := 0) K dX4_write_0 rfl rfl ?_
  refine q_iload_n (pc := 1) K dX4_write_1 rfl rfl ?_
  refine q_callVi (pc := 2) (o := 3) (rm := rmX4_refusalOfSheet) K (kX4_refusalOfSheet l hN hG v1 σ hw) gX4_write_X4_refusalOfSheet rfl hdV_X4_refusalOfSheet ⟨Nat.le_of_ble_eq_true rfl, Nat.le_of_ble_eq_true rfl⟩ rfl rfl ⟨Nat.zero_le _, Nat.zero_le _⟩ (wO_x hG) vw_3 rfl rfl (Nat.le_of_ble_eq_true rfl) dX4_write_2 ?_
  refine q_istore (pc := 5) (lv' := [some (.ref (gob G 3)), some (.int v1), some (.int v2), some (.int v3), some (.int (fX4_refusalOfSheet v1 σ))]) K dX4_write_5 (by decide) (Nat.le_of_ble_eq_true rfl) rfl ?_
  refine q_iload (pc := 7) K dX4_write_7 rfl ?_
  refine q_if_eq (pc := 9) (tgt := 19) K dX4_write_9 (by decide) (fun c1 => ?_) (fun c1 => ?_)
  · have i21 := eqI c1
    have b22 := refS_f c1
    refine q_iload_n (pc := 19) K dX4_write_19 rfl rfl ?_
    refine q_iconst (pc := 20) (v := 0) K dX4_write_20 (by decide) ?_
    refine q_aload_n (pc := 21) K dX4_write_21 rfl rfl ?_
    refine q_get (pc := 22) (o := 3) (f := 5) (v := .ref (gsa G)) K (wO_x hG) vw_3 iwX4_write_X4 (by decide) mX4_write_f35 rfl dX4_write_22 ?_
    refine q_iload_n (pc := 25) K dX4_write_25 rfl rfl ?_
    have t2 : v1.toNatClampNeg < 4 := clLt (n := 4) (by omega) (by omega)
    refine q_aald (pc := 26) K hG (vinM (n := 4) (by omega) (by omega)) dX4_write_26 ?_
    refine q_get (pc := 27) (o := (5 + (v1.toNatClampNeg))) (f := 2) (v := .int (rF σ (28 + 2 * (v1.toNatClampNeg)))) K (wO_sh hG t2) vw_1 iwX4_write_X2 (by decide) mX4_write_f280 rfl dX4_write_27 ?_
    have w3 := wd_size hw t2
    refine q_iconst (pc := 30) (v := 1) K dX4_write_30 (by decide) ?_
    refine q_isub (pc := 31) K dX4_write_31 ?_
    have a4 := subI (x := (rF σ (28 + 2 * (v1.toNatClampNeg)))) (y := 1) (by omega) (by omega)
    refine q_callSi (pc := 32) (rm := rmX4_isWithin) K (kX4_isWithin l hN v2 0 ((rF σ (28 + 2 * (v1.toNatClampNeg))) - 1) σ) gX4_write_X4_isWithin rfl hdS_X4_isWithin ⟨Nat.le_of_ble_eq_true rfl, Nat.le_of_ble_eq_true rfl⟩ rfl rfl ⟨Nat.zero_le _, Nat.zero_le _⟩ rfl rfl (Nat.le_of_ble_eq_true rfl) dX4_write_32 ?_
    refine q_if_ne (pc := 35) (tgt := 45) K dX4_write_35 (by decide) (fun c5 => ?_) (fun c5 => ?_)
    · have i14 := neI c5
      have b15 := isW_t c5
      refine q_aload_n (pc := 45) K dX4_write_45 rfl rfl ?_
      refine q_get (pc := 46) (o := 3) (f := 5) (v := .ref (gsa G)) K (wO_x hG) vw_3 iwX4_write_X4 (by decide) mX4_write_f35 rfl dX4_write_46 ?_
      refine q_iload_n (pc := 49) K dX4_write_49 rfl rfl ?_
      have t6 : v1.toNatClampNeg < 4 := clLt (n := 4) (by omega) (by omega)
      refine q_aald (pc := 50) K hG (vinM (n := 4) (by omega) (by omega)) dX4_write_50 ?_
      refine q_get (pc := 51) (o := (5 + (v1.toNatClampNeg))) (f := 0) (v := .ref (gad G (25 + (v1.toNatClampNeg)))) K (wO_sh hG t6) vw_1 iwX4_write_X2 (by decide) mX4_write_f286 rfl dX4_write_51 ?_
      refine q_iload_n (pc := 54) K dX4_write_54 rfl rfl ?_
      refine q_aload_n (pc := 55) K dX4_write_55 rfl rfl ?_
      refine q_get (pc := 56) (o := 3) (f := 5) (v := .ref (gsa G)) K (wO_x hG) vw_3 iwX4_write_X4 (by decide) mX4_write_f35 rfl dX4_write_56 ?_
      refine q_iload_n (pc := 59) K dX4_write_59 rfl rfl ?_
      have t7 : v1.toNatClampNeg < 4 := clLt (n := 4) (by omega) (by omega)
      refine q_aald (pc := 60) K hG (vinM (n := 4) (by omega) (by omega)) dX4_write_60 ?_
      refine q_iload_n (pc := 61) K dX4_write_61 rfl rfl ?_
      refine q_callVi (pc := 62) (o := (5 + (v1.toNatClampNeg))) (rm := rmX2_lowestBits) K (kX2_lowestBits l hN hG (v1.toNatClampNeg) t7 v3 σ hw) gX4_write_X2_lowestBits rfl hdV_X2_lowestBits ⟨Nat.le_of_ble_eq_true rfl, Nat.le_of_ble_eq_true rfl⟩ rfl rfl ⟨Nat.zero_le _, Nat.zero_le _⟩ (wO_sh hG t7) vw_1 rfl rfl (Nat.le_of_ble_eq_true rfl) dX4_write_62 ?_
      refine q_iast (pc := 65) (a := 25 + (v1.toNatClampNeg)) K (by rw [wna_t hG]; have := t6; omega) (vinN (wls hG t6) (by omega) (by omega)) dX4_write_65 (fun s8 e9 => ?_)
      have hw10 : WD s8 := by rw [e9]; exact wdA hw (by have := t6; omega)
      refine q_iconst (pc := 66) (v := 1) K dX4_write_66 (by decide) ?_
      exact q_iret K hr dX4_write_67
    · have i16 := eqI c5
      have b17 := isW_f c5
      refine q_aload_n (pc := 38) K dX4_write_38 rfl rfl ?_
      refine q_ldc (pc := 39) (v := (-1000001)) K dX4_write_39 mX4_write_c53 ?_
      refine q_callVi (pc := 41) (o := 3) (rm := rmX4_found) K (kX4_found l hN hG (-1000001) σ hw) gX4_write_X4_found rfl hdV_X4_found ⟨Nat.le_of_ble_eq_true rfl, Nat.le_of_ble_eq_true rfl⟩ rfl rfl ⟨Nat.zero_le _, Nat.zero_le _⟩ (wO_x hG) vw_3 rfl rfl (Nat.le_of_ble_eq_true rfl) dX4_write_41 ?_
      refine qq_nmI (fun r11 e12 => ?_)
      have hw13 : WD r11.2 := by rw [e12]; exact wX4_found (-1000001) hw 
      exact q_iret K hr dX4_write_44
  · have i23 := neI c1
    refine q_aload_n (pc := 12) K dX4_write_12 rfl rfl ?_
    refine q_iload (pc := 13) K dX4_write_13 rfl ?_
    refine q_callVi (pc := 15) (o := 3) (rm := rmX4_found) K (kX4_found l hN hG (fX4_refusalOfSheet v1 σ) σ hw) gX4_write_X4_found rfl hdV_X4_found ⟨Nat.le_of_ble_eq_true rfl, Nat.le_of_ble_eq_true rfl⟩ rfl rfl ⟨Nat.zero_le _, Nat.zero_le _⟩ (wO_x hG) vw_3 rfl rfl (Nat.le_of_ble_eq_true rfl) dX4_write_15 ?_
    refine qq_nmI (fun r18 e19 => ?_)
    have hw20 : WD r18.2 := by rw [e19]; exact wX4_found (fX4_refusalOfSheet v1 σ) hw 
    exact q_iret K hr dX4_write_18
theorem hdV_X4_copy : yX4_copy.cls = RX4 ∧ yX4_copy.cls ≠ "java/lang/invoke/MethodHandle" ∧ yX4_copy.cls ≠ "java/lang/invoke/VarHandle" ∧ (parseMethodDescriptor yX4_copy.desc).map (fun d => d.parameters.length) = some 5 := by decide +kernel
theorem mX4_copy_c53 : Cond.constant RX4 53 (-1000001) ∈ wsX4_copy := List.mem_of_getElem? (i := 1) rfl
theorem mX4_copy_f35 : Cond.fieldLink RX4 35 "WaxTreaties" "sheets" "[LWaxTreaties$Sheet;" ∈ wsX4_copy := List.mem_of_getElem? (i := 2) rfl
theorem iwX4_copy_X4 : ∀ w ∈ wsX40, w ∈ wsX4_copy := fun w h => List.mem_cons_of_mem _ (List.mem_append_left _ (List.mem_append_right _ h))
theorem mX4_copy_c268 : Cond.constant RX4 268 (-1000006) ∈ wsX4_copy := List.mem_of_getElem? (i := 3) rfl
theorem mX4_copy_f295 : Cond.fieldLink RX4 295 "WaxTreaties$Sheet" "bits" "I" ∈ wsX4_copy := List.mem_of_getElem? (i := 4) rfl
theorem iwX4_copy_X2 : ∀ w ∈ wsX20, w ∈ wsX4_copy := fun w h => List.mem_cons_of_mem _ (List.mem_append_right _ h)
theorem mX4_copy_f286 : Cond.fieldLink RX4 286 "WaxTreaties$Sheet" "numbers" "[I" ∈ wsX4_copy := List.mem_of_getElem? (i := 6) rfl
theorem mX4_copy_l301 : Cond.methodLink RX4 301 arraycopyName ∈ wsX4_copy := List.mem_of_getElem? (i := 7) rfl
theorem mX4_copy_n301 : Cond.native arraycopyName ∈ wsX4_copy := List.mem_of_getElem? (i := 8) rfl
theorem mX4_copy_s301 : Cond.static arraycopyName ∈ wsX4_copy := List.mem_of_getElem? (i := 9) rfl
theorem mX4_copy_iS : Cond.initialized "java/lang/System" ∈ wsX4_copy := List.mem_of_getElem? (i := 10) rfl
theorem mX4_copy_c272 : Cond.constant RX4 272 (-1000003) ∈ wsX4_copy := List.mem_of_getElem? (i := 5) rfl
set_option maxRecDepth 100000 in
set_option maxHeartbeats 4000000 in
theorem kX4_copy (l : Launch) {G : gT} (hN : wN G) (hG : gfl G = true) (v1 : Int32) (v2 : Int32) (v3 : Int32) (v4 : Int32) (v5 : Int32) (σ : sg) (hw : WD σ) : cM l yX4_copy wsX4_copy rmX4_copy G [.ref (gob G 3), .int v1, .int v2, .int v3, .int v4, .int v5] σ (some (.int (fX4_copy v1 v2 v3 v4 v5 σ).1)) (fX4_copy v1 v2 v3 v4 v5 σ).2 := by
  refine cM_of (maxL := 8) (ret := (some .int)) (cc := cX4_copy) (fX4_copy v1 v2 v3 v4 v5 σ) RX4 hN (by decide +kernel) rfl rfl (Nat.le_of_ble_eq_true rfl) rfl ?_
  intro p e s m args below meth c K hr
  have km1000006 : ((-1000006) : Int32).toInt = -1000006 := rfl
  have km1000003 : ((-1000003) : Int32).toInt = -1000003 := rfl
  have km1000001 : ((-1000001) : Int32).toInt = -1000001 := rfl
  have k0 : (0 : Int32).toInt = 0 := rfl
  refine qq_st (lv' := [some (.ref (gob G 3)), some (.int v1), some (.int v2), some (.int v3), some (.int v4), some (.int v5), none, none]) rfl rfl rfl ?_
  refine qq_T (fX4_copy.eq_1 ..) ?_
  refine q_iload_n (pc := 0) K dX4_copy_0 rfl rfl ?_
  refine q_callSi (pc := 1) (rm := rmX4_isSheet) K (kX4_isSheet l hN v1 σ) gX4_copy_X4_isSheet rfl hdS_X4_isSheet ⟨Nat.le_of_ble_eq_true rfl, Nat.le_of_ble_eq_true rfl⟩ rfl rfl ⟨Nat.zero_le _, Nat.zero_le _⟩ rfl rfl (Nat.le_of_ble_eq_true rfl) dX4_copy_1 ?_
  refine q_if_eq (pc := 4) (tgt := 14) K dX4_copy_4 (by decide) (fun c1 => ?_) (fun c1 => ?_)
  · have i49 := eqI c1
    refine q_aload_n (pc := 14) K dX4_copy_14 rfl rfl ?_
    refine q_ldc (pc := 15) (v := (-1000001)) K dX4_copy_15 mX4_copy_c53 ?_
    refine q_callVi (pc := 17) (o := 3) (rm := rmX4_found) K (kX4_found l hN hG (-1000001) σ hw) gX4_copy_X4_found rfl hdV_X4_found ⟨Nat.le_of_ble_eq_true rfl, Nat.le_of_ble_eq_true rfl⟩ rfl rfl ⟨Nat.zero_le _, Nat.zero_le _⟩ (wO_x hG) vw_3 rfl rfl (Nat.le_of_ble_eq_true rfl) dX4_copy_17 ?_
    refine qq_nmI (fun r2 e3 => ?_)
    have hw4 : WD r2.2 := by rw [e3]; exact wX4_found (-1000001) hw 
    exact q_iret K hr dX4_copy_20
  · have i50 := neI c1
    have b51 := isH_t c1
    refine q_iload_n (pc := 7) K dX4_copy_7 rfl rfl ?_
    refine q_callSi (pc := 8) (rm := rmX4_isSheet) K (kX4_isSheet l hN v3 σ) gX4_copy_X4_isSheet rfl hdS_X4_isSheet ⟨Nat.le_of_ble_eq_true rfl, Nat.le_of_ble_eq_true rfl⟩ rfl rfl ⟨Nat.zero_le _, Nat.zero_le _⟩ rfl rfl (Nat.le_of_ble_eq_true rfl) dX4_copy_8 ?_
    refine q_if_ne (pc := 11) (tgt := 21) K dX4_copy_11 (by decide) (fun c5 => ?_) (fun c5 => ?_)
    · have i46 := neI c5
      have b47 := isH_t c5
      refine q_aload_n (pc := 21) K dX4_copy_21 rfl rfl ?_
      refine q_get (pc := 22) (o := 3) (f := 5) (v := .ref (gsa G)) K (wO_x hG) vw_3 iwX4_copy_X4 (by decide) mX4_copy_f35 rfl dX4_copy_22 ?_
      refine q_iload_n (pc := 25) K dX4_copy_25 rfl rfl ?_
      have t6 : v1.toNatClampNeg < 4 := clLt (n := 4) (by omega) (by omega)
      refine q_aald (pc := 26) K hG (vinM (n := 4) (by omega) (by omega)) dX4_copy_26 ?_
      refine q_astore (pc := 27) (lv' := [some (.ref (gob G 3)), some (.int v1), some (.int v2), some (.int v3), some (.int v4), some (.int v5), some (.ref (gob G (5 + v1.toNatClampNeg))), none]) K dX4_copy_27 (by decide) (Nat.le_of_ble_eq_true rfl) rfl ?_
      refine q_aload_n (pc := 29) K dX4_copy_29 rfl rfl ?_
      refine q_get (pc := 30) (o := 3) (f := 5) (v := .ref (gsa G)) K (wO_x hG) vw_3 iwX4_copy_X4 (by decide) mX4_copy_f35 rfl dX4_copy_30 ?_
      refine q_iload_n (pc := 33) K dX4_copy_33 rfl rfl ?_
      have t7 : v3.toNatClampNeg < 4 := clLt (n := 4) (by omega) (by omega)
      refine q_aald (pc := 34) K hG (vinM (n := 4) (by omega) (by omega)) dX4_copy_34 ?_
      refine q_astore (pc := 35) (lv' := [some (.ref (gob G 3)), some (.int v1), some (.int v2), some (.int v3), some (.int v4), some (.int v5), some (.ref (gob G (5 + v1.toNatClampNeg))), some (.ref (gob G (5 + v3.toNatClampNeg)))]) K dX4_copy_35 (by decide) (Nat.le_of_ble_eq_true rfl) rfl ?_
      refine q_aload (pc := 37) K dX4_copy_37 rfl ?_
      refine q_callVi (pc := 39) (o := (5 + (v1.toNatClampNeg))) (rm := rmX2_isMissing) K (kX2_isMissing l hN hG (v1.toNatClampNeg) t6 σ hw) gX4_copy_X2_isMissing rfl hdV_X2_isMissing ⟨Nat.le_of_ble_eq_true rfl, Nat.le_of_ble_eq_true rfl⟩ rfl rfl ⟨Nat.zero_le _, Nat.zero_le _⟩ (wO_sh hG t6) vw_1 rfl rfl (Nat.le_of_ble_eq_true rfl) dX4_copy_39 ?_
      refine q_if_ne (pc := 42) (tgt := 53) K dX4_copy_42 (by decide) (fun c8 => ?_) (fun c8 => ?_)
      · have i41 := neI c8
        refine q_aload_n (pc := 53) K dX4_copy_53 rfl rfl ?_
        refine q_ldcw (pc := 54) (v := (-1000006)) K dX4_copy_54 mX4_copy_c268 ?_
        refine q_callVi (pc := 57) (o := 3) (rm := rmX4_found) K (kX4_found l hN hG (-1000006) σ hw) gX4_copy_X4_found rfl hdV_X4_found ⟨Nat.le_of_ble_eq_true rfl, Nat.le_of_ble_eq_true rfl⟩ rfl rfl ⟨Nat.zero_le _, Nat.zero_le _⟩ (wO_x hG) vw_3 rfl rfl (Nat.le_of_ble_eq_true rfl) dX4_copy_57 ?_
        refine qq_nmI (fun r9 e10 => ?_)
        have hw11 : WD r9.2 := by rw [e10]; exact wX4_found (-1000006) hw 
        exact q_iret K hr dX4_copy_60
      · have i42 := eqI c8
        refine q_aload (pc := 45) K dX4_copy_45 rfl ?_
        refine q_callVi (pc := 47) (o := (5 + (v3.toNatClampNeg))) (rm := rmX2_isMissing) K (kX2_isMissing l hN hG (v3.toNatClampNeg) t7 σ hw) gX4_copy_X2_isMissing rfl hdV_X2_isMissing ⟨Nat.le_of_ble_eq_true rfl, Nat.le_of_ble_eq_true rfl⟩ rfl rfl ⟨Nat.zero_le _, Nat.zero_le _⟩ (wO_sh hG t7) vw_1 rfl rfl (Nat.le_of_ble_eq_true rfl) dX4_copy_47 ?_
        refine q_if_eq (pc := 50) (tgt := 61) K dX4_copy_50 (by decide) (fun c12 => ?_) (fun c12 => ?_)
        · have i39 := eqI c12
          refine q_aload (pc := 61) K dX4_copy_61 rfl ?_
          refine q_get (pc := 63) (o := (5 + (v1.toNatClampNeg))) (f := 1) (v := .int (rF σ (27 + 2 * (v1.toNatClampNeg)))) K (wO_sh hG t6) vw_1 iwX4_copy_X2 (by decide) mX4_copy_f295 rfl dX4_copy_63 ?_
          refine q_aload (pc := 66) K dX4_copy_66 rfl ?_
          refine q_get (pc := 68) (o := (5 + (v3.toNatClampNeg))) (f := 1) (v := .int (rF σ (27 + 2 * (v3.toNatClampNeg)))) K (wO_sh hG t7) vw_1 iwX4_copy_X2 (by decide) mX4_copy_f295 rfl dX4_copy_68 ?_
          refine q_icmp_eq (pc := 71) (tgt := 82) K dX4_copy_71 (by decide) (fun c13 => ?_) (fun c13 => ?_)
          · have i34 := eqI c13
            refine q_aload (pc := 82) K dX4_copy_82 rfl ?_
            refine q_iload_n (pc := 84) K dX4_copy_84 rfl rfl ?_
            refine q_iload (pc := 85) K dX4_copy_85 rfl ?_
            refine q_callVi (pc := 87) (o := (5 + (v1.toNatClampNeg))) (rm := rmX2_hasRange) K (kX2_hasRange l hN hG (v1.toNatClampNeg) t6 v2 v5 σ hw) gX4_copy_X2_hasRange rfl hdV_X2_hasRange ⟨Nat.le_of_ble_eq_true rfl, Nat.le_of_ble_eq_true rfl⟩ rfl rfl ⟨Nat.zero_le _, Nat.zero_le _⟩ (wO_sh hG t6) vw_1 rfl rfl (Nat.le_of_ble_eq_true rfl) dX4_copy_87 ?_
            refine q_if_eq (pc := 90) (tgt := 105) K dX4_copy_90 (by decide) (fun c14 => ?_) (fun c14 => ?_)
            · have i28 := eqI c14
              refine q_aload_n (pc := 105) K dX4_copy_105 rfl rfl ?_
              refine q_ldc (pc := 106) (v := (-1000001)) K dX4_copy_106 mX4_copy_c53 ?_
              refine q_callVi (pc := 108) (o := 3) (rm := rmX4_found) K (kX4_found l hN hG (-1000001) σ hw) gX4_copy_X4_found rfl hdV_X4_found ⟨Nat.le_of_ble_eq_true rfl, Nat.le_of_ble_eq_true rfl⟩ rfl rfl ⟨Nat.zero_le _, Nat.zero_le _⟩ (wO_x hG) vw_3 rfl rfl (Nat.le_of_ble_eq_true rfl) dX4_copy_108 ?_
              refine qq_nmI (fun r15 e16 => ?_)
              have hw17 : WD r15.2 := by rw [e16]; exact wX4_found (-1000001) hw 
              exact q_iret K hr dX4_copy_111
            · have i29 := neI c14
              have b30 := hR_t hw t6 c14
              refine q_aload (pc := 93) K dX4_copy_93 rfl ?_
              refine q_iload (pc := 95) K dX4_copy_95 rfl ?_
              refine q_iload (pc := 97) K dX4_copy_97 rfl ?_
              refine q_callVi (pc := 99) (o := (5 + (v3.toNatClampNeg))) (rm := rmX2_hasRange) K (kX2_hasRange l hN hG (v3.toNatClampNeg) t7 v4 v5 σ hw) gX4_copy_X2_hasRange rfl hdV_X2_hasRange ⟨Nat.le_of_ble_eq_true rfl, Nat.le_of_ble_eq_true rfl⟩ rfl rfl ⟨Nat.zero_le _, Nat.zero_le _⟩ (wO_sh hG t7) vw_1 rfl rfl (Nat.le_of_ble_eq_true rfl) dX4_copy_99 ?_
              refine q_if_ne (pc := 102) (tgt := 112) K dX4_copy_102 (by decide) (fun c18 => ?_) (fun c18 => ?_)
              · have i25 := neI c18
                have b26 := hR_t hw t7 c18
                refine q_aload (pc := 112) K dX4_copy_112 rfl ?_
                refine q_get (pc := 114) (o := (5 + (v1.toNatClampNeg))) (f := 0) (v := .ref (gad G (25 + (v1.toNatClampNeg)))) K (wO_sh hG t6) vw_1 iwX4_copy_X2 (by decide) mX4_copy_f286 rfl dX4_copy_114 ?_
                refine q_iload_n (pc := 117) K dX4_copy_117 rfl rfl ?_
                refine q_aload (pc := 118) K dX4_copy_118 rfl ?_
                refine q_get (pc := 120) (o := (5 + (v3.toNatClampNeg))) (f := 0) (v := .ref (gad G (25 + (v3.toNatClampNeg)))) K (wO_sh hG t7) vw_1 iwX4_copy_X2 (by decide) mX4_copy_f286 rfl dX4_copy_120 ?_
                refine q_iload (pc := 123) K dX4_copy_123 rfl ?_
                refine q_iload (pc := 125) K dX4_copy_125 rfl ?_
                refine q_copyi (pc := 127) (a := 25 + (v1.toNatClampNeg)) (b := 25 + (v3.toNatClampNeg)) (sp := v2) (dp := v4) (n := v5) K mX4_copy_l301 mX4_copy_n301 mX4_copy_s301 mX4_copy_iS (by rw [wna_t hG]; have := t6; omega) (by rw [wna_t hG]; have := t7; omega) (nlt0 (by omega)) (nlt0 (by omega)) (nlt0 (by omega)) (by rw [wls hG t6]; exact cp40 (by omega) (by omega) (by omega)) (by rw [wls hG t7]; exact cp40 (by omega) (by omega) (by omega)) (Nat.le_of_ble_eq_true rfl) (Nat.le_of_ble_eq_true rfl) dX4_copy_127 (fun s19 e20 => ?_)
                have hw21 : WD s19 := by rw [e20]; exact wdC hw (by omega)
                refine q_iload (pc := 130) K dX4_copy_130 rfl ?_
                exact q_iret K hr dX4_copy_132
              · have i27 := eqI c18
                refine q_aload_n (pc := 105) K dX4_copy_105 rfl rfl ?_
                refine q_ldc (pc := 106) (v := (-1000001)) K dX4_copy_106 mX4_copy_c53 ?_
                refine q_callVi (pc := 108) (o := 3) (rm := rmX4_found) K (kX4_found l hN hG (-1000001) σ hw) gX4_copy_X4_found rfl hdV_X4_found ⟨Nat.le_of_ble_eq_true rfl, Nat.le_of_ble_eq_true rfl⟩ rfl rfl ⟨Nat.zero_le _, Nat.zero_le _⟩ (wO_x hG) vw_3 rfl rfl (Nat.le_of_ble_eq_true rfl) dX4_copy_108 ?_
                refine qq_nmI (fun r22 e23 => ?_)
                have hw24 : WD r22.2 := by rw [e23]; exact wX4_found (-1000001) hw 
                exact q_iret K hr dX4_copy_111
          · have i35 := neI c13
            refine q_aload_n (pc := 74) K dX4_copy_74 rfl rfl ?_
            refine q_ldcw (pc := 75) (v := (-1000003)) K dX4_copy_75 mX4_copy_c272 ?_
            refine q_callVi (pc := 78) (o := 3) (rm := rmX4_found) K (kX4_found l hN hG (-1000003) σ hw) gX4_copy_X4_found rfl hdV_X4_found ⟨Nat.le_of_ble_eq_true rfl, Nat.le_of_ble_eq_true rfl⟩ rfl rfl ⟨Nat.zero_le _, Nat.zero_le _⟩ (wO_x hG) vw_3 rfl rfl (Nat.le_of_ble_eq_true rfl) dX4_copy_78 ?_
            refine qq_nmI (fun r31 e32 => ?_)
            have hw33 : WD r31.2 := by rw [e32]; exact wX4_found (-1000003) hw 
            exact q_iret K hr dX4_copy_81
        · have i40 := neI c12
          refine q_aload_n (pc := 53) K dX4_copy_53 rfl rfl ?_
          refine q_ldcw (pc := 54) (v := (-1000006)) K dX4_copy_54 mX4_copy_c268 ?_
          refine q_callVi (pc := 57) (o := 3) (rm := rmX4_found) K (kX4_found l hN hG (-1000006) σ hw) gX4_copy_X4_found rfl hdV_X4_found ⟨Nat.le_of_ble_eq_true rfl, Nat.le_of_ble_eq_true rfl⟩ rfl rfl ⟨Nat.zero_le _, Nat.zero_le _⟩ (wO_x hG) vw_3 rfl rfl (Nat.le_of_ble_eq_true rfl) dX4_copy_57 ?_
          refine qq_nmI (fun r36 e37 => ?_)
          have hw38 : WD r36.2 := by rw [e37]; exact wX4_found (-1000006) hw 
          exact q_iret K hr dX4_copy_60
    · have i48 := eqI c5
      refine q_aload_n (pc := 14) K dX4_copy_14 rfl rfl ?_
      refine q_ldc (pc := 15) (v := (-1000001)) K dX4_copy_15 mX4_copy_c53 ?_
      refine q_callVi (pc := 17) (o := 3) (rm := rmX4_found) K (kX4_found l hN hG (-1000001) σ hw) gX4_copy_X4_found rfl hdV_X4_found ⟨Nat.le_of_ble_eq_true rfl, Nat.le_of_ble_eq_true rfl⟩ rfl rfl ⟨Nat.zero_le _, Nat.zero_le _⟩ (wO_x hG) vw_3 rfl rfl (Nat.le_of_ble_eq_true rfl) dX4_copy_17 ?_
      refine qq_nmI (fun r43 e44 => ?_)
      have hw45 : WD r43.2 := by rw [e44]; exact wX4_found (-1000001) hw 
      exact q_iret K hr dX4_copy_20
theorem hdV_X4_load : yX4_load.cls = RX4 ∧ yX4_load.cls ≠ "java/lang/invoke/MethodHandle" ∧ yX4_load.cls ≠ "java/lang/invoke/VarHandle" ∧ (parseMethodDescriptor yX4_load.desc).map (fun d => d.parameters.length) = some 1 := by decide +kernel
theorem mX4_load_f35 : Cond.fieldLink RX4 35 "WaxTreaties" "sheets" "[LWaxTreaties$Sheet;" ∈ wsX4_load := List.mem_of_getElem? (i := 1) rfl
theorem iwX4_load_X4 : ∀ w ∈ wsX40, w ∈ wsX4_load := fun w h => List.mem_cons_of_mem _ (List.mem_append_left _ (List.mem_append_left _ (List.mem_append_right _ h)))
theorem mX4_load_f280 : Cond.fieldLink RX4 280 "WaxTreaties$Sheet" "size" "I" ∈ wsX4_load := List.mem_of_getElem? (i := 2) rfl
theorem iwX4_load_X2 : ∀ w ∈ wsX20, w ∈ wsX4_load := fun w h => List.mem_cons_of_mem _ (List.mem_append_left _ (List.mem_append_right _ h))
theorem mX4_load_f12 : Cond.fieldLink RX4 12 "WaxTreaties" "live" "LWaxTreaties$Chancery;" ∈ wsX4_load := List.mem_of_getElem? (i := 3) rfl
theorem mX4_load_f151 : Cond.fieldLink RX4 151 "WaxTreaties$Chancery" "deeds" "I" ∈ wsX4_load := List.mem_of_getElem? (i := 4) rfl
theorem iwX4_load_X0 : ∀ w ∈ wsX00, w ∈ wsX4_load := fun w h => List.mem_cons_of_mem _ (List.mem_append_right _ h)
theorem mX4_load_f286 : Cond.fieldLink RX4 286 "WaxTreaties$Sheet" "numbers" "[I" ∈ wsX4_load := List.mem_of_getElem? (i := 5) rfl
theorem mX4_load_f76 : Cond.fieldLink RX4 76 "WaxTreaties$Chancery" "wax" "[I" ∈ wsX4_load := List.mem_of_getElem? (i := 6) rfl
set_option maxRecDepth 100000 in
set_option maxHeartbeats 4000000 in
theorem lX4_load_26 {p : Program} (l : Launch) {e : Env} {s : State} {m : MethodId} {args : Array Value} {below : List Frame} {meth : Method} {c : Code} {Q : State → Prop} {G : gT} (hN : wN G) (hG : gfl G = true) (K : qK p s m args meth c cX4_load 5 RX4 wsX4_load G) (q3 : Nat) (hq3 : q3 < 4) : ∀ (k : Nat) (v4 : Int32) (σ : sg) (hw : WD σ) (hv4 : 0 ≤ v4.toInt ∧ v4.toInt ≤ 8) (hmu : (8 - v4.toInt).toNat < k) {ρ : Type} {E : ρ → Prop} {f : Int32 × sg → ρ} (hk : ∀ r : Int32 × sg, (WD r.2) → (0 ≤ r.1.toInt ∧ r.1.toInt ≤ 8) → qq p l e (headSpec wsX4_load rmX4_load).room s m args below meth c Q 5 G E (f r) 83 [none, none, none, none, some (.int r.1)] [] r.2), qq p l e (headSpec wsX4_load rmX4_load).room s m args below meth c Q 5 G E (bnd (LX4_load_26 q3 k v4 σ) f) 26 [some (.ref (gob G 3)), none, none, some (.ref (gob G (5 + q3))), some (.int v4)] [] σ := by
  intro k
  induction k with
  | zero => intro v4 σ hw hv4 hmu ρ E f hk; exact absurd hmu (Nat.not_lt_zero _)
  | succ k ih =>
    intro v4 σ hw hv4 hmu ρ E f hk
    have k0 : (0 : Int32).toInt = 0 := rfl
    have k1 : (1 : Int32).toInt = 1 := rfl
    refine qq_in ?_
    refine qq_T (LX4_load_26.eq_2 ..) ?_
    refine q_iload (pc := 26) K dX4_load_26 rfl ?_
    refine q_aload_n (pc := 28) K dX4_load_28 rfl rfl ?_
    refine q_get (pc := 29) (o := (5 + q3)) (f := 2) (v := .int (rF σ (28 + 2 * q3))) K (wO_sh hG hq3) vw_1 iwX4_load_X2 (by decide) mX4_load_f280 rfl dX4_load_29 ?_
    have w3 := wd_size hw hq3
    refine q_icmp_ge (pc := 32) (tgt := 83) K dX4_load_32 (by decide) (fun c4 => ?_) (fun c4 => ?_)
    · have i17 := leI c4
      refine qq_drop 0 (lv' := [none, none, none, some (.ref (gob G (5 + q3))), some (.int v4)]) rfl ?_
      refine qq_drop 3 (lv' := [none, none, none, none, some (.int v4)]) rfl ?_
      exact qq_leaf (hk (v4, σ) hw (by omega))
    · have i18 := nleI c4
      refine q_iload (pc := 35) K dX4_load_35 rfl ?_
      refine q_aload_n (pc := 37) K dX4_load_37 rfl rfl ?_
      refine q_get (pc := 38) (o := 3) (f := 0) (v := .ref (gob G 0)) K (wO_x hG) vw_3 iwX4_load_X4 (by decide) mX4_load_f12 rfl dX4_load_38 ?_
      refine q_get (pc := 41) (o := 0) (f := 8) (v := .int (rF σ (7 * 0 + 1))) K (wO_ch hG (show 0 < 3 by decide)) vw_0 iwX4_load_X0 (by decide) mX4_load_f151 rfl dX4_load_41 ?_
      have w5 := wd_deeds hw (show 0 < 3 by decide)
      refine q_icmp_ge (pc := 44) (tgt := 83) K dX4_load_44 (by decide) (fun c6 => ?_) (fun c6 => ?_)
      · have i15 := leI c6
        refine qq_drop 0 (lv' := [none, none, none, some (.ref (gob G (5 + q3))), some (.int v4)]) rfl ?_
        refine qq_drop 3 (lv' := [none, none, none, none, some (.int v4)]) rfl ?_
        exact qq_leaf (hk (v4, σ) hw (by omega))
      · have i16 := nleI c6
        refine q_aload_n (pc := 47) K dX4_load_47 rfl rfl ?_
        refine q_get (pc := 48) (o := (5 + q3)) (f := 0) (v := .ref (gad G (25 + q3))) K (wO_sh hG hq3) vw_1 iwX4_load_X2 (by decide) mX4_load_f286 rfl dX4_load_48 ?_
        refine q_iload (pc := 51) K dX4_load_51 rfl ?_
        refine q_iald (pc := 53) (a := 25 + q3) K (by rw [wna_t hG]; have := hq3; omega) (vinN (wls hG hq3) (by omega) (by omega)) dX4_load_53 ?_
        refine q_callSi (pc := 54) (rm := rmX4_isWax) K (kX4_isWax l hN (rA σ (25 + q3) v4) σ) gX4_load_X4_isWax rfl hdS_X4_isWax ⟨Nat.le_of_ble_eq_true rfl, Nat.le_of_ble_eq_true rfl⟩ rfl rfl ⟨Nat.zero_le _, Nat.zero_le _⟩ rfl rfl (Nat.le_of_ble_eq_true rfl) dX4_load_54 ?_
        refine q_if_eq (pc := 57) (tgt := 83) K dX4_load_57 (by decide) (fun c7 => ?_) (fun c7 => ?_)
        · have i12 := eqI c7
          refine qq_drop 0 (lv' := [none, none, none, some (.ref (gob G (5 + q3))), some (.int v4)]) rfl ?_
          refine qq_drop 3 (lv' := [none, none, none, none, some (.int v4)]) rfl ?_
          exact qq_leaf (hk (v4, σ) hw (by omega))
        · have i13 := neI c7
          have b14 := isX_t c7
          refine q_aload_n (pc := 60) K dX4_load_60 rfl rfl ?_
          refine q_get (pc := 61) (o := 3) (f := 0) (v := .ref (gob G 0)) K (wO_x hG) vw_3 iwX4_load_X4 (by decide) mX4_load_f12 rfl dX4_load_61 ?_
          refine q_get (pc := 64) (o := 0) (f := 2) (v := .ref (gad G (8 * 0 + 2))) K (wO_ch hG (show 0 < 3 by decide)) vw_0 iwX4_load_X0 (by decide) mX4_load_f76 rfl dX4_load_64 ?_
          refine q_iload (pc := 67) K dX4_load_67 rfl ?_
          refine q_aload_n (pc := 69) K dX4_load_69 rfl rfl ?_
          refine q_get (pc := 70) (o := (5 + q3)) (f := 0) (v := .ref (gad G (25 + q3))) K (wO_sh hG hq3) vw_1 iwX4_load_X2 (by decide) mX4_load_f286 rfl dX4_load_70 ?_
          refine q_iload (pc := 73) K dX4_load_73 rfl ?_
          refine q_iald (pc := 75) (a := 25 + q3) K (by rw [wna_t hG]; have := hq3; omega) (vinN (wls hG hq3) (by omega) (by omega)) dX4_load_75 ?_
          refine q_iast (pc := 76) (a := 8 * 0 + 2) K (by rw [wna_t hG]; have := (show 0 < 3 by decide); omega) (vinN (wlc2 hG (show 0 < 3 by decide)) (by omega) (by omega)) dX4_load_76 (fun s8 e9 => ?_)
          have hw10 : WD s8 := by rw [e9]; exact wdA hw (by have := (show 0 < 3 by decide); omega)
          refine q_iinc (pc := 77) (v := (v4 + 1)) (lv' := [some (.ref (gob G 3)), none, none, some (.ref (gob G (5 + q3))), some (.int (v4 + 1))]) K dX4_load_77 rfl rfl (by decide) rfl ?_
          refine q_goto (pc := 80) (tgt := 26) K dX4_load_80 (by decide) ?_
          have a11 := addI (x := v4) (y := 1) (by omega) (by omega)
          exact qq_out (ih (v4 + 1) s8 hw10 (by omega) (by omega) hk)
set_option maxRecDepth 100000 in
set_option maxHeartbeats 4000000 in
theorem kX4_load (l : Launch) {G : gT} (hN : wN G) (hG : gfl G = true) (v1 : Int32) (σ : sg) (hw : WD σ) : cM l yX4_load wsX4_load rmX4_load G [.ref (gob G 3), .int v1] σ (some (.int (fX4_load v1 σ).1)) (fX4_load v1 σ).2 := by
  refine cM_of (maxL := 5) (ret := (some .int)) (cc := cX4_load) (fX4_load v1 σ) RX4 hN (by decide +kernel) rfl rfl (Nat.le_of_ble_eq_true rfl) rfl ?_
  intro p e s m args below meth c K hr
  have k0 : (0 : Int32).toInt = 0 := rfl
  refine qq_st (lv' := [some (.ref (gob G 3)), some (.int v1), none, none, none]) rfl rfl rfl ?_
  refine qq_T (fX4_load.eq_1 ..) ?_
  refine q_aload_n (pc := 0) K dX4_load_0 rfl rfl ?_
  refine q_iload_n (pc := 1) K dX4_load_1 rfl rfl ?_
  refine q_callVi (pc := 2) (o := 3) (rm := rmX4_refusalOfSheet) K (kX4_refusalOfSheet l hN hG v1 σ hw) gX4_load_X4_refusalOfSheet rfl hdV_X4_refusalOfSheet ⟨Nat.le_of_ble_eq_true rfl, Nat.le_of_ble_eq_true rfl⟩ rfl rfl ⟨Nat.zero_le _, Nat.zero_le _⟩ (wO_x hG) vw_3 rfl rfl (Nat.le_of_ble_eq_true rfl) dX4_load_2 ?_
  refine q_istore_n (pc := 5) (lv' := [some (.ref (gob G 3)), some (.int v1), some (.int (fX4_refusalOfSheet v1 σ)), none, none]) K dX4_load_5 rfl (by decide) (Nat.le_of_ble_eq_true rfl) rfl ?_
  refine q_iload_n (pc := 6) K dX4_load_6 rfl rfl ?_
  refine q_if_eq (pc := 7) (tgt := 16) K dX4_load_7 (by decide) (fun c1 => ?_) (fun c1 => ?_)
  · have i26 := eqI c1
    have b27 := refS_f c1
    refine q_aload_n (pc := 16) K dX4_load_16 rfl rfl ?_
    refine q_get (pc := 17) (o := 3) (f := 5) (v := .ref (gsa G)) K (wO_x hG) vw_3 iwX4_load_X4 (by decide) mX4_load_f35 rfl dX4_load_17 ?_
    refine q_iload_n (pc := 20) K dX4_load_20 rfl rfl ?_
    have t2 : v1.toNatClampNeg < 4 := clLt (n := 4) (by omega) (by omega)
    refine q_aald (pc := 21) K hG (vinM (n := 4) (by omega) (by omega)) dX4_load_21 ?_
    refine q_astore_n (pc := 22) (lv' := [some (.ref (gob G 3)), some (.int v1), some (.int (fX4_refusalOfSheet v1 σ)), some (.ref (gob G (5 + v1.toNatClampNeg))), none]) K dX4_load_22 rfl (by decide) (Nat.le_of_ble_eq_true rfl) rfl ?_
    refine q_iconst (pc := 23) (v := 0) K dX4_load_23 (by decide) ?_
    refine q_istore (pc := 24) (lv' := [some (.ref (gob G 3)), some (.int v1), some (.int (fX4_refusalOfSheet v1 σ)), some (.ref (gob G (5 + v1.toNatClampNeg))), some (.int 0)]) K dX4_load_24 (by decide) (Nat.le_of_ble_eq_true rfl) rfl ?_
    refine qq_drop 1 (lv' := [some (.ref (gob G 3)), none, some (.int (fX4_refusalOfSheet v1 σ)), some (.ref (gob G (5 + v1.toNatClampNeg))), some (.int 0)]) rfl ?_
    refine qq_drop 2 (lv' := [some (.ref (gob G 3)), none, none, some (.ref (gob G (5 + v1.toNatClampNeg))), some (.int 0)]) rfl ?_
    refine lX4_load_26 l hN hG K (v1.toNatClampNeg) t2 9 0 σ hw (by omega) (by omega) (fun r19 hw21 x22 => ?_)
    refine q_iload (pc := 83) K dX4_load_83 rfl ?_
    exact q_iret K hr dX4_load_85
  · have i28 := neI c1
    refine q_aload_n (pc := 10) K dX4_load_10 rfl rfl ?_
    refine q_iload_n (pc := 11) K dX4_load_11 rfl rfl ?_
    refine q_callVi (pc := 12) (o := 3) (rm := rmX4_found) K (kX4_found l hN hG (fX4_refusalOfSheet v1 σ) σ hw) gX4_load_X4_found rfl hdV_X4_found ⟨Nat.le_of_ble_eq_true rfl, Nat.le_of_ble_eq_true rfl⟩ rfl rfl ⟨Nat.zero_le _, Nat.zero_le _⟩ (wO_x hG) vw_3 rfl rfl (Nat.le_of_ble_eq_true rfl) dX4_load_12 ?_
    refine qq_nmI (fun r23 e24 => ?_)
    have hw25 : WD r23.2 := by rw [e24]; exact wX4_found (fX4_refusalOfSheet v1 σ) hw 
    exact q_iret K hr dX4_load_15
theorem hdV_X4_judge : yX4_judge.cls = RX4 ∧ yX4_judge.cls ≠ "java/lang/invoke/MethodHandle" ∧ yX4_judge.cls ≠ "java/lang/invoke/VarHandle" ∧ (parseMethodDescriptor yX4_judge.desc).map (fun d => d.parameters.length) = some 2 := by decide +kernel
theorem mX4_judge_f35 : Cond.fieldLink RX4 35 "WaxTreaties" "sheets" "[LWaxTreaties$Sheet;" ∈ wsX4_judge := List.mem_of_getElem? (i := 1) rfl
theorem iwX4_judge_X4 : ∀ w ∈ wsX40, w ∈ wsX4_judge := fun w h => List.mem_cons_of_mem _ (List.mem_append_left _ (List.mem_append_left _ (List.mem_append_right _ h)))
theorem mX4_judge_f12 : Cond.fieldLink RX4 12 "WaxTreaties" "live" "LWaxTreaties$Chancery;" ∈ wsX4_judge := List.mem_of_getElem? (i := 2) rfl
theorem mX4_judge_f280 : Cond.fieldLink RX4 280 "WaxTreaties$Sheet" "size" "I" ∈ wsX4_judge := List.mem_of_getElem? (i := 4) rfl
theorem iwX4_judge_X2 : ∀ w ∈ wsX20, w ∈ wsX4_judge := fun w h => List.mem_cons_of_mem _ (List.mem_append_left _ (List.mem_append_right _ h))
theorem mX4_judge_f16 : Cond.fieldLink RX4 16 "WaxTreaties" "trial" "LWaxTreaties$Chancery;" ∈ wsX4_judge := List.mem_of_getElem? (i := 6) rfl
theorem mX4_judge_f79 : Cond.fieldLink RX4 79 "WaxTreaties$Chancery" "soft" "[I" ∈ wsX4_judge := List.mem_of_getElem? (i := 7) rfl
theorem iwX4_judge_X0 : ∀ w ∈ wsX00, w ∈ wsX4_judge := fun w h => List.mem_cons_of_mem _ (List.mem_append_right _ h)
theorem mX4_judge_f286 : Cond.fieldLink RX4 286 "WaxTreaties$Sheet" "numbers" "[I" ∈ wsX4_judge := List.mem_of_getElem? (i := 8) rfl
theorem mX4_judge_c179 : Cond.constant RX4 179 (-1000005) ∈ wsX4_judge := List.mem_of_getElem? (i := 5) rfl
theorem mX4_judge_c53 : Cond.constant RX4 53 (-1000001) ∈ wsX4_judge := List.mem_of_getElem? (i := 3) rfl
set_option maxRecDepth 100000 in
set_option maxHeartbeats 4000000 in
theorem lX4_judge_75 {p : Program} (l : Launch) {e : Env} {s : State} {m : MethodId} {args : Array Value} {below : List Frame} {meth : Method} {c : Code} {G : gT} (hN : wN G) (hG : gfl G = true) (K : qK p s m args meth c cX4_judge 6 RX4 wsX4_judge G) (q4 : Nat) (hq4 : q4 < 4) : ∀ (k : Nat) (v2 v5 : Int32) (σ : sg) (hw : WD σ) (hv5 : 0 ≤ v5.toInt ∧ v5.toInt ≤ 40) (hdv2 : 0 ≤ v2.toInt ∧ v2.toInt ≤ 7) (hmu : (40 - v5.toInt).toNat < k) (hr : meth.sig.returnType = some .int) (T0 : Int32 × sg), qq p l e (headSpec wsX4_judge rmX4_judge).room s m args below meth c (MQ below (cQ G (some (.int T0.1)) T0.2) args s 0 0 (wA G)) 6 G (fun T => T = T0) (LX4_judge_75 q4 k v2 v5 σ) 75 [some (.ref (gob G 3)), none, some (.int v2), none, some (.ref (gob G (5 + q4))), some (.int v5)] [] σ := by
  intro k
  induction k with
  | zero => intro v2 v5 σ hw hv5 hdv2 hmu hr T0; exact absurd hmu (Nat.not_lt_zero _)
  | succ k ih =>
    intro v2 v5 σ hw hv5 hdv2 hmu hr T0
    have k0 : (0 : Int32).toInt = 0 := rfl
    have k1 : (1 : Int32).toInt = 1 := rfl
    refine qq_T (LX4_judge_75.eq_2 ..) ?_
    refine q_iload (pc := 75) K dX4_judge_75 rfl ?_
    refine q_aload (pc := 77) K dX4_judge_77 rfl ?_
    refine q_get (pc := 79) (o := (5 + q4)) (f := 2) (v := .int (rF σ (28 + 2 * q4))) K (wO_sh hG hq4) vw_1 iwX4_judge_X2 (by decide) mX4_judge_f280 rfl dX4_judge_79 ?_
    have w9 := wd_size hw hq4
    refine q_icmp_ge (pc := 82) (tgt := 125) K dX4_judge_82 (by decide) (fun c10 => ?_) (fun c10 => ?_)
    · have i18 := leI c10
      refine q_iconst (pc := 125) (v := 0) K dX4_judge_125 (by decide) ?_
      exact q_iret K hr dX4_judge_126
    · have i19 := nleI c10
      refine q_aload_n (pc := 85) K dX4_judge_85 rfl rfl ?_
      refine q_get (pc := 86) (o := 3) (f := 1) (v := .ref (gob G 1)) K (wO_x hG) vw_3 iwX4_judge_X4 (by decide) mX4_judge_f16 rfl dX4_judge_86 ?_
      refine q_iconst (pc := 89) (v := 1) K dX4_judge_89 (by decide) ?_
      refine q_callVi (pc := 90) (o := 1) (rm := rmX0_pass) K (kX0_pass l hN hG 1 (show 1 < 3 by decide) 1 σ hw (by omega)) gX4_judge_X0_pass rfl hdV_X0_pass ⟨Nat.le_of_ble_eq_true rfl, Nat.le_of_ble_eq_true rfl⟩ rfl rfl ⟨Nat.zero_le _, Nat.zero_le _⟩ (wO_ch hG (show 1 < 3 by decide)) vw_0 rfl rfl (Nat.le_of_ble_eq_true rfl) dX4_judge_90 ?_
      refine qq_nmI (fun r11 e12 => ?_)
      have hw13 : WD r11.2 := by rw [e12]; exact wX0_pass 1 (show 1 < 3 by decide) 1 hw (by omega)
      refine q_pop (pc := 93) K dX4_judge_93 rfl ?_
      refine q_aload_n (pc := 94) K dX4_judge_94 rfl rfl ?_
      refine q_get (pc := 95) (o := 3) (f := 1) (v := .ref (gob G 1)) K (wO_x hG) vw_3 iwX4_judge_X4 (by decide) mX4_judge_f16 rfl dX4_judge_95 ?_
      refine q_get (pc := 98) (o := 1) (f := 3) (v := .ref (gad G (8 * 1 + 3))) K (wO_ch hG (show 1 < 3 by decide)) vw_0 iwX4_judge_X0 (by decide) mX4_judge_f79 rfl dX4_judge_98 ?_
      refine q_iload_n (pc := 101) K dX4_judge_101 rfl rfl ?_
      refine q_iald (pc := 102) (a := 8 * 1 + 3) K (by rw [wna_t hG]; have := (show 1 < 3 by decide); omega) (vinN (wlc3 hG (show 1 < 3 by decide)) (by omega) (by omega)) dX4_judge_102 ?_
      refine q_aload (pc := 103) K dX4_judge_103 rfl ?_
      refine q_get (pc := 105) (o := (5 + q4)) (f := 0) (v := .ref (gad G (25 + q4))) K (wO_sh hG hq4) vw_1 iwX4_judge_X2 (by decide) mX4_judge_f286 rfl dX4_judge_105 ?_
      refine q_iload (pc := 108) K dX4_judge_108 rfl ?_
      refine q_iald (pc := 110) (a := 25 + q4) K (by rw [wna_t hG]; have := hq4; omega) (vinN (wls hG hq4) (by omega) (by omega)) dX4_judge_110 ?_
      refine q_icmp_eq (pc := 111) (tgt := 119) K dX4_judge_111 (by decide) (fun c14 => ?_) (fun c14 => ?_)
      · have i16 := eqI c14
        refine q_iinc (pc := 119) (v := (v5 + 1)) (lv' := [some (.ref (gob G 3)), none, some (.int v2), none, some (.ref (gob G (5 + q4))), some (.int (v5 + 1))]) K dX4_judge_119 rfl rfl (by decide) rfl ?_
        refine q_goto (pc := 122) (tgt := 75) K dX4_judge_122 (by decide) ?_
        have a15 := addI (x := v5) (y := 1) (by omega) (by omega)
        exact ih v2 (v5 + 1) r11.2 hw13 (by omega) (by omega) (by omega) hr _
      · have i17 := neI c14
        refine q_iconst (pc := 114) (v := 1) K dX4_judge_114 (by decide) ?_
        refine q_iload (pc := 115) K dX4_judge_115 rfl ?_
        refine q_iadd (pc := 117) K dX4_judge_117 ?_
        exact q_iret K hr dX4_judge_118
set_option maxRecDepth 100000 in
set_option maxHeartbeats 4000000 in
theorem kX4_judge (l : Launch) {G : gT} (hN : wN G) (hG : gfl G = true) (v1 : Int32) (v2 : Int32) (σ : sg) (hw : WD σ) : cM l yX4_judge wsX4_judge rmX4_judge G [.ref (gob G 3), .int v1, .int v2] σ (some (.int (fX4_judge v1 v2 σ).1)) (fX4_judge v1 v2 σ).2 := by
  refine cM_of (maxL := 6) (ret := (some .int)) (cc := cX4_judge) (fX4_judge v1 v2 σ) RX4 hN (by decide +kernel) rfl rfl (Nat.le_of_ble_eq_true rfl) rfl ?_
  intro p e s m args below meth c K hr
  have km1000005 : ((-1000005) : Int32).toInt = -1000005 := rfl
  have km1000001 : ((-1000001) : Int32).toInt = -1000001 := rfl
  have k0 : (0 : Int32).toInt = 0 := rfl
  refine qq_st (lv' := [some (.ref (gob G 3)), some (.int v1), some (.int v2), none, none, none]) rfl rfl rfl ?_
  refine qq_T (fX4_judge.eq_1 ..) ?_
  refine q_aload_n (pc := 0) K dX4_judge_0 rfl rfl ?_
  refine q_iload_n (pc := 1) K dX4_judge_1 rfl rfl ?_
  refine q_callVi (pc := 2) (o := 3) (rm := rmX4_refusalOfSheet) K (kX4_refusalOfSheet l hN hG v1 σ hw) gX4_judge_X4_refusalOfSheet rfl hdV_X4_refusalOfSheet ⟨Nat.le_of_ble_eq_true rfl, Nat.le_of_ble_eq_true rfl⟩ rfl rfl ⟨Nat.zero_le _, Nat.zero_le _⟩ (wO_x hG) vw_3 rfl rfl (Nat.le_of_ble_eq_true rfl) dX4_judge_2 ?_
  refine q_istore_n (pc := 5) (lv' := [some (.ref (gob G 3)), some (.int v1), some (.int v2), some (.int (fX4_refusalOfSheet v1 σ)), none, none]) K dX4_judge_5 rfl (by decide) (Nat.le_of_ble_eq_true rfl) rfl ?_
  refine q_iload_n (pc := 6) K dX4_judge_6 rfl rfl ?_
  refine q_if_eq (pc := 7) (tgt := 16) K dX4_judge_7 (by decide) (fun c1 => ?_) (fun c1 => ?_)
  · have i34 := eqI c1
    have b35 := refS_f c1
    refine q_aload_n (pc := 16) K dX4_judge_16 rfl rfl ?_
    refine q_get (pc := 17) (o := 3) (f := 5) (v := .ref (gsa G)) K (wO_x hG) vw_3 iwX4_judge_X4 (by decide) mX4_judge_f35 rfl dX4_judge_17 ?_
    refine q_iload_n (pc := 20) K dX4_judge_20 rfl rfl ?_
    have t2 : v1.toNatClampNeg < 4 := clLt (n := 4) (by omega) (by omega)
    refine q_aald (pc := 21) K hG (vinM (n := 4) (by omega) (by omega)) dX4_judge_21 ?_
    refine q_astore (pc := 22) (lv' := [some (.ref (gob G 3)), some (.int v1), some (.int v2), some (.int (fX4_refusalOfSheet v1 σ)), some (.ref (gob G (5 + v1.toNatClampNeg))), none]) K dX4_judge_22 (by decide) (Nat.le_of_ble_eq_true rfl) rfl ?_
    refine q_aload_n (pc := 24) K dX4_judge_24 rfl rfl ?_
    refine q_get (pc := 25) (o := 3) (f := 0) (v := .ref (gob G 0)) K (wO_x hG) vw_3 iwX4_judge_X4 (by decide) mX4_judge_f12 rfl dX4_judge_25 ?_
    refine q_iload_n (pc := 28) K dX4_judge_28 rfl rfl ?_
    refine q_callVi (pc := 29) (o := 0) (rm := rmX0_isDeed) K (kX0_isDeed l hN hG 0 (show 0 < 3 by decide) v2 σ hw) gX4_judge_X0_isDeed rfl hdV_X0_isDeed ⟨Nat.le_of_ble_eq_true rfl, Nat.le_of_ble_eq_true rfl⟩ rfl rfl ⟨Nat.zero_le _, Nat.zero_le _⟩ (wO_ch hG (show 0 < 3 by decide)) vw_0 rfl rfl (Nat.le_of_ble_eq_true rfl) dX4_judge_29 ?_
    refine q_if_ne (pc := 32) (tgt := 42) K dX4_judge_32 (by decide) (fun c3 => ?_) (fun c3 => ?_)
    · have i28 := neI c3
      have b29 := isD_t hw (by omega) c3
      refine q_aload_n (pc := 42) K dX4_judge_42 rfl rfl ?_
      refine q_aload (pc := 43) K dX4_judge_43 rfl ?_
      refine q_get (pc := 45) (o := (5 + (v1.toNatClampNeg))) (f := 2) (v := .int (rF σ (28 + 2 * (v1.toNatClampNeg)))) K (wO_sh hG t2) vw_1 iwX4_judge_X2 (by decide) mX4_judge_f280 rfl dX4_judge_45 ?_
      have w4 := wd_size hw t2
      refine q_callVi (pc := 48) (o := 3) (rm := rmX4_isTooLate) K (kX4_isTooLate l hN hG (rF σ (28 + 2 * (v1.toNatClampNeg))) σ hw) gX4_judge_X4_isTooLate rfl hdV_X4_isTooLate ⟨Nat.le_of_ble_eq_true rfl, Nat.le_of_ble_eq_true rfl⟩ rfl rfl ⟨Nat.zero_le _, Nat.zero_le _⟩ (wO_x hG) vw_3 rfl rfl (Nat.le_of_ble_eq_true rfl) dX4_judge_48 ?_
      refine q_if_eq (pc := 51) (tgt := 61) K dX4_judge_51 (by decide) (fun c5 => ?_) (fun c5 => ?_)
      · have i23 := eqI c5
        refine q_aload_n (pc := 61) K dX4_judge_61 rfl rfl ?_
        refine q_get (pc := 62) (o := 3) (f := 1) (v := .ref (gob G 1)) K (wO_x hG) vw_3 iwX4_judge_X4 (by decide) mX4_judge_f16 rfl dX4_judge_62 ?_
        refine q_aload_n (pc := 65) K dX4_judge_65 rfl rfl ?_
        refine q_get (pc := 66) (o := 3) (f := 0) (v := .ref (gob G 0)) K (wO_x hG) vw_3 iwX4_judge_X4 (by decide) mX4_judge_f12 rfl dX4_judge_66 ?_
        refine q_callVv (pc := 69) (o := 1) (rm := rmX0_take) K (kX0_take l hN hG 1 (show 1 < 3 by decide) 0 (show 0 < 3 by decide) σ hw) gX4_judge_X0_take rfl hdV_X0_take ⟨Nat.le_of_ble_eq_true rfl, Nat.le_of_ble_eq_true rfl⟩ rfl rfl ⟨Nat.zero_le _, Nat.zero_le _⟩ (wO_ch hG (show 1 < 3 by decide)) vw_0 rfl rfl (Nat.le_of_ble_eq_true rfl) dX4_judge_69 ?_
        refine qq_nmV (fun r6 e7 => ?_)
        have hw8 : WD r6 := by rw [e7]; exact wX0_take 1 (show 1 < 3 by decide) 0 (show 0 < 3 by decide) hw 
        refine q_iconst (pc := 72) (v := 0) K dX4_judge_72 (by decide) ?_
        refine q_istore (pc := 73) (lv' := [some (.ref (gob G 3)), some (.int v1), some (.int v2), some (.int (fX4_refusalOfSheet v1 σ)), some (.ref (gob G (5 + v1.toNatClampNeg))), some (.int 0)]) K dX4_judge_73 (by decide) (Nat.le_of_ble_eq_true rfl) rfl ?_
        refine qq_drop 1 (lv' := [some (.ref (gob G 3)), none, some (.int v2), some (.int (fX4_refusalOfSheet v1 σ)), some (.ref (gob G (5 + v1.toNatClampNeg))), some (.int 0)]) rfl ?_
        refine qq_drop 3 (lv' := [some (.ref (gob G 3)), none, some (.int v2), none, some (.ref (gob G (5 + v1.toNatClampNeg))), some (.int 0)]) rfl ?_
        exact lX4_judge_75 l hN hG K (v1.toNatClampNeg) t2 41 v2 0 r6 hw8 (by omega) (by omega) (by omega) hr _
      · have i24 := neI c5
        refine q_aload_n (pc := 54) K dX4_judge_54 rfl rfl ?_
        refine q_ldc (pc := 55) (v := (-1000005)) K dX4_judge_55 mX4_judge_c179 ?_
        refine q_callVi (pc := 57) (o := 3) (rm := rmX4_found) K (kX4_found l hN hG (-1000005) σ hw) gX4_judge_X4_found rfl hdV_X4_found ⟨Nat.le_of_ble_eq_true rfl, Nat.le_of_ble_eq_true rfl⟩ rfl rfl ⟨Nat.zero_le _, Nat.zero_le _⟩ (wO_x hG) vw_3 rfl rfl (Nat.le_of_ble_eq_true rfl) dX4_judge_57 ?_
        refine qq_nmI (fun r20 e21 => ?_)
        have hw22 : WD r20.2 := by rw [e21]; exact wX4_found (-1000005) hw 
        exact q_iret K hr dX4_judge_60
    · have i30 := eqI c3
      refine q_aload_n (pc := 35) K dX4_judge_35 rfl rfl ?_
      refine q_ldc (pc := 36) (v := (-1000001)) K dX4_judge_36 mX4_judge_c53 ?_
      refine q_callVi (pc := 38) (o := 3) (rm := rmX4_found) K (kX4_found l hN hG (-1000001) σ hw) gX4_judge_X4_found rfl hdV_X4_found ⟨Nat.le_of_ble_eq_true rfl, Nat.le_of_ble_eq_true rfl⟩ rfl rfl ⟨Nat.zero_le _, Nat.zero_le _⟩ (wO_x hG) vw_3 rfl rfl (Nat.le_of_ble_eq_true rfl) dX4_judge_38 ?_
      refine qq_nmI (fun r25 e26 => ?_)
      have hw27 : WD r25.2 := by rw [e26]; exact wX4_found (-1000001) hw 
      exact q_iret K hr dX4_judge_41
  · have i36 := neI c1
    refine q_aload_n (pc := 10) K dX4_judge_10 rfl rfl ?_
    refine q_iload_n (pc := 11) K dX4_judge_11 rfl rfl ?_
    refine q_callVi (pc := 12) (o := 3) (rm := rmX4_found) K (kX4_found l hN hG (fX4_refusalOfSheet v1 σ) σ hw) gX4_judge_X4_found rfl hdV_X4_found ⟨Nat.le_of_ble_eq_true rfl, Nat.le_of_ble_eq_true rfl⟩ rfl rfl ⟨Nat.zero_le _, Nat.zero_le _⟩ (wO_x hG) vw_3 rfl rfl (Nat.le_of_ble_eq_true rfl) dX4_judge_12 ?_
    refine qq_nmI (fun r31 e32 => ?_)
    have hw33 : WD r31.2 := by rw [e32]; exact wX4_found (fX4_refusalOfSheet v1 σ) hw 
    exact q_iret K hr dX4_judge_15
theorem hdV_X4_image : yX4_image.cls = RX4 ∧ yX4_image.cls ≠ "java/lang/invoke/MethodHandle" ∧ yX4_image.cls ≠ "java/lang/invoke/VarHandle" ∧ (parseMethodDescriptor yX4_image.desc).map (fun d => d.parameters.length) = some 0 := by decide +kernel
theorem mX4_image_f19 : Cond.fieldLink RX4 19 "WaxTreaties" "kept" "LWaxTreaties$Chancery;" ∈ wsX4_image := List.mem_of_getElem? (i := 1) rfl
theorem iwX4_image_X4 : ∀ w ∈ wsX40, w ∈ wsX4_image := fun w h => List.mem_cons_of_mem _ (List.mem_append_left _ (List.mem_append_right _ h))
theorem mX4_image_f12 : Cond.fieldLink RX4 12 "WaxTreaties" "live" "LWaxTreaties$Chancery;" ∈ wsX4_image := List.mem_of_getElem? (i := 2) rfl
theorem mX4_image_f22 : Cond.fieldLink RX4 22 "WaxTreaties" "anyKept" "Z" ∈ wsX4_image := List.mem_of_getElem? (i := 3) rfl
set_option maxRecDepth 100000 in
set_option maxHeartbeats 4000000 in
theorem kX4_image (l : Launch) {G : gT} (hN : wN G) (hG : gfl G = true) (σ : sg) (hw : WD σ) : cM l yX4_image wsX4_image rmX4_image G [.ref (gob G 3)] σ (some (.int (fX4_image σ).1)) (fX4_image σ).2 := by
  refine cM_of (maxL := 1) (ret := (some .int)) (cc := cX4_image) (fX4_image σ) RX4 hN (by decide +kernel) rfl rfl (Nat.le_of_ble_eq_true rfl) rfl ?_
  intro p e s m args below meth c K hr
  have k0 : (0 : Int32).toInt = 0 := rfl
  have k1 : (1 : Int32).toInt = 1 := rfl
  refine qq_st (lv' := [some (.ref (gob G 3))]) rfl rfl rfl ?_
  refine qq_T (fX4_image.eq_1 ..) ?_
  refine q_aload_n (pc := 0) K dX4_image_0 rfl rfl ?_
  refine q_get (pc := 1) (o := 3) (f := 2) (v := .ref (gob G 2)) K (wO_x hG) vw_3 iwX4_image_X4 (by decide) mX4_image_f19 rfl dX4_image_1 ?_
  refine q_aload_n (pc := 4) K dX4_image_4 rfl rfl ?_
  refine q_get (pc := 5) (o := 3) (f := 0) (v := .ref (gob G 0)) K (wO_x hG) vw_3 iwX4_image_X4 (by decide) mX4_image_f12 rfl dX4_image_5 ?_
  refine q_callVv (pc := 8) (o := 2) (rm := rmX0_take) K (kX0_take l hN hG 2 (show 2 < 3 by decide) 0 (show 0 < 3 by decide) σ hw) gX4_image_X0_take rfl hdV_X0_take ⟨Nat.le_of_ble_eq_true rfl, Nat.le_of_ble_eq_true rfl⟩ rfl rfl ⟨Nat.zero_le _, Nat.zero_le _⟩ (wO_ch hG (show 2 < 3 by decide)) vw_0 rfl rfl (Nat.le_of_ble_eq_true rfl) dX4_image_8 ?_
  refine qq_nmV (fun r1 e2 => ?_)
  have hw3 : WD r1 := by rw [e2]; exact wX0_take 2 (show 2 < 3 by decide) 0 (show 0 < 3 by decide) hw 
  refine q_aload_n (pc := 11) K dX4_image_11 rfl rfl ?_
  refine q_iconst (pc := 12) (v := 1) K dX4_image_12 (by decide) ?_
  refine q_put (pc := 13) (o := 3) (f := 3) (i := 21) (ty := .boolean) K tyX4 tyX4_ok nmX4 (wO_x hG) vw_3 iwX4_image_X4 (by decide) mX4_image_f22 rfl (tyX4_ok 3 (by decide)) rfl rfl (Nat.le_of_ble_eq_true rfl) (wP_x3 hG _) dX4_image_13 (fun s4 e5 => ?_)
  have hw6 : WD s4 := by rw [e5]; exact wdF hw3 (by omega)
  refine q_iconst (pc := 16) (v := 1) K dX4_image_16 (by decide) ?_
  exact q_iret K hr dX4_image_17
theorem hdV_X4_undo : yX4_undo.cls = RX4 ∧ yX4_undo.cls ≠ "java/lang/invoke/MethodHandle" ∧ yX4_undo.cls ≠ "java/lang/invoke/VarHandle" ∧ (parseMethodDescriptor yX4_undo.desc).map (fun d => d.parameters.length) = some 0 := by decide +kernel
theorem mX4_undo_f22 : Cond.fieldLink RX4 22 "WaxTreaties" "anyKept" "Z" ∈ wsX4_undo := List.mem_of_getElem? (i := 1) rfl
theorem iwX4_undo_X4 : ∀ w ∈ wsX40, w ∈ wsX4_undo := fun w h => List.mem_cons_of_mem _ (List.mem_append_left _ (List.mem_append_right _ h))
theorem mX4_undo_f12 : Cond.fieldLink RX4 12 "WaxTreaties" "live" "LWaxTreaties$Chancery;" ∈ wsX4_undo := List.mem_of_getElem? (i := 3) rfl
theorem mX4_undo_f19 : Cond.fieldLink RX4 19 "WaxTreaties" "kept" "LWaxTreaties$Chancery;" ∈ wsX4_undo := List.mem_of_getElem? (i := 4) rfl
theorem mX4_undo_f95 : Cond.fieldLink RX4 95 "WaxTreaties$Chancery" "hour" "I" ∈ wsX4_undo := List.mem_of_getElem? (i := 5) rfl
theorem iwX4_undo_X0 : ∀ w ∈ wsX00, w ∈ wsX4_undo := fun w h => List.mem_cons_of_mem _ (List.mem_append_right _ h)
theorem mX4_undo_c190 : Cond.constant RX4 190 (-1000004) ∈ wsX4_undo := List.mem_of_getElem? (i := 2) rfl
set_option maxRecDepth 100000 in
set_option maxHeartbeats 4000000 in
theorem kX4_undo (l : Launch) {G : gT} (hN : wN G) (hG : gfl G = true) (σ : sg) (hw : WD σ) : cM l yX4_undo wsX4_undo rmX4_undo G [.ref (gob G 3)] σ (some (.int (fX4_undo σ).1)) (fX4_undo σ).2 := by
  refine cM_of (maxL := 1) (ret := (some .int)) (cc := cX4_undo) (fX4_undo σ) RX4 hN (by decide +kernel) rfl rfl (Nat.le_of_ble_eq_true rfl) rfl ?_
  intro p e s m args below meth c K hr
  have km1000004 : ((-1000004) : Int32).toInt = -1000004 := rfl
  have k0 : (0 : Int32).toInt = 0 := rfl
  refine qq_st (lv' := [some (.ref (gob G 3))]) rfl rfl rfl ?_
  refine qq_T (fX4_undo.eq_1 ..) ?_
  refine q_aload_n (pc := 0) K dX4_undo_0 rfl rfl ?_
  refine q_get (pc := 1) (o := 3) (f := 3) (v := .int (rF σ 21)) K (wO_x hG) vw_3 iwX4_undo_X4 (by decide) mX4_undo_f22 rfl dX4_undo_1 ?_
  refine q_if_ne (pc := 4) (tgt := 14) K dX4_undo_4 (by decide) (fun c1 => ?_) (fun c1 => ?_)
  · have i8 := neI c1
    refine q_aload_n (pc := 14) K dX4_undo_14 rfl rfl ?_
    refine q_get (pc := 15) (o := 3) (f := 0) (v := .ref (gob G 0)) K (wO_x hG) vw_3 iwX4_undo_X4 (by decide) mX4_undo_f12 rfl dX4_undo_15 ?_
    refine q_aload_n (pc := 18) K dX4_undo_18 rfl rfl ?_
    refine q_get (pc := 19) (o := 3) (f := 2) (v := .ref (gob G 2)) K (wO_x hG) vw_3 iwX4_undo_X4 (by decide) mX4_undo_f19 rfl dX4_undo_19 ?_
    refine q_callVv (pc := 22) (o := 0) (rm := rmX0_take) K (kX0_take l hN hG 0 (show 0 < 3 by decide) 2 (show 2 < 3 by decide) σ hw) gX4_undo_X0_take rfl hdV_X0_take ⟨Nat.le_of_ble_eq_true rfl, Nat.le_of_ble_eq_true rfl⟩ rfl rfl ⟨Nat.zero_le _, Nat.zero_le _⟩ (wO_ch hG (show 0 < 3 by decide)) vw_0 rfl rfl (Nat.le_of_ble_eq_true rfl) dX4_undo_22 ?_
    refine qq_nmV (fun r2 e3 => ?_)
    have hw4 : WD r2 := by rw [e3]; exact wX0_take 0 (show 0 < 3 by decide) 2 (show 2 < 3 by decide) hw 
    refine q_aload_n (pc := 25) K dX4_undo_25 rfl rfl ?_
    refine q_get (pc := 26) (o := 3) (f := 0) (v := .ref (gob G 0)) K (wO_x hG) vw_3 iwX4_undo_X4 (by decide) mX4_undo_f12 rfl dX4_undo_26 ?_
    refine q_get (pc := 29) (o := 0) (f := 11) (v := .int (rF r2 (7 * 0 + 4))) K (wO_ch hG (show 0 < 3 by decide)) vw_0 iwX4_undo_X0 (by decide) mX4_undo_f95 rfl dX4_undo_29 ?_
    exact q_iret K hr dX4_undo_32
  · have i9 := eqI c1
    refine q_aload_n (pc := 7) K dX4_undo_7 rfl rfl ?_
    refine q_ldc (pc := 8) (v := (-1000004)) K dX4_undo_8 mX4_undo_c190 ?_
    refine q_callVi (pc := 10) (o := 3) (rm := rmX4_found) K (kX4_found l hN hG (-1000004) σ hw) gX4_undo_X4_found rfl hdV_X4_found ⟨Nat.le_of_ble_eq_true rfl, Nat.le_of_ble_eq_true rfl⟩ rfl rfl ⟨Nat.zero_le _, Nat.zero_le _⟩ (wO_x hG) vw_3 rfl rfl (Nat.le_of_ble_eq_true rfl) dX4_undo_10 ?_
    refine qq_nmI (fun r5 e6 => ?_)
    have hw7 : WD r5.2 := by rw [e6]; exact wX4_found (-1000004) hw 
    exact q_iret K hr dX4_undo_13
theorem hdV_X4_tear : yX4_tear.cls = RX4 ∧ yX4_tear.cls ≠ "java/lang/invoke/MethodHandle" ∧ yX4_tear.cls ≠ "java/lang/invoke/VarHandle" ∧ (parseMethodDescriptor yX4_tear.desc).map (fun d => d.parameters.length) = some 0 := by decide +kernel
theorem mX4_tear_f22 : Cond.fieldLink RX4 22 "WaxTreaties" "anyKept" "Z" ∈ wsX4_tear := List.mem_of_getElem? (i := 1) rfl
theorem iwX4_tear_X4 : ∀ w ∈ wsX40, w ∈ wsX4_tear := fun w h => List.mem_cons_of_mem _ (List.mem_append_right _ h)
set_option maxRecDepth 100000 in
set_option maxHeartbeats 4000000 in
theorem kX4_tear (l : Launch) {G : gT} (hN : wN G) (hG : gfl G = true) (σ : sg) (hw : WD σ) : cM l yX4_tear wsX4_tear rmX4_tear G [.ref (gob G 3)] σ (some (.int (fX4_tear σ).1)) (fX4_tear σ).2 := by
  refine cM_of (maxL := 2) (ret := (some .int)) (cc := cX4_tear) (fX4_tear σ) RX4 hN (by decide +kernel) rfl rfl (Nat.le_of_ble_eq_true rfl) rfl ?_
  intro p e s m args below meth c K hr
  have k0 : (0 : Int32).toInt = 0 := rfl
  have k1 : (1 : Int32).toInt = 1 := rfl
  refine qq_st (lv' := [some (.ref (gob G 3)), none]) rfl rfl rfl ?_
  refine qq_T (fX4_tear.eq_1 ..) ?_
  refine q_aload_n (pc := 0) K dX4_tear_0 rfl rfl ?_
  refine q_get (pc := 1) (o := 3) (f := 3) (v := .int (rF σ 21)) K (wO_x hG) vw_3 iwX4_tear_X4 (by decide) mX4_tear_f22 rfl dX4_tear_1 ?_
  refine q_if_eq (pc := 4) (tgt := 11) K dX4_tear_4 (by decide) (fun c1 => ?_) (fun c1 => ?_)
  · have i8 := eqI c1
    refine q_iconst (pc := 11) (v := 0) K dX4_tear_11 (by decide) ?_
    refine q_istore_n (pc := 12) (lv' := [some (.ref (gob G 3)), some (.int 0)]) K dX4_tear_12 rfl (by decide) (Nat.le_of_ble_eq_true rfl) rfl ?_
    refine q_aload_n (pc := 13) K dX4_tear_13 rfl rfl ?_
    refine q_iconst (pc := 14) (v := 0) K dX4_tear_14 (by decide) ?_
    refine q_put (pc := 15) (o := 3) (f := 3) (i := 21) (ty := .boolean) K tyX4 tyX4_ok nmX4 (wO_x hG) vw_3 iwX4_tear_X4 (by decide) mX4_tear_f22 rfl (tyX4_ok 3 (by decide)) rfl rfl (Nat.le_of_ble_eq_true rfl) (wP_x3 hG _) dX4_tear_15 (fun s2 e3 => ?_)
    have hw4 : WD s2 := by rw [e3]; exact wdF hw (by omega)
    refine q_iload_n (pc := 18) K dX4_tear_18 rfl rfl ?_
    exact q_iret K hr dX4_tear_19
  · have i9 := neI c1
    refine q_iconst (pc := 7) (v := 1) K dX4_tear_7 (by decide) ?_
    refine q_goto (pc := 8) (tgt := 12) K dX4_tear_8 (by decide) ?_
    refine q_istore_n (pc := 12) (lv' := [some (.ref (gob G 3)), some (.int 1)]) K dX4_tear_12 rfl (by decide) (Nat.le_of_ble_eq_true rfl) rfl ?_
    refine q_aload_n (pc := 13) K dX4_tear_13 rfl rfl ?_
    refine q_iconst (pc := 14) (v := 0) K dX4_tear_14 (by decide) ?_
    refine q_put (pc := 15) (o := 3) (f := 3) (i := 21) (ty := .boolean) K tyX4 tyX4_ok nmX4 (wO_x hG) vw_3 iwX4_tear_X4 (by decide) mX4_tear_f22 rfl (tyX4_ok 3 (by decide)) rfl rfl (Nat.le_of_ble_eq_true rfl) (wP_x3 hG _) dX4_tear_15 (fun s5 e6 => ?_)
    have hw7 : WD s5 := by rw [e6]; exact wdF hw (by omega)
    refine q_iload_n (pc := 18) K dX4_tear_18 rfl rfl ?_
    exact q_iret K hr dX4_tear_19
theorem hdV_X4_count : yX4_count.cls = RX4 ∧ yX4_count.cls ≠ "java/lang/invoke/MethodHandle" ∧ yX4_count.cls ≠ "java/lang/invoke/VarHandle" ∧ (parseMethodDescriptor yX4_count.desc).map (fun d => d.parameters.length) = some 1 := by decide +kernel
theorem mX4_count_f12 : Cond.fieldLink RX4 12 "WaxTreaties" "live" "LWaxTreaties$Chancery;" ∈ wsX4_count := List.mem_of_getElem? (i := 1) rfl
theorem iwX4_count_X4 : ∀ w ∈ wsX40, w ∈ wsX4_count := fun w h => List.mem_cons_of_mem _ (List.mem_append_left _ (List.mem_append_left _ (List.mem_append_right _ h)))
theorem mX4_count_f95 : Cond.fieldLink RX4 95 "WaxTreaties$Chancery" "hour" "I" ∈ wsX4_count := List.mem_of_getElem? (i := 2) rfl
theorem iwX4_count_X0 : ∀ w ∈ wsX00, w ∈ wsX4_count := fun w h => List.mem_cons_of_mem _ (List.mem_append_left _ (List.mem_append_right _ h))
theorem mX4_count_f151 : Cond.fieldLink RX4 151 "WaxTreaties$Chancery" "deeds" "I" ∈ wsX4_count := List.mem_of_getElem? (i := 3) rfl
theorem mX4_count_f145 : Cond.fieldLink RX4 145 "WaxTreaties$Chancery" "summer" "I" ∈ wsX4_count := List.mem_of_getElem? (i := 4) rfl
theorem mX4_count_f128 : Cond.fieldLink RX4 128 "WaxTreaties$Chancery" "open" "I" ∈ wsX4_count := List.mem_of_getElem? (i := 5) rfl
theorem mX4_count_f29 : Cond.fieldLink RX4 29 "WaxTreaties" "tape" "LWaxTreaties$Tape;" ∈ wsX4_count := List.mem_of_getElem? (i := 6) rfl
theorem mX4_count_f255 : Cond.fieldLink RX4 255 "WaxTreaties$Tape" "length" "I" ∈ wsX4_count := List.mem_of_getElem? (i := 7) rfl
theorem iwX4_count_X3 : ∀ w ∈ wsX30, w ∈ wsX4_count := fun w h => List.mem_cons_of_mem _ (List.mem_append_right _ h)
theorem mX4_count_f252 : Cond.fieldLink RX4 252 "WaxTreaties$Chancery" "z" "I" ∈ wsX4_count := List.mem_of_getElem? (i := 8) rfl
theorem mX4_count_c53 : Cond.constant RX4 53 (-1000001) ∈ wsX4_count := List.mem_of_getElem? (i := 9) rfl
set_option maxRecDepth 100000 in
set_option maxHeartbeats 4000000 in
theorem kX4_count (l : Launch) {G : gT} (hN : wN G) (hG : gfl G = true) (v1 : Int32) (σ : sg) (hw : WD σ) : cM l yX4_count wsX4_count rmX4_count G [.ref (gob G 3), .int v1] σ (some (.int (fX4_count v1 σ).1)) (fX4_count v1 σ).2 := by
  refine cM_of (maxL := 2) (ret := (some .int)) (cc := cX4_count) (fX4_count v1 σ) RX4 hN (by decide +kernel) rfl rfl (Nat.le_of_ble_eq_true rfl) rfl ?_
  intro p e s m args below meth c K hr
  have km1000001 : ((-1000001) : Int32).toInt = -1000001 := rfl
  have k0 : (0 : Int32).toInt = 0 := rfl
  have k1 : (1 : Int32).toInt = 1 := rfl
  have k2 : (2 : Int32).toInt = 2 := rfl
  have k3 : (3 : Int32).toInt = 3 := rfl
  have k4 : (4 : Int32).toInt = 4 := rfl
  have k5 : (5 : Int32).toInt = 5 := rfl
  have k6 : (6 : Int32).toInt = 6 := rfl
  have k7 : (7 : Int32).toInt = 7 := rfl
  refine qq_st (lv' := [some (.ref (gob G 3)), some (.int v1)]) rfl rfl rfl ?_
  refine qq_T (fX4_count.eq_1 ..) ?_
  refine q_iload_n (pc := 0) K dX4_count_0 rfl rfl ?_
  refine q_case (v := 0) (fun c1 => ?_) (fun c1 => ?_)
  · have i28 := eqI c1
    refine q_tableIn (pc := 1) (tgt := 48) K dX4_count_1 c1 (by decide) (by decide) rfl (by decide) ?_
    refine q_aload_n (pc := 48) K dX4_count_48 rfl rfl ?_
    refine q_get (pc := 49) (o := 3) (f := 0) (v := .ref (gob G 0)) K (wO_x hG) vw_3 iwX4_count_X4 (by decide) mX4_count_f12 rfl dX4_count_49 ?_
    refine q_get (pc := 52) (o := 0) (f := 11) (v := .int (rF σ (7 * 0 + 4))) K (wO_ch hG (show 0 < 3 by decide)) vw_0 iwX4_count_X0 (by decide) mX4_count_f95 rfl dX4_count_52 ?_
    exact q_iret K hr dX4_count_55
  · have i29 := neI c1
    refine q_case (v := 1) (fun c2 => ?_) (fun c2 => ?_)
    · have i26 := eqI c2
      refine q_tableIn (pc := 1) (tgt := 56) K dX4_count_1 c2 (by decide) (by decide) rfl (by decide) ?_
      refine q_aload_n (pc := 56) K dX4_count_56 rfl rfl ?_
      refine q_get (pc := 57) (o := 3) (f := 0) (v := .ref (gob G 0)) K (wO_x hG) vw_3 iwX4_count_X4 (by decide) mX4_count_f12 rfl dX4_count_57 ?_
      refine q_get (pc := 60) (o := 0) (f := 8) (v := .int (rF σ (7 * 0 + 1))) K (wO_ch hG (show 0 < 3 by decide)) vw_0 iwX4_count_X0 (by decide) mX4_count_f151 rfl dX4_count_60 ?_
      have w3 := wd_deeds hw (show 0 < 3 by decide)
      exact q_iret K hr dX4_count_63
    · have i27 := neI c2
      refine q_case (v := 2) (fun c4 => ?_) (fun c4 => ?_)
      · have i24 := eqI c4
        refine q_tableIn (pc := 1) (tgt := 64) K dX4_count_1 c4 (by decide) (by decide) rfl (by decide) ?_
        refine q_aload_n (pc := 64) K dX4_count_64 rfl rfl ?_
        refine q_get (pc := 65) (o := 3) (f := 0) (v := .ref (gob G 0)) K (wO_x hG) vw_3 iwX4_count_X4 (by decide) mX4_count_f12 rfl dX4_count_65 ?_
        refine q_get (pc := 68) (o := 0) (f := 12) (v := .int (rF σ (7 * 0 + 5))) K (wO_ch hG (show 0 < 3 by decide)) vw_0 iwX4_count_X0 (by decide) mX4_count_f145 rfl dX4_count_68 ?_
        exact q_iret K hr dX4_count_71
      · have i25 := neI c4
        refine q_case (v := 3) (fun c5 => ?_) (fun c5 => ?_)
        · have i22 := eqI c5
          refine q_tableIn (pc := 1) (tgt := 72) K dX4_count_1 c5 (by decide) (by decide) rfl (by decide) ?_
          refine q_aload_n (pc := 72) K dX4_count_72 rfl rfl ?_
          refine q_get (pc := 73) (o := 3) (f := 0) (v := .ref (gob G 0)) K (wO_x hG) vw_3 iwX4_count_X4 (by decide) mX4_count_f12 rfl dX4_count_73 ?_
          refine q_get (pc := 76) (o := 0) (f := 9) (v := .int (rF σ (7 * 0 + 2))) K (wO_ch hG (show 0 < 3 by decide)) vw_0 iwX4_count_X0 (by decide) mX4_count_f128 rfl dX4_count_76 ?_
          exact q_iret K hr dX4_count_79
        · have i23 := neI c5
          refine q_case (v := 4) (fun c6 => ?_) (fun c6 => ?_)
          · have i20 := eqI c6
            refine q_tableIn (pc := 1) (tgt := 80) K dX4_count_1 c6 (by decide) (by decide) rfl (by decide) ?_
            refine q_aload_n (pc := 80) K dX4_count_80 rfl rfl ?_
            refine q_get (pc := 81) (o := 3) (f := 0) (v := .ref (gob G 0)) K (wO_x hG) vw_3 iwX4_count_X4 (by decide) mX4_count_f12 rfl dX4_count_81 ?_
            refine q_callVi (pc := 84) (o := 0) (rm := rmX0_iceOfAll) K (kX0_iceOfAll l hN hG 0 (show 0 < 3 by decide) σ hw) gX4_count_X0_iceOfAll rfl hdV_X0_iceOfAll ⟨Nat.le_of_ble_eq_true rfl, Nat.le_of_ble_eq_true rfl⟩ rfl rfl ⟨Nat.zero_le _, Nat.zero_le _⟩ (wO_ch hG (show 0 < 3 by decide)) vw_0 rfl rfl (Nat.le_of_ble_eq_true rfl) dX4_count_84 ?_
            exact q_iret K hr dX4_count_87
          · have i21 := neI c6
            refine q_case (v := 5) (fun c7 => ?_) (fun c7 => ?_)
            · have i18 := eqI c7
              refine q_tableIn (pc := 1) (tgt := 88) K dX4_count_1 c7 (by decide) (by decide) rfl (by decide) ?_
              refine q_aload_n (pc := 88) K dX4_count_88 rfl rfl ?_
              refine q_get (pc := 89) (o := 3) (f := 4) (v := .ref (gob G 4)) K (wO_x hG) vw_3 iwX4_count_X4 (by decide) mX4_count_f29 rfl dX4_count_89 ?_
              refine q_get (pc := 92) (o := 4) (f := 1) (v := .int (rF σ 22)) K (wO_tp hG) vw_2 iwX4_count_X3 (by decide) mX4_count_f255 rfl dX4_count_92 ?_
              have w8 := wd_len hw
              exact q_iret K hr dX4_count_95
            · have i19 := neI c7
              refine q_case (v := 6) (fun c9 => ?_) (fun c9 => ?_)
              · have i16 := eqI c9
                refine q_tableIn (pc := 1) (tgt := 96) K dX4_count_1 c9 (by decide) (by decide) rfl (by decide) ?_
                refine q_aload_n (pc := 96) K dX4_count_96 rfl rfl ?_
                refine q_get (pc := 97) (o := 3) (f := 0) (v := .ref (gob G 0)) K (wO_x hG) vw_3 iwX4_count_X4 (by decide) mX4_count_f12 rfl dX4_count_97 ?_
                refine q_get (pc := 100) (o := 0) (f := 13) (v := .int (rF σ (7 * 0 + 6))) K (wO_ch hG (show 0 < 3 by decide)) vw_0 iwX4_count_X0 (by decide) mX4_count_f252 rfl dX4_count_100 ?_
                exact q_iret K hr dX4_count_103
              · have i17 := neI c9
                refine q_case (v := 7) (fun c10 => ?_) (fun c10 => ?_)
                · have i14 := eqI c10
                  refine q_tableIn (pc := 1) (tgt := 104) K dX4_count_1 c10 (by decide) (by decide) rfl (by decide) ?_
                  refine q_aload_n (pc := 104) K dX4_count_104 rfl rfl ?_
                  refine q_get (pc := 105) (o := 3) (f := 0) (v := .ref (gob G 0)) K (wO_x hG) vw_3 iwX4_count_X4 (by decide) mX4_count_f12 rfl dX4_count_105 ?_
                  refine q_callVi (pc := 108) (o := 0) (rm := rmX0_spotsHeld) K (kX0_spotsHeld l hN hG 0 (show 0 < 3 by decide) σ hw) gX4_count_X0_spotsHeld rfl hdV_X0_spotsHeld ⟨Nat.le_of_ble_eq_true rfl, Nat.le_of_ble_eq_true rfl⟩ rfl rfl ⟨Nat.zero_le _, Nat.zero_le _⟩ (wO_ch hG (show 0 < 3 by decide)) vw_0 rfl rfl (Nat.le_of_ble_eq_true rfl) dX4_count_108 ?_
                  exact q_iret K hr dX4_count_111
                · have i15 := neI c10
                  refine q_tableOut (pc := 1) (tgt := 112) K dX4_count_1 (by omega) (by decide) ?_
                  refine q_aload_n (pc := 112) K dX4_count_112 rfl rfl ?_
                  refine q_ldc (pc := 113) (v := (-1000001)) K dX4_count_113 mX4_count_c53 ?_
                  refine q_callVi (pc := 115) (o := 3) (rm := rmX4_found) K (kX4_found l hN hG (-1000001) σ hw) gX4_count_X4_found rfl hdV_X4_found ⟨Nat.le_of_ble_eq_true rfl, Nat.le_of_ble_eq_true rfl⟩ rfl rfl ⟨Nat.zero_le _, Nat.zero_le _⟩ (wO_x hG) vw_3 rfl rfl (Nat.le_of_ble_eq_true rfl) dX4_count_115 ?_
                  refine qq_nmI (fun r11 e12 => ?_)
                  have hw13 : WD r11.2 := by rw [e12]; exact wX4_found (-1000001) hw 
                  exact q_iret K hr dX4_count_118
theorem hdV_X4_status : yX4_status.cls = RX4 ∧ yX4_status.cls ≠ "java/lang/invoke/MethodHandle" ∧ yX4_status.cls ≠ "java/lang/invoke/VarHandle" ∧ (parseMethodDescriptor yX4_status.desc).map (fun d => d.parameters.length) = some 1 := by decide +kernel
theorem mX4_status_f39 : Cond.fieldLink RX4 39 "WaxTreaties" "findings" "[I" ∈ wsX4_status := List.mem_of_getElem? (i := 2) rfl
theorem iwX4_status_X4 : ∀ w ∈ wsX40, w ∈ wsX4_status := fun w h => List.mem_cons_of_mem _ (List.mem_append_right _ h)
theorem mX4_status_c53 : Cond.constant RX4 53 (-1000001) ∈ wsX4_status := List.mem_of_getElem? (i := 1) rfl
set_option maxRecDepth 100000 in
set_option maxHeartbeats 4000000 in
theorem lX4_status_32 {p : Program} (l : Launch) {e : Env} {s : State} {m : MethodId} {args : Array Value} {below : List Frame} {meth : Method} {c : Code} {Q : State → Prop} {G : gT} (hN : wN G) (hG : gfl G = true) (K : qK p s m args meth c cX4_status 4 RX4 wsX4_status G) : ∀ (k : Nat) (v2 v3 : Int32) (σ : sg) (hw : WD σ) (hv3 : 0 ≤ v3.toInt ∧ v3.toInt ≤ 7) (hmu : (7 - v3.toInt).toNat < k) {ρ : Type} {E : ρ → Prop} {f : Int32 → ρ} (hk : ∀ r : Int32, qq p l e (headSpec wsX4_status rmX4_status).room s m args below meth c Q 4 G E (f r) 53 [none, none, some (.int r), none] [] σ), qq p l e (headSpec wsX4_status rmX4_status).room s m args below meth c Q 4 G E (bnd (LX4_status_32 k v2 v3 σ) f) 32 [some (.ref (gob G 3)), none, some (.int v2), some (.int v3)] [] σ := by
  intro k
  induction k with
  | zero => intro v2 v3 σ hw hv3 hmu ρ E f hk; exact absurd hmu (Nat.not_lt_zero _)
  | succ k ih =>
    intro v2 v3 σ hw hv3 hmu ρ E f hk
    have k0 : (0 : Int32).toInt = 0 := rfl
    have k1 : (1 : Int32).toInt = 1 := rfl
    have k7 : (7 : Int32).toInt = 7 := rfl
    refine qq_in ?_
    refine qq_T (LX4_status_32.eq_2 ..) ?_
    refine q_iload_n (pc := 32) K dX4_status_32 rfl rfl ?_
    refine q_bipush (pc := 33) (v := 7) K dX4_status_33 (by decide) ?_
    refine q_icmp_ge (pc := 35) (tgt := 53) K dX4_status_35 (by decide) (fun c3 => ?_) (fun c3 => ?_)
    · have i5 := leI c3
      refine qq_drop 0 (lv' := [none, none, some (.int v2), some (.int v3)]) rfl ?_
      refine qq_drop 3 (lv' := [none, none, some (.int v2), none]) rfl ?_
      exact qq_leaf (hk v2)
    · have i6 := nleI c3
      refine q_iload_n (pc := 38) K dX4_status_38 rfl rfl ?_
      refine q_aload_n (pc := 39) K dX4_status_39 rfl rfl ?_
      refine q_get (pc := 40) (o := 3) (f := 6) (v := .ref (gad G 29)) K (wO_x hG) vw_3 iwX4_status_X4 (by decide) mX4_status_f39 rfl dX4_status_40 ?_
      refine q_iload_n (pc := 43) K dX4_status_43 rfl rfl ?_
      refine q_iald (pc := 44) (a := 29) K (by rw [wna_t hG]; decide) (vinN (wld (n := 7) hG 29 rfl) (by omega) (by omega)) dX4_status_44 ?_
      refine q_iadd (pc := 45) K dX4_status_45 ?_
      refine q_istore_n (pc := 46) (lv' := [some (.ref (gob G 3)), none, some (.int (v2 + (rA σ 29 v3))), some (.int v3)]) K dX4_status_46 rfl (by decide) (Nat.le_of_ble_eq_true rfl) rfl ?_
      refine q_iinc (pc := 47) (v := (v3 + 1)) (lv' := [some (.ref (gob G 3)), none, some (.int (v2 + (rA σ 29 v3))), some (.int (v3 + 1))]) K dX4_status_47 rfl rfl (by decide) rfl ?_
      refine q_goto (pc := 50) (tgt := 32) K dX4_status_50 (by decide) ?_
      have a4 := addI (x := v3) (y := 1) (by omega) (by omega)
      exact qq_out (ih (v2 + (rA σ 29 v3)) (v3 + 1) σ hw (by omega) (by omega) hk)
set_option maxRecDepth 100000 in
set_option maxHeartbeats 4000000 in
theorem kX4_status (l : Launch) {G : gT} (hN : wN G) (hG : gfl G = true) (v1 : Int32) (σ : sg) (hw : WD σ) : cM l yX4_status wsX4_status rmX4_status G [.ref (gob G 3), .int v1] σ (some (.int (fX4_status v1 σ).1)) (fX4_status v1 σ).2 := by
  refine cM_of (maxL := 4) (ret := (some .int)) (cc := cX4_status) (fX4_status v1 σ) RX4 hN (by decide +kernel) rfl rfl (Nat.le_of_ble_eq_true rfl) rfl ?_
  intro p e s m args below meth c K hr
  have km1000001 : ((-1000001) : Int32).toInt = -1000001 := rfl
  have km1 : ((-1) : Int32).toInt = -1 := rfl
  have k0 : (0 : Int32).toInt = 0 := rfl
  have k6 : (6 : Int32).toInt = 6 := rfl
  refine qq_st (lv' := [some (.ref (gob G 3)), some (.int v1), none, none]) rfl rfl rfl ?_
  refine qq_T (fX4_status.eq_1 ..) ?_
  refine q_iload_n (pc := 0) K dX4_status_0 rfl rfl ?_
  refine q_iconst (pc := 1) (v := (-1)) K dX4_status_1 (by decide) ?_
  refine q_bipush (pc := 2) (v := 6) K dX4_status_2 (by decide) ?_
  refine q_callSi (pc := 4) (rm := rmX4_isWithin) K (kX4_isWithin l hN v1 (-1) 6 σ) gX4_status_X4_isWithin rfl hdS_X4_isWithin ⟨Nat.le_of_ble_eq_true rfl, Nat.le_of_ble_eq_true rfl⟩ rfl rfl ⟨Nat.zero_le _, Nat.zero_le _⟩ rfl rfl (Nat.le_of_ble_eq_true rfl) dX4_status_4 ?_
  refine q_if_ne (pc := 7) (tgt := 17) K dX4_status_7 (by decide) (fun c1 => ?_) (fun c1 => ?_)
  · have i14 := neI c1
    have b15 := isW_t c1
    refine q_iload_n (pc := 17) K dX4_status_17 rfl rfl ?_
    refine q_if_lt (pc := 18) (tgt := 28) K dX4_status_18 (by decide) (fun c2 => ?_) (fun c2 => ?_)
    · have i9 := ltI c2
      refine q_iconst (pc := 28) (v := 0) K dX4_status_28 (by decide) ?_
      refine q_istore_n (pc := 29) (lv' := [some (.ref (gob G 3)), some (.int v1), some (.int 0), none]) K dX4_status_29 rfl (by decide) (Nat.le_of_ble_eq_true rfl) rfl ?_
      refine q_iconst (pc := 30) (v := 0) K dX4_status_30 (by decide) ?_
      refine q_istore_n (pc := 31) (lv' := [some (.ref (gob G 3)), some (.int v1), some (.int 0), some (.int 0)]) K dX4_status_31 rfl (by decide) (Nat.le_of_ble_eq_true rfl) rfl ?_
      refine qq_drop 1 (lv' := [some (.ref (gob G 3)), none, some (.int 0), some (.int 0)]) rfl ?_
      refine lX4_status_32 l hN hG K 8 0 0 σ hw (by omega) (by omega) (fun r7 => ?_)
      refine q_iload_n (pc := 53) K dX4_status_53 rfl rfl ?_
      exact q_iret K hr dX4_status_54
    · have i10 := nltI c2
      refine q_aload_n (pc := 21) K dX4_status_21 rfl rfl ?_
      refine q_get (pc := 22) (o := 3) (f := 6) (v := .ref (gad G 29)) K (wO_x hG) vw_3 iwX4_status_X4 (by decide) mX4_status_f39 rfl dX4_status_22 ?_
      refine q_iload_n (pc := 25) K dX4_status_25 rfl rfl ?_
      refine q_iald (pc := 26) (a := 29) K (by rw [wna_t hG]; decide) (vinN (wld (n := 7) hG 29 rfl) (by omega) (by omega)) dX4_status_26 ?_
      exact q_iret K hr dX4_status_27
  · have i16 := eqI c1
    have b17 := isW_f c1
    refine q_aload_n (pc := 10) K dX4_status_10 rfl rfl ?_
    refine q_ldc (pc := 11) (v := (-1000001)) K dX4_status_11 mX4_status_c53 ?_
    refine q_callVi (pc := 13) (o := 3) (rm := rmX4_found) K (kX4_found l hN hG (-1000001) σ hw) gX4_status_X4_found rfl hdV_X4_found ⟨Nat.le_of_ble_eq_true rfl, Nat.le_of_ble_eq_true rfl⟩ rfl rfl ⟨Nat.zero_le _, Nat.zero_le _⟩ (wO_x hG) vw_3 rfl rfl (Nat.le_of_ble_eq_true rfl) dX4_status_13 ?_
    refine qq_nmI (fun r11 e12 => ?_)
    have hw13 : WD r11.2 := by rw [e12]; exact wX4_found (-1000001) hw 
    exact q_iret K hr dX4_status_16
theorem hdV_X3_append : yX3_append.cls = RX3 ∧ yX3_append.cls ≠ "java/lang/invoke/MethodHandle" ∧ yX3_append.cls ≠ "java/lang/invoke/VarHandle" ∧ (parseMethodDescriptor yX3_append.desc).map (fun d => d.parameters.length) = some 1 := by decide +kernel
theorem mX3_append_f15 : Cond.fieldLink RX3 15 "WaxTreaties$Tape" "length" "I" ∈ wsX3_append := List.mem_of_getElem? (i := 1) rfl
theorem iwX3_append_X3 : ∀ w ∈ wsX30, w ∈ wsX3_append := fun w h => List.mem_cons_of_mem _ (List.mem_append_right _ h)
theorem mX3_append_f9 : Cond.fieldLink RX3 9 "WaxTreaties$Tape" "bytes" "[I" ∈ wsX3_append := List.mem_of_getElem? (i := 2) rfl
set_option maxRecDepth 100000 in
set_option maxHeartbeats 4000000 in
theorem kX3_append (l : Launch) {G : gT} (hN : wN G) (hG : gfl G = true) (v1 : Int32) (σ : sg) (hw : WD σ) : cM l yX3_append wsX3_append rmX3_append G [.ref (gob G 4), .int v1] σ none (fX3_append v1 σ) := by
  refine cM_of (maxL := 2) (ret := none) (cc := cX3_append) (fX3_append v1 σ) RX3 hN (by decide +kernel) rfl rfl (Nat.le_of_ble_eq_true rfl) rfl ?_
  intro p e s m args below meth c K hr
  have k0 : (0 : Int32).toInt = 0 := rfl
  have k1 : (1 : Int32).toInt = 1 := rfl
  have k120 : (120 : Int32).toInt = 120 := rfl
  refine qq_st (lv' := [some (.ref (gob G 4)), some (.int v1)]) rfl rfl rfl ?_
  refine qq_T (fX3_append.eq_1 ..) ?_
  refine q_aload_n (pc := 0) K dX3_append_0 rfl rfl ?_
  refine q_get (pc := 1) (o := 4) (f := 1) (v := .int (rF σ 22)) K (wO_tp hG) vw_2 iwX3_append_X3 (by decide) mX3_append_f15 rfl dX3_append_1 ?_
  have w1 := wd_len hw
  refine q_bipush (pc := 4) (v := 120) K dX3_append_4 (by decide) ?_
  refine q_icmp_ge (pc := 6) (tgt := 29) K dX3_append_6 (by decide) (fun c2 => ?_) (fun c2 => ?_)
  · have i12 := leI c2
    exact q_vretW K hr dX3_append_29
  · have i13 := nleI c2
    refine q_aload_n (pc := 9) K dX3_append_9 rfl rfl ?_
    refine q_get (pc := 10) (o := 4) (f := 0) (v := .ref (gad G 24)) K (wO_tp hG) vw_2 iwX3_append_X3 (by decide) mX3_append_f9 rfl dX3_append_10 ?_
    refine q_aload_n (pc := 13) K dX3_append_13 rfl rfl ?_
    refine q_get (pc := 14) (o := 4) (f := 1) (v := .int (rF σ 22)) K (wO_tp hG) vw_2 iwX3_append_X3 (by decide) mX3_append_f15 rfl dX3_append_14 ?_
    refine q_iload_n (pc := 17) K dX3_append_17 rfl rfl ?_
    refine q_iast (pc := 18) (a := 24) K (by rw [wna_t hG]; decide) (vinN (wld (n := 120) hG 24 rfl) (by omega) (by omega)) dX3_append_18 (fun s3 e4 => ?_)
    have hw5 : WD s3 := by rw [e4]; exact wdA hw (by omega)
    refine q_aload_n (pc := 19) K dX3_append_19 rfl rfl ?_
    refine q_dup (pc := 20) K dX3_append_20 rfl ?_
    refine q_get (pc := 21) (o := 4) (f := 1) (v := .int (rF s3 22)) K (wO_tp hG) vw_2 iwX3_append_X3 (by decide) mX3_append_f15 rfl dX3_append_21 ?_
    have w6 := wd_len hw5
    refine q_iconst (pc := 24) (v := 1) K dX3_append_24 (by decide) ?_
    refine q_iadd (pc := 25) K dX3_append_25 ?_
    have q1 := congrArg Int32.toInt (show rF s3 22 = rF σ 22 by simp only [sA_F, *])
    have a9 := addI (x := (rF s3 22)) (y := 1) (by omega) (by omega)
    refine q_put (pc := 26) (o := 4) (f := 1) (i := 22) (ty := .int) K tyX3 tyX3_ok nmX3 (wO_tp hG) vw_2 iwX3_append_X3 (by decide) mX3_append_f15 rfl (tyX3_ok 1 (by decide)) rfl rfl (Nat.le_of_ble_eq_true rfl) (wP_tp1 hG _) dX3_append_26 (fun s7 e8 => ?_)
    have hw10 : WD s7 := by rw [e8]; exact wdFl hw5 (by omega) (by omega)
    have f11 := congrArg Int32.toInt (show rF s7 22 = ((rF s3 22) + 1) by rw [e8]; exact sF_same9)
    exact q_vretW K hr dX3_append_29
theorem hdV_X4_feed : yX4_feed.cls = RX4 ∧ yX4_feed.cls ≠ "java/lang/invoke/MethodHandle" ∧ yX4_feed.cls ≠ "java/lang/invoke/VarHandle" ∧ (parseMethodDescriptor yX4_feed.desc).map (fun d => d.parameters.length) = some 2 := by decide +kernel
theorem mX4_feed_f29 : Cond.fieldLink RX4 29 "WaxTreaties" "tape" "LWaxTreaties$Tape;" ∈ wsX4_feed := List.mem_of_getElem? (i := 2) rfl
theorem iwX4_feed_X4 : ∀ w ∈ wsX40, w ∈ wsX4_feed := fun w h => List.mem_cons_of_mem _ (List.mem_append_left _ (List.mem_append_right _ h))
theorem mX4_feed_f255 : Cond.fieldLink RX4 255 "WaxTreaties$Tape" "length" "I" ∈ wsX4_feed := List.mem_of_getElem? (i := 3) rfl
theorem iwX4_feed_X3 : ∀ w ∈ wsX30, w ∈ wsX4_feed := fun w h => List.mem_cons_of_mem _ (List.mem_append_right _ h)
theorem mX4_feed_c62 : Cond.constant RX4 62 (-1000002) ∈ wsX4_feed := List.mem_of_getElem? (i := 4) rfl
theorem mX4_feed_c53 : Cond.constant RX4 53 (-1000001) ∈ wsX4_feed := List.mem_of_getElem? (i := 1) rfl
set_option maxRecDepth 100000 in
set_option maxHeartbeats 4000000 in
theorem lX4_feed_41 {p : Program} (l : Launch) {e : Env} {s : State} {m : MethodId} {args : Array Value} {below : List Frame} {meth : Method} {c : Code} {Q : State → Prop} {G : gT} (hN : wN G) (hG : gfl G = true) (K : qK p s m args meth c cX4_feed 4 RX4 wsX4_feed G) : ∀ (k : Nat) (v1 v3 : Int32) (σ : sg) (hw : WD σ) (hv3 : -1 ≤ v3.toInt ∧ v3.toInt ≤ 3) (hmu : (v3.toInt + 1).toNat < k) {ρ : Type} {E : ρ → Prop} {f : sg → ρ} (hk : ∀ r : sg, (WD r) → qq p l e (headSpec wsX4_feed rmX4_feed).room s m args below meth c Q 4 G E (f r) 68 [some (.ref (gob G 3)), none, none, none] [] r), qq p l e (headSpec wsX4_feed rmX4_feed).room s m args below meth c Q 4 G E (bnd (LX4_feed_41 k v1 v3 σ) f) 41 [some (.ref (gob G 3)), some (.int v1), none, some (.int v3)] [] σ := by
  intro k
  induction k with
  | zero => intro v1 v3 σ hw hv3 hmu ρ E f hk; exact absurd hmu (Nat.not_lt_zero _)
  | succ k ih =>
    intro v1 v3 σ hw hv3 hmu ρ E f hk
    have km1 : ((-1) : Int32).toInt = -1 := rfl
    have k0 : (0 : Int32).toInt = 0 := rfl
    have k8 : (8 : Int32).toInt = 8 := rfl
    have k255 : (255 : Int32).toInt = 255 := rfl
    refine qq_in ?_
    refine qq_T (LX4_feed_41.eq_2 ..) ?_
    refine q_iload_n (pc := 41) K dX4_feed_41 rfl rfl ?_
    refine q_if_lt (pc := 42) (tgt := 68) K dX4_feed_42 (by decide) (fun c4 => ?_) (fun c4 => ?_)
    · have i9 := ltI c4
      refine qq_drop 1 (lv' := [some (.ref (gob G 3)), none, none, some (.int v3)]) rfl ?_
      refine qq_drop 3 (lv' := [some (.ref (gob G 3)), none, none, none]) rfl ?_
      exact qq_leaf (hk σ hw)
    · have i10 := nltI c4
      refine q_aload_n (pc := 45) K dX4_feed_45 rfl rfl ?_
      refine q_get (pc := 46) (o := 3) (f := 4) (v := .ref (gob G 4)) K (wO_x hG) vw_3 iwX4_feed_X4 (by decide) mX4_feed_f29 rfl dX4_feed_46 ?_
      refine q_iload_n (pc := 49) K dX4_feed_49 rfl rfl ?_
      refine q_bipush (pc := 50) (v := 8) K dX4_feed_50 (by decide) ?_
      refine q_iload_n (pc := 52) K dX4_feed_52 rfl rfl ?_
      refine q_imul (pc := 53) K dX4_feed_53 ?_
      refine q_iushr (pc := 54) K dX4_feed_54 ?_
      refine q_sipush (pc := 55) (v := 255) K dX4_feed_55 (by decide) ?_
      refine q_iand (pc := 58) K dX4_feed_58 ?_
      refine q_callVv (pc := 59) (o := 4) (rm := rmX3_append) K (kX3_append l hN hG ((jushr v1 (8 * v3)) &&& 255) σ hw) gX4_feed_X3_append rfl hdV_X3_append ⟨Nat.le_of_ble_eq_true rfl, Nat.le_of_ble_eq_true rfl⟩ rfl rfl ⟨Nat.zero_le _, Nat.zero_le _⟩ (wO_tp hG) vw_2 rfl rfl (Nat.le_of_ble_eq_true rfl) dX4_feed_59 ?_
      refine qq_nmV (fun r5 e6 => ?_)
      have hw7 : WD r5 := by rw [e6]; exact wX3_append ((jushr v1 (8 * v3)) &&& 255) hw 
      refine q_iinc (pc := 62) (v := (v3 + (-1))) (lv' := [some (.ref (gob G 3)), some (.int v1), none, some (.int (v3 + (-1)))]) K dX4_feed_62 rfl rfl (by decide) rfl ?_
      refine q_goto (pc := 65) (tgt := 41) K dX4_feed_65 (by decide) ?_
      have a8 := addI (x := v3) (y := (-1)) (by omega) (by omega)
      exact qq_out (ih v1 (v3 + (-1)) r5 hw7 (by omega) (by omega) hk)
set_option maxRecDepth 100000 in
set_option maxHeartbeats 4000000 in
theorem kX4_feed (l : Launch) {G : gT} (hN : wN G) (hG : gfl G = true) (v1 : Int32) (v2 : Int32) (σ : sg) (hw : WD σ) : cM l yX4_feed wsX4_feed rmX4_feed G [.ref (gob G 3), .int v1, .int v2] σ (some (.int (fX4_feed v1 v2 σ).1)) (fX4_feed v1 v2 σ).2 := by
  refine cM_of (maxL := 4) (ret := (some .int)) (cc := cX4_feed) (fX4_feed v1 v2 σ) RX4 hN (by decide +kernel) rfl rfl (Nat.le_of_ble_eq_true rfl) rfl ?_
  intro p e s m args below meth c K hr
  have km1000002 : ((-1000002) : Int32).toInt = -1000002 := rfl
  have km1000001 : ((-1000001) : Int32).toInt = -1000001 := rfl
  have k0 : (0 : Int32).toInt = 0 := rfl
  have k1 : (1 : Int32).toInt = 1 := rfl
  have k4 : (4 : Int32).toInt = 4 := rfl
  have k120 : (120 : Int32).toInt = 120 := rfl
  refine qq_st (lv' := [some (.ref (gob G 3)), some (.int v1), some (.int v2), none]) rfl rfl rfl ?_
  refine qq_T (fX4_feed.eq_1 ..) ?_
  refine q_iload_n (pc := 0) K dX4_feed_0 rfl rfl ?_
  refine q_iconst (pc := 1) (v := 1) K dX4_feed_1 (by decide) ?_
  refine q_iconst (pc := 2) (v := 4) K dX4_feed_2 (by decide) ?_
  refine q_callSi (pc := 3) (rm := rmX4_isWithin) K (kX4_isWithin l hN v2 1 4 σ) gX4_feed_X4_isWithin rfl hdS_X4_isWithin ⟨Nat.le_of_ble_eq_true rfl, Nat.le_of_ble_eq_true rfl⟩ rfl rfl ⟨Nat.zero_le _, Nat.zero_le _⟩ rfl rfl (Nat.le_of_ble_eq_true rfl) dX4_feed_3 ?_
  refine q_if_ne (pc := 6) (tgt := 16) K dX4_feed_6 (by decide) (fun c1 => ?_) (fun c1 => ?_)
  · have i24 := neI c1
    have b25 := isW_t c1
    refine q_aload_n (pc := 16) K dX4_feed_16 rfl rfl ?_
    refine q_get (pc := 17) (o := 3) (f := 4) (v := .ref (gob G 4)) K (wO_x hG) vw_3 iwX4_feed_X4 (by decide) mX4_feed_f29 rfl dX4_feed_17 ?_
    refine q_get (pc := 20) (o := 4) (f := 1) (v := .int (rF σ 22)) K (wO_tp hG) vw_2 iwX4_feed_X3 (by decide) mX4_feed_f255 rfl dX4_feed_20 ?_
    have w2 := wd_len hw
    refine q_iload_n (pc := 23) K dX4_feed_23 rfl rfl ?_
    refine q_iadd (pc := 24) K dX4_feed_24 ?_
    refine q_bipush (pc := 25) (v := 120) K dX4_feed_25 (by decide) ?_
    refine q_icmp_le (pc := 27) (tgt := 37) K dX4_feed_27 (by decide) (fun c3 => ?_) (fun c3 => ?_)
    · have i19 := leI c3
      refine q_iload_n (pc := 37) K dX4_feed_37 rfl rfl ?_
      refine q_iconst (pc := 38) (v := 1) K dX4_feed_38 (by decide) ?_
      refine q_isub (pc := 39) K dX4_feed_39 ?_
      refine q_istore_n (pc := 40) (lv' := [some (.ref (gob G 3)), some (.int v1), some (.int v2), some (.int (v2 - 1))]) K dX4_feed_40 rfl (by decide) (Nat.le_of_ble_eq_true rfl) rfl ?_
      refine qq_drop 2 (lv' := [some (.ref (gob G 3)), some (.int v1), none, some (.int (v2 - 1))]) rfl ?_
      have a11 := subI (x := v2) (y := 1) (by omega) (by omega)
      refine lX4_feed_41 l hN hG K 5 v1 (v2 - 1) σ hw (by omega) (by omega) (fun r12 hw14 => ?_)
      refine q_aload_n (pc := 68) K dX4_feed_68 rfl rfl ?_
      refine q_get (pc := 69) (o := 3) (f := 4) (v := .ref (gob G 4)) K (wO_x hG) vw_3 iwX4_feed_X4 (by decide) mX4_feed_f29 rfl dX4_feed_69 ?_
      refine q_get (pc := 72) (o := 4) (f := 1) (v := .int (rF r12 22)) K (wO_tp hG) vw_2 iwX4_feed_X3 (by decide) mX4_feed_f255 rfl dX4_feed_72 ?_
      have w15 := wd_len hw14
      exact q_iret K hr dX4_feed_75
    · have i20 := nleI c3
      refine q_aload_n (pc := 30) K dX4_feed_30 rfl rfl ?_
      refine q_ldc (pc := 31) (v := (-1000002)) K dX4_feed_31 mX4_feed_c62 ?_
      refine q_callVi (pc := 33) (o := 3) (rm := rmX4_found) K (kX4_found l hN hG (-1000002) σ hw) gX4_feed_X4_found rfl hdV_X4_found ⟨Nat.le_of_ble_eq_true rfl, Nat.le_of_ble_eq_true rfl⟩ rfl rfl ⟨Nat.zero_le _, Nat.zero_le _⟩ (wO_x hG) vw_3 rfl rfl (Nat.le_of_ble_eq_true rfl) dX4_feed_33 ?_
      refine qq_nmI (fun r16 e17 => ?_)
      have hw18 : WD r16.2 := by rw [e17]; exact wX4_found (-1000002) hw 
      exact q_iret K hr dX4_feed_36
  · have i26 := eqI c1
    have b27 := isW_f c1
    refine q_aload_n (pc := 9) K dX4_feed_9 rfl rfl ?_
    refine q_ldc (pc := 10) (v := (-1000001)) K dX4_feed_10 mX4_feed_c53 ?_
    refine q_callVi (pc := 12) (o := 3) (rm := rmX4_found) K (kX4_found l hN hG (-1000001) σ hw) gX4_feed_X4_found rfl hdV_X4_found ⟨Nat.le_of_ble_eq_true rfl, Nat.le_of_ble_eq_true rfl⟩ rfl rfl ⟨Nat.zero_le _, Nat.zero_le _⟩ (wO_x hG) vw_3 rfl rfl (Nat.le_of_ble_eq_true rfl) dX4_feed_12 ?_
    refine qq_nmI (fun r21 e22 => ?_)
    have hw23 : WD r21.2 := by rw [e22]; exact wX4_found (-1000001) hw 
    exact q_iret K hr dX4_feed_15
