def rmJ6_bitCount_0f7a4 : Room := { frames := 0, cells := 0, slots := 0, locals := 0 }
def fJ6_bitCount_0f7a4 (v0 : Int32) : Int32 := ((((((((v0 - ((jushr v0 1) &&& 1431655765)) &&& 858993459) + ((jushr (v0 - ((jushr v0 1) &&& 1431655765)) 2) &&& 858993459)) + (jushr (((v0 - ((jushr v0 1) &&& 1431655765)) &&& 858993459) + ((jushr (v0 - ((jushr v0 1) &&& 1431655765)) 2) &&& 858993459)) 4)) &&& 252645135) + (jushr (((((v0 - ((jushr v0 1) &&& 1431655765)) &&& 858993459) + ((jushr (v0 - ((jushr v0 1) &&& 1431655765)) 2) &&& 858993459)) + (jushr (((v0 - ((jushr v0 1) &&& 1431655765)) &&& 858993459) + ((jushr (v0 - ((jushr v0 1) &&& 1431655765)) 2) &&& 858993459)) 4)) &&& 252645135) 8)) + (jushr ((((((v0 - ((jushr v0 1) &&& 1431655765)) &&& 858993459) + ((jushr (v0 - ((jushr v0 1) &&& 1431655765)) 2) &&& 858993459)) + (jushr (((v0 - ((jushr v0 1) &&& 1431655765)) &&& 858993459) + ((jushr (v0 - ((jushr v0 1) &&& 1431655765)) 2) &&& 858993459)) 4)) &&& 252645135) + (jushr (((((v0 - ((jushr v0 1) &&& 1431655765)) &&& 858993459) + ((jushr (v0 - ((jushr v0 1) &&& 1431655765)) 2) &&& 858993459)) + (jushr (((v0 - ((jushr v0 1) &&& 1431655765)) &&& 858993459) + ((jushr (v0 - ((jushr v0 1) &&& 1431655765)) 2) &&& 858993459)) 4)) &&& 252645135) 8)) 16)) &&& 63)
def rmX0_take : Room := { frames := 1, cells := 0, slots := 0, locals := 18 }
def fX0_take (j : Nat) (i1 : Nat) (σ : sg) : sg := bnd (sC σ (8 * i1) 0 (8 * j) 0 8) (fun s1 => bnd (sC s1 (8 * i1 + 1) 0 (8 * j + 1) 0 8) (fun s4 => bnd (sC s4 (8 * i1 + 2) 0 (8 * j + 2) 0 8) (fun s7 => bnd (sC s7 (8 * i1 + 3) 0 (8 * j + 3) 0 8) (fun s10 => bnd (sC s10 (8 * i1 + 4) 0 (8 * j + 4) 0 8) (fun s13 => bnd (sC s13 (8 * i1 + 5) 0 (8 * j + 5) 0 6) (fun s16 => bnd (sC s16 (8 * i1 + 6) 0 (8 * j + 6) 0 10) (fun s19 => bnd (sF9 s19 (7 * j) (rF s19 (7 * i1))) (fun s22 => bnd (sF9 s22 (7 * j + 1) (rF s22 (7 * i1 + 1))) (fun s26 => bnd (sF9 s26 (7 * j + 2) (rF s26 (7 * i1 + 2))) (fun s29 => bnd (sF9 s29 (7 * j + 3) (rF s29 (7 * i1 + 3))) (fun s32 => bnd (sF9 s32 (7 * j + 4) (rF s32 (7 * i1 + 4))) (fun s35 => bnd (sF9 s35 (7 * j + 5) (rF s35 (7 * i1 + 5))) (fun s38 => bnd (sF9 s38 (7 * j + 6) (rF s38 (7 * i1 + 6))) (fun s41 => s41))))))))))))))
def rmX0_addDeed : Room := { frames := 1, cells := 0, slots := 0, locals := 20 }
def fX0_addDeed (j : Nat) (v1 : Int32) (v2 : Int32) (v3 : Int32) (v4 : Int32) (σ : sg) : Int32 × sg := (if (fX0_isFull j σ) = 0 then bnd (sA σ (8 * j) (rF σ (7 * j + 1)) v1) (fun s3 => bnd (sA s3 (8 * j + 1) (rF σ (7 * j + 1)) v2) (fun s6 => bnd (sA s6 (8 * j + 2) (rF σ (7 * j + 1)) v3) (fun s9 => bnd (sA s9 (8 * j + 3) (rF σ (7 * j + 1)) 0) (fun s12 => bnd (sA s12 (8 * j + 4) (rF σ (7 * j + 1)) v4) (fun s15 => bnd (sF9 s15 (7 * j + 1) ((rF s15 (7 * j + 1)) + 1)) (fun s19 => ((rF σ (7 * j + 1)), s19))))))) else ((-1), σ))
def rmX0_setShutter : Room := { frames := 1, cells := 0, slots := 0, locals := 21 }
def fX0_setShutter (j : Nat) (v1 : Int32) (v2 : Int32) (σ : sg) : sg := (if v2 = 0 then bnd (sF9 σ (7 * j + 2) (fX4_without (rF σ (7 * j + 2)) v1)) (fun s2 => s2) else bnd (sF9 σ (7 * j + 2) (fX4_with (rF σ (7 * j + 2)) v1)) (fun s5 => s5))
def rmX0_setCandle : Room := { frames := 1, cells := 0, slots := 0, locals := 21 }
def fX0_setCandle (j : Nat) (v1 : Int32) (v2 : Int32) (σ : sg) : sg := (if v2 = 0 then bnd (sF9 σ (7 * j + 3) (fX4_without (rF σ (7 * j + 3)) v1)) (fun s2 => s2) else bnd (sF9 σ (7 * j + 3) (fX4_with (rF σ (7 * j + 3)) v1)) (fun s5 => s5))
def rmX0_setAllKinds : Room := { frames := 0, cells := 0, slots := 0, locals := 0 }
def LX0_setAllKinds_2 (j : Nat) : Nat → Int32 → Int32 → sg → sg
  | 0, v1, v2, σ => σ
  | k + 1, v1, v2, σ => (if (rF σ (7 * j + 1)) ≤ v2 then σ else bnd (sA σ (8 * j) v2 v1) (fun s3 => LX0_setAllKinds_2 j k v1 (v2 + 1) s3))
def fX0_setAllKinds (j : Nat) (v1 : Int32) (σ : sg) : sg := bnd (LX0_setAllKinds_2 j 9 v1 0 σ) (fun r9 => r9)
def rmX0_bringIce : Room := { frames := 1, cells := 0, slots := 0, locals := 21 }
def fX0_bringIce (j : Nat) (v1 : Int32) (v2 : Int32) (σ : sg) : sg := bnd (sA σ (8 * j + 5) v1 (jmin 99 ((rA σ (8 * j + 5) v1) + v2))) (fun s1 => s1)
def rmX0_makeSealsAnew : Room := { frames := 0, cells := 0, slots := 0, locals := 0 }
def LX0_makeSealsAnew_2 (j : Nat) : Nat → Int32 → sg → sg
  | 0, v1, σ => σ
  | k + 1, v1, σ => (if (rF σ (7 * j + 1)) ≤ v1 then σ else bnd (sA σ (8 * j + 3) v1 0) (fun s3 => LX0_makeSealsAnew_2 j k (v1 + 1) s3))
def fX0_makeSealsAnew (j : Nat) (σ : sg) : sg := bnd (LX0_makeSealsAnew_2 j 9 0 σ) (fun r9 => bnd (sF9 r9 (7 * j) 0) (fun s12 => s12))
def rmX0_draw : Room := { frames := 0, cells := 0, slots := 0, locals := 0 }
def fX0_draw (j : Nat) (σ : sg) : Int32 × sg := bnd (sF9 σ (7 * j + 6) (((rF σ (7 * j + 6)) * 1103515245) + 12345)) (fun s1 => ((jushr (rF s1 (7 * j + 6)) 8), s1))
def rmX0_softOfAll : Room := { frames := 0, cells := 0, slots := 0, locals := 0 }
def LX0_softOfAll_4 (j : Nat) : Nat → Int32 → Int32 → sg → Int32
  | 0, v1, v2, σ => v1
  | k + 1, v1, v2, σ => (if (rF σ (7 * j + 1)) ≤ v2 then v1 else LX0_softOfAll_4 j k (v1 + (rA σ (8 * j + 3) v2)) (v2 + 1) σ)
def fX0_softOfAll (j : Nat) (σ : sg) : Int32 := bnd (LX0_softOfAll_4 j 9 0 0 σ) (fun r6 => r6)
def rmX0_iceOfAll : Room := { frames := 0, cells := 0, slots := 0, locals := 0 }
def LX0_iceOfAll_4 (j : Nat) : Nat → Int32 → Int32 → sg → Int32
  | 0, v1, v2, σ => v1
  | k + 1, v1, v2, σ => (if 6 ≤ v2 then v1 else LX0_iceOfAll_4 j k (v1 + (rA σ (8 * j + 5) v2)) (v2 + 1) σ)
def fX0_iceOfAll (j : Nat) (σ : sg) : Int32 := bnd (LX0_iceOfAll_4 j 7 0 0 σ) (fun r5 => r5)
def rmX0_spotsHeld : Room := { frames := 0, cells := 0, slots := 0, locals := 0 }
def LX0_spotsHeld_4 (j : Nat) : Nat → Int32 → Int32 → sg → Int32
  | 0, v1, v2, σ => v1
  | k + 1, v1, v2, σ => (if 10 ≤ v2 then v1 else (if (rA σ (8 * j + 6) v2) = (-1) then LX0_spotsHeld_4 j k v1 (v2 + 1) σ else LX0_spotsHeld_4 j k (v1 + 1) (v2 + 1) σ))
def fX0_spotsHeld (j : Nat) (σ : sg) : Int32 := bnd (LX0_spotsHeld_4 j 11 0 0 σ) (fun r9 => r9)
def rmX0_hottest : Room := { frames := 3, cells := 0, slots := 0, locals := 66 }
def LX0_hottest_4 (j : Nat) : Nat → Int32 → Int32 → sg → Int32
  | 0, v1, v2, σ => v1
  | k + 1, v1, v2, σ => (if 6 ≤ v2 then v1 else (if (fX0_heatOf j v2 (rF σ (7 * j + 4)) σ) ≤ (fX0_heatOf j v1 (rF σ (7 * j + 4)) σ) then LX0_hottest_4 j k v1 (v2 + 1) σ else LX0_hottest_4 j k v2 (v2 + 1) σ))
def fX0_hottest (j : Nat) (σ : sg) : Int32 := bnd (LX0_hottest_4 j 7 0 1 σ) (fun r9 => r9)
def rmX0_hangingOn : Room := { frames := 1, cells := 0, slots := 0, locals := 21 }
def LX0_hangingOn_6 (j : Nat) : Nat → Int32 → Int32 → Int32 → sg → Int32
  | 0, v1, v2, v3, σ => v2
  | k + 1, v1, v2, v3, σ => (if (rF σ (7 * j + 1)) ≤ v3 then v2 else (if (rA σ (8 * j + 4) v3) = v1 then LX0_hangingOn_6 j k v1 (fX4_with v2 v3) (v3 + 1) σ else (if (rA σ (8 * j + 4) v3) = (-1) then LX0_hangingOn_6 j k v1 v2 (v3 + 1) σ else (if (fX4_has v2 (rA σ (8 * j + 4) v3)) = 0 then LX0_hangingOn_6 j k v1 v2 (v3 + 1) σ else LX0_hangingOn_6 j k v1 (fX4_with v2 v3) (v3 + 1) σ))))
def fX0_hangingOn (j : Nat) (v1 : Int32) (σ : sg) : Int32 := bnd (LX0_hangingOn_6 j 9 v1 0 (v1 + 1) σ) (fun r19 => r19)
def rmX0_fallingWith : Room := { frames := 2, cells := 0, slots := 0, locals := 45 }
def fX0_fallingWith (j : Nat) (v1 : Int32) (σ : sg) : Int32 := ((fX0_peaces j (rF σ (7 * j)) σ) &&& ((fX0_peaces j (fX4_with (rF σ (7 * j)) v1) σ) ^^^ (-1)))
def rmX0_holdingBehind : Room := { frames := 3, cells := 0, slots := 0, locals := 67 }
def LX0_holdingBehind_2 (j : Nat) : Nat → Int32 → Int32 → sg → sg
  | 0, v1, v2, σ => σ
  | k + 1, v1, v2, σ => (if v1 ≤ v2 then σ else bnd (fX0_passHour j σ) (fun r2 => LX0_holdingBehind_2 j k v1 (v2 + 1) r2.2))
def fX0_holdingBehind (j : Nat) (v1 : Int32) (σ : sg) : Int32 × sg := bnd (LX0_holdingBehind_2 j 101 v1 0 σ) (fun r8 => ((fJ6_bitCount_0f7a4 (fX0_peaces j (rF r8 (7 * j)) r8)), r8))
def rmX0_holdsBehind : Room := { frames := 3, cells := 0, slots := 0, locals := 67 }
def LX0_holdsBehind_9 (j : Nat) : Nat → Int32 → Int32 → Int32 → Int32 → sg → Int32 × sg
  | 0, v1, v2, v3, v4, σ => (v3, σ)
  | k + 1, v1, v2, v3, v4, σ => (if v2 ≤ v4 then (v3, σ) else (if v3 = 0 then (v3, σ) else bnd (fX0_passHour j σ) (fun r3 => (if r3.1 = 0 then LX0_holdsBehind_9 j k v1 v2 1 (v4 + 1) r3.2 else (if (fX0_peaceHolds j v1 r3.2) = 0 then LX0_holdsBehind_9 j k v1 v2 0 (v4 + 1) r3.2 else LX0_holdsBehind_9 j k v1 v2 1 (v4 + 1) r3.2)))))
def fX0_holdsBehind (j : Nat) (v1 : Int32) (v2 : Int32) (σ : sg) : Int32 × sg := bnd (LX0_holdsBehind_9 j 101 v1 v2 (fX0_peaceHolds j v1 σ) 0 σ) (fun r19 => (r19.1, r19.2))
def rmX0_endOf : Room := { frames := 4, cells := 0, slots := 0, locals := 90 }
def LX0_endOf_2 (j : Nat) : Nat → Int32 → Int32 → sg → Int32 × sg
  | 0, v1, v2, σ => (0, σ)
  | k + 1, v1, v2, σ => (if 100 ≤ v2 then (if (fX0_peaceHolds j v1 σ) = 0 then (100, σ) else (101, σ)) else (if (fX0_peaceHolds j v1 σ) = 0 then (v2, σ) else bnd (fX0_pass j 1 σ) (fun r6 => LX0_endOf_2 j k v1 (v2 + 1) r6.2)))
def fX0_endOf (j : Nat) (v1 : Int32) (σ : sg) : Int32 × sg := LX0_endOf_2 j 101 v1 0 σ
def rmX0_firstEnded : Room := { frames := 2, cells := 0, slots := 0, locals := 45 }
def LX0_firstEnded_11 (j : Nat) : Nat → Int32 → Int32 → sg → Int32
  | 0, v1, v2, σ => 0
  | k + 1, v1, v2, σ => (if (rF σ (7 * j + 1)) ≤ v2 then (-1) else (if (fX4_has v1 v2) = 0 then v2 else LX0_firstEnded_11 j k v1 (v2 + 1) σ))
def fX0_firstEnded (j : Nat) (σ : sg) : Int32 := LX0_firstEnded_11 j 9 (fX0_peaces j (rF σ (7 * j)) σ) 0 σ
def rmX0_firstToEnd : Room := { frames := 4, cells := 0, slots := 0, locals := 90 }
def LX0_firstToEnd_7 (j : Nat) : Nat → Int32 → Int32 → sg → Int32 × sg
  | 0, v1, v2, σ => (v1, σ)
  | k + 1, v1, v2, σ => (if 100 ≤ v2 then (v1, σ) else (if v1 = (-1) then bnd (fX0_pass j 1 σ) (fun r3 => LX0_firstToEnd_7 j k (fX0_firstEnded j r3.2) (v2 + 1) r3.2) else (v1, σ)))
def fX0_firstToEnd (j : Nat) (σ : sg) : Int32 × sg := bnd (LX0_firstToEnd_7 j 101 (fX0_firstEnded j σ) 0 σ) (fun r11 => (r11.1, r11.2))
set_option maxRecDepth 100000 in
set_option maxHeartbeats 4000000 in
theorem wX0_take (j : Nat) (hj : j < 3) (i1 : Nat) (hi1 : i1 < 3) {σ : sg} (hw : WD σ) : WD (fX0_take j i1 σ) := by
  have k0 : (0 : Int32).toInt = 0 := rfl
  have k6 : (6 : Int32).toInt = 6 := rfl
  have k8 : (8 : Int32).toInt = 8 := rfl
  have k10 : (10 : Int32).toInt = 10 := rfl
  rw [show fX0_take j i1 σ = _ from fX0_take.eq_1 ..]
  refine wf_bnd (fun s1 e2 => ?_)
  have hw3 : WD s1 := by rw [e2]; exact wdC hw (by have := hj; omega) 
  refine wf_bnd (fun s4 e5 => ?_)
  have hw6 : WD s4 := by rw [e5]; exact wdCs hw3 hi1 hj
  refine wf_bnd (fun s7 e8 => ?_)
  have hw9 : WD s7 := by rw [e8]; exact wdC hw6 (by have := hj; omega) 
  refine wf_bnd (fun s10 e11 => ?_)
  have hw12 : WD s10 := by rw [e11]; exact wdC hw9 (by have := hj; omega) 
  refine wf_bnd (fun s13 e14 => ?_)
  have hw15 : WD s13 := by rw [e14]; exact wdC hw12 (by have := hj; omega) 
  refine wf_bnd (fun s16 e17 => ?_)
  have hw18 : WD s16 := by rw [e17]; exact wdC hw15 (by have := hj; omega) 
  refine wf_bnd (fun s19 e20 => ?_)
  have hw21 : WD s19 := by rw [e20]; exact wdC hw18 (by have := hj; omega) 
  refine wf_bnd (fun s22 e23 => ?_)
  have hw24 : WD s22 := by rw [e23]; exact wdF hw21 (by have := hj; omega)
  have w25 := wd_deeds hw24 hi1
  refine wf_bnd (fun s26 e27 => ?_)
  have hw28 : WD s26 := by rw [e27]; exact wdFd hw24 hj (by omega) (by omega)
  refine wf_bnd (fun s29 e30 => ?_)
  have hw31 : WD s29 := by rw [e30]; exact wdF hw28 (by have := hj; omega)
  refine wf_bnd (fun s32 e33 => ?_)
  have hw34 : WD s32 := by rw [e33]; exact wdF hw31 (by have := hj; omega)
  refine wf_bnd (fun s35 e36 => ?_)
  have hw37 : WD s35 := by rw [e36]; exact wdF hw34 (by have := hj; omega)
  refine wf_bnd (fun s38 e39 => ?_)
  have hw40 : WD s38 := by rw [e39]; exact wdF hw37 (by have := hj; omega)
  refine wf_bnd (fun s41 e42 => ?_)
  have hw43 : WD s41 := by rw [e42]; exact wdF hw40 (by have := hj; omega)
  exact hw43
set_option maxRecDepth 100000 in
set_option maxHeartbeats 4000000 in
theorem wX0_addDeed (j : Nat) (hj : j < 3) (v1 : Int32) (v2 : Int32) (v3 : Int32) (v4 : Int32) {σ : sg} (hw : WD σ) (hb : 0 ≤ v2.toInt ∧ v2.toInt ≤ 5) : WDi (fX0_addDeed j v1 v2 v3 v4 σ) := by
  have km1 : ((-1) : Int32).toInt = -1 := rfl
  have k0 : (0 : Int32).toInt = 0 := rfl
  have k1 : (1 : Int32).toInt = 1 := rfl
  rw [show fX0_addDeed j v1 v2 v3 v4 σ = _ from fX0_addDeed.eq_1 ..]
  refine wf_ite (fun c1 => ?_) (fun c1 => ?_)
  · have i22 := eqI c1
    have b23 := isF_f c1
    have w2 := wd_deeds hw hj
    refine wf_bnd (fun s3 e4 => ?_)
    have hw5 : WD s3 := by rw [e4]; exact wdA hw (by have := hj; omega)
    refine wf_bnd (fun s6 e7 => ?_)
    have hw8 : WD s6 := by rw [e7]; exact wdAs hw5 (by omega) (by omega)
    refine wf_bnd (fun s9 e10 => ?_)
    have hw11 : WD s9 := by rw [e10]; exact wdA hw8 (by have := hj; omega)
    refine wf_bnd (fun s12 e13 => ?_)
    have hw14 : WD s12 := by rw [e13]; exact wdA hw11 (by have := hj; omega)
    refine wf_bnd (fun s15 e16 => ?_)
    have hw17 : WD s15 := by rw [e16]; exact wdA hw14 (by have := hj; omega)
    have w18 := wd_deeds hw17 hj
    have q1 := congrArg Int32.toInt (show rF s15 (7 * j + 1) = rF σ (7 * j + 1) by simp only [sA_F, *])
    have q2 := addI (x := rF s15 (7 * j + 1)) (y := 1) (by omega) (by omega)
    refine wf_bnd (fun s19 e20 => ?_)
    have hw21 : WD s19 := by rw [e20]; exact wdFd hw17 hj (by omega) (by omega)
    exact hw21
  · have i24 := neI c1
    exact hw
set_option maxRecDepth 100000 in
set_option maxHeartbeats 4000000 in
theorem wX0_setShutter (j : Nat) (hj : j < 3) (v1 : Int32) (v2 : Int32) {σ : sg} (hw : WD σ) : WD (fX0_setShutter j v1 v2 σ) := by
  have k0 : (0 : Int32).toInt = 0 := rfl
  rw [show fX0_setShutter j v1 v2 σ = _ from fX0_setShutter.eq_1 ..]
  refine wf_ite (fun c1 => ?_) (fun c1 => ?_)
  · have i8 := eqI c1
    refine wf_bnd (fun s2 e3 => ?_)
    have hw4 : WD s2 := by rw [e3]; exact wdF hw (by have := hj; omega)
    exact hw4
  · have i9 := neI c1
    refine wf_bnd (fun s5 e6 => ?_)
    have hw7 : WD s5 := by rw [e6]; exact wdF hw (by have := hj; omega)
    exact hw7
set_option maxRecDepth 100000 in
set_option maxHeartbeats 4000000 in
theorem wX0_setCandle (j : Nat) (hj : j < 3) (v1 : Int32) (v2 : Int32) {σ : sg} (hw : WD σ) : WD (fX0_setCandle j v1 v2 σ) := by
  have k0 : (0 : Int32).toInt = 0 := rfl
  rw [show fX0_setCandle j v1 v2 σ = _ from fX0_setCandle.eq_1 ..]
  refine wf_ite (fun c1 => ?_) (fun c1 => ?_)
  · have i8 := eqI c1
    refine wf_bnd (fun s2 e3 => ?_)
    have hw4 : WD s2 := by rw [e3]; exact wdF hw (by have := hj; omega)
    exact hw4
  · have i9 := neI c1
    refine wf_bnd (fun s5 e6 => ?_)
    have hw7 : WD s5 := by rw [e6]; exact wdF hw (by have := hj; omega)
    exact hw7
def PLX0_setAllKinds_2 (j : Nat) : sg → Prop := fun r => (WD r) ∧ True
set_option maxRecDepth 100000 in
set_option maxHeartbeats 4000000 in
theorem wLX0_setAllKinds_2 (j : Nat) (hj : j < 3) : ∀ (k : Nat) (v1 v2 : Int32) (σ : sg) (hw : WD σ) (hv2 : 0 ≤ v2.toInt ∧ v2.toInt ≤ 8) (hmu : (8 - v2.toInt).toNat < k), PLX0_setAllKinds_2 j (LX0_setAllKinds_2 j k v1 v2 σ) := by
  intro k
  induction k with
  | zero => intro v1 v2 σ hw hv2 hmu; exact absurd hmu (Nat.not_lt_zero _)
  | succ k ih =>
    intro v1 v2 σ hw hv2 hmu
    have k0 : (0 : Int32).toInt = 0 := rfl
    have k1 : (1 : Int32).toInt = 1 := rfl
    rw [show LX0_setAllKinds_2 j (k + 1) v1 v2 σ = _ from LX0_setAllKinds_2.eq_2 ..]
    have w1 := wd_deeds hw hj
    refine wf_ite (fun c2 => ?_) (fun c2 => ?_)
    · have i7 := leI c2
      exact ⟨hw, trivial⟩
    · have i8 := nleI c2
      refine wf_bnd (fun s3 e4 => ?_)
      have hw5 : WD s3 := by rw [e4]; exact wdA hw (by have := hj; omega)
      have a6 := addI (x := v2) (y := 1) (by omega) (by omega)
      exact ih v1 (v2 + 1) s3 hw5 (by omega) (by omega)
set_option maxRecDepth 100000 in
set_option maxHeartbeats 4000000 in
theorem wX0_setAllKinds (j : Nat) (hj : j < 3) (v1 : Int32) {σ : sg} (hw : WD σ) : WD (fX0_setAllKinds j v1 σ) := by
  have k0 : (0 : Int32).toInt = 0 := rfl
  rw [show fX0_setAllKinds j v1 σ = _ from fX0_setAllKinds.eq_1 ..]
  refine wf_bnd (fun r9 e10 => ?_)
  obtain ⟨hw11, _⟩ := (show PLX0_setAllKinds_2 j r9 from by rw [e10]; exact wLX0_setAllKinds_2 j hj 9 v1 0 σ hw (by omega) (by omega))
  exact hw11
set_option maxRecDepth 100000 in
set_option maxHeartbeats 4000000 in
theorem wX0_bringIce (j : Nat) (hj : j < 3) (v1 : Int32) (v2 : Int32) {σ : sg} (hw : WD σ) (hb : 0 ≤ v1.toInt ∧ v1.toInt ≤ 5) : WD (fX0_bringIce j v1 v2 σ) := by
  have k0 : (0 : Int32).toInt = 0 := rfl
  have k99 : (99 : Int32).toInt = 99 := rfl
  rw [show fX0_bringIce j v1 v2 σ = _ from fX0_bringIce.eq_1 ..]
  refine wf_bnd (fun s1 e2 => ?_)
  have hw3 : WD s1 := by rw [e2]; exact wdA hw (by have := hj; omega)
  exact hw3
def PLX0_makeSealsAnew_2 (j : Nat) : sg → Prop := fun r => (WD r) ∧ True
set_option maxRecDepth 100000 in
set_option maxHeartbeats 4000000 in
theorem wLX0_makeSealsAnew_2 (j : Nat) (hj : j < 3) : ∀ (k : Nat) (v1 : Int32) (σ : sg) (hw : WD σ) (hv1 : 0 ≤ v1.toInt ∧ v1.toInt ≤ 8) (hmu : (8 - v1.toInt).toNat < k), PLX0_makeSealsAnew_2 j (LX0_makeSealsAnew_2 j k v1 σ) := by
  intro k
  induction k with
  | zero => intro v1 σ hw hv1 hmu; exact absurd hmu (Nat.not_lt_zero _)
  | succ k ih =>
    intro v1 σ hw hv1 hmu
    have k0 : (0 : Int32).toInt = 0 := rfl
    have k1 : (1 : Int32).toInt = 1 := rfl
    rw [show LX0_makeSealsAnew_2 j (k + 1) v1 σ = _ from LX0_makeSealsAnew_2.eq_2 ..]
    have w1 := wd_deeds hw hj
    refine wf_ite (fun c2 => ?_) (fun c2 => ?_)
    · have i7 := leI c2
      exact ⟨hw, trivial⟩
    · have i8 := nleI c2
      refine wf_bnd (fun s3 e4 => ?_)
      have hw5 : WD s3 := by rw [e4]; exact wdA hw (by have := hj; omega)
      have a6 := addI (x := v1) (y := 1) (by omega) (by omega)
      exact ih (v1 + 1) s3 hw5 (by omega) (by omega)
set_option maxRecDepth 100000 in
set_option maxHeartbeats 4000000 in
theorem wX0_makeSealsAnew (j : Nat) (hj : j < 3) {σ : sg} (hw : WD σ) : WD (fX0_makeSealsAnew j σ) := by
  have k0 : (0 : Int32).toInt = 0 := rfl
  rw [show fX0_makeSealsAnew j σ = _ from fX0_makeSealsAnew.eq_1 ..]
  refine wf_bnd (fun r9 e10 => ?_)
  obtain ⟨hw11, _⟩ := (show PLX0_makeSealsAnew_2 j r9 from by rw [e10]; exact wLX0_makeSealsAnew_2 j hj 9 0 σ hw (by omega) (by omega))
  refine wf_bnd (fun s12 e13 => ?_)
  have hw14 : WD s12 := by rw [e13]; exact wdF hw11 (by have := hj; omega)
  exact hw14
set_option maxRecDepth 100000 in
set_option maxHeartbeats 4000000 in
theorem wX0_draw (j : Nat) (hj : j < 3) {σ : sg} (hw : WD σ) : WDi (fX0_draw j σ) := by
  have k0 : (0 : Int32).toInt = 0 := rfl
  have k8 : (8 : Int32).toInt = 8 := rfl
  have k12345 : (12345 : Int32).toInt = 12345 := rfl
  have k1103515245 : (1103515245 : Int32).toInt = 1103515245 := rfl
  rw [show fX0_draw j σ = _ from fX0_draw.eq_1 ..]
  refine wf_bnd (fun s1 e2 => ?_)
  have hw3 : WD s1 := by rw [e2]; exact wdF hw (by have := hj; omega)
  exact hw3
def PLX0_holdingBehind_2 (j : Nat) : sg → Prop := fun r => (WD r) ∧ True
set_option maxRecDepth 100000 in
set_option maxHeartbeats 4000000 in
theorem wLX0_holdingBehind_2 (j : Nat) (hj : j < 3) : ∀ (k : Nat) (v1 v2 : Int32) (σ : sg) (hw : WD σ) (hv2 : 0 ≤ v2.toInt ∧ v2.toInt ≤ 100) (hn1 : v1.toInt ≤ 100) (hmu : (100 - v2.toInt).toNat < k), PLX0_holdingBehind_2 j (LX0_holdingBehind_2 j k v1 v2 σ) := by
  intro k
  induction k with
  | zero => intro v1 v2 σ hw hv2 hn1 hmu; exact absurd hmu (Nat.not_lt_zero _)
  | succ k ih =>
    intro v1 v2 σ hw hv2 hn1 hmu
    have k0 : (0 : Int32).toInt = 0 := rfl
    have k1 : (1 : Int32).toInt = 1 := rfl
    rw [show LX0_holdingBehind_2 j (k + 1) v1 v2 σ = _ from LX0_holdingBehind_2.eq_2 ..]
    refine wf_ite (fun c1 => ?_) (fun c1 => ?_)
    · have i6 := leI c1
      exact ⟨hw, trivial⟩
    · have i7 := nleI c1
      refine wf_bnd (fun r2 e3 => ?_)
      have hw4 : WD r2.2 := by rw [e3]; exact wX0_passHour j hj hw 
      have a5 := addI (x := v2) (y := 1) (by omega) (by omega)
      exact ih v1 (v2 + 1) r2.2 hw4 (by omega) (by omega) (by omega)
set_option maxRecDepth 100000 in
set_option maxHeartbeats 4000000 in
theorem wX0_holdingBehind (j : Nat) (hj : j < 3) (v1 : Int32) {σ : sg} (hw : WD σ) (hn : v1.toInt ≤ 100) : WDi (fX0_holdingBehind j v1 σ) := by
  have k0 : (0 : Int32).toInt = 0 := rfl
  rw [show fX0_holdingBehind j v1 σ = _ from fX0_holdingBehind.eq_1 ..]
  refine wf_bnd (fun r8 e9 => ?_)
  obtain ⟨hw10, _⟩ := (show PLX0_holdingBehind_2 j r8 from by rw [e9]; exact wLX0_holdingBehind_2 j hj 101 v1 0 σ hw (by omega) (by omega) (by omega))
  exact hw10
def PLX0_holdsBehind_9 (j : Nat) : Int32 × sg → Prop := fun r => (WD r.2) ∧ (r.1 = 0 ∨ r.1 = 1) ∧ True
set_option maxRecDepth 100000 in
set_option maxHeartbeats 4000000 in
theorem wLX0_holdsBehind_9 (j : Nat) (hj : j < 3) : ∀ (k : Nat) (v1 v2 v3 v4 : Int32) (σ : sg) (hw : WD σ) (hv4 : 0 ≤ v4.toInt ∧ v4.toInt ≤ 100) (hn2 : v2.toInt ≤ 100) (hz : v3 = 0 ∨ v3 = 1) (hmu : (100 - v4.toInt).toNat < k), PLX0_holdsBehind_9 j (LX0_holdsBehind_9 j k v1 v2 v3 v4 σ) := by
  intro k
  induction k with
  | zero => intro v1 v2 v3 v4 σ hw hv4 hn2 hz hmu; exact absurd hmu (Nat.not_lt_zero _)
  | succ k ih =>
    intro v1 v2 v3 v4 σ hw hv4 hn2 hz hmu
    have k0 : (0 : Int32).toInt = 0 := rfl
    have k1 : (1 : Int32).toInt = 1 := rfl
    rw [show LX0_holdsBehind_9 j (k + 1) v1 v2 v3 v4 σ = _ from LX0_holdsBehind_9.eq_2 ..]
    refine wf_ite (fun c1 => ?_) (fun c1 => ?_)
    · have i17 := leI c1
      exact ⟨hw, hz, trivial⟩
    · have i18 := nleI c1
      refine wf_ite (fun c2 => ?_) (fun c2 => ?_)
      · have i15 := eqI c2
        exact ⟨hw, hz, trivial⟩
      · have i16 := neI c2
        refine wf_bnd (fun r3 e4 => ?_)
        have hw5 : WD r3.2 := by rw [e4]; exact wX0_passHour j hj hw 
        refine wf_ite (fun c6 => ?_) (fun c6 => ?_)
        · have i13 := eqI c6
          have a7 := addI (x := v4) (y := 1) (by omega) (by omega)
          exact ih v1 v2 1 (v4 + 1) r3.2 hw5 (by omega) (by omega) (by first | exact Or.inl rfl | exact Or.inr rfl | assumption) (by omega)
        · have i14 := neI c6
          refine wf_ite (fun c8 => ?_) (fun c8 => ?_)
          · have i11 := eqI c8
            have a9 := addI (x := v4) (y := 1) (by omega) (by omega)
            exact ih v1 v2 0 (v4 + 1) r3.2 hw5 (by omega) (by omega) (by first | exact Or.inl rfl | exact Or.inr rfl | assumption) (by omega)
          · have i12 := neI c8
            have a10 := addI (x := v4) (y := 1) (by omega) (by omega)
            exact ih v1 v2 1 (v4 + 1) r3.2 hw5 (by omega) (by omega) (by first | exact Or.inl rfl | exact Or.inr rfl | assumption) (by omega)
set_option maxRecDepth 100000 in
set_option maxHeartbeats 4000000 in
theorem wX0_holdsBehind (j : Nat) (hj : j < 3) (v1 : Int32) (v2 : Int32) {σ : sg} (hw : WD σ) (hn : v2.toInt ≤ 100) : WDi (fX0_holdsBehind j v1 v2 σ) := by
  have k0 : (0 : Int32).toInt = 0 := rfl
  rw [show fX0_holdsBehind j v1 v2 σ = _ from fX0_holdsBehind.eq_1 ..]
  refine wf_bnd (fun r19 e20 => ?_)
  obtain ⟨hw21, x22, _⟩ := (show PLX0_holdsBehind_9 j r19 from by rw [e20]; exact wLX0_holdsBehind_9 j hj 101 v1 v2 (fX0_peaceHolds j v1 σ) 0 σ hw (by omega) (by omega) (b01_X0_peaceHolds _ _ _) (by omega))
  exact hw21
set_option maxRecDepth 100000 in
set_option maxHeartbeats 4000000 in
theorem wLX0_endOf_2 (j : Nat) (hj : j < 3) : ∀ (k : Nat) (v1 v2 : Int32) (σ : sg) (hw : WD σ) (hv2 : 0 ≤ v2.toInt ∧ v2.toInt ≤ 100) (hmu : (100 - v2.toInt).toNat < k), WDi (LX0_endOf_2 j k v1 v2 σ) := by
  intro k
  induction k with
  | zero => intro v1 v2 σ hw hv2 hmu; exact absurd hmu (Nat.not_lt_zero _)
  | succ k ih =>
    intro v1 v2 σ hw hv2 hmu
    have k0 : (0 : Int32).toInt = 0 := rfl
    have k1 : (1 : Int32).toInt = 1 := rfl
    have k100 : (100 : Int32).toInt = 100 := rfl
    have k101 : (101 : Int32).toInt = 101 := rfl
    rw [show LX0_endOf_2 j (k + 1) v1 v2 σ = _ from LX0_endOf_2.eq_2 ..]
    refine wf_ite (fun c1 => ?_) (fun c1 => ?_)
    · have i12 := leI c1
      refine wf_ite (fun c2 => ?_) (fun c2 => ?_)
      · have i3 := eqI c2
        exact hw
      · have i4 := neI c2
        exact hw
    · have i13 := nleI c1
      refine wf_ite (fun c5 => ?_) (fun c5 => ?_)
      · have i11 := eqI c5
        exact hw
      · have i10 := neI c5
        refine wf_bnd (fun r6 e7 => ?_)
        have hw8 : WD r6.2 := by rw [e7]; exact wX0_pass j hj 1 hw (by omega)
        have a9 := addI (x := v2) (y := 1) (by omega) (by omega)
        exact ih v1 (v2 + 1) r6.2 hw8 (by omega) (by omega)
set_option maxRecDepth 100000 in
set_option maxHeartbeats 4000000 in
theorem wX0_endOf (j : Nat) (hj : j < 3) (v1 : Int32) {σ : sg} (hw : WD σ) : WDi (fX0_endOf j v1 σ) := by
  have k0 : (0 : Int32).toInt = 0 := rfl
  rw [show fX0_endOf j v1 σ = _ from fX0_endOf.eq_1 ..]
  exact wLX0_endOf_2 j hj 101 v1 0 σ hw (by omega) (by omega)
def PLX0_firstToEnd_7 (j : Nat) : Int32 × sg → Prop := fun r => (WD r.2) ∧ True
set_option maxRecDepth 100000 in
set_option maxHeartbeats 4000000 in
theorem wLX0_firstToEnd_7 (j : Nat) (hj : j < 3) : ∀ (k : Nat) (v1 v2 : Int32) (σ : sg) (hw : WD σ) (hv2 : 0 ≤ v2.toInt ∧ v2.toInt ≤ 100) (hmu : (100 - v2.toInt).toNat < k), PLX0_firstToEnd_7 j (LX0_firstToEnd_7 j k v1 v2 σ) := by
  intro k
  induction k with
  | zero => intro v1 v2 σ hw hv2 hmu; exact absurd hmu (Nat.not_lt_zero _)
  | succ k ih =>
    intro v1 v2 σ hw hv2 hmu
    have km1 : ((-1) : Int32).toInt = -1 := rfl
    have k0 : (0 : Int32).toInt = 0 := rfl
    have k1 : (1 : Int32).toInt = 1 := rfl
    have k100 : (100 : Int32).toInt = 100 := rfl
    rw [show LX0_firstToEnd_7 j (k + 1) v1 v2 σ = _ from LX0_firstToEnd_7.eq_2 ..]
    refine wf_ite (fun c1 => ?_) (fun c1 => ?_)
    · have i9 := leI c1
      exact ⟨hw, trivial⟩
    · have i10 := nleI c1
      refine wf_ite (fun c2 => ?_) (fun c2 => ?_)
      · have i8 := eqI c2
        refine wf_bnd (fun r3 e4 => ?_)
        have hw5 : WD r3.2 := by rw [e4]; exact wX0_pass j hj 1 hw (by omega)
        have a6 := addI (x := v2) (y := 1) (by omega) (by omega)
        exact ih (fX0_firstEnded j r3.2) (v2 + 1) r3.2 hw5 (by omega) (by omega)
      · have i7 := neI c2
        exact ⟨hw, trivial⟩
set_option maxRecDepth 100000 in
set_option maxHeartbeats 4000000 in
theorem wX0_firstToEnd (j : Nat) (hj : j < 3) {σ : sg} (hw : WD σ) : WDi (fX0_firstToEnd j σ) := by
  have k0 : (0 : Int32).toInt = 0 := rfl
  rw [show fX0_firstToEnd j σ = _ from fX0_firstToEnd.eq_1 ..]
  refine wf_bnd (fun r11 e12 => ?_)
  obtain ⟨hw13, _⟩ := (show PLX0_firstToEnd_7 j r11 from by rw [e12]; exact wLX0_firstToEnd_7 j hj 101 (fX0_firstEnded j σ) 0 σ hw (by omega) (by omega))
  exact hw13
theorem hdS_J6_bitCount_0f7a4 : yJ6_bitCount_0f7a4.cls ≠ "java/lang/invoke/MethodHandle" ∧ yJ6_bitCount_0f7a4.cls ≠ "java/lang/invoke/VarHandle" ∧ (parseMethodDescriptor yJ6_bitCount_0f7a4.desc).map (fun d => d.parameters.length) = some 1 := by decide +kernel
theorem mJ6_bitCount_0f7a4_c265 : Cond.constant RJ6 265 (1431655765) ∈ wsJ6_bitCount_0f7a4 := List.mem_of_getElem? (i := 1) rfl
theorem mJ6_bitCount_0f7a4_c266 : Cond.constant RJ6 266 (858993459) ∈ wsJ6_bitCount_0f7a4 := List.mem_of_getElem? (i := 2) rfl
theorem mJ6_bitCount_0f7a4_c267 : Cond.constant RJ6 267 (252645135) ∈ wsJ6_bitCount_0f7a4 := List.mem_of_getElem? (i := 3) rfl
set_option maxRecDepth 100000 in
set_option maxHeartbeats 4000000 in
theorem kJ6_bitCount_0f7a4 (l : Launch) {G : gT} (hN : wN G) (v0 : Int32) (σ : sg) : cM l yJ6_bitCount_0f7a4 wsJ6_bitCount_0f7a4 rmJ6_bitCount_0f7a4 G [.int v0] σ (some (.int (fJ6_bitCount_0f7a4 v0))) σ := by
  refine cM_of (maxL := 1) (ret := (some .int)) (cc := cJ6_bitCount_0f7a4) (fJ6_bitCount_0f7a4 v0) RJ6 hN (by decide +kernel) rfl rfl (Nat.le_of_ble_eq_true rfl) rfl ?_
  intro p e s m args below meth c K hr
  have k0 : (0 : Int32).toInt = 0 := rfl
  have k1 : (1 : Int32).toInt = 1 := rfl
  have k2 : (2 : Int32).toInt = 2 := rfl
  have k4 : (4 : Int32).toInt = 4 := rfl
  have k8 : (8 : Int32).toInt = 8 := rfl
  have k16 : (16 : Int32).toInt = 16 := rfl
  have k63 : (63 : Int32).toInt = 63 := rfl
  have k252645135 : (252645135 : Int32).toInt = 252645135 := rfl
  have k858993459 : (858993459 : Int32).toInt = 858993459 := rfl
  have k1431655765 : (1431655765 : Int32).toInt = 1431655765 := rfl
  refine qq_st (lv' := [some (.int v0)]) rfl rfl rfl ?_
  refine qq_T (fJ6_bitCount_0f7a4.eq_1 ..) ?_
  refine q_iload_n (pc := 0) K dJ6_bitCount_0f7a4_0 rfl rfl ?_
  refine q_iload_n (pc := 1) K dJ6_bitCount_0f7a4_1 rfl rfl ?_
  refine q_iconst (pc := 2) (v := 1) K dJ6_bitCount_0f7a4_2 (by decide) ?_
  refine q_iushr (pc := 3) K dJ6_bitCount_0f7a4_3 ?_
  refine q_ldcw (pc := 4) (v := 1431655765) K dJ6_bitCount_0f7a4_4 mJ6_bitCount_0f7a4_c265 ?_
  refine q_iand (pc := 7) K dJ6_bitCount_0f7a4_7 ?_
  refine q_isub (pc := 8) K dJ6_bitCount_0f7a4_8 ?_
  refine q_istore_n (pc := 9) (lv' := [some (.int (v0 - ((jushr v0 1) &&& 1431655765)))]) K dJ6_bitCount_0f7a4_9 rfl (by decide) (Nat.le_of_ble_eq_true rfl) rfl ?_
  refine q_iload_n (pc := 10) K dJ6_bitCount_0f7a4_10 rfl rfl ?_
  refine q_ldcw (pc := 11) (v := 858993459) K dJ6_bitCount_0f7a4_11 mJ6_bitCount_0f7a4_c266 ?_
  refine q_iand (pc := 14) K dJ6_bitCount_0f7a4_14 ?_
  refine q_iload_n (pc := 15) K dJ6_bitCount_0f7a4_15 rfl rfl ?_
  refine q_iconst (pc := 16) (v := 2) K dJ6_bitCount_0f7a4_16 (by decide) ?_
  refine q_iushr (pc := 17) K dJ6_bitCount_0f7a4_17 ?_
  refine q_ldcw (pc := 18) (v := 858993459) K dJ6_bitCount_0f7a4_18 mJ6_bitCount_0f7a4_c266 ?_
  refine q_iand (pc := 21) K dJ6_bitCount_0f7a4_21 ?_
  refine q_iadd (pc := 22) K dJ6_bitCount_0f7a4_22 ?_
  refine q_istore_n (pc := 23) (lv' := [some (.int (((v0 - ((jushr v0 1) &&& 1431655765)) &&& 858993459) + ((jushr (v0 - ((jushr v0 1) &&& 1431655765)) 2) &&& 858993459)))]) K dJ6_bitCount_0f7a4_23 rfl (by decide) (Nat.le_of_ble_eq_true rfl) rfl ?_
  refine q_iload_n (pc := 24) K dJ6_bitCount_0f7a4_24 rfl rfl ?_
  refine q_iload_n (pc := 25) K dJ6_bitCount_0f7a4_25 rfl rfl ?_
  refine q_iconst (pc := 26) (v := 4) K dJ6_bitCount_0f7a4_26 (by decide) ?_
  refine q_iushr (pc := 27) K dJ6_bitCount_0f7a4_27 ?_
  refine q_iadd (pc := 28) K dJ6_bitCount_0f7a4_28 ?_
  refine q_ldcw (pc := 29) (v := 252645135) K dJ6_bitCount_0f7a4_29 mJ6_bitCount_0f7a4_c267 ?_
  refine q_iand (pc := 32) K dJ6_bitCount_0f7a4_32 ?_
  refine q_istore_n (pc := 33) (lv' := [some (.int (((((v0 - ((jushr v0 1) &&& 1431655765)) &&& 858993459) + ((jushr (v0 - ((jushr v0 1) &&& 1431655765)) 2) &&& 858993459)) + (jushr (((v0 - ((jushr v0 1) &&& 1431655765)) &&& 858993459) + ((jushr (v0 - ((jushr v0 1) &&& 1431655765)) 2) &&& 858993459)) 4)) &&& 252645135))]) K dJ6_bitCount_0f7a4_33 rfl (by decide) (Nat.le_of_ble_eq_true rfl) rfl ?_
  refine q_iload_n (pc := 34) K dJ6_bitCount_0f7a4_34 rfl rfl ?_
  refine q_iload_n (pc := 35) K dJ6_bitCount_0f7a4_35 rfl rfl ?_
  refine q_bipush (pc := 36) (v := 8) K dJ6_bitCount_0f7a4_36 (by decide) ?_
  refine q_iushr (pc := 38) K dJ6_bitCount_0f7a4_38 ?_
  refine q_iadd (pc := 39) K dJ6_bitCount_0f7a4_39 ?_
  refine q_istore_n (pc := 40) (lv' := [some (.int ((((((v0 - ((jushr v0 1) &&& 1431655765)) &&& 858993459) + ((jushr (v0 - ((jushr v0 1) &&& 1431655765)) 2) &&& 858993459)) + (jushr (((v0 - ((jushr v0 1) &&& 1431655765)) &&& 858993459) + ((jushr (v0 - ((jushr v0 1) &&& 1431655765)) 2) &&& 858993459)) 4)) &&& 252645135) + (jushr (((((v0 - ((jushr v0 1) &&& 1431655765)) &&& 858993459) + ((jushr (v0 - ((jushr v0 1) &&& 1431655765)) 2) &&& 858993459)) + (jushr (((v0 - ((jushr v0 1) &&& 1431655765)) &&& 858993459) + ((jushr (v0 - ((jushr v0 1) &&& 1431655765)) 2) &&& 858993459)) 4)) &&& 252645135) 8)))]) K dJ6_bitCount_0f7a4_40 rfl (by decide) (Nat.le_of_ble_eq_true rfl) rfl ?_
  refine q_iload_n (pc := 41) K dJ6_bitCount_0f7a4_41 rfl rfl ?_
  refine q_iload_n (pc := 42) K dJ6_bitCount_0f7a4_42 rfl rfl ?_
  refine q_bipush (pc := 43) (v := 16) K dJ6_bitCount_0f7a4_43 (by decide) ?_
  refine q_iushr (pc := 45) K dJ6_bitCount_0f7a4_45 ?_
  refine q_iadd (pc := 46) K dJ6_bitCount_0f7a4_46 ?_
  refine q_istore_n (pc := 47) (lv' := [some (.int (((((((v0 - ((jushr v0 1) &&& 1431655765)) &&& 858993459) + ((jushr (v0 - ((jushr v0 1) &&& 1431655765)) 2) &&& 858993459)) + (jushr (((v0 - ((jushr v0 1) &&& 1431655765)) &&& 858993459) + ((jushr (v0 - ((jushr v0 1) &&& 1431655765)) 2) &&& 858993459)) 4)) &&& 252645135) + (jushr (((((v0 - ((jushr v0 1) &&& 1431655765)) &&& 858993459) + ((jushr (v0 - ((jushr v0 1) &&& 1431655765)) 2) &&& 858993459)) + (jushr (((v0 - ((jushr v0 1) &&& 1431655765)) &&& 858993459) + ((jushr (v0 - ((jushr v0 1) &&& 1431655765)) 2) &&& 858993459)) 4)) &&& 252645135) 8)) + (jushr ((((((v0 - ((jushr v0 1) &&& 1431655765)) &&& 858993459) + ((jushr (v0 - ((jushr v0 1) &&& 1431655765)) 2) &&& 858993459)) + (jushr (((v0 - ((jushr v0 1) &&& 1431655765)) &&& 858993459) + ((jushr (v0 - ((jushr v0 1) &&& 1431655765)) 2) &&& 858993459)) 4)) &&& 252645135) + (jushr (((((v0 - ((jushr v0 1) &&& 1431655765)) &&& 858993459) + ((jushr (v0 - ((jushr v0 1) &&& 1431655765)) 2) &&& 858993459)) + (jushr (((v0 - ((jushr v0 1) &&& 1431655765)) &&& 858993459) + ((jushr (v0 - ((jushr v0 1) &&& 1431655765)) 2) &&& 858993459)) 4)) &&& 252645135) 8)) 16)))]) K dJ6_bitCount_0f7a4_47 rfl (by decide) (Nat.le_of_ble_eq_true rfl) rfl ?_
  refine q_iload_n (pc := 48) K dJ6_bitCount_0f7a4_48 rfl rfl ?_
  refine q_bipush (pc := 49) (v := 63) K dJ6_bitCount_0f7a4_49 (by decide) ?_
  refine q_iand (pc := 51) K dJ6_bitCount_0f7a4_51 ?_
  exact q_iretP K hr dJ6_bitCount_0f7a4_52
theorem hdV_X0_take : yX0_take.cls = RX0 ∧ yX0_take.cls ≠ "java/lang/invoke/MethodHandle" ∧ yX0_take.cls ≠ "java/lang/invoke/VarHandle" ∧ (parseMethodDescriptor yX0_take.desc).map (fun d => d.parameters.length) = some 1 := by decide +kernel
theorem mX0_take_f9 : Cond.fieldLink RX0 9 "WaxTreaties$Chancery" "kind" "[I" ∈ wsX0_take := List.mem_of_getElem? (i := 1) rfl
theorem iwX0_take_X0 : ∀ w ∈ wsX00, w ∈ wsX0_take := fun w h => List.mem_cons_of_mem _ (List.mem_append_right _ h)
theorem mX0_take_l58 : Cond.methodLink RX0 58 arraycopyName ∈ wsX0_take := List.mem_of_getElem? (i := 2) rfl
theorem mX0_take_n58 : Cond.native arraycopyName ∈ wsX0_take := List.mem_of_getElem? (i := 3) rfl
theorem mX0_take_s58 : Cond.static arraycopyName ∈ wsX0_take := List.mem_of_getElem? (i := 4) rfl
theorem mX0_take_iS : Cond.initialized "java/lang/System" ∈ wsX0_take := List.mem_of_getElem? (i := 5) rfl
theorem mX0_take_f15 : Cond.fieldLink RX0 15 "WaxTreaties$Chancery" "shelf" "[I" ∈ wsX0_take := List.mem_of_getElem? (i := 6) rfl
theorem mX0_take_f18 : Cond.fieldLink RX0 18 "WaxTreaties$Chancery" "wax" "[I" ∈ wsX0_take := List.mem_of_getElem? (i := 7) rfl
theorem mX0_take_f21 : Cond.fieldLink RX0 21 "WaxTreaties$Chancery" "soft" "[I" ∈ wsX0_take := List.mem_of_getElem? (i := 8) rfl
theorem mX0_take_f24 : Cond.fieldLink RX0 24 "WaxTreaties$Chancery" "hangsOn" "[I" ∈ wsX0_take := List.mem_of_getElem? (i := 9) rfl
theorem mX0_take_f27 : Cond.fieldLink RX0 27 "WaxTreaties$Chancery" "ice" "[I" ∈ wsX0_take := List.mem_of_getElem? (i := 10) rfl
theorem mX0_take_f30 : Cond.fieldLink RX0 30 "WaxTreaties$Chancery" "spots" "[I" ∈ wsX0_take := List.mem_of_getElem? (i := 11) rfl
theorem mX0_take_f33 : Cond.fieldLink RX0 33 "WaxTreaties$Chancery" "run" "I" ∈ wsX0_take := List.mem_of_getElem? (i := 12) rfl
theorem mX0_take_f37 : Cond.fieldLink RX0 37 "WaxTreaties$Chancery" "deeds" "I" ∈ wsX0_take := List.mem_of_getElem? (i := 13) rfl
theorem mX0_take_f40 : Cond.fieldLink RX0 40 "WaxTreaties$Chancery" "open" "I" ∈ wsX0_take := List.mem_of_getElem? (i := 14) rfl
theorem mX0_take_f43 : Cond.fieldLink RX0 43 "WaxTreaties$Chancery" "candles" "I" ∈ wsX0_take := List.mem_of_getElem? (i := 15) rfl
theorem mX0_take_f46 : Cond.fieldLink RX0 46 "WaxTreaties$Chancery" "hour" "I" ∈ wsX0_take := List.mem_of_getElem? (i := 16) rfl
theorem mX0_take_f49 : Cond.fieldLink RX0 49 "WaxTreaties$Chancery" "summer" "I" ∈ wsX0_take := List.mem_of_getElem? (i := 17) rfl
theorem mX0_take_f52 : Cond.fieldLink RX0 52 "WaxTreaties$Chancery" "z" "I" ∈ wsX0_take := List.mem_of_getElem? (i := 18) rfl
set_option maxRecDepth 100000 in
set_option maxHeartbeats 4000000 in
theorem kX0_take (l : Launch) {G : gT} (hN : wN G) (hG : gfl G = true) (j : Nat) (hj : j < 3) (i1 : Nat) (hi1 : i1 < 3) (σ : sg) (hw : WD σ) : cM l yX0_take wsX0_take rmX0_take G [.ref (gob G j), .ref (gob G i1)] σ none (fX0_take j i1 σ) := by
  refine cM_of (maxL := 2) (ret := none) (cc := cX0_take) (fX0_take j i1 σ) RX0 hN (by decide +kernel) rfl rfl (Nat.le_of_ble_eq_true rfl) rfl ?_
  intro p e s m args below meth c K hr
  have k0 : (0 : Int32).toInt = 0 := rfl
  have k6 : (6 : Int32).toInt = 6 := rfl
  have k8 : (8 : Int32).toInt = 8 := rfl
  have k10 : (10 : Int32).toInt = 10 := rfl
  refine qq_st (lv' := [some (.ref (gob G j)), some (.ref (gob G i1))]) rfl rfl rfl ?_
  refine qq_T (fX0_take.eq_1 ..) ?_
  refine q_aload_n (pc := 0) K dX0_take_0 rfl rfl ?_
  refine q_get (pc := 1) (o := i1) (f := 0) (v := .ref (gad G (8 * i1))) K (wO_ch hG hi1) vw_0 iwX0_take_X0 (by decide) mX0_take_f9 rfl dX0_take_1 ?_
  refine q_iconst (pc := 4) (v := 0) K dX0_take_4 (by decide) ?_
  refine q_aload_n (pc := 5) K dX0_take_5 rfl rfl ?_
  refine q_get (pc := 6) (o := j) (f := 0) (v := .ref (gad G (8 * j))) K (wO_ch hG hj) vw_0 iwX0_take_X0 (by decide) mX0_take_f9 rfl dX0_take_6 ?_
  refine q_iconst (pc := 9) (v := 0) K dX0_take_9 (by decide) ?_
  refine q_bipush (pc := 10) (v := 8) K dX0_take_10 (by decide) ?_
  refine q_copyi (pc := 12) (a := 8 * i1) (b := 8 * j) (sp := 0) (dp := 0) (n := 8) K mX0_take_l58 mX0_take_n58 mX0_take_s58 mX0_take_iS (by rw [wna_t hG]; have := hi1; omega) (by rw [wna_t hG]; have := hj; omega) (by decide) (by decide) (by decide) (by rw [wlc0 hG hi1]; decide) (by rw [wlc0 hG hj]; decide) (Nat.le_of_ble_eq_true rfl) (Nat.le_of_ble_eq_true rfl) dX0_take_12 (fun s1 e2 => ?_)
  have hw3 : WD s1 := by rw [e2]; exact wdC hw (by have := hj; omega) 
  refine q_aload_n (pc := 15) K dX0_take_15 rfl rfl ?_
  refine q_get (pc := 16) (o := i1) (f := 1) (v := .ref (gad G (8 * i1 + 1))) K (wO_ch hG hi1) vw_0 iwX0_take_X0 (by decide) mX0_take_f15 rfl dX0_take_16 ?_
  refine q_iconst (pc := 19) (v := 0) K dX0_take_19 (by decide) ?_
  refine q_aload_n (pc := 20) K dX0_take_20 rfl rfl ?_
  refine q_get (pc := 21) (o := j) (f := 1) (v := .ref (gad G (8 * j + 1))) K (wO_ch hG hj) vw_0 iwX0_take_X0 (by decide) mX0_take_f15 rfl dX0_take_21 ?_
  refine q_iconst (pc := 24) (v := 0) K dX0_take_24 (by decide) ?_
  refine q_bipush (pc := 25) (v := 8) K dX0_take_25 (by decide) ?_
  refine q_copyi (pc := 27) (a := 8 * i1 + 1) (b := 8 * j + 1) (sp := 0) (dp := 0) (n := 8) K mX0_take_l58 mX0_take_n58 mX0_take_s58 mX0_take_iS (by rw [wna_t hG]; have := hi1; omega) (by rw [wna_t hG]; have := hj; omega) (by decide) (by decide) (by decide) (by rw [wlc1 hG hi1]; decide) (by rw [wlc1 hG hj]; decide) (Nat.le_of_ble_eq_true rfl) (Nat.le_of_ble_eq_true rfl) dX0_take_27 (fun s4 e5 => ?_)
  have hw6 : WD s4 := by rw [e5]; exact wdCs hw3 hi1 hj
  refine q_aload_n (pc := 30) K dX0_take_30 rfl rfl ?_
  refine q_get (pc := 31) (o := i1) (f := 2) (v := .ref (gad G (8 * i1 + 2))) K (wO_ch hG hi1) vw_0 iwX0_take_X0 (by decide) mX0_take_f18 rfl dX0_take_31 ?_
  refine q_iconst (pc := 34) (v := 0) K dX0_take_34 (by decide) ?_
  refine q_aload_n (pc := 35) K dX0_take_35 rfl rfl ?_
  refine q_get (pc := 36) (o := j) (f := 2) (v := .ref (gad G (8 * j + 2))) K (wO_ch hG hj) vw_0 iwX0_take_X0 (by decide) mX0_take_f18 rfl dX0_take_36 ?_
  refine q_iconst (pc := 39) (v := 0) K dX0_take_39 (by decide) ?_
  refine q_bipush (pc := 40) (v := 8) K dX0_take_40 (by decide) ?_
  refine q_copyi (pc := 42) (a := 8 * i1 + 2) (b := 8 * j + 2) (sp := 0) (dp := 0) (n := 8) K mX0_take_l58 mX0_take_n58 mX0_take_s58 mX0_take_iS (by rw [wna_t hG]; have := hi1; omega) (by rw [wna_t hG]; have := hj; omega) (by decide) (by decide) (by decide) (by rw [wlc2 hG hi1]; decide) (by rw [wlc2 hG hj]; decide) (Nat.le_of_ble_eq_true rfl) (Nat.le_of_ble_eq_true rfl) dX0_take_42 (fun s7 e8 => ?_)
  have hw9 : WD s7 := by rw [e8]; exact wdC hw6 (by have := hj; omega) 
  refine q_aload_n (pc := 45) K dX0_take_45 rfl rfl ?_
  refine q_get (pc := 46) (o := i1) (f := 3) (v := .ref (gad G (8 * i1 + 3))) K (wO_ch hG hi1) vw_0 iwX0_take_X0 (by decide) mX0_take_f21 rfl dX0_take_46 ?_
  refine q_iconst (pc := 49) (v := 0) K dX0_take_49 (by decide) ?_
  refine q_aload_n (pc := 50) K dX0_take_50 rfl rfl ?_
  refine q_get (pc := 51) (o := j) (f := 3) (v := .ref (gad G (8 * j + 3))) K (wO_ch hG hj) vw_0 iwX0_take_X0 (by decide) mX0_take_f21 rfl dX0_take_51 ?_
  refine q_iconst (pc := 54) (v := 0) K dX0_take_54 (by decide) ?_
  refine q_bipush (pc := 55) (v := 8) K dX0_take_55 (by decide) ?_
  refine q_copyi (pc := 57) (a := 8 * i1 + 3) (b := 8 * j + 3) (sp := 0) (dp := 0) (n := 8) K mX0_take_l58 mX0_take_n58 mX0_take_s58 mX0_take_iS (by rw [wna_t hG]; have := hi1; omega) (by rw [wna_t hG]; have := hj; omega) (by decide) (by decide) (by decide) (by rw [wlc3 hG hi1]; decide) (by rw [wlc3 hG hj]; decide) (Nat.le_of_ble_eq_true rfl) (Nat.le_of_ble_eq_true rfl) dX0_take_57 (fun s10 e11 => ?_)
  have hw12 : WD s10 := by rw [e11]; exact wdC hw9 (by have := hj; omega) 
  refine q_aload_n (pc := 60) K dX0_take_60 rfl rfl ?_
  refine q_get (pc := 61) (o := i1) (f := 4) (v := .ref (gad G (8 * i1 + 4))) K (wO_ch hG hi1) vw_0 iwX0_take_X0 (by decide) mX0_take_f24 rfl dX0_take_61 ?_
  refine q_iconst (pc := 64) (v := 0) K dX0_take_64 (by decide) ?_
  refine q_aload_n (pc := 65) K dX0_take_65 rfl rfl ?_
  refine q_get (pc := 66) (o := j) (f := 4) (v := .ref (gad G (8 * j + 4))) K (wO_ch hG hj) vw_0 iwX0_take_X0 (by decide) mX0_take_f24 rfl dX0_take_66 ?_
  refine q_iconst (pc := 69) (v := 0) K dX0_take_69 (by decide) ?_
  refine q_bipush (pc := 70) (v := 8) K dX0_take_70 (by decide) ?_
  refine q_copyi (pc := 72) (a := 8 * i1 + 4) (b := 8 * j + 4) (sp := 0) (dp := 0) (n := 8) K mX0_take_l58 mX0_take_n58 mX0_take_s58 mX0_take_iS (by rw [wna_t hG]; have := hi1; omega) (by rw [wna_t hG]; have := hj; omega) (by decide) (by decide) (by decide) (by rw [wlc4 hG hi1]; decide) (by rw [wlc4 hG hj]; decide) (Nat.le_of_ble_eq_true rfl) (Nat.le_of_ble_eq_true rfl) dX0_take_72 (fun s13 e14 => ?_)
  have hw15 : WD s13 := by rw [e14]; exact wdC hw12 (by have := hj; omega) 
  refine q_aload_n (pc := 75) K dX0_take_75 rfl rfl ?_
  refine q_get (pc := 76) (o := i1) (f := 5) (v := .ref (gad G (8 * i1 + 5))) K (wO_ch hG hi1) vw_0 iwX0_take_X0 (by decide) mX0_take_f27 rfl dX0_take_76 ?_
  refine q_iconst (pc := 79) (v := 0) K dX0_take_79 (by decide) ?_
  refine q_aload_n (pc := 80) K dX0_take_80 rfl rfl ?_
  refine q_get (pc := 81) (o := j) (f := 5) (v := .ref (gad G (8 * j + 5))) K (wO_ch hG hj) vw_0 iwX0_take_X0 (by decide) mX0_take_f27 rfl dX0_take_81 ?_
  refine q_iconst (pc := 84) (v := 0) K dX0_take_84 (by decide) ?_
  refine q_bipush (pc := 85) (v := 6) K dX0_take_85 (by decide) ?_
  refine q_copyi (pc := 87) (a := 8 * i1 + 5) (b := 8 * j + 5) (sp := 0) (dp := 0) (n := 6) K mX0_take_l58 mX0_take_n58 mX0_take_s58 mX0_take_iS (by rw [wna_t hG]; have := hi1; omega) (by rw [wna_t hG]; have := hj; omega) (by decide) (by decide) (by decide) (by rw [wlc5 hG hi1]; decide) (by rw [wlc5 hG hj]; decide) (Nat.le_of_ble_eq_true rfl) (Nat.le_of_ble_eq_true rfl) dX0_take_87 (fun s16 e17 => ?_)
  have hw18 : WD s16 := by rw [e17]; exact wdC hw15 (by have := hj; omega) 
  refine q_aload_n (pc := 90) K dX0_take_90 rfl rfl ?_
  refine q_get (pc := 91) (o := i1) (f := 6) (v := .ref (gad G (8 * i1 + 6))) K (wO_ch hG hi1) vw_0 iwX0_take_X0 (by decide) mX0_take_f30 rfl dX0_take_91 ?_
  refine q_iconst (pc := 94) (v := 0) K dX0_take_94 (by decide) ?_
  refine q_aload_n (pc := 95) K dX0_take_95 rfl rfl ?_
  refine q_get (pc := 96) (o := j) (f := 6) (v := .ref (gad G (8 * j + 6))) K (wO_ch hG hj) vw_0 iwX0_take_X0 (by decide) mX0_take_f30 rfl dX0_take_96 ?_
  refine q_iconst (pc := 99) (v := 0) K dX0_take_99 (by decide) ?_
  refine q_bipush (pc := 100) (v := 10) K dX0_take_100 (by decide) ?_
  refine q_copyi (pc := 102) (a := 8 * i1 + 6) (b := 8 * j + 6) (sp := 0) (dp := 0) (n := 10) K mX0_take_l58 mX0_take_n58 mX0_take_s58 mX0_take_iS (by rw [wna_t hG]; have := hi1; omega) (by rw [wna_t hG]; have := hj; omega) (by decide) (by decide) (by decide) (by rw [wlc6 hG hi1]; decide) (by rw [wlc6 hG hj]; decide) (Nat.le_of_ble_eq_true rfl) (Nat.le_of_ble_eq_true rfl) dX0_take_102 (fun s19 e20 => ?_)
  have hw21 : WD s19 := by rw [e20]; exact wdC hw18 (by have := hj; omega) 
  refine q_aload_n (pc := 105) K dX0_take_105 rfl rfl ?_
  refine q_aload_n (pc := 106) K dX0_take_106 rfl rfl ?_
  refine q_get (pc := 107) (o := i1) (f := 7) (v := .int (rF s19 (7 * i1))) K (wO_ch hG hi1) vw_0 iwX0_take_X0 (by decide) mX0_take_f33 rfl dX0_take_107 ?_
  refine q_put (pc := 110) (o := j) (f := 7) (i := (7 * j)) (ty := .int) K tyX0 tyX0_ok nmX0 (wO_ch hG hj) vw_0 iwX0_take_X0 (by decide) mX0_take_f33 rfl (tyX0_ok 7 (by decide)) rfl rfl (Nat.le_of_ble_eq_true rfl) (wP_ch7 hG hj _) dX0_take_110 (fun s22 e23 => ?_)
  have hw24 : WD s22 := by rw [e23]; exact wdF hw21 (by have := hj; omega)
  refine q_aload_n (pc := 113) K dX0_take_113 rfl rfl ?_
  refine q_aload_n (pc := 114) K dX0_take_114 rfl rfl ?_
  refine q_get (pc := 115) (o := i1) (f := 8) (v := .int (rF s22 (7 * i1 + 1))) K (wO_ch hG hi1) vw_0 iwX0_take_X0 (by decide) mX0_take_f37 rfl dX0_take_115 ?_
  have w25 := wd_deeds hw24 hi1
  refine q_put (pc := 118) (o := j) (f := 8) (i := (7 * j + 1)) (ty := .int) K tyX0 tyX0_ok nmX0 (wO_ch hG hj) vw_0 iwX0_take_X0 (by decide) mX0_take_f37 rfl (tyX0_ok 8 (by decide)) rfl rfl (Nat.le_of_ble_eq_true rfl) (wP_ch8 hG hj _) dX0_take_118 (fun s26 e27 => ?_)
  have hw28 : WD s26 := by rw [e27]; exact wdFd hw24 hj (by omega) (by omega)
  refine q_aload_n (pc := 121) K dX0_take_121 rfl rfl ?_
  refine q_aload_n (pc := 122) K dX0_take_122 rfl rfl ?_
  refine q_get (pc := 123) (o := i1) (f := 9) (v := .int (rF s26 (7 * i1 + 2))) K (wO_ch hG hi1) vw_0 iwX0_take_X0 (by decide) mX0_take_f40 rfl dX0_take_123 ?_
  refine q_put (pc := 126) (o := j) (f := 9) (i := (7 * j + 2)) (ty := .int) K tyX0 tyX0_ok nmX0 (wO_ch hG hj) vw_0 iwX0_take_X0 (by decide) mX0_take_f40 rfl (tyX0_ok 9 (by decide)) rfl rfl (Nat.le_of_ble_eq_true rfl) (wP_ch9 hG hj _) dX0_take_126 (fun s29 e30 => ?_)
  have hw31 : WD s29 := by rw [e30]; exact wdF hw28 (by have := hj; omega)
  refine q_aload_n (pc := 129) K dX0_take_129 rfl rfl ?_
  refine q_aload_n (pc := 130) K dX0_take_130 rfl rfl ?_
  refine q_get (pc := 131) (o := i1) (f := 10) (v := .int (rF s29 (7 * i1 + 3))) K (wO_ch hG hi1) vw_0 iwX0_take_X0 (by decide) mX0_take_f43 rfl dX0_take_131 ?_
  refine q_put (pc := 134) (o := j) (f := 10) (i := (7 * j + 3)) (ty := .int) K tyX0 tyX0_ok nmX0 (wO_ch hG hj) vw_0 iwX0_take_X0 (by decide) mX0_take_f43 rfl (tyX0_ok 10 (by decide)) rfl rfl (Nat.le_of_ble_eq_true rfl) (wP_ch10 hG hj _) dX0_take_134 (fun s32 e33 => ?_)
  have hw34 : WD s32 := by rw [e33]; exact wdF hw31 (by have := hj; omega)
  refine q_aload_n (pc := 137) K dX0_take_137 rfl rfl ?_
  refine q_aload_n (pc := 138) K dX0_take_138 rfl rfl ?_
  refine q_get (pc := 139) (o := i1) (f := 11) (v := .int (rF s32 (7 * i1 + 4))) K (wO_ch hG hi1) vw_0 iwX0_take_X0 (by decide) mX0_take_f46 rfl dX0_take_139 ?_
  refine q_put (pc := 142) (o := j) (f := 11) (i := (7 * j + 4)) (ty := .int) K tyX0 tyX0_ok nmX0 (wO_ch hG hj) vw_0 iwX0_take_X0 (by decide) mX0_take_f46 rfl (tyX0_ok 11 (by decide)) rfl rfl (Nat.le_of_ble_eq_true rfl) (wP_ch11 hG hj _) dX0_take_142 (fun s35 e36 => ?_)
  have hw37 : WD s35 := by rw [e36]; exact wdF hw34 (by have := hj; omega)
  refine q_aload_n (pc := 145) K dX0_take_145 rfl rfl ?_
  refine q_aload_n (pc := 146) K dX0_take_146 rfl rfl ?_
  refine q_get (pc := 147) (o := i1) (f := 12) (v := .int (rF s35 (7 * i1 + 5))) K (wO_ch hG hi1) vw_0 iwX0_take_X0 (by decide) mX0_take_f49 rfl dX0_take_147 ?_
  refine q_put (pc := 150) (o := j) (f := 12) (i := (7 * j + 5)) (ty := .int) K tyX0 tyX0_ok nmX0 (wO_ch hG hj) vw_0 iwX0_take_X0 (by decide) mX0_take_f49 rfl (tyX0_ok 12 (by decide)) rfl rfl (Nat.le_of_ble_eq_true rfl) (wP_ch12 hG hj _) dX0_take_150 (fun s38 e39 => ?_)
  have hw40 : WD s38 := by rw [e39]; exact wdF hw37 (by have := hj; omega)
  refine q_aload_n (pc := 153) K dX0_take_153 rfl rfl ?_
  refine q_aload_n (pc := 154) K dX0_take_154 rfl rfl ?_
  refine q_get (pc := 155) (o := i1) (f := 13) (v := .int (rF s38 (7 * i1 + 6))) K (wO_ch hG hi1) vw_0 iwX0_take_X0 (by decide) mX0_take_f52 rfl dX0_take_155 ?_
  refine q_put (pc := 158) (o := j) (f := 13) (i := (7 * j + 6)) (ty := .int) K tyX0 tyX0_ok nmX0 (wO_ch hG hj) vw_0 iwX0_take_X0 (by decide) mX0_take_f52 rfl (tyX0_ok 13 (by decide)) rfl rfl (Nat.le_of_ble_eq_true rfl) (wP_ch13 hG hj _) dX0_take_158 (fun s41 e42 => ?_)
  have hw43 : WD s41 := by rw [e42]; exact wdF hw40 (by have := hj; omega)
  exact q_vretW K hr dX0_take_161
theorem hdV_X0_addDeed : yX0_addDeed.cls = RX0 ∧ yX0_addDeed.cls ≠ "java/lang/invoke/MethodHandle" ∧ yX0_addDeed.cls ≠ "java/lang/invoke/VarHandle" ∧ (parseMethodDescriptor yX0_addDeed.desc).map (fun d => d.parameters.length) = some 4 := by decide +kernel
theorem mX0_addDeed_f37 : Cond.fieldLink RX0 37 "WaxTreaties$Chancery" "deeds" "I" ∈ wsX0_addDeed := List.mem_of_getElem? (i := 1) rfl
theorem iwX0_addDeed_X0 : ∀ w ∈ wsX00, w ∈ wsX0_addDeed := fun w h => List.mem_cons_of_mem _ (List.mem_append_right _ h)
theorem mX0_addDeed_f9 : Cond.fieldLink RX0 9 "WaxTreaties$Chancery" "kind" "[I" ∈ wsX0_addDeed := List.mem_of_getElem? (i := 2) rfl
theorem mX0_addDeed_f15 : Cond.fieldLink RX0 15 "WaxTreaties$Chancery" "shelf" "[I" ∈ wsX0_addDeed := List.mem_of_getElem? (i := 3) rfl
theorem mX0_addDeed_f18 : Cond.fieldLink RX0 18 "WaxTreaties$Chancery" "wax" "[I" ∈ wsX0_addDeed := List.mem_of_getElem? (i := 4) rfl
theorem mX0_addDeed_f21 : Cond.fieldLink RX0 21 "WaxTreaties$Chancery" "soft" "[I" ∈ wsX0_addDeed := List.mem_of_getElem? (i := 5) rfl
theorem mX0_addDeed_f24 : Cond.fieldLink RX0 24 "WaxTreaties$Chancery" "hangsOn" "[I" ∈ wsX0_addDeed := List.mem_of_getElem? (i := 6) rfl
set_option maxRecDepth 100000 in
set_option maxHeartbeats 4000000 in
theorem kX0_addDeed (l : Launch) {G : gT} (hN : wN G) (hG : gfl G = true) (j : Nat) (hj : j < 3) (v1 : Int32) (v2 : Int32) (v3 : Int32) (v4 : Int32) (σ : sg) (hw : WD σ) (hb : 0 ≤ v2.toInt ∧ v2.toInt ≤ 5) : cM l yX0_addDeed wsX0_addDeed rmX0_addDeed G [.ref (gob G j), .int v1, .int v2, .int v3, .int v4] σ (some (.int (fX0_addDeed j v1 v2 v3 v4 σ).1)) (fX0_addDeed j v1 v2 v3 v4 σ).2 := by
  refine cM_of (maxL := 6) (ret := (some .int)) (cc := cX0_addDeed) (fX0_addDeed j v1 v2 v3 v4 σ) RX0 hN (by decide +kernel) rfl rfl (Nat.le_of_ble_eq_true rfl) rfl ?_
  intro p e s m args below meth c K hr
  have km1 : ((-1) : Int32).toInt = -1 := rfl
  have k0 : (0 : Int32).toInt = 0 := rfl
  have k1 : (1 : Int32).toInt = 1 := rfl
  refine qq_st (lv' := [some (.ref (gob G j)), some (.int v1), some (.int v2), some (.int v3), some (.int v4), none]) rfl rfl rfl ?_
  refine qq_T (fX0_addDeed.eq_1 ..) ?_
  refine q_aload_n (pc := 0) K dX0_addDeed_0 rfl rfl ?_
  refine q_callVi (pc := 1) (o := j) (rm := rmX0_isFull) K (kX0_isFull l hN hG j hj σ hw) gX0_addDeed_X0_isFull rfl hdV_X0_isFull ⟨Nat.le_of_ble_eq_true rfl, Nat.le_of_ble_eq_true rfl⟩ rfl rfl ⟨Nat.zero_le _, Nat.zero_le _⟩ (wO_ch hG hj) vw_0 rfl rfl (Nat.le_of_ble_eq_true rfl) dX0_addDeed_1 ?_
  refine q_if_eq (pc := 4) (tgt := 9) K dX0_addDeed_4 (by decide) (fun c1 => ?_) (fun c1 => ?_)
  · have i22 := eqI c1
    have b23 := isF_f c1
    refine q_aload_n (pc := 9) K dX0_addDeed_9 rfl rfl ?_
    refine q_get (pc := 10) (o := j) (f := 8) (v := .int (rF σ (7 * j + 1))) K (wO_ch hG hj) vw_0 iwX0_addDeed_X0 (by decide) mX0_addDeed_f37 rfl dX0_addDeed_10 ?_
    have w2 := wd_deeds hw hj
    refine q_istore (pc := 13) (lv' := [some (.ref (gob G j)), some (.int v1), some (.int v2), some (.int v3), some (.int v4), some (.int (rF σ (7 * j + 1)))]) K dX0_addDeed_13 (by decide) (Nat.le_of_ble_eq_true rfl) rfl ?_
    refine q_aload_n (pc := 15) K dX0_addDeed_15 rfl rfl ?_
    refine q_get (pc := 16) (o := j) (f := 0) (v := .ref (gad G (8 * j))) K (wO_ch hG hj) vw_0 iwX0_addDeed_X0 (by decide) mX0_addDeed_f9 rfl dX0_addDeed_16 ?_
    refine q_iload (pc := 19) K dX0_addDeed_19 rfl ?_
    refine q_iload_n (pc := 21) K dX0_addDeed_21 rfl rfl ?_
    refine q_iast (pc := 22) (a := 8 * j) K (by rw [wna_t hG]; have := hj; omega) (vinN (wlc0 hG hj) (by omega) (by omega)) dX0_addDeed_22 (fun s3 e4 => ?_)
    have hw5 : WD s3 := by rw [e4]; exact wdA hw (by have := hj; omega)
    refine q_aload_n (pc := 23) K dX0_addDeed_23 rfl rfl ?_
    refine q_get (pc := 24) (o := j) (f := 1) (v := .ref (gad G (8 * j + 1))) K (wO_ch hG hj) vw_0 iwX0_addDeed_X0 (by decide) mX0_addDeed_f15 rfl dX0_addDeed_24 ?_
    refine q_iload (pc := 27) K dX0_addDeed_27 rfl ?_
    refine q_iload_n (pc := 29) K dX0_addDeed_29 rfl rfl ?_
    refine q_iast (pc := 30) (a := 8 * j + 1) K (by rw [wna_t hG]; have := hj; omega) (vinN (wlc1 hG hj) (by omega) (by omega)) dX0_addDeed_30 (fun s6 e7 => ?_)
    have hw8 : WD s6 := by rw [e7]; exact wdAs hw5 (by omega) (by omega)
    refine q_aload_n (pc := 31) K dX0_addDeed_31 rfl rfl ?_
    refine q_get (pc := 32) (o := j) (f := 2) (v := .ref (gad G (8 * j + 2))) K (wO_ch hG hj) vw_0 iwX0_addDeed_X0 (by decide) mX0_addDeed_f18 rfl dX0_addDeed_32 ?_
    refine q_iload (pc := 35) K dX0_addDeed_35 rfl ?_
    refine q_iload_n (pc := 37) K dX0_addDeed_37 rfl rfl ?_
    refine q_iast (pc := 38) (a := 8 * j + 2) K (by rw [wna_t hG]; have := hj; omega) (vinN (wlc2 hG hj) (by omega) (by omega)) dX0_addDeed_38 (fun s9 e10 => ?_)
    have hw11 : WD s9 := by rw [e10]; exact wdA hw8 (by have := hj; omega)
    refine q_aload_n (pc := 39) K dX0_addDeed_39 rfl rfl ?_
    refine q_get (pc := 40) (o := j) (f := 3) (v := .ref (gad G (8 * j + 3))) K (wO_ch hG hj) vw_0 iwX0_addDeed_X0 (by decide) mX0_addDeed_f21 rfl dX0_addDeed_40 ?_
    refine q_iload (pc := 43) K dX0_addDeed_43 rfl ?_
    refine q_iconst (pc := 45) (v := 0) K dX0_addDeed_45 (by decide) ?_
    refine q_iast (pc := 46) (a := 8 * j + 3) K (by rw [wna_t hG]; have := hj; omega) (vinN (wlc3 hG hj) (by omega) (by omega)) dX0_addDeed_46 (fun s12 e13 => ?_)
    have hw14 : WD s12 := by rw [e13]; exact wdA hw11 (by have := hj; omega)
    refine q_aload_n (pc := 47) K dX0_addDeed_47 rfl rfl ?_
    refine q_get (pc := 48) (o := j) (f := 4) (v := .ref (gad G (8 * j + 4))) K (wO_ch hG hj) vw_0 iwX0_addDeed_X0 (by decide) mX0_addDeed_f24 rfl dX0_addDeed_48 ?_
    refine q_iload (pc := 51) K dX0_addDeed_51 rfl ?_
    refine q_iload (pc := 53) K dX0_addDeed_53 rfl ?_
    refine q_iast (pc := 55) (a := 8 * j + 4) K (by rw [wna_t hG]; have := hj; omega) (vinN (wlc4 hG hj) (by omega) (by omega)) dX0_addDeed_55 (fun s15 e16 => ?_)
    have hw17 : WD s15 := by rw [e16]; exact wdA hw14 (by have := hj; omega)
    refine q_aload_n (pc := 56) K dX0_addDeed_56 rfl rfl ?_
    refine q_dup (pc := 57) K dX0_addDeed_57 rfl ?_
    refine q_get (pc := 58) (o := j) (f := 8) (v := .int (rF s15 (7 * j + 1))) K (wO_ch hG hj) vw_0 iwX0_addDeed_X0 (by decide) mX0_addDeed_f37 rfl dX0_addDeed_58 ?_
    have w18 := wd_deeds hw17 hj
    refine q_iconst (pc := 61) (v := 1) K dX0_addDeed_61 (by decide) ?_
    refine q_iadd (pc := 62) K dX0_addDeed_62 ?_
    have q1 := congrArg Int32.toInt (show rF s15 (7 * j + 1) = rF σ (7 * j + 1) by simp only [sA_F, *])
    have q2 := addI (x := rF s15 (7 * j + 1)) (y := 1) (by omega) (by omega)
    refine q_put (pc := 63) (o := j) (f := 8) (i := (7 * j + 1)) (ty := .int) K tyX0 tyX0_ok nmX0 (wO_ch hG hj) vw_0 iwX0_addDeed_X0 (by decide) mX0_addDeed_f37 rfl (tyX0_ok 8 (by decide)) rfl rfl (Nat.le_of_ble_eq_true rfl) (wP_ch8 hG hj _) dX0_addDeed_63 (fun s19 e20 => ?_)
    have hw21 : WD s19 := by rw [e20]; exact wdFd hw17 hj (by omega) (by omega)
    refine q_iload (pc := 66) K dX0_addDeed_66 rfl ?_
    exact q_iret K hr dX0_addDeed_68
  · have i24 := neI c1
    refine q_iconst (pc := 7) (v := (-1)) K dX0_addDeed_7 (by decide) ?_
    exact q_iret K hr dX0_addDeed_8
theorem hdV_X0_setShutter : yX0_setShutter.cls = RX0 ∧ yX0_setShutter.cls ≠ "java/lang/invoke/MethodHandle" ∧ yX0_setShutter.cls ≠ "java/lang/invoke/VarHandle" ∧ (parseMethodDescriptor yX0_setShutter.desc).map (fun d => d.parameters.length) = some 2 := by decide +kernel
theorem mX0_setShutter_f40 : Cond.fieldLink RX0 40 "WaxTreaties$Chancery" "open" "I" ∈ wsX0_setShutter := List.mem_of_getElem? (i := 1) rfl
theorem iwX0_setShutter_X0 : ∀ w ∈ wsX00, w ∈ wsX0_setShutter := fun w h => List.mem_cons_of_mem _ (List.mem_append_right _ h)
theorem mX0_setShutter_iX4 : Cond.initialized RX4 ∈ wsX0_setShutter := List.mem_of_getElem? (i := 3) rfl
theorem mX0_setShutter_stX4_without : Cond.static yX4_without ∈ wsX0_setShutter := List.mem_of_getElem? (i := 5) rfl
theorem mX0_setShutter_stX4_with : Cond.static yX4_with ∈ wsX0_setShutter := List.mem_of_getElem? (i := 2) rfl
set_option maxRecDepth 100000 in
set_option maxHeartbeats 4000000 in
theorem kX0_setShutter (l : Launch) {G : gT} (hN : wN G) (hG : gfl G = true) (j : Nat) (hj : j < 3) (v1 : Int32) (v2 : Int32) (σ : sg) (hw : WD σ) : cM l yX0_setShutter wsX0_setShutter rmX0_setShutter G [.ref (gob G j), .int v1, .int v2] σ none (fX0_setShutter j v1 v2 σ) := by
  refine cM_of (maxL := 3) (ret := none) (cc := cX0_setShutter) (fX0_setShutter j v1 v2 σ) RX0 hN (by decide +kernel) rfl rfl (Nat.le_of_ble_eq_true rfl) rfl ?_
  intro p e s m args below meth c K hr
  have k0 : (0 : Int32).toInt = 0 := rfl
  refine qq_st (lv' := [some (.ref (gob G j)), some (.int v1), some (.int v2)]) rfl rfl rfl ?_
  refine qq_T (fX0_setShutter.eq_1 ..) ?_
  refine q_aload_n (pc := 0) K dX0_setShutter_0 rfl rfl ?_
  refine q_iload_n (pc := 1) K dX0_setShutter_1 rfl rfl ?_
  refine q_if_eq (pc := 2) (tgt := 16) K dX0_setShutter_2 (by decide) (fun c1 => ?_) (fun c1 => ?_)
  · have i8 := eqI c1
    refine q_aload_n (pc := 16) K dX0_setShutter_16 rfl rfl ?_
    refine q_get (pc := 17) (o := j) (f := 9) (v := .int (rF σ (7 * j + 2))) K (wO_ch hG hj) vw_0 iwX0_setShutter_X0 (by decide) mX0_setShutter_f40 rfl dX0_setShutter_17 ?_
    refine q_iload_n (pc := 20) K dX0_setShutter_20 rfl rfl ?_
    refine q_callNi (pc := 21) (rm := rmX4_without) K (kX4_without l hN (rF σ (7 * j + 2)) v1 σ) gX0_setShutter_X4_without_n76 (nS_2 K.2.2.2.2.2.2.2.2.1) mX0_setShutter_iX4 mX0_setShutter_stX4_without rfl hdS_X4_without ⟨Nat.le_of_ble_eq_true rfl, Nat.le_of_ble_eq_true rfl⟩ rfl rfl ⟨Nat.zero_le _, Nat.zero_le _⟩ rfl rfl (Nat.le_of_ble_eq_true rfl) dX0_setShutter_21 ?_
    refine q_put (pc := 24) (o := j) (f := 9) (i := (7 * j + 2)) (ty := .int) K tyX0 tyX0_ok nmX0 (wO_ch hG hj) vw_0 iwX0_setShutter_X0 (by decide) mX0_setShutter_f40 rfl (tyX0_ok 9 (by decide)) rfl rfl (Nat.le_of_ble_eq_true rfl) (wP_ch9 hG hj _) dX0_setShutter_24 (fun s2 e3 => ?_)
    have hw4 : WD s2 := by rw [e3]; exact wdF hw (by have := hj; omega)
    exact q_vretW K hr dX0_setShutter_27
  · have i9 := neI c1
    refine q_aload_n (pc := 5) K dX0_setShutter_5 rfl rfl ?_
    refine q_get (pc := 6) (o := j) (f := 9) (v := .int (rF σ (7 * j + 2))) K (wO_ch hG hj) vw_0 iwX0_setShutter_X0 (by decide) mX0_setShutter_f40 rfl dX0_setShutter_6 ?_
    refine q_iload_n (pc := 9) K dX0_setShutter_9 rfl rfl ?_
    refine q_callNi (pc := 10) (rm := rmX4_with) K (kX4_with l hN (rF σ (7 * j + 2)) v1 σ) gX0_setShutter_X4_with_n72 (nS_1 K.2.2.2.2.2.2.2.2.1) mX0_setShutter_iX4 mX0_setShutter_stX4_with rfl hdS_X4_with ⟨Nat.le_of_ble_eq_true rfl, Nat.le_of_ble_eq_true rfl⟩ rfl rfl ⟨Nat.zero_le _, Nat.zero_le _⟩ rfl rfl (Nat.le_of_ble_eq_true rfl) dX0_setShutter_10 ?_
    refine q_goto (pc := 13) (tgt := 24) K dX0_setShutter_13 (by decide) ?_
    refine q_put (pc := 24) (o := j) (f := 9) (i := (7 * j + 2)) (ty := .int) K tyX0 tyX0_ok nmX0 (wO_ch hG hj) vw_0 iwX0_setShutter_X0 (by decide) mX0_setShutter_f40 rfl (tyX0_ok 9 (by decide)) rfl rfl (Nat.le_of_ble_eq_true rfl) (wP_ch9 hG hj _) dX0_setShutter_24 (fun s5 e6 => ?_)
    have hw7 : WD s5 := by rw [e6]; exact wdF hw (by have := hj; omega)
    exact q_vretW K hr dX0_setShutter_27
theorem hdV_X0_setCandle : yX0_setCandle.cls = RX0 ∧ yX0_setCandle.cls ≠ "java/lang/invoke/MethodHandle" ∧ yX0_setCandle.cls ≠ "java/lang/invoke/VarHandle" ∧ (parseMethodDescriptor yX0_setCandle.desc).map (fun d => d.parameters.length) = some 2 := by decide +kernel
theorem mX0_setCandle_f43 : Cond.fieldLink RX0 43 "WaxTreaties$Chancery" "candles" "I" ∈ wsX0_setCandle := List.mem_of_getElem? (i := 1) rfl
theorem iwX0_setCandle_X0 : ∀ w ∈ wsX00, w ∈ wsX0_setCandle := fun w h => List.mem_cons_of_mem _ (List.mem_append_right _ h)
theorem mX0_setCandle_iX4 : Cond.initialized RX4 ∈ wsX0_setCandle := List.mem_of_getElem? (i := 3) rfl
theorem mX0_setCandle_stX4_without : Cond.static yX4_without ∈ wsX0_setCandle := List.mem_of_getElem? (i := 5) rfl
theorem mX0_setCandle_stX4_with : Cond.static yX4_with ∈ wsX0_setCandle := List.mem_of_getElem? (i := 2) rfl
set_option maxRecDepth 100000 in
set_option maxHeartbeats 4000000 in
theorem kX0_setCandle (l : Launch) {G : gT} (hN : wN G) (hG : gfl G = true) (j : Nat) (hj : j < 3) (v1 : Int32) (v2 : Int32) (σ : sg) (hw : WD σ) : cM l yX0_setCandle wsX0_setCandle rmX0_setCandle G [.ref (gob G j), .int v1, .int v2] σ none (fX0_setCandle j v1 v2 σ) := by
  refine cM_of (maxL := 3) (ret := none) (cc := cX0_setCandle) (fX0_setCandle j v1 v2 σ) RX0 hN (by decide +kernel) rfl rfl (Nat.le_of_ble_eq_true rfl) rfl ?_
  intro p e s m args below meth c K hr
  have k0 : (0 : Int32).toInt = 0 := rfl
  refine qq_st (lv' := [some (.ref (gob G j)), some (.int v1), some (.int v2)]) rfl rfl rfl ?_
  refine qq_T (fX0_setCandle.eq_1 ..) ?_
  refine q_aload_n (pc := 0) K dX0_setCandle_0 rfl rfl ?_
  refine q_iload_n (pc := 1) K dX0_setCandle_1 rfl rfl ?_
  refine q_if_eq (pc := 2) (tgt := 16) K dX0_setCandle_2 (by decide) (fun c1 => ?_) (fun c1 => ?_)
  · have i8 := eqI c1
    refine q_aload_n (pc := 16) K dX0_setCandle_16 rfl rfl ?_
    refine q_get (pc := 17) (o := j) (f := 10) (v := .int (rF σ (7 * j + 3))) K (wO_ch hG hj) vw_0 iwX0_setCandle_X0 (by decide) mX0_setCandle_f43 rfl dX0_setCandle_17 ?_
    refine q_iload_n (pc := 20) K dX0_setCandle_20 rfl rfl ?_
    refine q_callNi (pc := 21) (rm := rmX4_without) K (kX4_without l hN (rF σ (7 * j + 3)) v1 σ) gX0_setCandle_X4_without_n76 (nS_2 K.2.2.2.2.2.2.2.2.1) mX0_setCandle_iX4 mX0_setCandle_stX4_without rfl hdS_X4_without ⟨Nat.le_of_ble_eq_true rfl, Nat.le_of_ble_eq_true rfl⟩ rfl rfl ⟨Nat.zero_le _, Nat.zero_le _⟩ rfl rfl (Nat.le_of_ble_eq_true rfl) dX0_setCandle_21 ?_
    refine q_put (pc := 24) (o := j) (f := 10) (i := (7 * j + 3)) (ty := .int) K tyX0 tyX0_ok nmX0 (wO_ch hG hj) vw_0 iwX0_setCandle_X0 (by decide) mX0_setCandle_f43 rfl (tyX0_ok 10 (by decide)) rfl rfl (Nat.le_of_ble_eq_true rfl) (wP_ch10 hG hj _) dX0_setCandle_24 (fun s2 e3 => ?_)
    have hw4 : WD s2 := by rw [e3]; exact wdF hw (by have := hj; omega)
    exact q_vretW K hr dX0_setCandle_27
  · have i9 := neI c1
    refine q_aload_n (pc := 5) K dX0_setCandle_5 rfl rfl ?_
    refine q_get (pc := 6) (o := j) (f := 10) (v := .int (rF σ (7 * j + 3))) K (wO_ch hG hj) vw_0 iwX0_setCandle_X0 (by decide) mX0_setCandle_f43 rfl dX0_setCandle_6 ?_
    refine q_iload_n (pc := 9) K dX0_setCandle_9 rfl rfl ?_
    refine q_callNi (pc := 10) (rm := rmX4_with) K (kX4_with l hN (rF σ (7 * j + 3)) v1 σ) gX0_setCandle_X4_with_n72 (nS_1 K.2.2.2.2.2.2.2.2.1) mX0_setCandle_iX4 mX0_setCandle_stX4_with rfl hdS_X4_with ⟨Nat.le_of_ble_eq_true rfl, Nat.le_of_ble_eq_true rfl⟩ rfl rfl ⟨Nat.zero_le _, Nat.zero_le _⟩ rfl rfl (Nat.le_of_ble_eq_true rfl) dX0_setCandle_10 ?_
    refine q_goto (pc := 13) (tgt := 24) K dX0_setCandle_13 (by decide) ?_
    refine q_put (pc := 24) (o := j) (f := 10) (i := (7 * j + 3)) (ty := .int) K tyX0 tyX0_ok nmX0 (wO_ch hG hj) vw_0 iwX0_setCandle_X0 (by decide) mX0_setCandle_f43 rfl (tyX0_ok 10 (by decide)) rfl rfl (Nat.le_of_ble_eq_true rfl) (wP_ch10 hG hj _) dX0_setCandle_24 (fun s5 e6 => ?_)
    have hw7 : WD s5 := by rw [e6]; exact wdF hw (by have := hj; omega)
    exact q_vretW K hr dX0_setCandle_27
theorem hdV_X0_setAllKinds : yX0_setAllKinds.cls = RX0 ∧ yX0_setAllKinds.cls ≠ "java/lang/invoke/MethodHandle" ∧ yX0_setAllKinds.cls ≠ "java/lang/invoke/VarHandle" ∧ (parseMethodDescriptor yX0_setAllKinds.desc).map (fun d => d.parameters.length) = some 1 := by decide +kernel
theorem mX0_setAllKinds_f37 : Cond.fieldLink RX0 37 "WaxTreaties$Chancery" "deeds" "I" ∈ wsX0_setAllKinds := List.mem_of_getElem? (i := 1) rfl
theorem iwX0_setAllKinds_X0 : ∀ w ∈ wsX00, w ∈ wsX0_setAllKinds := fun w h => List.mem_cons_of_mem _ (List.mem_append_right _ h)
theorem mX0_setAllKinds_f9 : Cond.fieldLink RX0 9 "WaxTreaties$Chancery" "kind" "[I" ∈ wsX0_setAllKinds := List.mem_of_getElem? (i := 2) rfl
set_option maxRecDepth 100000 in
set_option maxHeartbeats 4000000 in
theorem lX0_setAllKinds_2 {p : Program} (l : Launch) {e : Env} {s : State} {m : MethodId} {args : Array Value} {below : List Frame} {meth : Method} {c : Code} {Q : State → Prop} {G : gT} (hN : wN G) (hG : gfl G = true) (K : qK p s m args meth c cX0_setAllKinds 3 RX0 wsX0_setAllKinds G) (j : Nat) (hj : j < 3) : ∀ (k : Nat) (v1 v2 : Int32) (σ : sg) (hw : WD σ) (hv2 : 0 ≤ v2.toInt ∧ v2.toInt ≤ 8) (hmu : (8 - v2.toInt).toNat < k) {ρ : Type} {E : ρ → Prop} {f : sg → ρ} (hk : ∀ r : sg, (WD r) → qq p l e (headSpec wsX0_setAllKinds rmX0_setAllKinds).room s m args below meth c Q 3 G E (f r) 23 [none, none, none] [] r), qq p l e (headSpec wsX0_setAllKinds rmX0_setAllKinds).room s m args below meth c Q 3 G E (bnd (LX0_setAllKinds_2 j k v1 v2 σ) f) 2 [some (.ref (gob G j)), some (.int v1), some (.int v2)] [] σ := by
  intro k
  induction k with
  | zero => intro v1 v2 σ hw hv2 hmu ρ E f hk; exact absurd hmu (Nat.not_lt_zero _)
  | succ k ih =>
    intro v1 v2 σ hw hv2 hmu ρ E f hk
    have k0 : (0 : Int32).toInt = 0 := rfl
    have k1 : (1 : Int32).toInt = 1 := rfl
    refine qq_in ?_
    refine qq_T (LX0_setAllKinds_2.eq_2 ..) ?_
    refine q_iload_n (pc := 2) K dX0_setAllKinds_2 rfl rfl ?_
    refine q_aload_n (pc := 3) K dX0_setAllKinds_3 rfl rfl ?_
    refine q_get (pc := 4) (o := j) (f := 8) (v := .int (rF σ (7 * j + 1))) K (wO_ch hG hj) vw_0 iwX0_setAllKinds_X0 (by decide) mX0_setAllKinds_f37 rfl dX0_setAllKinds_4 ?_
    have w1 := wd_deeds hw hj
    refine q_icmp_ge (pc := 7) (tgt := 23) K dX0_setAllKinds_7 (by decide) (fun c2 => ?_) (fun c2 => ?_)
    · have i7 := leI c2
      refine qq_drop 0 (lv' := [none, some (.int v1), some (.int v2)]) rfl ?_
      refine qq_drop 1 (lv' := [none, none, some (.int v2)]) rfl ?_
      refine qq_drop 2 (lv' := [none, none, none]) rfl ?_
      exact qq_leaf (hk σ hw)
    · have i8 := nleI c2
      refine q_aload_n (pc := 10) K dX0_setAllKinds_10 rfl rfl ?_
      refine q_get (pc := 11) (o := j) (f := 0) (v := .ref (gad G (8 * j))) K (wO_ch hG hj) vw_0 iwX0_setAllKinds_X0 (by decide) mX0_setAllKinds_f9 rfl dX0_setAllKinds_11 ?_
      refine q_iload_n (pc := 14) K dX0_setAllKinds_14 rfl rfl ?_
      refine q_iload_n (pc := 15) K dX0_setAllKinds_15 rfl rfl ?_
      refine q_iast (pc := 16) (a := 8 * j) K (by rw [wna_t hG]; have := hj; omega) (vinN (wlc0 hG hj) (by omega) (by omega)) dX0_setAllKinds_16 (fun s3 e4 => ?_)
      have hw5 : WD s3 := by rw [e4]; exact wdA hw (by have := hj; omega)
      refine q_iinc (pc := 17) (v := (v2 + 1)) (lv' := [some (.ref (gob G j)), some (.int v1), some (.int (v2 + 1))]) K dX0_setAllKinds_17 rfl rfl (by decide) rfl ?_
      refine q_goto (pc := 20) (tgt := 2) K dX0_setAllKinds_20 (by decide) ?_
      have a6 := addI (x := v2) (y := 1) (by omega) (by omega)
      exact qq_out (ih v1 (v2 + 1) s3 hw5 (by omega) (by omega) hk)
set_option maxRecDepth 100000 in
set_option maxHeartbeats 4000000 in
theorem kX0_setAllKinds (l : Launch) {G : gT} (hN : wN G) (hG : gfl G = true) (j : Nat) (hj : j < 3) (v1 : Int32) (σ : sg) (hw : WD σ) : cM l yX0_setAllKinds wsX0_setAllKinds rmX0_setAllKinds G [.ref (gob G j), .int v1] σ none (fX0_setAllKinds j v1 σ) := by
  refine cM_of (maxL := 3) (ret := none) (cc := cX0_setAllKinds) (fX0_setAllKinds j v1 σ) RX0 hN (by decide +kernel) rfl rfl (Nat.le_of_ble_eq_true rfl) rfl ?_
  intro p e s m args below meth c K hr
  have k0 : (0 : Int32).toInt = 0 := rfl
  refine qq_st (lv' := [some (.ref (gob G j)), some (.int v1), none]) rfl rfl rfl ?_
  refine qq_T (fX0_setAllKinds.eq_1 ..) ?_
  refine q_iconst (pc := 0) (v := 0) K dX0_setAllKinds_0 (by decide) ?_
  refine q_istore_n (pc := 1) (lv' := [some (.ref (gob G j)), some (.int v1), some (.int 0)]) K dX0_setAllKinds_1 rfl (by decide) (Nat.le_of_ble_eq_true rfl) rfl ?_
  refine lX0_setAllKinds_2 l hN hG K j hj 9 v1 0 σ hw (by omega) (by omega) (fun r9 hw11 => ?_)
  exact q_vretW K hr dX0_setAllKinds_23
theorem hdV_X0_bringIce : yX0_bringIce.cls = RX0 ∧ yX0_bringIce.cls ≠ "java/lang/invoke/MethodHandle" ∧ yX0_bringIce.cls ≠ "java/lang/invoke/VarHandle" ∧ (parseMethodDescriptor yX0_bringIce.desc).map (fun d => d.parameters.length) = some 2 := by decide +kernel
theorem mX0_bringIce_f27 : Cond.fieldLink RX0 27 "WaxTreaties$Chancery" "ice" "[I" ∈ wsX0_bringIce := List.mem_of_getElem? (i := 1) rfl
theorem iwX0_bringIce_X0 : ∀ w ∈ wsX00, w ∈ wsX0_bringIce := fun w h => List.mem_cons_of_mem _ (List.mem_append_right _ h)
theorem mX0_bringIce_l79 : Cond.methodLink RX0 79 Lib.Math.min.name ∈ wsX0_bringIce := List.mem_of_getElem? (i := 2) rfl
theorem mX0_bringIce_s79 : Cond.static Lib.Math.min.name ∈ wsX0_bringIce := List.mem_of_getElem? (i := 3) rfl
theorem mX0_bringIce_iM : Cond.initialized "java/lang/Math" ∈ wsX0_bringIce := List.mem_of_getElem? (i := 4) rfl
theorem mX0_bringIce_d79 : Cond.code Lib.Math.min.name Lib.Math.min.code 2 (some .int) ∈ wsX0_bringIce := List.mem_of_getElem? (i := 5) rfl
set_option maxRecDepth 100000 in
set_option maxHeartbeats 4000000 in
theorem kX0_bringIce (l : Launch) {G : gT} (hN : wN G) (hG : gfl G = true) (j : Nat) (hj : j < 3) (v1 : Int32) (v2 : Int32) (σ : sg) (hw : WD σ) (hb : 0 ≤ v1.toInt ∧ v1.toInt ≤ 5) : cM l yX0_bringIce wsX0_bringIce rmX0_bringIce G [.ref (gob G j), .int v1, .int v2] σ none (fX0_bringIce j v1 v2 σ) := by
  refine cM_of (maxL := 3) (ret := none) (cc := cX0_bringIce) (fX0_bringIce j v1 v2 σ) RX0 hN (by decide +kernel) rfl rfl (Nat.le_of_ble_eq_true rfl) rfl ?_
  intro p e s m args below meth c K hr
  have k0 : (0 : Int32).toInt = 0 := rfl
  have k99 : (99 : Int32).toInt = 99 := rfl
  refine qq_st (lv' := [some (.ref (gob G j)), some (.int v1), some (.int v2)]) rfl rfl rfl ?_
  refine qq_T (fX0_bringIce.eq_1 ..) ?_
  refine q_aload_n (pc := 0) K dX0_bringIce_0 rfl rfl ?_
  refine q_get (pc := 1) (o := j) (f := 5) (v := .ref (gad G (8 * j + 5))) K (wO_ch hG hj) vw_0 iwX0_bringIce_X0 (by decide) mX0_bringIce_f27 rfl dX0_bringIce_1 ?_
  refine q_iload_n (pc := 4) K dX0_bringIce_4 rfl rfl ?_
  refine q_bipush (pc := 5) (v := 99) K dX0_bringIce_5 (by decide) ?_
  refine q_aload_n (pc := 7) K dX0_bringIce_7 rfl rfl ?_
  refine q_get (pc := 8) (o := j) (f := 5) (v := .ref (gad G (8 * j + 5))) K (wO_ch hG hj) vw_0 iwX0_bringIce_X0 (by decide) mX0_bringIce_f27 rfl dX0_bringIce_8 ?_
  refine q_iload_n (pc := 11) K dX0_bringIce_11 rfl rfl ?_
  refine q_iald (pc := 12) (a := 8 * j + 5) K (by rw [wna_t hG]; have := hj; omega) (vinN (wlc5 hG hj) (by omega) (by omega)) dX0_bringIce_12 ?_
  refine q_iload_n (pc := 13) K dX0_bringIce_13 rfl rfl ?_
  refine q_iadd (pc := 14) K dX0_bringIce_14 ?_
  refine q_mmin (pc := 15) K mX0_bringIce_l79 mX0_bringIce_s79 mX0_bringIce_iM mX0_bringIce_d79 (Nat.le_of_ble_eq_true rfl) (Nat.le_of_ble_eq_true rfl) dX0_bringIce_15 ?_
  refine q_iast (pc := 18) (a := 8 * j + 5) K (by rw [wna_t hG]; have := hj; omega) (vinN (wlc5 hG hj) (by omega) (by omega)) dX0_bringIce_18 (fun s1 e2 => ?_)
  have hw3 : WD s1 := by rw [e2]; exact wdA hw (by have := hj; omega)
  exact q_vretW K hr dX0_bringIce_19
theorem hdV_X0_makeSealsAnew : yX0_makeSealsAnew.cls = RX0 ∧ yX0_makeSealsAnew.cls ≠ "java/lang/invoke/MethodHandle" ∧ yX0_makeSealsAnew.cls ≠ "java/lang/invoke/VarHandle" ∧ (parseMethodDescriptor yX0_makeSealsAnew.desc).map (fun d => d.parameters.length) = some 0 := by decide +kernel
theorem mX0_makeSealsAnew_f37 : Cond.fieldLink RX0 37 "WaxTreaties$Chancery" "deeds" "I" ∈ wsX0_makeSealsAnew := List.mem_of_getElem? (i := 1) rfl
theorem iwX0_makeSealsAnew_X0 : ∀ w ∈ wsX00, w ∈ wsX0_makeSealsAnew := fun w h => List.mem_cons_of_mem _ (List.mem_append_right _ h)
theorem mX0_makeSealsAnew_f21 : Cond.fieldLink RX0 21 "WaxTreaties$Chancery" "soft" "[I" ∈ wsX0_makeSealsAnew := List.mem_of_getElem? (i := 2) rfl
theorem mX0_makeSealsAnew_f33 : Cond.fieldLink RX0 33 "WaxTreaties$Chancery" "run" "I" ∈ wsX0_makeSealsAnew := List.mem_of_getElem? (i := 3) rfl
set_option maxRecDepth 100000 in
set_option maxHeartbeats 4000000 in
theorem lX0_makeSealsAnew_2 {p : Program} (l : Launch) {e : Env} {s : State} {m : MethodId} {args : Array Value} {below : List Frame} {meth : Method} {c : Code} {Q : State → Prop} {G : gT} (hN : wN G) (hG : gfl G = true) (K : qK p s m args meth c cX0_makeSealsAnew 2 RX0 wsX0_makeSealsAnew G) (j : Nat) (hj : j < 3) : ∀ (k : Nat) (v1 : Int32) (σ : sg) (hw : WD σ) (hv1 : 0 ≤ v1.toInt ∧ v1.toInt ≤ 8) (hmu : (8 - v1.toInt).toNat < k) {ρ : Type} {E : ρ → Prop} {f : sg → ρ} (hk : ∀ r : sg, (WD r) → qq p l e (headSpec wsX0_makeSealsAnew rmX0_makeSealsAnew).room s m args below meth c Q 2 G E (f r) 23 [some (.ref (gob G j)), none] [] r), qq p l e (headSpec wsX0_makeSealsAnew rmX0_makeSealsAnew).room s m args below meth c Q 2 G E (bnd (LX0_makeSealsAnew_2 j k v1 σ) f) 2 [some (.ref (gob G j)), some (.int v1)] [] σ := by
  intro k
  induction k with
  | zero => intro v1 σ hw hv1 hmu ρ E f hk; exact absurd hmu (Nat.not_lt_zero _)
  | succ k ih =>
    intro v1 σ hw hv1 hmu ρ E f hk
    have k0 : (0 : Int32).toInt = 0 := rfl
    have k1 : (1 : Int32).toInt = 1 := rfl
    refine qq_in ?_
    refine qq_T (LX0_makeSealsAnew_2.eq_2 ..) ?_
    refine q_iload_n (pc := 2) K dX0_makeSealsAnew_2 rfl rfl ?_
    refine q_aload_n (pc := 3) K dX0_makeSealsAnew_3 rfl rfl ?_
    refine q_get (pc := 4) (o := j) (f := 8) (v := .int (rF σ (7 * j + 1))) K (wO_ch hG hj) vw_0 iwX0_makeSealsAnew_X0 (by decide) mX0_makeSealsAnew_f37 rfl dX0_makeSealsAnew_4 ?_
    have w1 := wd_deeds hw hj
    refine q_icmp_ge (pc := 7) (tgt := 23) K dX0_makeSealsAnew_7 (by decide) (fun c2 => ?_) (fun c2 => ?_)
    · have i7 := leI c2
      refine qq_drop 1 (lv' := [some (.ref (gob G j)), none]) rfl ?_
      exact qq_leaf (hk σ hw)
    · have i8 := nleI c2
      refine q_aload_n (pc := 10) K dX0_makeSealsAnew_10 rfl rfl ?_
      refine q_get (pc := 11) (o := j) (f := 3) (v := .ref (gad G (8 * j + 3))) K (wO_ch hG hj) vw_0 iwX0_makeSealsAnew_X0 (by decide) mX0_makeSealsAnew_f21 rfl dX0_makeSealsAnew_11 ?_
      refine q_iload_n (pc := 14) K dX0_makeSealsAnew_14 rfl rfl ?_
      refine q_iconst (pc := 15) (v := 0) K dX0_makeSealsAnew_15 (by decide) ?_
      refine q_iast (pc := 16) (a := 8 * j + 3) K (by rw [wna_t hG]; have := hj; omega) (vinN (wlc3 hG hj) (by omega) (by omega)) dX0_makeSealsAnew_16 (fun s3 e4 => ?_)
      have hw5 : WD s3 := by rw [e4]; exact wdA hw (by have := hj; omega)
      refine q_iinc (pc := 17) (v := (v1 + 1)) (lv' := [some (.ref (gob G j)), some (.int (v1 + 1))]) K dX0_makeSealsAnew_17 rfl rfl (by decide) rfl ?_
      refine q_goto (pc := 20) (tgt := 2) K dX0_makeSealsAnew_20 (by decide) ?_
      have a6 := addI (x := v1) (y := 1) (by omega) (by omega)
      exact qq_out (ih (v1 + 1) s3 hw5 (by omega) (by omega) hk)
set_option maxRecDepth 100000 in
set_option maxHeartbeats 4000000 in
theorem kX0_makeSealsAnew (l : Launch) {G : gT} (hN : wN G) (hG : gfl G = true) (j : Nat) (hj : j < 3) (σ : sg) (hw : WD σ) : cM l yX0_makeSealsAnew wsX0_makeSealsAnew rmX0_makeSealsAnew G [.ref (gob G j)] σ none (fX0_makeSealsAnew j σ) := by
  refine cM_of (maxL := 2) (ret := none) (cc := cX0_makeSealsAnew) (fX0_makeSealsAnew j σ) RX0 hN (by decide +kernel) rfl rfl (Nat.le_of_ble_eq_true rfl) rfl ?_
  intro p e s m args below meth c K hr
  have k0 : (0 : Int32).toInt = 0 := rfl
  refine qq_st (lv' := [some (.ref (gob G j)), none]) rfl rfl rfl ?_
  refine qq_T (fX0_makeSealsAnew.eq_1 ..) ?_
  refine q_iconst (pc := 0) (v := 0) K dX0_makeSealsAnew_0 (by decide) ?_
  refine q_istore_n (pc := 1) (lv' := [some (.ref (gob G j)), some (.int 0)]) K dX0_makeSealsAnew_1 rfl (by decide) (Nat.le_of_ble_eq_true rfl) rfl ?_
  refine lX0_makeSealsAnew_2 l hN hG K j hj 9 0 σ hw (by omega) (by omega) (fun r9 hw11 => ?_)
  refine q_aload_n (pc := 23) K dX0_makeSealsAnew_23 rfl rfl ?_
  refine q_iconst (pc := 24) (v := 0) K dX0_makeSealsAnew_24 (by decide) ?_
  refine q_put (pc := 25) (o := j) (f := 7) (i := (7 * j)) (ty := .int) K tyX0 tyX0_ok nmX0 (wO_ch hG hj) vw_0 iwX0_makeSealsAnew_X0 (by decide) mX0_makeSealsAnew_f33 rfl (tyX0_ok 7 (by decide)) rfl rfl (Nat.le_of_ble_eq_true rfl) (wP_ch7 hG hj _) dX0_makeSealsAnew_25 (fun s12 e13 => ?_)
  have hw14 : WD s12 := by rw [e13]; exact wdF hw11 (by have := hj; omega)
  exact q_vretW K hr dX0_makeSealsAnew_28
theorem hdV_X0_draw : yX0_draw.cls = RX0 ∧ yX0_draw.cls ≠ "java/lang/invoke/MethodHandle" ∧ yX0_draw.cls ≠ "java/lang/invoke/VarHandle" ∧ (parseMethodDescriptor yX0_draw.desc).map (fun d => d.parameters.length) = some 0 := by decide +kernel
theorem mX0_draw_f52 : Cond.fieldLink RX0 52 "WaxTreaties$Chancery" "z" "I" ∈ wsX0_draw := List.mem_of_getElem? (i := 1) rfl
theorem iwX0_draw_X0 : ∀ w ∈ wsX00, w ∈ wsX0_draw := fun w h => List.mem_cons_of_mem _ (List.mem_append_right _ h)
theorem mX0_draw_c84 : Cond.constant RX0 84 (1103515245) ∈ wsX0_draw := List.mem_of_getElem? (i := 2) rfl
set_option maxRecDepth 100000 in
set_option maxHeartbeats 4000000 in
theorem kX0_draw (l : Launch) {G : gT} (hN : wN G) (hG : gfl G = true) (j : Nat) (hj : j < 3) (σ : sg) (hw : WD σ) : cM l yX0_draw wsX0_draw rmX0_draw G [.ref (gob G j)] σ (some (.int (fX0_draw j σ).1)) (fX0_draw j σ).2 := by
  refine cM_of (maxL := 1) (ret := (some .int)) (cc := cX0_draw) (fX0_draw j σ) RX0 hN (by decide +kernel) rfl rfl (Nat.le_of_ble_eq_true rfl) rfl ?_
  intro p e s m args below meth c K hr
  have k0 : (0 : Int32).toInt = 0 := rfl
  have k8 : (8 : Int32).toInt = 8 := rfl
  have k12345 : (12345 : Int32).toInt = 12345 := rfl
  have k1103515245 : (1103515245 : Int32).toInt = 1103515245 := rfl
  refine qq_st (lv' := [some (.ref (gob G j))]) rfl rfl rfl ?_
  refine qq_T (fX0_draw.eq_1 ..) ?_
  refine q_aload_n (pc := 0) K dX0_draw_0 rfl rfl ?_
  refine q_aload_n (pc := 1) K dX0_draw_1 rfl rfl ?_
  refine q_get (pc := 2) (o := j) (f := 13) (v := .int (rF σ (7 * j + 6))) K (wO_ch hG hj) vw_0 iwX0_draw_X0 (by decide) mX0_draw_f52 rfl dX0_draw_2 ?_
  refine q_ldc (pc := 5) (v := 1103515245) K dX0_draw_5 mX0_draw_c84 ?_
  refine q_imul (pc := 7) K dX0_draw_7 ?_
  refine q_sipush (pc := 8) (v := 12345) K dX0_draw_8 (by decide) ?_
  refine q_iadd (pc := 11) K dX0_draw_11 ?_
  refine q_put (pc := 12) (o := j) (f := 13) (i := (7 * j + 6)) (ty := .int) K tyX0 tyX0_ok nmX0 (wO_ch hG hj) vw_0 iwX0_draw_X0 (by decide) mX0_draw_f52 rfl (tyX0_ok 13 (by decide)) rfl rfl (Nat.le_of_ble_eq_true rfl) (wP_ch13 hG hj _) dX0_draw_12 (fun s1 e2 => ?_)
  have hw3 : WD s1 := by rw [e2]; exact wdF hw (by have := hj; omega)
  refine q_aload_n (pc := 15) K dX0_draw_15 rfl rfl ?_
  refine q_get (pc := 16) (o := j) (f := 13) (v := .int (rF s1 (7 * j + 6))) K (wO_ch hG hj) vw_0 iwX0_draw_X0 (by decide) mX0_draw_f52 rfl dX0_draw_16 ?_
  refine q_bipush (pc := 19) (v := 8) K dX0_draw_19 (by decide) ?_
  refine q_iushr (pc := 21) K dX0_draw_21 ?_
  exact q_iret K hr dX0_draw_22
theorem hdV_X0_softOfAll : yX0_softOfAll.cls = RX0 ∧ yX0_softOfAll.cls ≠ "java/lang/invoke/MethodHandle" ∧ yX0_softOfAll.cls ≠ "java/lang/invoke/VarHandle" ∧ (parseMethodDescriptor yX0_softOfAll.desc).map (fun d => d.parameters.length) = some 0 := by decide +kernel
theorem mX0_softOfAll_f37 : Cond.fieldLink RX0 37 "WaxTreaties$Chancery" "deeds" "I" ∈ wsX0_softOfAll := List.mem_of_getElem? (i := 1) rfl
theorem iwX0_softOfAll_X0 : ∀ w ∈ wsX00, w ∈ wsX0_softOfAll := fun w h => List.mem_cons_of_mem _ (List.mem_append_right _ h)
theorem mX0_softOfAll_f21 : Cond.fieldLink RX0 21 "WaxTreaties$Chancery" "soft" "[I" ∈ wsX0_softOfAll := List.mem_of_getElem? (i := 2) rfl
set_option maxRecDepth 100000 in
set_option maxHeartbeats 4000000 in
theorem lX0_softOfAll_4 {p : Program} (l : Launch) {e : Env} {s : State} {m : MethodId} {args : Array Value} {below : List Frame} {meth : Method} {c : Code} {Q : State → Prop} {G : gT} (hN : wN G) (hG : gfl G = true) (K : qK p s m args meth c cX0_softOfAll 3 RX0 wsX0_softOfAll G) (j : Nat) (hj : j < 3) : ∀ (k : Nat) (v1 v2 : Int32) (σ : sg) (hw : WD σ) (hv2 : 0 ≤ v2.toInt ∧ v2.toInt ≤ 8) (hmu : (8 - v2.toInt).toNat < k) {ρ : Type} {E : ρ → Prop} {f : Int32 → ρ} (hk : ∀ r : Int32, qq p l e (headSpec wsX0_softOfAll rmX0_softOfAll).room s m args below meth c Q 3 G E (f r) 27 [none, some (.int r), none] [] σ), qq p l e (headSpec wsX0_softOfAll rmX0_softOfAll).room s m args below meth c Q 3 G E (bnd (LX0_softOfAll_4 j k v1 v2 σ) f) 4 [some (.ref (gob G j)), some (.int v1), some (.int v2)] [] σ := by
  intro k
  induction k with
  | zero => intro v1 v2 σ hw hv2 hmu ρ E f hk; exact absurd hmu (Nat.not_lt_zero _)
  | succ k ih =>
    intro v1 v2 σ hw hv2 hmu ρ E f hk
    have k0 : (0 : Int32).toInt = 0 := rfl
    have k1 : (1 : Int32).toInt = 1 := rfl
    refine qq_in ?_
    refine qq_T (LX0_softOfAll_4.eq_2 ..) ?_
    refine q_iload_n (pc := 4) K dX0_softOfAll_4 rfl rfl ?_
    refine q_aload_n (pc := 5) K dX0_softOfAll_5 rfl rfl ?_
    refine q_get (pc := 6) (o := j) (f := 8) (v := .int (rF σ (7 * j + 1))) K (wO_ch hG hj) vw_0 iwX0_softOfAll_X0 (by decide) mX0_softOfAll_f37 rfl dX0_softOfAll_6 ?_
    have w1 := wd_deeds hw hj
    refine q_icmp_ge (pc := 9) (tgt := 27) K dX0_softOfAll_9 (by decide) (fun c2 => ?_) (fun c2 => ?_)
    · have i4 := leI c2
      refine qq_drop 0 (lv' := [none, some (.int v1), some (.int v2)]) rfl ?_
      refine qq_drop 2 (lv' := [none, some (.int v1), none]) rfl ?_
      exact qq_leaf (hk v1)
    · have i5 := nleI c2
      refine q_iload_n (pc := 12) K dX0_softOfAll_12 rfl rfl ?_
      refine q_aload_n (pc := 13) K dX0_softOfAll_13 rfl rfl ?_
      refine q_get (pc := 14) (o := j) (f := 3) (v := .ref (gad G (8 * j + 3))) K (wO_ch hG hj) vw_0 iwX0_softOfAll_X0 (by decide) mX0_softOfAll_f21 rfl dX0_softOfAll_14 ?_
      refine q_iload_n (pc := 17) K dX0_softOfAll_17 rfl rfl ?_
      refine q_iald (pc := 18) (a := 8 * j + 3) K (by rw [wna_t hG]; have := hj; omega) (vinN (wlc3 hG hj) (by omega) (by omega)) dX0_softOfAll_18 ?_
      refine q_iadd (pc := 19) K dX0_softOfAll_19 ?_
      refine q_istore_n (pc := 20) (lv' := [some (.ref (gob G j)), some (.int (v1 + (rA σ (8 * j + 3) v2))), some (.int v2)]) K dX0_softOfAll_20 rfl (by decide) (Nat.le_of_ble_eq_true rfl) rfl ?_
      refine q_iinc (pc := 21) (v := (v2 + 1)) (lv' := [some (.ref (gob G j)), some (.int (v1 + (rA σ (8 * j + 3) v2))), some (.int (v2 + 1))]) K dX0_softOfAll_21 rfl rfl (by decide) rfl ?_
      refine q_goto (pc := 24) (tgt := 4) K dX0_softOfAll_24 (by decide) ?_
      have a3 := addI (x := v2) (y := 1) (by omega) (by omega)
      exact qq_out (ih (v1 + (rA σ (8 * j + 3) v2)) (v2 + 1) σ hw (by omega) (by omega) hk)
set_option maxRecDepth 100000 in
set_option maxHeartbeats 4000000 in
theorem kX0_softOfAll (l : Launch) {G : gT} (hN : wN G) (hG : gfl G = true) (j : Nat) (hj : j < 3) (σ : sg) (hw : WD σ) : cM l yX0_softOfAll wsX0_softOfAll rmX0_softOfAll G [.ref (gob G j)] σ (some (.int (fX0_softOfAll j σ))) σ := by
  refine cM_of (maxL := 3) (ret := (some .int)) (cc := cX0_softOfAll) (fX0_softOfAll j σ) RX0 hN (by decide +kernel) rfl rfl (Nat.le_of_ble_eq_true rfl) rfl ?_
  intro p e s m args below meth c K hr
  have k0 : (0 : Int32).toInt = 0 := rfl
  refine qq_st (lv' := [some (.ref (gob G j)), none, none]) rfl rfl rfl ?_
  refine qq_T (fX0_softOfAll.eq_1 ..) ?_
  refine q_iconst (pc := 0) (v := 0) K dX0_softOfAll_0 (by decide) ?_
  refine q_istore_n (pc := 1) (lv' := [some (.ref (gob G j)), some (.int 0), none]) K dX0_softOfAll_1 rfl (by decide) (Nat.le_of_ble_eq_true rfl) rfl ?_
  refine q_iconst (pc := 2) (v := 0) K dX0_softOfAll_2 (by decide) ?_
  refine q_istore_n (pc := 3) (lv' := [some (.ref (gob G j)), some (.int 0), some (.int 0)]) K dX0_softOfAll_3 rfl (by decide) (Nat.le_of_ble_eq_true rfl) rfl ?_
  refine lX0_softOfAll_4 l hN hG K j hj 9 0 0 σ hw (by omega) (by omega) (fun r6 => ?_)
  refine q_iload_n (pc := 27) K dX0_softOfAll_27 rfl rfl ?_
  exact q_iretP K hr dX0_softOfAll_28
theorem hdV_X0_iceOfAll : yX0_iceOfAll.cls = RX0 ∧ yX0_iceOfAll.cls ≠ "java/lang/invoke/MethodHandle" ∧ yX0_iceOfAll.cls ≠ "java/lang/invoke/VarHandle" ∧ (parseMethodDescriptor yX0_iceOfAll.desc).map (fun d => d.parameters.length) = some 0 := by decide +kernel
theorem mX0_iceOfAll_f27 : Cond.fieldLink RX0 27 "WaxTreaties$Chancery" "ice" "[I" ∈ wsX0_iceOfAll := List.mem_of_getElem? (i := 1) rfl
theorem iwX0_iceOfAll_X0 : ∀ w ∈ wsX00, w ∈ wsX0_iceOfAll := fun w h => List.mem_cons_of_mem _ (List.mem_append_right _ h)
set_option maxRecDepth 100000 in
set_option maxHeartbeats 4000000 in
theorem lX0_iceOfAll_4 {p : Program} (l : Launch) {e : Env} {s : State} {m : MethodId} {args : Array Value} {below : List Frame} {meth : Method} {c : Code} {Q : State → Prop} {G : gT} (hN : wN G) (hG : gfl G = true) (K : qK p s m args meth c cX0_iceOfAll 3 RX0 wsX0_iceOfAll G) (j : Nat) (hj : j < 3) : ∀ (k : Nat) (v1 v2 : Int32) (σ : sg) (hw : WD σ) (hv2 : 0 ≤ v2.toInt ∧ v2.toInt ≤ 6) (hmu : (6 - v2.toInt).toNat < k) {ρ : Type} {E : ρ → Prop} {f : Int32 → ρ} (hk : ∀ r : Int32, qq p l e (headSpec wsX0_iceOfAll rmX0_iceOfAll).room s m args below meth c Q 3 G E (f r) 25 [none, some (.int r), none] [] σ), qq p l e (headSpec wsX0_iceOfAll rmX0_iceOfAll).room s m args below meth c Q 3 G E (bnd (LX0_iceOfAll_4 j k v1 v2 σ) f) 4 [some (.ref (gob G j)), some (.int v1), some (.int v2)] [] σ := by
  intro k
  induction k with
  | zero => intro v1 v2 σ hw hv2 hmu ρ E f hk; exact absurd hmu (Nat.not_lt_zero _)
  | succ k ih =>
    intro v1 v2 σ hw hv2 hmu ρ E f hk
    have k0 : (0 : Int32).toInt = 0 := rfl
    have k1 : (1 : Int32).toInt = 1 := rfl
    have k6 : (6 : Int32).toInt = 6 := rfl
    refine qq_in ?_
    refine qq_T (LX0_iceOfAll_4.eq_2 ..) ?_
    refine q_iload_n (pc := 4) K dX0_iceOfAll_4 rfl rfl ?_
    refine q_bipush (pc := 5) (v := 6) K dX0_iceOfAll_5 (by decide) ?_
    refine q_icmp_ge (pc := 7) (tgt := 25) K dX0_iceOfAll_7 (by decide) (fun c1 => ?_) (fun c1 => ?_)
    · have i3 := leI c1
      refine qq_drop 0 (lv' := [none, some (.int v1), some (.int v2)]) rfl ?_
      refine qq_drop 2 (lv' := [none, some (.int v1), none]) rfl ?_
      exact qq_leaf (hk v1)
    · have i4 := nleI c1
      refine q_iload_n (pc := 10) K dX0_iceOfAll_10 rfl rfl ?_
      refine q_aload_n (pc := 11) K dX0_iceOfAll_11 rfl rfl ?_
      refine q_get (pc := 12) (o := j) (f := 5) (v := .ref (gad G (8 * j + 5))) K (wO_ch hG hj) vw_0 iwX0_iceOfAll_X0 (by decide) mX0_iceOfAll_f27 rfl dX0_iceOfAll_12 ?_
      refine q_iload_n (pc := 15) K dX0_iceOfAll_15 rfl rfl ?_
      refine q_iald (pc := 16) (a := 8 * j + 5) K (by rw [wna_t hG]; have := hj; omega) (vinN (wlc5 hG hj) (by omega) (by omega)) dX0_iceOfAll_16 ?_
      refine q_iadd (pc := 17) K dX0_iceOfAll_17 ?_
      refine q_istore_n (pc := 18) (lv' := [some (.ref (gob G j)), some (.int (v1 + (rA σ (8 * j + 5) v2))), some (.int v2)]) K dX0_iceOfAll_18 rfl (by decide) (Nat.le_of_ble_eq_true rfl) rfl ?_
      refine q_iinc (pc := 19) (v := (v2 + 1)) (lv' := [some (.ref (gob G j)), some (.int (v1 + (rA σ (8 * j + 5) v2))), some (.int (v2 + 1))]) K dX0_iceOfAll_19 rfl rfl (by decide) rfl ?_
      refine q_goto (pc := 22) (tgt := 4) K dX0_iceOfAll_22 (by decide) ?_
      have a2 := addI (x := v2) (y := 1) (by omega) (by omega)
      exact qq_out (ih (v1 + (rA σ (8 * j + 5) v2)) (v2 + 1) σ hw (by omega) (by omega) hk)
set_option maxRecDepth 100000 in
set_option maxHeartbeats 4000000 in
theorem kX0_iceOfAll (l : Launch) {G : gT} (hN : wN G) (hG : gfl G = true) (j : Nat) (hj : j < 3) (σ : sg) (hw : WD σ) : cM l yX0_iceOfAll wsX0_iceOfAll rmX0_iceOfAll G [.ref (gob G j)] σ (some (.int (fX0_iceOfAll j σ))) σ := by
  refine cM_of (maxL := 3) (ret := (some .int)) (cc := cX0_iceOfAll) (fX0_iceOfAll j σ) RX0 hN (by decide +kernel) rfl rfl (Nat.le_of_ble_eq_true rfl) rfl ?_
  intro p e s m args below meth c K hr
  have k0 : (0 : Int32).toInt = 0 := rfl
  refine qq_st (lv' := [some (.ref (gob G j)), none, none]) rfl rfl rfl ?_
  refine qq_T (fX0_iceOfAll.eq_1 ..) ?_
  refine q_iconst (pc := 0) (v := 0) K dX0_iceOfAll_0 (by decide) ?_
  refine q_istore_n (pc := 1) (lv' := [some (.ref (gob G j)), some (.int 0), none]) K dX0_iceOfAll_1 rfl (by decide) (Nat.le_of_ble_eq_true rfl) rfl ?_
  refine q_iconst (pc := 2) (v := 0) K dX0_iceOfAll_2 (by decide) ?_
  refine q_istore_n (pc := 3) (lv' := [some (.ref (gob G j)), some (.int 0), some (.int 0)]) K dX0_iceOfAll_3 rfl (by decide) (Nat.le_of_ble_eq_true rfl) rfl ?_
  refine lX0_iceOfAll_4 l hN hG K j hj 7 0 0 σ hw (by omega) (by omega) (fun r5 => ?_)
  refine q_iload_n (pc := 25) K dX0_iceOfAll_25 rfl rfl ?_
  exact q_iretP K hr dX0_iceOfAll_26
theorem hdV_X0_spotsHeld : yX0_spotsHeld.cls = RX0 ∧ yX0_spotsHeld.cls ≠ "java/lang/invoke/MethodHandle" ∧ yX0_spotsHeld.cls ≠ "java/lang/invoke/VarHandle" ∧ (parseMethodDescriptor yX0_spotsHeld.desc).map (fun d => d.parameters.length) = some 0 := by decide +kernel
theorem mX0_spotsHeld_f30 : Cond.fieldLink RX0 30 "WaxTreaties$Chancery" "spots" "[I" ∈ wsX0_spotsHeld := List.mem_of_getElem? (i := 1) rfl
theorem iwX0_spotsHeld_X0 : ∀ w ∈ wsX00, w ∈ wsX0_spotsHeld := fun w h => List.mem_cons_of_mem _ (List.mem_append_right _ h)
set_option maxRecDepth 100000 in
set_option maxHeartbeats 4000000 in
theorem lX0_spotsHeld_4 {p : Program} (l : Launch) {e : Env} {s : State} {m : MethodId} {args : Array Value} {below : List Frame} {meth : Method} {c : Code} {Q : State → Prop} {G : gT} (hN : wN G) (hG : gfl G = true) (K : qK p s m args meth c cX0_spotsHeld 3 RX0 wsX0_spotsHeld G) (j : Nat) (hj : j < 3) : ∀ (k : Nat) (v1 v2 : Int32) (σ : sg) (hw : WD σ) (hv2 : 0 ≤ v2.toInt ∧ v2.toInt ≤ 10) (hmu : (10 - v2.toInt).toNat < k) {ρ : Type} {E : ρ → Prop} {f : Int32 → ρ} (hk : ∀ r : Int32, qq p l e (headSpec wsX0_spotsHeld rmX0_spotsHeld).room s m args below meth c Q 3 G E (f r) 29 [none, some (.int r), none] [] σ), qq p l e (headSpec wsX0_spotsHeld rmX0_spotsHeld).room s m args below meth c Q 3 G E (bnd (LX0_spotsHeld_4 j k v1 v2 σ) f) 4 [some (.ref (gob G j)), some (.int v1), some (.int v2)] [] σ := by
  intro k
  induction k with
  | zero => intro v1 v2 σ hw hv2 hmu ρ E f hk; exact absurd hmu (Nat.not_lt_zero _)
  | succ k ih =>
    intro v1 v2 σ hw hv2 hmu ρ E f hk
    have km1 : ((-1) : Int32).toInt = -1 := rfl
    have k0 : (0 : Int32).toInt = 0 := rfl
    have k1 : (1 : Int32).toInt = 1 := rfl
    have k10 : (10 : Int32).toInt = 10 := rfl
    refine qq_in ?_
    refine qq_T (LX0_spotsHeld_4.eq_2 ..) ?_
    refine q_iload_n (pc := 4) K dX0_spotsHeld_4 rfl rfl ?_
    refine q_bipush (pc := 5) (v := 10) K dX0_spotsHeld_5 (by decide) ?_
    refine q_icmp_ge (pc := 7) (tgt := 29) K dX0_spotsHeld_7 (by decide) (fun c1 => ?_) (fun c1 => ?_)
    · have i7 := leI c1
      refine qq_drop 0 (lv' := [none, some (.int v1), some (.int v2)]) rfl ?_
      refine qq_drop 2 (lv' := [none, some (.int v1), none]) rfl ?_
      exact qq_leaf (hk v1)
    · have i8 := nleI c1
      refine q_aload_n (pc := 10) K dX0_spotsHeld_10 rfl rfl ?_
      refine q_get (pc := 11) (o := j) (f := 6) (v := .ref (gad G (8 * j + 6))) K (wO_ch hG hj) vw_0 iwX0_spotsHeld_X0 (by decide) mX0_spotsHeld_f30 rfl dX0_spotsHeld_11 ?_
      refine q_iload_n (pc := 14) K dX0_spotsHeld_14 rfl rfl ?_
      refine q_iald (pc := 15) (a := 8 * j + 6) K (by rw [wna_t hG]; have := hj; omega) (vinN (wlc6 hG hj) (by omega) (by omega)) dX0_spotsHeld_15 ?_
      refine q_iconst (pc := 16) (v := (-1)) K dX0_spotsHeld_16 (by decide) ?_
      refine q_icmp_eq (pc := 17) (tgt := 23) K dX0_spotsHeld_17 (by decide) (fun c2 => ?_) (fun c2 => ?_)
      · have i5 := eqI c2
        refine q_iinc (pc := 23) (v := (v2 + 1)) (lv' := [some (.ref (gob G j)), some (.int v1), some (.int (v2 + 1))]) K dX0_spotsHeld_23 rfl rfl (by decide) rfl ?_
        refine q_goto (pc := 26) (tgt := 4) K dX0_spotsHeld_26 (by decide) ?_
        have a3 := addI (x := v2) (y := 1) (by omega) (by omega)
        exact qq_out (ih v1 (v2 + 1) σ hw (by omega) (by omega) hk)
      · have i6 := neI c2
        refine q_iinc (pc := 20) (v := (v1 + 1)) (lv' := [some (.ref (gob G j)), some (.int (v1 + 1)), some (.int v2)]) K dX0_spotsHeld_20 rfl rfl (by decide) rfl ?_
        refine q_iinc (pc := 23) (v := (v2 + 1)) (lv' := [some (.ref (gob G j)), some (.int (v1 + 1)), some (.int (v2 + 1))]) K dX0_spotsHeld_23 rfl rfl (by decide) rfl ?_
        refine q_goto (pc := 26) (tgt := 4) K dX0_spotsHeld_26 (by decide) ?_
        have a4 := addI (x := v2) (y := 1) (by omega) (by omega)
        exact qq_out (ih (v1 + 1) (v2 + 1) σ hw (by omega) (by omega) hk)
set_option maxRecDepth 100000 in
set_option maxHeartbeats 4000000 in
theorem kX0_spotsHeld (l : Launch) {G : gT} (hN : wN G) (hG : gfl G = true) (j : Nat) (hj : j < 3) (σ : sg) (hw : WD σ) : cM l yX0_spotsHeld wsX0_spotsHeld rmX0_spotsHeld G [.ref (gob G j)] σ (some (.int (fX0_spotsHeld j σ))) σ := by
  refine cM_of (maxL := 3) (ret := (some .int)) (cc := cX0_spotsHeld) (fX0_spotsHeld j σ) RX0 hN (by decide +kernel) rfl rfl (Nat.le_of_ble_eq_true rfl) rfl ?_
  intro p e s m args below meth c K hr
  have k0 : (0 : Int32).toInt = 0 := rfl
  refine qq_st (lv' := [some (.ref (gob G j)), none, none]) rfl rfl rfl ?_
  refine qq_T (fX0_spotsHeld.eq_1 ..) ?_
  refine q_iconst (pc := 0) (v := 0) K dX0_spotsHeld_0 (by decide) ?_
  refine q_istore_n (pc := 1) (lv' := [some (.ref (gob G j)), some (.int 0), none]) K dX0_spotsHeld_1 rfl (by decide) (Nat.le_of_ble_eq_true rfl) rfl ?_
  refine q_iconst (pc := 2) (v := 0) K dX0_spotsHeld_2 (by decide) ?_
  refine q_istore_n (pc := 3) (lv' := [some (.ref (gob G j)), some (.int 0), some (.int 0)]) K dX0_spotsHeld_3 rfl (by decide) (Nat.le_of_ble_eq_true rfl) rfl ?_
  refine lX0_spotsHeld_4 l hN hG K j hj 11 0 0 σ hw (by omega) (by omega) (fun r9 => ?_)
  refine q_iload_n (pc := 29) K dX0_spotsHeld_29 rfl rfl ?_
  exact q_iretP K hr dX0_spotsHeld_30
theorem hdV_X0_hottest : yX0_hottest.cls = RX0 ∧ yX0_hottest.cls ≠ "java/lang/invoke/MethodHandle" ∧ yX0_hottest.cls ≠ "java/lang/invoke/VarHandle" ∧ (parseMethodDescriptor yX0_hottest.desc).map (fun d => d.parameters.length) = some 0 := by decide +kernel
theorem mX0_hottest_f46 : Cond.fieldLink RX0 46 "WaxTreaties$Chancery" "hour" "I" ∈ wsX0_hottest := List.mem_of_getElem? (i := 1) rfl
theorem iwX0_hottest_X0 : ∀ w ∈ wsX00, w ∈ wsX0_hottest := fun w h => List.mem_cons_of_mem _ (List.mem_append_right _ h)
set_option maxRecDepth 100000 in
set_option maxHeartbeats 4000000 in
theorem lX0_hottest_4 {p : Program} (l : Launch) {e : Env} {s : State} {m : MethodId} {args : Array Value} {below : List Frame} {meth : Method} {c : Code} {Q : State → Prop} {G : gT} (hN : wN G) (hG : gfl G = true) (K : qK p s m args meth c cX0_hottest 3 RX0 wsX0_hottest G) (j : Nat) (hj : j < 3) : ∀ (k : Nat) (v1 v2 : Int32) (σ : sg) (hw : WD σ) (hv2 : 0 ≤ v2.toInt ∧ v2.toInt ≤ 6) (hbest : 0 ≤ v1.toInt ∧ v1.toInt ≤ 5) (hmu : (6 - v2.toInt).toNat < k) {ρ : Type} {E : ρ → Prop} {f : Int32 → ρ} (hk : ∀ r : Int32, (0 ≤ r.toInt ∧ r.toInt ≤ 5) → qq p l e (headSpec wsX0_hottest rmX0_hottest).room s m args below meth c Q 3 G E (f r) 39 [none, some (.int r), none] [] σ), qq p l e (headSpec wsX0_hottest rmX0_hottest).room s m args below meth c Q 3 G E (bnd (LX0_hottest_4 j k v1 v2 σ) f) 4 [some (.ref (gob G j)), some (.int v1), some (.int v2)] [] σ := by
  intro k
  induction k with
  | zero => intro v1 v2 σ hw hv2 hbest hmu ρ E f hk; exact absurd hmu (Nat.not_lt_zero _)
  | succ k ih =>
    intro v1 v2 σ hw hv2 hbest hmu ρ E f hk
    have k0 : (0 : Int32).toInt = 0 := rfl
    have k1 : (1 : Int32).toInt = 1 := rfl
    have k6 : (6 : Int32).toInt = 6 := rfl
    refine qq_in ?_
    refine qq_T (LX0_hottest_4.eq_2 ..) ?_
    refine q_iload_n (pc := 4) K dX0_hottest_4 rfl rfl ?_
    refine q_bipush (pc := 5) (v := 6) K dX0_hottest_5 (by decide) ?_
    refine q_icmp_ge (pc := 7) (tgt := 39) K dX0_hottest_7 (by decide) (fun c1 => ?_) (fun c1 => ?_)
    · have i7 := leI c1
      refine qq_drop 0 (lv' := [none, some (.int v1), some (.int v2)]) rfl ?_
      refine qq_drop 2 (lv' := [none, some (.int v1), none]) rfl ?_
      exact qq_leaf (hk v1 (by omega))
    · have i8 := nleI c1
      refine q_aload_n (pc := 10) K dX0_hottest_10 rfl rfl ?_
      refine q_iload_n (pc := 11) K dX0_hottest_11 rfl rfl ?_
      refine q_aload_n (pc := 12) K dX0_hottest_12 rfl rfl ?_
      refine q_get (pc := 13) (o := j) (f := 11) (v := .int (rF σ (7 * j + 4))) K (wO_ch hG hj) vw_0 iwX0_hottest_X0 (by decide) mX0_hottest_f46 rfl dX0_hottest_13 ?_
      refine q_callVi (pc := 16) (o := j) (rm := rmX0_heatOf) K (kX0_heatOf l hN hG j hj v2 (rF σ (7 * j + 4)) σ hw (by omega)) gX0_hottest_X0_heatOf rfl hdV_X0_heatOf ⟨Nat.le_of_ble_eq_true rfl, Nat.le_of_ble_eq_true rfl⟩ rfl rfl ⟨Nat.zero_le _, Nat.zero_le _⟩ (wO_ch hG hj) vw_0 rfl rfl (Nat.le_of_ble_eq_true rfl) dX0_hottest_16 ?_
      refine q_aload_n (pc := 19) K dX0_hottest_19 rfl rfl ?_
      refine q_iload_n (pc := 20) K dX0_hottest_20 rfl rfl ?_
      refine q_aload_n (pc := 21) K dX0_hottest_21 rfl rfl ?_
      refine q_get (pc := 22) (o := j) (f := 11) (v := .int (rF σ (7 * j + 4))) K (wO_ch hG hj) vw_0 iwX0_hottest_X0 (by decide) mX0_hottest_f46 rfl dX0_hottest_22 ?_
      refine q_callVi (pc := 25) (o := j) (rm := rmX0_heatOf) K (kX0_heatOf l hN hG j hj v1 (rF σ (7 * j + 4)) σ hw (by omega)) gX0_hottest_X0_heatOf rfl hdV_X0_heatOf ⟨Nat.le_of_ble_eq_true rfl, Nat.le_of_ble_eq_true rfl⟩ rfl rfl ⟨Nat.zero_le _, Nat.zero_le _⟩ (wO_ch hG hj) vw_0 rfl rfl (Nat.le_of_ble_eq_true rfl) dX0_hottest_25 ?_
      refine q_icmp_le (pc := 28) (tgt := 33) K dX0_hottest_28 (by decide) (fun c2 => ?_) (fun c2 => ?_)
      · have i5 := leI c2
        refine q_iinc (pc := 33) (v := (v2 + 1)) (lv' := [some (.ref (gob G j)), some (.int v1), some (.int (v2 + 1))]) K dX0_hottest_33 rfl rfl (by decide) rfl ?_
        refine q_goto (pc := 36) (tgt := 4) K dX0_hottest_36 (by decide) ?_
        have a3 := addI (x := v2) (y := 1) (by omega) (by omega)
        exact qq_out (ih v1 (v2 + 1) σ hw (by omega) (by omega) (by omega) hk)
      · have i6 := nleI c2
        refine q_iload_n (pc := 31) K dX0_hottest_31 rfl rfl ?_
        refine q_istore_n (pc := 32) (lv' := [some (.ref (gob G j)), some (.int v2), some (.int v2)]) K dX0_hottest_32 rfl (by decide) (Nat.le_of_ble_eq_true rfl) rfl ?_
        refine q_iinc (pc := 33) (v := (v2 + 1)) (lv' := [some (.ref (gob G j)), some (.int v2), some (.int (v2 + 1))]) K dX0_hottest_33 rfl rfl (by decide) rfl ?_
        refine q_goto (pc := 36) (tgt := 4) K dX0_hottest_36 (by decide) ?_
        have a4 := addI (x := v2) (y := 1) (by omega) (by omega)
        exact qq_out (ih v2 (v2 + 1) σ hw (by omega) (by omega) (by omega) hk)
set_option maxRecDepth 100000 in
set_option maxHeartbeats 4000000 in
theorem kX0_hottest (l : Launch) {G : gT} (hN : wN G) (hG : gfl G = true) (j : Nat) (hj : j < 3) (σ : sg) (hw : WD σ) : cM l yX0_hottest wsX0_hottest rmX0_hottest G [.ref (gob G j)] σ (some (.int (fX0_hottest j σ))) σ := by
  refine cM_of (maxL := 3) (ret := (some .int)) (cc := cX0_hottest) (fX0_hottest j σ) RX0 hN (by decide +kernel) rfl rfl (Nat.le_of_ble_eq_true rfl) rfl ?_
  intro p e s m args below meth c K hr
  have k0 : (0 : Int32).toInt = 0 := rfl
  have k1 : (1 : Int32).toInt = 1 := rfl
  refine qq_st (lv' := [some (.ref (gob G j)), none, none]) rfl rfl rfl ?_
  refine qq_T (fX0_hottest.eq_1 ..) ?_
  refine q_iconst (pc := 0) (v := 0) K dX0_hottest_0 (by decide) ?_
  refine q_istore_n (pc := 1) (lv' := [some (.ref (gob G j)), some (.int 0), none]) K dX0_hottest_1 rfl (by decide) (Nat.le_of_ble_eq_true rfl) rfl ?_
  refine q_iconst (pc := 2) (v := 1) K dX0_hottest_2 (by decide) ?_
  refine q_istore_n (pc := 3) (lv' := [some (.ref (gob G j)), some (.int 0), some (.int 1)]) K dX0_hottest_3 rfl (by decide) (Nat.le_of_ble_eq_true rfl) rfl ?_
  refine lX0_hottest_4 l hN hG K j hj 7 0 1 σ hw (by omega) (by omega) (by omega) (fun r9 x11 => ?_)
  refine q_iload_n (pc := 39) K dX0_hottest_39 rfl rfl ?_
  exact q_iretP K hr dX0_hottest_40
theorem hdV_X0_hangingOn : yX0_hangingOn.cls = RX0 ∧ yX0_hangingOn.cls ≠ "java/lang/invoke/MethodHandle" ∧ yX0_hangingOn.cls ≠ "java/lang/invoke/VarHandle" ∧ (parseMethodDescriptor yX0_hangingOn.desc).map (fun d => d.parameters.length) = some 1 := by decide +kernel
theorem mX0_hangingOn_f37 : Cond.fieldLink RX0 37 "WaxTreaties$Chancery" "deeds" "I" ∈ wsX0_hangingOn := List.mem_of_getElem? (i := 1) rfl
theorem iwX0_hangingOn_X0 : ∀ w ∈ wsX00, w ∈ wsX0_hangingOn := fun w h => List.mem_cons_of_mem _ (List.mem_append_right _ h)
theorem mX0_hangingOn_f24 : Cond.fieldLink RX0 24 "WaxTreaties$Chancery" "hangsOn" "[I" ∈ wsX0_hangingOn := List.mem_of_getElem? (i := 2) rfl
theorem mX0_hangingOn_iX4 : Cond.initialized RX4 ∈ wsX0_hangingOn := List.mem_of_getElem? (i := 4) rfl
theorem mX0_hangingOn_stX4_with : Cond.static yX4_with ∈ wsX0_hangingOn := List.mem_of_getElem? (i := 6) rfl
theorem mX0_hangingOn_stX4_has : Cond.static yX4_has ∈ wsX0_hangingOn := List.mem_of_getElem? (i := 3) rfl
set_option maxRecDepth 100000 in
set_option maxHeartbeats 4000000 in
theorem lX0_hangingOn_6 {p : Program} (l : Launch) {e : Env} {s : State} {m : MethodId} {args : Array Value} {below : List Frame} {meth : Method} {c : Code} {Q : State → Prop} {G : gT} (hN : wN G) (hG : gfl G = true) (K : qK p s m args meth c cX0_hangingOn 5 RX0 wsX0_hangingOn G) (j : Nat) (hj : j < 3) : ∀ (k : Nat) (v1 v2 v3 : Int32) (σ : sg) (hw : WD σ) (hv3 : 0 ≤ v3.toInt ∧ v3.toInt ≤ 8) (hmu : (8 - v3.toInt).toNat < k) {ρ : Type} {E : ρ → Prop} {f : Int32 → ρ} (hk : ∀ r : Int32, qq p l e (headSpec wsX0_hangingOn rmX0_hangingOn).room s m args below meth c Q 5 G E (f r) 55 [none, none, some (.int r), none, none] [] σ), qq p l e (headSpec wsX0_hangingOn rmX0_hangingOn).room s m args below meth c Q 5 G E (bnd (LX0_hangingOn_6 j k v1 v2 v3 σ) f) 6 [some (.ref (gob G j)), some (.int v1), some (.int v2), some (.int v3), none] [] σ := by
  intro k
  induction k with
  | zero => intro v1 v2 v3 σ hw hv3 hmu ρ E f hk; exact absurd hmu (Nat.not_lt_zero _)
  | succ k ih =>
    intro v1 v2 v3 σ hw hv3 hmu ρ E f hk
    have km1 : ((-1) : Int32).toInt = -1 := rfl
    have k0 : (0 : Int32).toInt = 0 := rfl
    have k1 : (1 : Int32).toInt = 1 := rfl
    refine qq_in ?_
    refine qq_T (LX0_hangingOn_6.eq_2 ..) ?_
    refine q_iload_n (pc := 6) K dX0_hangingOn_6 rfl rfl ?_
    refine q_aload_n (pc := 7) K dX0_hangingOn_7 rfl rfl ?_
    refine q_get (pc := 8) (o := j) (f := 8) (v := .int (rF σ (7 * j + 1))) K (wO_ch hG hj) vw_0 iwX0_hangingOn_X0 (by decide) mX0_hangingOn_f37 rfl dX0_hangingOn_8 ?_
    have w1 := wd_deeds hw hj
    refine q_icmp_ge (pc := 11) (tgt := 55) K dX0_hangingOn_11 (by decide) (fun c2 => ?_) (fun c2 => ?_)
    · have i16 := leI c2
      refine qq_drop 0 (lv' := [none, some (.int v1), some (.int v2), some (.int v3), none]) rfl ?_
      refine qq_drop 1 (lv' := [none, none, some (.int v2), some (.int v3), none]) rfl ?_
      refine qq_drop 3 (lv' := [none, none, some (.int v2), none, none]) rfl ?_
      exact qq_leaf (hk v2)
    · have i17 := nleI c2
      refine q_aload_n (pc := 14) K dX0_hangingOn_14 rfl rfl ?_
      refine q_get (pc := 15) (o := j) (f := 4) (v := .ref (gad G (8 * j + 4))) K (wO_ch hG hj) vw_0 iwX0_hangingOn_X0 (by decide) mX0_hangingOn_f24 rfl dX0_hangingOn_15 ?_
      refine q_iload_n (pc := 18) K dX0_hangingOn_18 rfl rfl ?_
      refine q_iald (pc := 19) (a := 8 * j + 4) K (by rw [wna_t hG]; have := hj; omega) (vinN (wlc4 hG hj) (by omega) (by omega)) dX0_hangingOn_19 ?_
      refine q_istore (pc := 20) (lv' := [some (.ref (gob G j)), some (.int v1), some (.int v2), some (.int v3), some (.int (rA σ (8 * j + 4) v3))]) K dX0_hangingOn_20 (by decide) (Nat.le_of_ble_eq_true rfl) rfl ?_
      refine q_iload (pc := 22) K dX0_hangingOn_22 rfl ?_
      refine q_iload_n (pc := 24) K dX0_hangingOn_24 rfl rfl ?_
      refine q_icmp_eq (pc := 25) (tgt := 43) K dX0_hangingOn_25 (by decide) (fun c3 => ?_) (fun c3 => ?_)
      · have i14 := eqI c3
        refine q_iload_n (pc := 43) K dX0_hangingOn_43 rfl rfl ?_
        refine q_iload_n (pc := 44) K dX0_hangingOn_44 rfl rfl ?_
        refine q_callNi (pc := 45) (rm := rmX4_with) K (kX4_with l hN v2 v3 σ) gX0_hangingOn_X4_with_n72 (nS_1 K.2.2.2.2.2.2.2.2.1) mX0_hangingOn_iX4 mX0_hangingOn_stX4_with rfl hdS_X4_with ⟨Nat.le_of_ble_eq_true rfl, Nat.le_of_ble_eq_true rfl⟩ rfl rfl ⟨Nat.zero_le _, Nat.zero_le _⟩ rfl rfl (Nat.le_of_ble_eq_true rfl) dX0_hangingOn_45 ?_
        refine q_istore_n (pc := 48) (lv' := [some (.ref (gob G j)), some (.int v1), some (.int (fX4_with v2 v3)), some (.int v3), some (.int (rA σ (8 * j + 4) v3))]) K dX0_hangingOn_48 rfl (by decide) (Nat.le_of_ble_eq_true rfl) rfl ?_
        refine q_iinc (pc := 49) (v := (v3 + 1)) (lv' := [some (.ref (gob G j)), some (.int v1), some (.int (fX4_with v2 v3)), some (.int (v3 + 1)), some (.int (rA σ (8 * j + 4) v3))]) K dX0_hangingOn_49 rfl rfl (by decide) rfl ?_
        refine q_goto (pc := 52) (tgt := 6) K dX0_hangingOn_52 (by decide) ?_
        refine qq_drop 4 (lv' := [some (.ref (gob G j)), some (.int v1), some (.int (fX4_with v2 v3)), some (.int (v3 + 1)), none]) rfl ?_
        have a4 := addI (x := v3) (y := 1) (by omega) (by omega)
        exact qq_out (ih v1 (fX4_with v2 v3) (v3 + 1) σ hw (by omega) (by omega) hk)
      · have i15 := neI c3
        refine q_iload (pc := 28) K dX0_hangingOn_28 rfl ?_
        refine q_iconst (pc := 30) (v := (-1)) K dX0_hangingOn_30 (by decide) ?_
        refine q_icmp_eq (pc := 31) (tgt := 49) K dX0_hangingOn_31 (by decide) (fun c5 => ?_) (fun c5 => ?_)
        · have i12 := eqI c5
          refine q_iinc (pc := 49) (v := (v3 + 1)) (lv' := [some (.ref (gob G j)), some (.int v1), some (.int v2), some (.int (v3 + 1)), some (.int (rA σ (8 * j + 4) v3))]) K dX0_hangingOn_49 rfl rfl (by decide) rfl ?_
          refine q_goto (pc := 52) (tgt := 6) K dX0_hangingOn_52 (by decide) ?_
          refine qq_drop 4 (lv' := [some (.ref (gob G j)), some (.int v1), some (.int v2), some (.int (v3 + 1)), none]) rfl ?_
          have a6 := addI (x := v3) (y := 1) (by omega) (by omega)
          exact qq_out (ih v1 v2 (v3 + 1) σ hw (by omega) (by omega) hk)
        · have i13 := neI c5
          refine q_iload_n (pc := 34) K dX0_hangingOn_34 rfl rfl ?_
          refine q_iload (pc := 35) K dX0_hangingOn_35 rfl ?_
          refine q_callNi (pc := 37) (rm := rmX4_has) K (kX4_has l hN v2 (rA σ (8 * j + 4) v3) σ) gX0_hangingOn_X4_has_n95 (nS_3 K.2.2.2.2.2.2.2.2.1) mX0_hangingOn_iX4 mX0_hangingOn_stX4_has rfl hdS_X4_has ⟨Nat.le_of_ble_eq_true rfl, Nat.le_of_ble_eq_true rfl⟩ rfl rfl ⟨Nat.zero_le _, Nat.zero_le _⟩ rfl rfl (Nat.le_of_ble_eq_true rfl) dX0_hangingOn_37 ?_
          refine q_if_eq (pc := 40) (tgt := 49) K dX0_hangingOn_40 (by decide) (fun c7 => ?_) (fun c7 => ?_)
          · have i10 := eqI c7
            refine q_iinc (pc := 49) (v := (v3 + 1)) (lv' := [some (.ref (gob G j)), some (.int v1), some (.int v2), some (.int (v3 + 1)), some (.int (rA σ (8 * j + 4) v3))]) K dX0_hangingOn_49 rfl rfl (by decide) rfl ?_
            refine q_goto (pc := 52) (tgt := 6) K dX0_hangingOn_52 (by decide) ?_
            refine qq_drop 4 (lv' := [some (.ref (gob G j)), some (.int v1), some (.int v2), some (.int (v3 + 1)), none]) rfl ?_
            have a8 := addI (x := v3) (y := 1) (by omega) (by omega)
            exact qq_out (ih v1 v2 (v3 + 1) σ hw (by omega) (by omega) hk)
          · have i11 := neI c7
            refine q_iload_n (pc := 43) K dX0_hangingOn_43 rfl rfl ?_
            refine q_iload_n (pc := 44) K dX0_hangingOn_44 rfl rfl ?_
            refine q_callNi (pc := 45) (rm := rmX4_with) K (kX4_with l hN v2 v3 σ) gX0_hangingOn_X4_with_n72 (nS_1 K.2.2.2.2.2.2.2.2.1) mX0_hangingOn_iX4 mX0_hangingOn_stX4_with rfl hdS_X4_with ⟨Nat.le_of_ble_eq_true rfl, Nat.le_of_ble_eq_true rfl⟩ rfl rfl ⟨Nat.zero_le _, Nat.zero_le _⟩ rfl rfl (Nat.le_of_ble_eq_true rfl) dX0_hangingOn_45 ?_
            refine q_istore_n (pc := 48) (lv' := [some (.ref (gob G j)), some (.int v1), some (.int (fX4_with v2 v3)), some (.int v3), some (.int (rA σ (8 * j + 4) v3))]) K dX0_hangingOn_48 rfl (by decide) (Nat.le_of_ble_eq_true rfl) rfl ?_
            refine q_iinc (pc := 49) (v := (v3 + 1)) (lv' := [some (.ref (gob G j)), some (.int v1), some (.int (fX4_with v2 v3)), some (.int (v3 + 1)), some (.int (rA σ (8 * j + 4) v3))]) K dX0_hangingOn_49 rfl rfl (by decide) rfl ?_
            refine q_goto (pc := 52) (tgt := 6) K dX0_hangingOn_52 (by decide) ?_
            refine qq_drop 4 (lv' := [some (.ref (gob G j)), some (.int v1), some (.int (fX4_with v2 v3)), some (.int (v3 + 1)), none]) rfl ?_
            have a9 := addI (x := v3) (y := 1) (by omega) (by omega)
            exact qq_out (ih v1 (fX4_with v2 v3) (v3 + 1) σ hw (by omega) (by omega) hk)
set_option maxRecDepth 100000 in
set_option maxHeartbeats 4000000 in
theorem kX0_hangingOn (l : Launch) {G : gT} (hN : wN G) (hG : gfl G = true) (j : Nat) (hj : j < 3) (v1 : Int32) (σ : sg) (hw : WD σ) (hb : 0 ≤ v1.toInt ∧ v1.toInt ≤ 7) : cM l yX0_hangingOn wsX0_hangingOn rmX0_hangingOn G [.ref (gob G j), .int v1] σ (some (.int (fX0_hangingOn j v1 σ))) σ := by
  refine cM_of (maxL := 5) (ret := (some .int)) (cc := cX0_hangingOn) (fX0_hangingOn j v1 σ) RX0 hN (by decide +kernel) rfl rfl (Nat.le_of_ble_eq_true rfl) rfl ?_
  intro p e s m args below meth c K hr
  have k0 : (0 : Int32).toInt = 0 := rfl
  have k1 : (1 : Int32).toInt = 1 := rfl
  refine qq_st (lv' := [some (.ref (gob G j)), some (.int v1), none, none, none]) rfl rfl rfl ?_
  refine qq_T (fX0_hangingOn.eq_1 ..) ?_
  refine q_iconst (pc := 0) (v := 0) K dX0_hangingOn_0 (by decide) ?_
  refine q_istore_n (pc := 1) (lv' := [some (.ref (gob G j)), some (.int v1), some (.int 0), none, none]) K dX0_hangingOn_1 rfl (by decide) (Nat.le_of_ble_eq_true rfl) rfl ?_
  refine q_iload_n (pc := 2) K dX0_hangingOn_2 rfl rfl ?_
  refine q_iconst (pc := 3) (v := 1) K dX0_hangingOn_3 (by decide) ?_
  refine q_iadd (pc := 4) K dX0_hangingOn_4 ?_
  refine q_istore_n (pc := 5) (lv' := [some (.ref (gob G j)), some (.int v1), some (.int 0), some (.int (v1 + 1)), none]) K dX0_hangingOn_5 rfl (by decide) (Nat.le_of_ble_eq_true rfl) rfl ?_
  have a18 := addI (x := v1) (y := 1) (by omega) (by omega)
  refine lX0_hangingOn_6 l hN hG K j hj 9 v1 0 (v1 + 1) σ hw (by omega) (by omega) (fun r19 => ?_)
  refine q_iload_n (pc := 55) K dX0_hangingOn_55 rfl rfl ?_
  exact q_iretP K hr dX0_hangingOn_56
theorem hdV_X0_fallingWith : yX0_fallingWith.cls = RX0 ∧ yX0_fallingWith.cls ≠ "java/lang/invoke/MethodHandle" ∧ yX0_fallingWith.cls ≠ "java/lang/invoke/VarHandle" ∧ (parseMethodDescriptor yX0_fallingWith.desc).map (fun d => d.parameters.length) = some 1 := by decide +kernel
theorem mX0_fallingWith_f33 : Cond.fieldLink RX0 33 "WaxTreaties$Chancery" "run" "I" ∈ wsX0_fallingWith := List.mem_of_getElem? (i := 1) rfl
theorem iwX0_fallingWith_X0 : ∀ w ∈ wsX00, w ∈ wsX0_fallingWith := fun w h => List.mem_cons_of_mem _ (List.mem_append_right _ h)
theorem mX0_fallingWith_iX4 : Cond.initialized RX4 ∈ wsX0_fallingWith := List.mem_of_getElem? (i := 10) rfl
theorem mX0_fallingWith_stX4_with : Cond.static yX4_with ∈ wsX0_fallingWith := List.mem_of_getElem? (i := 12) rfl
set_option maxRecDepth 100000 in
set_option maxHeartbeats 4000000 in
theorem kX0_fallingWith (l : Launch) {G : gT} (hN : wN G) (hG : gfl G = true) (j : Nat) (hj : j < 3) (v1 : Int32) (σ : sg) (hw : WD σ) : cM l yX0_fallingWith wsX0_fallingWith rmX0_fallingWith G [.ref (gob G j), .int v1] σ (some (.int (fX0_fallingWith j v1 σ))) σ := by
  refine cM_of (maxL := 2) (ret := (some .int)) (cc := cX0_fallingWith) (fX0_fallingWith j v1 σ) RX0 hN (by decide +kernel) rfl rfl (Nat.le_of_ble_eq_true rfl) rfl ?_
  intro p e s m args below meth c K hr
  have km1 : ((-1) : Int32).toInt = -1 := rfl
  have k0 : (0 : Int32).toInt = 0 := rfl
  refine qq_st (lv' := [some (.ref (gob G j)), some (.int v1)]) rfl rfl rfl ?_
  refine qq_T (fX0_fallingWith.eq_1 ..) ?_
  refine q_aload_n (pc := 0) K dX0_fallingWith_0 rfl rfl ?_
  refine q_aload_n (pc := 1) K dX0_fallingWith_1 rfl rfl ?_
  refine q_get (pc := 2) (o := j) (f := 7) (v := .int (rF σ (7 * j))) K (wO_ch hG hj) vw_0 iwX0_fallingWith_X0 (by decide) mX0_fallingWith_f33 rfl dX0_fallingWith_2 ?_
  refine q_callVi (pc := 5) (o := j) (rm := rmX0_peaces) K (kX0_peaces l hN hG j hj (rF σ (7 * j)) σ hw) gX0_fallingWith_X0_peaces rfl hdV_X0_peaces ⟨Nat.le_of_ble_eq_true rfl, Nat.le_of_ble_eq_true rfl⟩ rfl rfl ⟨Nat.zero_le _, Nat.zero_le _⟩ (wO_ch hG hj) vw_0 rfl rfl (Nat.le_of_ble_eq_true rfl) dX0_fallingWith_5 ?_
  refine q_aload_n (pc := 8) K dX0_fallingWith_8 rfl rfl ?_
  refine q_aload_n (pc := 9) K dX0_fallingWith_9 rfl rfl ?_
  refine q_get (pc := 10) (o := j) (f := 7) (v := .int (rF σ (7 * j))) K (wO_ch hG hj) vw_0 iwX0_fallingWith_X0 (by decide) mX0_fallingWith_f33 rfl dX0_fallingWith_10 ?_
  refine q_iload_n (pc := 13) K dX0_fallingWith_13 rfl rfl ?_
  refine q_callNi (pc := 14) (rm := rmX4_with) K (kX4_with l hN (rF σ (7 * j)) v1 σ) gX0_fallingWith_X4_with_n72 (nS_1 K.2.2.2.2.2.2.2.2.1) mX0_fallingWith_iX4 mX0_fallingWith_stX4_with rfl hdS_X4_with ⟨Nat.le_of_ble_eq_true rfl, Nat.le_of_ble_eq_true rfl⟩ rfl rfl ⟨Nat.zero_le _, Nat.zero_le _⟩ rfl rfl (Nat.le_of_ble_eq_true rfl) dX0_fallingWith_14 ?_
  refine q_callVi (pc := 17) (o := j) (rm := rmX0_peaces) K (kX0_peaces l hN hG j hj (fX4_with (rF σ (7 * j)) v1) σ hw) gX0_fallingWith_X0_peaces rfl hdV_X0_peaces ⟨Nat.le_of_ble_eq_true rfl, Nat.le_of_ble_eq_true rfl⟩ rfl rfl ⟨Nat.zero_le _, Nat.zero_le _⟩ (wO_ch hG hj) vw_0 rfl rfl (Nat.le_of_ble_eq_true rfl) dX0_fallingWith_17 ?_
  refine q_iconst (pc := 20) (v := (-1)) K dX0_fallingWith_20 (by decide) ?_
  refine q_ixor (pc := 21) K dX0_fallingWith_21 ?_
  refine q_iand (pc := 22) K dX0_fallingWith_22 ?_
  exact q_iretP K hr dX0_fallingWith_23
theorem hdV_X0_holdingBehind : yX0_holdingBehind.cls = RX0 ∧ yX0_holdingBehind.cls ≠ "java/lang/invoke/MethodHandle" ∧ yX0_holdingBehind.cls ≠ "java/lang/invoke/VarHandle" ∧ (parseMethodDescriptor yX0_holdingBehind.desc).map (fun d => d.parameters.length) = some 1 := by decide +kernel
theorem mX0_holdingBehind_f33 : Cond.fieldLink RX0 33 "WaxTreaties$Chancery" "run" "I" ∈ wsX0_holdingBehind := List.mem_of_getElem? (i := 1) rfl
theorem iwX0_holdingBehind_X0 : ∀ w ∈ wsX00, w ∈ wsX0_holdingBehind := fun w h => List.mem_cons_of_mem _ (List.mem_append_right _ h)
set_option maxRecDepth 100000 in
set_option maxHeartbeats 4000000 in
theorem lX0_holdingBehind_2 {p : Program} (l : Launch) {e : Env} {s : State} {m : MethodId} {args : Array Value} {below : List Frame} {meth : Method} {c : Code} {Q : State → Prop} {G : gT} (hN : wN G) (hG : gfl G = true) (K : qK p s m args meth c cX0_holdingBehind 3 RX0 wsX0_holdingBehind G) (j : Nat) (hj : j < 3) : ∀ (k : Nat) (v1 v2 : Int32) (σ : sg) (hw : WD σ) (hv2 : 0 ≤ v2.toInt ∧ v2.toInt ≤ 100) (hn1 : v1.toInt ≤ 100) (hmu : (100 - v2.toInt).toNat < k) {ρ : Type} {E : ρ → Prop} {f : sg → ρ} (hk : ∀ r : sg, (WD r) → qq p l e (headSpec wsX0_holdingBehind rmX0_holdingBehind).room s m args below meth c Q 3 G E (f r) 18 [some (.ref (gob G j)), none, none] [] r), qq p l e (headSpec wsX0_holdingBehind rmX0_holdingBehind).room s m args below meth c Q 3 G E (bnd (LX0_holdingBehind_2 j k v1 v2 σ) f) 2 [some (.ref (gob G j)), some (.int v1), some (.int v2)] [] σ := by
  intro k
  induction k with
  | zero => intro v1 v2 σ hw hv2 hn1 hmu ρ E f hk; exact absurd hmu (Nat.not_lt_zero _)
  | succ k ih =>
    intro v1 v2 σ hw hv2 hn1 hmu ρ E f hk
    have k0 : (0 : Int32).toInt = 0 := rfl
    have k1 : (1 : Int32).toInt = 1 := rfl
    refine qq_in ?_
    refine qq_T (LX0_holdingBehind_2.eq_2 ..) ?_
    refine q_iload_n (pc := 2) K dX0_holdingBehind_2 rfl rfl ?_
    refine q_iload_n (pc := 3) K dX0_holdingBehind_3 rfl rfl ?_
    refine q_icmp_ge (pc := 4) (tgt := 18) K dX0_holdingBehind_4 (by decide) (fun c1 => ?_) (fun c1 => ?_)
    · have i6 := leI c1
      refine qq_drop 1 (lv' := [some (.ref (gob G j)), none, some (.int v2)]) rfl ?_
      refine qq_drop 2 (lv' := [some (.ref (gob G j)), none, none]) rfl ?_
      exact qq_leaf (hk σ hw)
    · have i7 := nleI c1
      refine q_aload_n (pc := 7) K dX0_holdingBehind_7 rfl rfl ?_
      refine q_callVi (pc := 8) (o := j) (rm := rmX0_passHour) K (kX0_passHour l hN hG j hj σ hw) gX0_holdingBehind_X0_passHour rfl hdV_X0_passHour ⟨Nat.le_of_ble_eq_true rfl, Nat.le_of_ble_eq_true rfl⟩ rfl rfl ⟨Nat.zero_le _, Nat.zero_le _⟩ (wO_ch hG hj) vw_0 rfl rfl (Nat.le_of_ble_eq_true rfl) dX0_holdingBehind_8 ?_
      refine qq_nmI (fun r2 e3 => ?_)
      have hw4 : WD r2.2 := by rw [e3]; exact wX0_passHour j hj hw 
      refine q_pop (pc := 11) K dX0_holdingBehind_11 rfl ?_
      refine q_iinc (pc := 12) (v := (v2 + 1)) (lv' := [some (.ref (gob G j)), some (.int v1), some (.int (v2 + 1))]) K dX0_holdingBehind_12 rfl rfl (by decide) rfl ?_
      refine q_goto (pc := 15) (tgt := 2) K dX0_holdingBehind_15 (by decide) ?_
      have a5 := addI (x := v2) (y := 1) (by omega) (by omega)
      exact qq_out (ih v1 (v2 + 1) r2.2 hw4 (by omega) (by omega) (by omega) hk)
set_option maxRecDepth 100000 in
set_option maxHeartbeats 4000000 in
theorem kX0_holdingBehind (l : Launch) {G : gT} (hN : wN G) (hG : gfl G = true) (j : Nat) (hj : j < 3) (v1 : Int32) (σ : sg) (hw : WD σ) (hn : v1.toInt ≤ 100) : cM l yX0_holdingBehind wsX0_holdingBehind rmX0_holdingBehind G [.ref (gob G j), .int v1] σ (some (.int (fX0_holdingBehind j v1 σ).1)) (fX0_holdingBehind j v1 σ).2 := by
  refine cM_of (maxL := 3) (ret := (some .int)) (cc := cX0_holdingBehind) (fX0_holdingBehind j v1 σ) RX0 hN (by decide +kernel) rfl rfl (Nat.le_of_ble_eq_true rfl) rfl ?_
  intro p e s m args below meth c K hr
  have k0 : (0 : Int32).toInt = 0 := rfl
  refine qq_st (lv' := [some (.ref (gob G j)), some (.int v1), none]) rfl rfl rfl ?_
  refine qq_T (fX0_holdingBehind.eq_1 ..) ?_
  refine q_iconst (pc := 0) (v := 0) K dX0_holdingBehind_0 (by decide) ?_
  refine q_istore_n (pc := 1) (lv' := [some (.ref (gob G j)), some (.int v1), some (.int 0)]) K dX0_holdingBehind_1 rfl (by decide) (Nat.le_of_ble_eq_true rfl) rfl ?_
  refine lX0_holdingBehind_2 l hN hG K j hj 101 v1 0 σ hw (by omega) (by omega) (by omega) (fun r8 hw10 => ?_)
  refine q_aload_n (pc := 18) K dX0_holdingBehind_18 rfl rfl ?_
  refine q_aload_n (pc := 19) K dX0_holdingBehind_19 rfl rfl ?_
  refine q_get (pc := 20) (o := j) (f := 7) (v := .int (rF r8 (7 * j))) K (wO_ch hG hj) vw_0 iwX0_holdingBehind_X0 (by decide) mX0_holdingBehind_f33 rfl dX0_holdingBehind_20 ?_
  refine q_callVi (pc := 23) (o := j) (rm := rmX0_peaces) K (kX0_peaces l hN hG j hj (rF r8 (7 * j)) r8 hw10) gX0_holdingBehind_X0_peaces rfl hdV_X0_peaces ⟨Nat.le_of_ble_eq_true rfl, Nat.le_of_ble_eq_true rfl⟩ rfl rfl ⟨Nat.zero_le _, Nat.zero_le _⟩ (wO_ch hG hj) vw_0 rfl rfl (Nat.le_of_ble_eq_true rfl) dX0_holdingBehind_23 ?_
  refine q_callSi (pc := 26) (rm := rmJ6_bitCount_0f7a4) K (kJ6_bitCount_0f7a4 l hN (fX0_peaces j (rF r8 (7 * j)) r8) r8) gX0_holdingBehind_J6_bitCount_0f7a4 rfl hdS_J6_bitCount_0f7a4 ⟨Nat.le_of_ble_eq_true rfl, Nat.le_of_ble_eq_true rfl⟩ rfl rfl ⟨Nat.zero_le _, Nat.zero_le _⟩ rfl rfl (Nat.le_of_ble_eq_true rfl) dX0_holdingBehind_26 ?_
  exact q_iret K hr dX0_holdingBehind_29
theorem hdV_X0_holdsBehind : yX0_holdsBehind.cls = RX0 ∧ yX0_holdsBehind.cls ≠ "java/lang/invoke/MethodHandle" ∧ yX0_holdsBehind.cls ≠ "java/lang/invoke/VarHandle" ∧ (parseMethodDescriptor yX0_holdsBehind.desc).map (fun d => d.parameters.length) = some 2 := by decide +kernel
set_option maxRecDepth 100000 in
set_option maxHeartbeats 4000000 in
theorem lX0_holdsBehind_9 {p : Program} (l : Launch) {e : Env} {s : State} {m : MethodId} {args : Array Value} {below : List Frame} {meth : Method} {c : Code} {Q : State → Prop} {G : gT} (hN : wN G) (hG : gfl G = true) (K : qK p s m args meth c cX0_holdsBehind 5 RX0 wsX0_holdsBehind G) (j : Nat) (hj : j < 3) : ∀ (k : Nat) (v1 v2 v3 v4 : Int32) (σ : sg) (hw : WD σ) (hv4 : 0 ≤ v4.toInt ∧ v4.toInt ≤ 100) (hn2 : v2.toInt ≤ 100) (hz : v3 = 0 ∨ v3 = 1) (hmu : (100 - v4.toInt).toNat < k) {ρ : Type} {E : ρ → Prop} {f : Int32 × sg → ρ} (hk : ∀ r : Int32 × sg, (WD r.2) → (r.1 = 0 ∨ r.1 = 1) → qq p l e (headSpec wsX0_holdsBehind rmX0_holdsBehind).room s m args below meth c Q 5 G E (f r) 46 [none, none, none, some (.int r.1), none] [] r.2), qq p l e (headSpec wsX0_holdsBehind rmX0_holdsBehind).room s m args below meth c Q 5 G E (bnd (LX0_holdsBehind_9 j k v1 v2 v3 v4 σ) f) 9 [some (.ref (gob G j)), some (.int v1), some (.int v2), some (.int v3), some (.int v4)] [] σ := by
  intro k
  induction k with
  | zero => intro v1 v2 v3 v4 σ hw hv4 hn2 hz hmu ρ E f hk; exact absurd hmu (Nat.not_lt_zero _)
  | succ k ih =>
    intro v1 v2 v3 v4 σ hw hv4 hn2 hz hmu ρ E f hk
    have k0 : (0 : Int32).toInt = 0 := rfl
    have k1 : (1 : Int32).toInt = 1 := rfl
    refine qq_in ?_
    refine qq_T (LX0_holdsBehind_9.eq_2 ..) ?_
    refine q_iload (pc := 9) K dX0_holdsBehind_9 rfl ?_
    refine q_iload_n (pc := 11) K dX0_holdsBehind_11 rfl rfl ?_
    refine q_icmp_ge (pc := 12) (tgt := 46) K dX0_holdsBehind_12 (by decide) (fun c1 => ?_) (fun c1 => ?_)
    · have i17 := leI c1
      refine qq_drop 0 (lv' := [none, some (.int v1), some (.int v2), some (.int v3), some (.int v4)]) rfl ?_
      refine qq_drop 1 (lv' := [none, none, some (.int v2), some (.int v3), some (.int v4)]) rfl ?_
      refine qq_drop 2 (lv' := [none, none, none, some (.int v3), some (.int v4)]) rfl ?_
      refine qq_drop 4 (lv' := [none, none, none, some (.int v3), none]) rfl ?_
      exact qq_leaf (hk (v3, σ) hw hz)
    · have i18 := nleI c1
      refine q_iload_n (pc := 15) K dX0_holdsBehind_15 rfl rfl ?_
      refine q_if_eq (pc := 16) (tgt := 46) K dX0_holdsBehind_16 (by decide) (fun c2 => ?_) (fun c2 => ?_)
      · have i15 := eqI c2
        refine qq_drop 0 (lv' := [none, some (.int v1), some (.int v2), some (.int v3), some (.int v4)]) rfl ?_
        refine qq_drop 1 (lv' := [none, none, some (.int v2), some (.int v3), some (.int v4)]) rfl ?_
        refine qq_drop 2 (lv' := [none, none, none, some (.int v3), some (.int v4)]) rfl ?_
        refine qq_drop 4 (lv' := [none, none, none, some (.int v3), none]) rfl ?_
        exact qq_leaf (hk (v3, σ) hw hz)
      · have i16 := neI c2
        refine q_aload_n (pc := 19) K dX0_holdsBehind_19 rfl rfl ?_
        refine q_callVi (pc := 20) (o := j) (rm := rmX0_passHour) K (kX0_passHour l hN hG j hj σ hw) gX0_holdsBehind_X0_passHour rfl hdV_X0_passHour ⟨Nat.le_of_ble_eq_true rfl, Nat.le_of_ble_eq_true rfl⟩ rfl rfl ⟨Nat.zero_le _, Nat.zero_le _⟩ (wO_ch hG hj) vw_0 rfl rfl (Nat.le_of_ble_eq_true rfl) dX0_holdsBehind_20 ?_
        refine qq_nmI (fun r3 e4 => ?_)
        have hw5 : WD r3.2 := by rw [e4]; exact wX0_passHour j hj hw 
        refine q_if_eq (pc := 23) (tgt := 34) K dX0_holdsBehind_23 (by decide) (fun c6 => ?_) (fun c6 => ?_)
        · have i13 := eqI c6
          refine q_iconst (pc := 34) (v := 1) K dX0_holdsBehind_34 (by decide) ?_
          refine q_goto (pc := 35) (tgt := 39) K dX0_holdsBehind_35 (by decide) ?_
          refine q_istore_n (pc := 39) (lv' := [some (.ref (gob G j)), some (.int v1), some (.int v2), some (.int 1), some (.int v4)]) K dX0_holdsBehind_39 rfl (by decide) (Nat.le_of_ble_eq_true rfl) rfl ?_
          refine q_iinc (pc := 40) (v := (v4 + 1)) (lv' := [some (.ref (gob G j)), some (.int v1), some (.int v2), some (.int 1), some (.int (v4 + 1))]) K dX0_holdsBehind_40 rfl rfl (by decide) rfl ?_
          refine q_goto (pc := 43) (tgt := 9) K dX0_holdsBehind_43 (by decide) ?_
          have a7 := addI (x := v4) (y := 1) (by omega) (by omega)
          exact qq_out (ih v1 v2 1 (v4 + 1) r3.2 hw5 (by omega) (by omega) (by first | exact Or.inl rfl | exact Or.inr rfl | assumption) (by omega) hk)
        · have i14 := neI c6
          refine q_aload_n (pc := 26) K dX0_holdsBehind_26 rfl rfl ?_
          refine q_iload_n (pc := 27) K dX0_holdsBehind_27 rfl rfl ?_
          refine q_callVi (pc := 28) (o := j) (rm := rmX0_peaceHolds) K (kX0_peaceHolds l hN hG j hj v1 r3.2 hw5) gX0_holdsBehind_X0_peaceHolds rfl hdV_X0_peaceHolds ⟨Nat.le_of_ble_eq_true rfl, Nat.le_of_ble_eq_true rfl⟩ rfl rfl ⟨Nat.zero_le _, Nat.zero_le _⟩ (wO_ch hG hj) vw_0 rfl rfl (Nat.le_of_ble_eq_true rfl) dX0_holdsBehind_28 ?_
          refine q_if_eq (pc := 31) (tgt := 38) K dX0_holdsBehind_31 (by decide) (fun c8 => ?_) (fun c8 => ?_)
          · have i11 := eqI c8
            refine q_iconst (pc := 38) (v := 0) K dX0_holdsBehind_38 (by decide) ?_
            refine q_istore_n (pc := 39) (lv' := [some (.ref (gob G j)), some (.int v1), some (.int v2), some (.int 0), some (.int v4)]) K dX0_holdsBehind_39 rfl (by decide) (Nat.le_of_ble_eq_true rfl) rfl ?_
            refine q_iinc (pc := 40) (v := (v4 + 1)) (lv' := [some (.ref (gob G j)), some (.int v1), some (.int v2), some (.int 0), some (.int (v4 + 1))]) K dX0_holdsBehind_40 rfl rfl (by decide) rfl ?_
            refine q_goto (pc := 43) (tgt := 9) K dX0_holdsBehind_43 (by decide) ?_
            have a9 := addI (x := v4) (y := 1) (by omega) (by omega)
            exact qq_out (ih v1 v2 0 (v4 + 1) r3.2 hw5 (by omega) (by omega) (by first | exact Or.inl rfl | exact Or.inr rfl | assumption) (by omega) hk)
          · have i12 := neI c8
            refine q_iconst (pc := 34) (v := 1) K dX0_holdsBehind_34 (by decide) ?_
            refine q_goto (pc := 35) (tgt := 39) K dX0_holdsBehind_35 (by decide) ?_
            refine q_istore_n (pc := 39) (lv' := [some (.ref (gob G j)), some (.int v1), some (.int v2), some (.int 1), some (.int v4)]) K dX0_holdsBehind_39 rfl (by decide) (Nat.le_of_ble_eq_true rfl) rfl ?_
            refine q_iinc (pc := 40) (v := (v4 + 1)) (lv' := [some (.ref (gob G j)), some (.int v1), some (.int v2), some (.int 1), some (.int (v4 + 1))]) K dX0_holdsBehind_40 rfl rfl (by decide) rfl ?_
            refine q_goto (pc := 43) (tgt := 9) K dX0_holdsBehind_43 (by decide) ?_
            have a10 := addI (x := v4) (y := 1) (by omega) (by omega)
            exact qq_out (ih v1 v2 1 (v4 + 1) r3.2 hw5 (by omega) (by omega) (by first | exact Or.inl rfl | exact Or.inr rfl | assumption) (by omega) hk)
set_option maxRecDepth 100000 in
set_option maxHeartbeats 4000000 in
theorem kX0_holdsBehind (l : Launch) {G : gT} (hN : wN G) (hG : gfl G = true) (j : Nat) (hj : j < 3) (v1 : Int32) (v2 : Int32) (σ : sg) (hw : WD σ) (hn : v2.toInt ≤ 100) : cM l yX0_holdsBehind wsX0_holdsBehind rmX0_holdsBehind G [.ref (gob G j), .int v1, .int v2] σ (some (.int (fX0_holdsBehind j v1 v2 σ).1)) (fX0_holdsBehind j v1 v2 σ).2 := by
  refine cM_of (maxL := 5) (ret := (some .boolean)) (cc := cX0_holdsBehind) (fX0_holdsBehind j v1 v2 σ) RX0 hN (by decide +kernel) rfl rfl (Nat.le_of_ble_eq_true rfl) rfl ?_
  intro p e s m args below meth c K hr
  have k0 : (0 : Int32).toInt = 0 := rfl
  refine qq_st (lv' := [some (.ref (gob G j)), some (.int v1), some (.int v2), none, none]) rfl rfl rfl ?_
  refine qq_T (fX0_holdsBehind.eq_1 ..) ?_
  refine q_aload_n (pc := 0) K dX0_holdsBehind_0 rfl rfl ?_
  refine q_iload_n (pc := 1) K dX0_holdsBehind_1 rfl rfl ?_
  refine q_callVi (pc := 2) (o := j) (rm := rmX0_peaceHolds) K (kX0_peaceHolds l hN hG j hj v1 σ hw) gX0_holdsBehind_X0_peaceHolds rfl hdV_X0_peaceHolds ⟨Nat.le_of_ble_eq_true rfl, Nat.le_of_ble_eq_true rfl⟩ rfl rfl ⟨Nat.zero_le _, Nat.zero_le _⟩ (wO_ch hG hj) vw_0 rfl rfl (Nat.le_of_ble_eq_true rfl) dX0_holdsBehind_2 ?_
  refine q_istore_n (pc := 5) (lv' := [some (.ref (gob G j)), some (.int v1), some (.int v2), some (.int (fX0_peaceHolds j v1 σ)), none]) K dX0_holdsBehind_5 rfl (by decide) (Nat.le_of_ble_eq_true rfl) rfl ?_
  refine q_iconst (pc := 6) (v := 0) K dX0_holdsBehind_6 (by decide) ?_
  refine q_istore (pc := 7) (lv' := [some (.ref (gob G j)), some (.int v1), some (.int v2), some (.int (fX0_peaceHolds j v1 σ)), some (.int 0)]) K dX0_holdsBehind_7 (by decide) (Nat.le_of_ble_eq_true rfl) rfl ?_
  refine lX0_holdsBehind_9 l hN hG K j hj 101 v1 v2 (fX0_peaceHolds j v1 σ) 0 σ hw (by omega) (by omega) (b01_X0_peaceHolds _ _ _) (by omega) (fun r19 hw21 x22 => ?_)
  refine q_iload_n (pc := 46) K dX0_holdsBehind_46 rfl rfl ?_
  exact q_zret K hr x22 dX0_holdsBehind_47
theorem hdV_X0_endOf : yX0_endOf.cls = RX0 ∧ yX0_endOf.cls ≠ "java/lang/invoke/MethodHandle" ∧ yX0_endOf.cls ≠ "java/lang/invoke/VarHandle" ∧ (parseMethodDescriptor yX0_endOf.desc).map (fun d => d.parameters.length) = some 1 := by decide +kernel
set_option maxRecDepth 100000 in
set_option maxHeartbeats 4000000 in
theorem lX0_endOf_2 {p : Program} (l : Launch) {e : Env} {s : State} {m : MethodId} {args : Array Value} {below : List Frame} {meth : Method} {c : Code} {G : gT} (hN : wN G) (hG : gfl G = true) (K : qK p s m args meth c cX0_endOf 3 RX0 wsX0_endOf G) (j : Nat) (hj : j < 3) : ∀ (k : Nat) (v1 v2 : Int32) (σ : sg) (hw : WD σ) (hv2 : 0 ≤ v2.toInt ∧ v2.toInt ≤ 100) (hmu : (100 - v2.toInt).toNat < k) (hr : meth.sig.returnType = some .int) (T0 : Int32 × sg), qq p l e (headSpec wsX0_endOf rmX0_endOf).room s m args below meth c (MQ below (cQ G (some (.int T0.1)) T0.2) args s 0 0 (wA G)) 3 G (fun T => T = T0) (LX0_endOf_2 j k v1 v2 σ) 2 [some (.ref (gob G j)), some (.int v1), some (.int v2)] [] σ := by
  intro k
  induction k with
  | zero => intro v1 v2 σ hw hv2 hmu hr T0; exact absurd hmu (Nat.not_lt_zero _)
  | succ k ih =>
    intro v1 v2 σ hw hv2 hmu hr T0
    have k0 : (0 : Int32).toInt = 0 := rfl
    have k1 : (1 : Int32).toInt = 1 := rfl
    have k100 : (100 : Int32).toInt = 100 := rfl
    have k101 : (101 : Int32).toInt = 101 := rfl
    refine qq_T (LX0_endOf_2.eq_2 ..) ?_
    refine q_iload_n (pc := 2) K dX0_endOf_2 rfl rfl ?_
    refine q_bipush (pc := 3) (v := 100) K dX0_endOf_3 (by decide) ?_
    refine q_icmp_ge (pc := 5) (tgt := 30) K dX0_endOf_5 (by decide) (fun c1 => ?_) (fun c1 => ?_)
    · have i12 := leI c1
      refine q_aload_n (pc := 30) K dX0_endOf_30 rfl rfl ?_
      refine q_iload_n (pc := 31) K dX0_endOf_31 rfl rfl ?_
      refine q_callVi (pc := 32) (o := j) (rm := rmX0_peaceHolds) K (kX0_peaceHolds l hN hG j hj v1 σ hw) gX0_endOf_X0_peaceHolds rfl hdV_X0_peaceHolds ⟨Nat.le_of_ble_eq_true rfl, Nat.le_of_ble_eq_true rfl⟩ rfl rfl ⟨Nat.zero_le _, Nat.zero_le _⟩ (wO_ch hG hj) vw_0 rfl rfl (Nat.le_of_ble_eq_true rfl) dX0_endOf_32 ?_
      refine q_if_eq (pc := 35) (tgt := 43) K dX0_endOf_35 (by decide) (fun c2 => ?_) (fun c2 => ?_)
      · have i3 := eqI c2
        refine q_bipush (pc := 43) (v := 100) K dX0_endOf_43 (by decide) ?_
        exact q_iret K hr dX0_endOf_45
      · have i4 := neI c2
        refine q_bipush (pc := 38) (v := 101) K dX0_endOf_38 (by decide) ?_
        refine q_goto (pc := 40) (tgt := 45) K dX0_endOf_40 (by decide) ?_
        exact q_iret K hr dX0_endOf_45
    · have i13 := nleI c1
      refine q_aload_n (pc := 8) K dX0_endOf_8 rfl rfl ?_
      refine q_iload_n (pc := 9) K dX0_endOf_9 rfl rfl ?_
      refine q_callVi (pc := 10) (o := j) (rm := rmX0_peaceHolds) K (kX0_peaceHolds l hN hG j hj v1 σ hw) gX0_endOf_X0_peaceHolds rfl hdV_X0_peaceHolds ⟨Nat.le_of_ble_eq_true rfl, Nat.le_of_ble_eq_true rfl⟩ rfl rfl ⟨Nat.zero_le _, Nat.zero_le _⟩ (wO_ch hG hj) vw_0 rfl rfl (Nat.le_of_ble_eq_true rfl) dX0_endOf_10 ?_
      refine q_if_ne (pc := 13) (tgt := 18) K dX0_endOf_13 (by decide) (fun c5 => ?_) (fun c5 => ?_)
      · have i10 := neI c5
        refine q_aload_n (pc := 18) K dX0_endOf_18 rfl rfl ?_
        refine q_iconst (pc := 19) (v := 1) K dX0_endOf_19 (by decide) ?_
        refine q_callVi (pc := 20) (o := j) (rm := rmX0_pass) K (kX0_pass l hN hG j hj 1 σ hw (by omega)) gX0_endOf_X0_pass rfl hdV_X0_pass ⟨Nat.le_of_ble_eq_true rfl, Nat.le_of_ble_eq_true rfl⟩ rfl rfl ⟨Nat.zero_le _, Nat.zero_le _⟩ (wO_ch hG hj) vw_0 rfl rfl (Nat.le_of_ble_eq_true rfl) dX0_endOf_20 ?_
        refine qq_nmI (fun r6 e7 => ?_)
        have hw8 : WD r6.2 := by rw [e7]; exact wX0_pass j hj 1 hw (by omega)
        refine q_pop (pc := 23) K dX0_endOf_23 rfl ?_
        refine q_iinc (pc := 24) (v := (v2 + 1)) (lv' := [some (.ref (gob G j)), some (.int v1), some (.int (v2 + 1))]) K dX0_endOf_24 rfl rfl (by decide) rfl ?_
        refine q_goto (pc := 27) (tgt := 2) K dX0_endOf_27 (by decide) ?_
        have a9 := addI (x := v2) (y := 1) (by omega) (by omega)
        exact ih v1 (v2 + 1) r6.2 hw8 (by omega) (by omega) hr _
      · have i11 := eqI c5
        refine q_iload_n (pc := 16) K dX0_endOf_16 rfl rfl ?_
        exact q_iret K hr dX0_endOf_17
set_option maxRecDepth 100000 in
set_option maxHeartbeats 4000000 in
theorem kX0_endOf (l : Launch) {G : gT} (hN : wN G) (hG : gfl G = true) (j : Nat) (hj : j < 3) (v1 : Int32) (σ : sg) (hw : WD σ) : cM l yX0_endOf wsX0_endOf rmX0_endOf G [.ref (gob G j), .int v1] σ (some (.int (fX0_endOf j v1 σ).1)) (fX0_endOf j v1 σ).2 := by
  refine cM_of (maxL := 3) (ret := (some .int)) (cc := cX0_endOf) (fX0_endOf j v1 σ) RX0 hN (by decide +kernel) rfl rfl (Nat.le_of_ble_eq_true rfl) rfl ?_
  intro p e s m args below meth c K hr
  have k0 : (0 : Int32).toInt = 0 := rfl
  refine qq_st (lv' := [some (.ref (gob G j)), some (.int v1), none]) rfl rfl rfl ?_
  refine qq_T (fX0_endOf.eq_1 ..) ?_
  refine q_iconst (pc := 0) (v := 0) K dX0_endOf_0 (by decide) ?_
  refine q_istore_n (pc := 1) (lv' := [some (.ref (gob G j)), some (.int v1), some (.int 0)]) K dX0_endOf_1 rfl (by decide) (Nat.le_of_ble_eq_true rfl) rfl ?_
  exact lX0_endOf_2 l hN hG K j hj 101 v1 0 σ hw (by omega) (by omega) hr _
theorem hdV_X0_firstEnded : yX0_firstEnded.cls = RX0 ∧ yX0_firstEnded.cls ≠ "java/lang/invoke/MethodHandle" ∧ yX0_firstEnded.cls ≠ "java/lang/invoke/VarHandle" ∧ (parseMethodDescriptor yX0_firstEnded.desc).map (fun d => d.parameters.length) = some 0 := by decide +kernel
theorem mX0_firstEnded_f33 : Cond.fieldLink RX0 33 "WaxTreaties$Chancery" "run" "I" ∈ wsX0_firstEnded := List.mem_of_getElem? (i := 1) rfl
theorem iwX0_firstEnded_X0 : ∀ w ∈ wsX00, w ∈ wsX0_firstEnded := fun w h => List.mem_cons_of_mem _ (List.mem_append_right _ h)
theorem mX0_firstEnded_f37 : Cond.fieldLink RX0 37 "WaxTreaties$Chancery" "deeds" "I" ∈ wsX0_firstEnded := List.mem_of_getElem? (i := 2) rfl
theorem mX0_firstEnded_iX4 : Cond.initialized RX4 ∈ wsX0_firstEnded := List.mem_of_getElem? (i := 10) rfl
theorem mX0_firstEnded_stX4_has : Cond.static yX4_has ∈ wsX0_firstEnded := List.mem_of_getElem? (i := 9) rfl
set_option maxRecDepth 100000 in
set_option maxHeartbeats 4000000 in
theorem lX0_firstEnded_11 {p : Program} (l : Launch) {e : Env} {s : State} {m : MethodId} {args : Array Value} {below : List Frame} {meth : Method} {c : Code} {G : gT} (hN : wN G) (hG : gfl G = true) (K : qK p s m args meth c cX0_firstEnded 3 RX0 wsX0_firstEnded G) (j : Nat) (hj : j < 3) : ∀ (k : Nat) (v1 v2 : Int32) (σ : sg) (hw : WD σ) (hv2 : 0 ≤ v2.toInt ∧ v2.toInt ≤ 8) (hmu : (8 - v2.toInt).toNat < k) (hr : meth.sig.returnType = some .int) (T0 : Int32), qq p l e (headSpec wsX0_firstEnded rmX0_firstEnded).room s m args below meth c (MQ below (cQ G (some (.int T0)) σ) args s 0 0 (wA G)) 3 G (fun T => T = T0) (LX0_firstEnded_11 j k v1 v2 σ) 11 [some (.ref (gob G j)), some (.int v1), some (.int v2)] [] σ := by
  intro k
  induction k with
  | zero => intro v1 v2 σ hw hv2 hmu hr T0; exact absurd hmu (Nat.not_lt_zero _)
  | succ k ih =>
    intro v1 v2 σ hw hv2 hmu hr T0
    have km1 : ((-1) : Int32).toInt = -1 := rfl
    have k0 : (0 : Int32).toInt = 0 := rfl
    have k1 : (1 : Int32).toInt = 1 := rfl
    refine qq_T (LX0_firstEnded_11.eq_2 ..) ?_
    refine q_iload_n (pc := 11) K dX0_firstEnded_11 rfl rfl ?_
    refine q_aload_n (pc := 12) K dX0_firstEnded_12 rfl rfl ?_
    refine q_get (pc := 13) (o := j) (f := 8) (v := .int (rF σ (7 * j + 1))) K (wO_ch hG hj) vw_0 iwX0_firstEnded_X0 (by decide) mX0_firstEnded_f37 rfl dX0_firstEnded_13 ?_
    have w1 := wd_deeds hw hj
    refine q_icmp_ge (pc := 16) (tgt := 35) K dX0_firstEnded_16 (by decide) (fun c2 => ?_) (fun c2 => ?_)
    · have i7 := leI c2
      refine q_iconst (pc := 35) (v := (-1)) K dX0_firstEnded_35 (by decide) ?_
      exact q_iretP K hr dX0_firstEnded_36
    · have i8 := nleI c2
      refine q_iload_n (pc := 19) K dX0_firstEnded_19 rfl rfl ?_
      refine q_iload_n (pc := 20) K dX0_firstEnded_20 rfl rfl ?_
      refine q_callNi (pc := 21) (rm := rmX4_has) K (kX4_has l hN v1 v2 σ) gX0_firstEnded_X4_has_n95 (nS_3 K.2.2.2.2.2.2.2.2.1) mX0_firstEnded_iX4 mX0_firstEnded_stX4_has rfl hdS_X4_has ⟨Nat.le_of_ble_eq_true rfl, Nat.le_of_ble_eq_true rfl⟩ rfl rfl ⟨Nat.zero_le _, Nat.zero_le _⟩ rfl rfl (Nat.le_of_ble_eq_true rfl) dX0_firstEnded_21 ?_
      refine q_if_ne (pc := 24) (tgt := 29) K dX0_firstEnded_24 (by decide) (fun c3 => ?_) (fun c3 => ?_)
      · have i5 := neI c3
        refine q_iinc (pc := 29) (v := (v2 + 1)) (lv' := [some (.ref (gob G j)), some (.int v1), some (.int (v2 + 1))]) K dX0_firstEnded_29 rfl rfl (by decide) rfl ?_
        refine q_goto (pc := 32) (tgt := 11) K dX0_firstEnded_32 (by decide) ?_
        have a4 := addI (x := v2) (y := 1) (by omega) (by omega)
        exact ih v1 (v2 + 1) σ hw (by omega) (by omega) hr _
      · have i6 := eqI c3
        refine q_iload_n (pc := 27) K dX0_firstEnded_27 rfl rfl ?_
        exact q_iretP K hr dX0_firstEnded_28
set_option maxRecDepth 100000 in
set_option maxHeartbeats 4000000 in
theorem kX0_firstEnded (l : Launch) {G : gT} (hN : wN G) (hG : gfl G = true) (j : Nat) (hj : j < 3) (σ : sg) (hw : WD σ) : cM l yX0_firstEnded wsX0_firstEnded rmX0_firstEnded G [.ref (gob G j)] σ (some (.int (fX0_firstEnded j σ))) σ := by
  refine cM_of (maxL := 3) (ret := (some .int)) (cc := cX0_firstEnded) (fX0_firstEnded j σ) RX0 hN (by decide +kernel) rfl rfl (Nat.le_of_ble_eq_true rfl) rfl ?_
  intro p e s m args below meth c K hr
  have k0 : (0 : Int32).toInt = 0 := rfl
  refine qq_st (lv' := [some (.ref (gob G j)), none, none]) rfl rfl rfl ?_
  refine qq_T (fX0_firstEnded.eq_1 ..) ?_
  refine q_aload_n (pc := 0) K dX0_firstEnded_0 rfl rfl ?_
  refine q_aload_n (pc := 1) K dX0_firstEnded_1 rfl rfl ?_
  refine q_get (pc := 2) (o := j) (f := 7) (v := .int (rF σ (7 * j))) K (wO_ch hG hj) vw_0 iwX0_firstEnded_X0 (by decide) mX0_firstEnded_f33 rfl dX0_firstEnded_2 ?_
  refine q_callVi (pc := 5) (o := j) (rm := rmX0_peaces) K (kX0_peaces l hN hG j hj (rF σ (7 * j)) σ hw) gX0_firstEnded_X0_peaces rfl hdV_X0_peaces ⟨Nat.le_of_ble_eq_true rfl, Nat.le_of_ble_eq_true rfl⟩ rfl rfl ⟨Nat.zero_le _, Nat.zero_le _⟩ (wO_ch hG hj) vw_0 rfl rfl (Nat.le_of_ble_eq_true rfl) dX0_firstEnded_5 ?_
  refine q_istore_n (pc := 8) (lv' := [some (.ref (gob G j)), some (.int (fX0_peaces j (rF σ (7 * j)) σ)), none]) K dX0_firstEnded_8 rfl (by decide) (Nat.le_of_ble_eq_true rfl) rfl ?_
  refine q_iconst (pc := 9) (v := 0) K dX0_firstEnded_9 (by decide) ?_
  refine q_istore_n (pc := 10) (lv' := [some (.ref (gob G j)), some (.int (fX0_peaces j (rF σ (7 * j)) σ)), some (.int 0)]) K dX0_firstEnded_10 rfl (by decide) (Nat.le_of_ble_eq_true rfl) rfl ?_
  exact lX0_firstEnded_11 l hN hG K j hj 9 (fX0_peaces j (rF σ (7 * j)) σ) 0 σ hw (by omega) (by omega) hr _
theorem hdV_X0_firstToEnd : yX0_firstToEnd.cls = RX0 ∧ yX0_firstToEnd.cls ≠ "java/lang/invoke/MethodHandle" ∧ yX0_firstToEnd.cls ≠ "java/lang/invoke/VarHandle" ∧ (parseMethodDescriptor yX0_firstToEnd.desc).map (fun d => d.parameters.length) = some 0 := by decide +kernel
set_option maxRecDepth 100000 in
set_option maxHeartbeats 4000000 in
theorem lX0_firstToEnd_7 {p : Program} (l : Launch) {e : Env} {s : State} {m : MethodId} {args : Array Value} {below : List Frame} {meth : Method} {c : Code} {Q : State → Prop} {G : gT} (hN : wN G) (hG : gfl G = true) (K : qK p s m args meth c cX0_firstToEnd 3 RX0 wsX0_firstToEnd G) (j : Nat) (hj : j < 3) : ∀ (k : Nat) (v1 v2 : Int32) (σ : sg) (hw : WD σ) (hv2 : 0 ≤ v2.toInt ∧ v2.toInt ≤ 100) (hmu : (100 - v2.toInt).toNat < k) {ρ : Type} {E : ρ → Prop} {f : Int32 × sg → ρ} (hk : ∀ r : Int32 × sg, (WD r.2) → qq p l e (headSpec wsX0_firstToEnd rmX0_firstToEnd).room s m args below meth c Q 3 G E (f r) 35 [none, some (.int r.1), none] [] r.2), qq p l e (headSpec wsX0_firstToEnd rmX0_firstToEnd).room s m args below meth c Q 3 G E (bnd (LX0_firstToEnd_7 j k v1 v2 σ) f) 7 [some (.ref (gob G j)), some (.int v1), some (.int v2)] [] σ := by
  intro k
  induction k with
  | zero => intro v1 v2 σ hw hv2 hmu ρ E f hk; exact absurd hmu (Nat.not_lt_zero _)
  | succ k ih =>
    intro v1 v2 σ hw hv2 hmu ρ E f hk
    have km1 : ((-1) : Int32).toInt = -1 := rfl
    have k0 : (0 : Int32).toInt = 0 := rfl
    have k1 : (1 : Int32).toInt = 1 := rfl
    have k100 : (100 : Int32).toInt = 100 := rfl
    refine qq_in ?_
    refine qq_T (LX0_firstToEnd_7.eq_2 ..) ?_
    refine q_iload_n (pc := 7) K dX0_firstToEnd_7 rfl rfl ?_
    refine q_bipush (pc := 8) (v := 100) K dX0_firstToEnd_8 (by decide) ?_
    refine q_icmp_ge (pc := 10) (tgt := 35) K dX0_firstToEnd_10 (by decide) (fun c1 => ?_) (fun c1 => ?_)
    · have i9 := leI c1
      refine qq_drop 0 (lv' := [none, some (.int v1), some (.int v2)]) rfl ?_
      refine qq_drop 2 (lv' := [none, some (.int v1), none]) rfl ?_
      exact qq_leaf (hk (v1, σ) hw)
    · have i10 := nleI c1
      refine q_iload_n (pc := 13) K dX0_firstToEnd_13 rfl rfl ?_
      refine q_iconst (pc := 14) (v := (-1)) K dX0_firstToEnd_14 (by decide) ?_
      refine q_icmp_ne (pc := 15) (tgt := 35) K dX0_firstToEnd_15 (by decide) (fun c2 => ?_) (fun c2 => ?_)
      · have i7 := neI c2
        refine qq_drop 0 (lv' := [none, some (.int v1), some (.int v2)]) rfl ?_
        refine qq_drop 2 (lv' := [none, some (.int v1), none]) rfl ?_
        exact qq_leaf (hk (v1, σ) hw)
      · have i8 := eqI c2
        refine q_aload_n (pc := 18) K dX0_firstToEnd_18 rfl rfl ?_
        refine q_iconst (pc := 19) (v := 1) K dX0_firstToEnd_19 (by decide) ?_
        refine q_callVi (pc := 20) (o := j) (rm := rmX0_pass) K (kX0_pass l hN hG j hj 1 σ hw (by omega)) gX0_firstToEnd_X0_pass rfl hdV_X0_pass ⟨Nat.le_of_ble_eq_true rfl, Nat.le_of_ble_eq_true rfl⟩ rfl rfl ⟨Nat.zero_le _, Nat.zero_le _⟩ (wO_ch hG hj) vw_0 rfl rfl (Nat.le_of_ble_eq_true rfl) dX0_firstToEnd_20 ?_
        refine qq_nmI (fun r3 e4 => ?_)
        have hw5 : WD r3.2 := by rw [e4]; exact wX0_pass j hj 1 hw (by omega)
        refine q_pop (pc := 23) K dX0_firstToEnd_23 rfl ?_
        refine q_aload_n (pc := 24) K dX0_firstToEnd_24 rfl rfl ?_
        refine q_callVi (pc := 25) (o := j) (rm := rmX0_firstEnded) K (kX0_firstEnded l hN hG j hj r3.2 hw5) gX0_firstToEnd_X0_firstEnded rfl hdV_X0_firstEnded ⟨Nat.le_of_ble_eq_true rfl, Nat.le_of_ble_eq_true rfl⟩ rfl rfl ⟨Nat.zero_le _, Nat.zero_le _⟩ (wO_ch hG hj) vw_0 rfl rfl (Nat.le_of_ble_eq_true rfl) dX0_firstToEnd_25 ?_
        refine q_istore_n (pc := 28) (lv' := [some (.ref (gob G j)), some (.int (fX0_firstEnded j r3.2)), some (.int v2)]) K dX0_firstToEnd_28 rfl (by decide) (Nat.le_of_ble_eq_true rfl) rfl ?_
        refine q_iinc (pc := 29) (v := (v2 + 1)) (lv' := [some (.ref (gob G j)), some (.int (fX0_firstEnded j r3.2)), some (.int (v2 + 1))]) K dX0_firstToEnd_29 rfl rfl (by decide) rfl ?_
        refine q_goto (pc := 32) (tgt := 7) K dX0_firstToEnd_32 (by decide) ?_
        have a6 := addI (x := v2) (y := 1) (by omega) (by omega)
        exact qq_out (ih (fX0_firstEnded j r3.2) (v2 + 1) r3.2 hw5 (by omega) (by omega) hk)
set_option maxRecDepth 100000 in
set_option maxHeartbeats 4000000 in
theorem kX0_firstToEnd (l : Launch) {G : gT} (hN : wN G) (hG : gfl G = true) (j : Nat) (hj : j < 3) (σ : sg) (hw : WD σ) : cM l yX0_firstToEnd wsX0_firstToEnd rmX0_firstToEnd G [.ref (gob G j)] σ (some (.int (fX0_firstToEnd j σ).1)) (fX0_firstToEnd j σ).2 := by
  refine cM_of (maxL := 3) (ret := (some .int)) (cc := cX0_firstToEnd) (fX0_firstToEnd j σ) RX0 hN (by decide +kernel) rfl rfl (Nat.le_of_ble_eq_true rfl) rfl ?_
  intro p e s m args below meth c K hr
  have k0 : (0 : Int32).toInt = 0 := rfl
  refine qq_st (lv' := [some (.ref (gob G j)), none, none]) rfl rfl rfl ?_
  refine qq_T (fX0_firstToEnd.eq_1 ..) ?_
  refine q_aload_n (pc := 0) K dX0_firstToEnd_0 rfl rfl ?_
  refine q_callVi (pc := 1) (o := j) (rm := rmX0_firstEnded) K (kX0_firstEnded l hN hG j hj σ hw) gX0_firstToEnd_X0_firstEnded rfl hdV_X0_firstEnded ⟨Nat.le_of_ble_eq_true rfl, Nat.le_of_ble_eq_true rfl⟩ rfl rfl ⟨Nat.zero_le _, Nat.zero_le _⟩ (wO_ch hG hj) vw_0 rfl rfl (Nat.le_of_ble_eq_true rfl) dX0_firstToEnd_1 ?_
  refine q_istore_n (pc := 4) (lv' := [some (.ref (gob G j)), some (.int (fX0_firstEnded j σ)), none]) K dX0_firstToEnd_4 rfl (by decide) (Nat.le_of_ble_eq_true rfl) rfl ?_
  refine q_iconst (pc := 5) (v := 0) K dX0_firstToEnd_5 (by decide) ?_
  refine q_istore_n (pc := 6) (lv' := [some (.ref (gob G j)), some (.int (fX0_firstEnded j σ)), some (.int 0)]) K dX0_firstToEnd_6 rfl (by decide) (Nat.le_of_ble_eq_true rfl) rfl ?_
  refine lX0_firstToEnd_7 l hN hG K j hj 101 (fX0_firstEnded j σ) 0 σ hw (by omega) (by omega) (fun r11 hw13 => ?_)
  refine q_iload_n (pc := 35) K dX0_firstToEnd_35 rfl rfl ?_
  exact q_iret K hr dX0_firstToEnd_36
