def rmX3_byteAt : Room := { frames := 0, cells := 0, slots := 0, locals := 0 }
def fX3_byteAt (v1 : Int32) (σ : sg) : Int32 := (if v1 < 0 then (-1) else (if (rF σ 22) ≤ v1 then (-1) else (if 120 ≤ v1 then (-1) else (rA σ 24 v1))))
theorem wdFn {σ : sg} (h : WD σ) {x : Int32} (h1 : 0 ≤ x.toInt) (h2 : x.toInt ≤ 120) : WD (sF9 σ 24 x) := by
  refine ⟨fun j hj => ?_, h.2.1, ?_, fun k hk => ?_, ?_⟩
  · rw [sF_other (by omega)]; exact h.1 j hj
  · rw [sF_other (by omega)]; exact h.2.2.1
  · rw [sF_other (by omega)]; exact h.2.2.2.1 k hk
  · rw [sF_same9]; exact ⟨h1, h2⟩
theorem byB {p : Int32} {σ : sg} (h : ¬ fX3_byteAt p σ = -1) : p.toInt < (rF σ 22).toInt := by
  unfold fX3_byteAt at h
  split at h
  · exact absurd rfl h
  · split at h
    · exact absurd rfl h
    · rename_i c; exact nleI c
def rmX3_sortOf : Room := { frames := 0, cells := 0, slots := 0, locals := 0 }
def fX3_sortOf (v0 : Int32) : Int32 := (if v0 = (-1) then 0 else (if v0 < 97 then (if v0 < 48 then (if v0 = 59 then 3 else 4) else (if 57 < v0 then (if v0 = 59 then 3 else 4) else 2)) else (if 122 < v0 then (if v0 < 48 then (if v0 = 59 then 3 else 4) else (if 57 < v0 then (if v0 = 59 then 3 else 4) else 2)) else 1)))
theorem soB {b : Int32} (h : fX3_sortOf b = 3 ∨ fX3_sortOf b = 4) : ¬ b = -1 := by
  intro q
  subst q
  revert h
  decide
theorem stepB {r s1 s2 : sg} (hw : WD r) (e1 : s1 = sF9 r 23 (rF r 24)) (e2 : s2 = sF9 s1 25 (fX3_sortOf (fX3_byteAt (rF s1 23) s1))) (c : rF s2 25 = 3 ∨ rF s2 25 = 4) : (rF s2 24).toInt < 120 := by
  have h1 : rF s2 25 = fX3_sortOf (fX3_byteAt (rF s1 23) s1) := by rw [e2]; exact sF_same9
  rw [h1] at c
  have h2 := byB (soB c)
  have h3 : rF s1 23 = rF r 24 := by rw [e1]; exact sF_same9
  have h4 : rF s1 22 = rF r 22 := by rw [e1]; exact sF_other (by decide)
  have h5 : rF s2 24 = rF r 24 := by rw [e2, sF_other (by decide), e1]; exact sF_other (by decide)
  have h6 := wd_len hw
  rw [h3, h4] at h2
  rw [h5]
  omega
def rmX3_step : Room := { frames := 1, cells := 0, slots := 0, locals := 21 }
def LX3_step_0 : Nat → sg → sg
  | 0, σ => σ
  | k + 1, σ => (if (rF σ 22) ≤ (rF σ 24) then σ else (if (fX3_byteAt (rF σ 24) σ) = 32 then bnd (sF9 σ 24 ((rF σ 24) + 1)) (fun s5 => LX3_step_0 k s5) else σ))
def LX3_step_91 : Nat → sg → sg
  | 0, σ => σ
  | k + 1, σ => (if (rF σ 25) = 1 then (if (rF σ 22) ≤ (rF σ 24) then σ else (if (fX3_sortOf (fX3_byteAt (rF σ 24) σ)) = (rF σ 25) then bnd (sF9 σ 26 (jmin 1000 ((((rF σ 26) * 10) + (fX3_byteAt (rF σ 24) σ)) - 48))) (fun s42 => bnd (sF9 s42 24 ((rF s42 24) + 1)) (fun s47 => LX3_step_91 k s47)) else σ)) else (if (rF σ 25) = 2 then (if (rF σ 22) ≤ (rF σ 24) then σ else (if (fX3_sortOf (fX3_byteAt (rF σ 24) σ)) = (rF σ 25) then bnd (sF9 σ 26 (jmin 1000 ((((rF σ 26) * 10) + (fX3_byteAt (rF σ 24) σ)) - 48))) (fun s61 => bnd (sF9 s61 24 ((rF s61 24) + 1)) (fun s66 => LX3_step_91 k s66)) else σ)) else σ))
def fX3_step (σ : sg) : sg := bnd (LX3_step_0 121 σ) (fun r14 => bnd (sF9 r14 23 (rF r14 24)) (fun s18 => bnd (sF9 s18 25 (fX3_sortOf (fX3_byteAt (rF s18 23) s18))) (fun s22 => (if (rF s22 25) = 3 then bnd (sF9 s22 24 ((rF s22 24) + 1)) (fun s28 => bnd (sF9 s28 26 0) (fun s33 => bnd (LX3_step_91 121 s33) (fun r79 => r79))) else (if (rF s22 25) = 4 then bnd (sF9 s22 24 ((rF s22 24) + 1)) (fun s91 => bnd (sF9 s91 26 0) (fun s96 => bnd (LX3_step_91 121 s96) (fun r100 => r100))) else bnd (sF9 s22 26 0) (fun s83 => bnd (LX3_step_91 121 s83) (fun r87 => r87)))))))
def rmX3_isWord : Room := { frames := 6, cells := 0, slots := 0, locals := 106 }
def LX3_isWord_28 (w1 : Nat) : Nat → Int32 → sg → Int32
  | 0, v2, σ => 0
  | k + 1, v2, σ => (if (fJ0_length_8abf5 w1) ≤ v2 then 1 else (if (fX3_byteAt ((rF σ 23) + v2) σ) = (fJ0_charAt_5068e w1 v2) then LX3_isWord_28 w1 k (v2 + 1) σ else 0))
def fX3_isWord (w1 : Nat) (σ : sg) : Int32 := (if (rF σ 25) = 1 then (if ((rF σ 24) - (rF σ 23)) = (fJ0_length_8abf5 w1) then LX3_isWord_28 w1 8 0 σ else 0) else 0)
theorem b01L_X3_isWord (w : Nat) : ∀ (k : Nat) (v : Int32) (σ : sg), LX3_isWord_28 w k v σ = 0 ∨ LX3_isWord_28 w k v σ = 1 := by
  intro k
  induction k with
  | zero => intro v σ; exact Or.inl rfl
  | succ k ih =>
    intro v σ
    rw [LX3_isWord_28]
    split
    · exact Or.inr rfl
    · split
      · exact ih _ _
      · exact Or.inl rfl
theorem b01_X3_isWord (w : Nat) (σ : sg) : fX3_isWord w σ = 0 ∨ fX3_isWord w σ = 1 := by
  unfold fX3_isWord
  split
  · split
    · exact b01L_X3_isWord w _ _ _
    · exact Or.inl rfl
  · exact Or.inl rfl
def P01 (T : Int32 × sg) : Prop := T.1 = 0 ∨ T.1 = 1
def rmX3_wordOf : Room := { frames := 0, cells := 0, slots := 0, locals := 0 }
def fX3_wordOf (v0 : Int32) : Nat := (if v0 = 0 then 0 else (if v0 = 1 then 1 else (if v0 = 2 then 2 else (if v0 = 3 then 3 else (if v0 = 4 then 4 else (if v0 = 5 then 5 else 6))))))
theorem h18_X3_wordOf (k : Int32) : fX3_wordOf k < 18 := by
  unfold fX3_wordOf
  (repeat' split) <;> decide
def rmX3_kindOfWord : Room := { frames := 7, cells := 0, slots := 0, locals := 128 }
def LX3_kindOfWord_2 : Nat → Int32 → sg → Int32
  | 0, v1, σ => 0
  | k + 1, v1, σ => (if 7 ≤ v1 then (-1) else (if (fX3_isWord ((fX3_wordOf v1)) σ) = 0 then LX3_kindOfWord_2 k (v1 + 1) σ else v1))
def fX3_kindOfWord (σ : sg) : Int32 := LX3_kindOfWord_2 8 0 σ
def rmX3_takesWord : Room := { frames := 7, cells := 0, slots := 0, locals := 128 }
def fX3_takesWord (w1 : Nat) (σ : sg) : Int32 × sg := (if (fX3_isWord w1 σ) = 0 then ((fX3_isWord w1 σ), σ) else bnd (fX3_step σ) (fun r2 => ((fX3_isWord w1 σ), r2)))
def rmX3_takeNumber : Room := { frames := 2, cells := 0, slots := 0, locals := 41 }
def fX3_takeNumber (v1 : Int32) (v2 : Int32) (σ : sg) : Int32 × sg := (if (rF σ 25) = 2 then (if (fX4_isWithin (rF σ 26) v1 v2) = 0 then ((-1), σ) else bnd (fX3_step σ) (fun r3 => ((rF σ 26), r3))) else ((-1), σ))
theorem tn_f {a b : Int32} {σ : sg} {r : Int32 × sg} (e : r = fX3_takeNumber a b σ) : r.1.toInt = -1 ∨ (a.toInt ≤ r.1.toInt ∧ r.1.toInt ≤ b.toInt) := by
  subst e
  unfold fX3_takeNumber bnd
  split
  · split
    · exact Or.inl rfl
    · rename_i c; exact Or.inr (isW_t c)
  · exact Or.inl rfl
def rmX3_readDeed : Room := { frames := 8, cells := 0, slots := 0, locals := 150 }
def fX3_readDeed (i1 : Nat) (v2 : Int32) (σ : sg) : Int32 × sg := (if (fX0_isFull i1 σ) = 0 then bnd (fX3_step σ) (fun r2 => bnd (fX3_takeNumber 0 5 r2) (fun r5 => (if r5.1 = (-1) then (0, r5.2) else bnd (fX3_takesWord 11 r5.2) (fun r9 => (if r9.1 = 0 then bnd (fX3_takesWord 12 r9.2) (fun r13 => (if r13.1 = 0 then bnd (fX0_addDeed i1 v2 r5.1 40 (-1) r13.2) (fun r17 => (1, r17.2)) else bnd (fX3_takeNumber 0 ((rF r13.2 (7 * i1 + 1)) - 1) r13.2) (fun r22 => (if r22.1 = (-1) then (0, r22.2) else bnd (fX0_addDeed i1 v2 r5.1 40 r22.1 r22.2) (fun r26 => (1, r26.2)))))) else bnd (fX3_takeNumber 1 99 r9.2) (fun r33 => (if r33.1 = (-1) then (0, r33.2) else bnd (fX3_takesWord 12 r33.2) (fun r37 => (if r37.1 = 0 then bnd (fX0_addDeed i1 v2 r5.1 r33.1 (-1) r37.2) (fun r41 => (1, r41.2)) else bnd (fX3_takeNumber 0 ((rF r37.2 (7 * i1 + 1)) - 1) r37.2) (fun r46 => (if r46.1 = (-1) then (0, r46.2) else bnd (fX0_addDeed i1 v2 r5.1 r33.1 r46.1 r46.2) (fun r50 => (1, r50.2))))))))))))) else (0, σ))
def rmX3_readShutter : Room := { frames := 8, cells := 0, slots := 0, locals := 150 }
def fX3_readShutter (i1 : Nat) (σ : sg) : Int32 × sg := bnd (fX3_takeNumber 0 5 σ) (fun r1 => (if r1.1 = (-1) then (0, r1.2) else bnd (fX3_takesWord 13 r1.2) (fun r5 => (if r5.1 = 0 then bnd (fX3_takesWord 14 r5.2) (fun r12 => (if r12.1 = 0 then (0, r12.2) else bnd (fX0_setShutter i1 r1.1 r5.1 r12.2) (fun r16 => (1, r16)))) else bnd (fX0_setShutter i1 r1.1 r5.1 r5.2) (fun r9 => (1, r9))))))
def rmX3_readIce : Room := { frames := 3, cells := 0, slots := 0, locals := 64 }
def fX3_readIce (i1 : Nat) (σ : sg) : Int32 × sg := bnd (fX3_takeNumber 0 5 σ) (fun r1 => (if r1.1 = (-1) then (0, r1.2) else bnd (fX3_takeNumber 0 99 r1.2) (fun r5 => (if r5.1 = (-1) then (0, r5.2) else bnd (sA r5.2 (8 * i1 + 5) r1.1 r5.1) (fun s9 => (1, s9))))))
def rmX3_readCandle : Room := { frames := 8, cells := 0, slots := 0, locals := 150 }
def fX3_readCandle (i1 : Nat) (σ : sg) : Int32 × sg := bnd (fX3_takeNumber 0 5 σ) (fun r1 => (if r1.1 = (-1) then (0, r1.2) else bnd (fX3_takesWord 15 r1.2) (fun r5 => (if r5.1 = 0 then bnd (fX3_takesWord 16 r5.2) (fun r12 => (if r12.1 = 0 then (0, r12.2) else bnd (fX0_setCandle i1 r1.1 r5.1 r12.2) (fun r16 => (1, r16)))) else bnd (fX0_setCandle i1 r1.1 r5.1 r5.2) (fun r9 => (1, r9))))))
def rmX3_readSummer : Room := { frames := 3, cells := 0, slots := 0, locals := 64 }
def fX3_readSummer (i1 : Nat) (σ : sg) : Int32 × sg := bnd (fX3_takeNumber 0 40 σ) (fun r1 => (if r1.1 = (-1) then (0, r1.2) else bnd (sF9 r1.2 (7 * i1 + 5) r1.1) (fun s5 => (1, s5))))
def rmX3_readItem : Room := { frames := 9, cells := 0, slots := 0, locals := 175 }
def fX3_readItem (i1 : Nat) (σ : sg) : Int32 × sg := (if (fX3_kindOfWord σ) = (-1) then bnd (fX3_takesWord 7 σ) (fun r2 => (if r2.1 = 0 then bnd (fX3_takesWord 8 r2.2) (fun r6 => (if r6.1 = 0 then bnd (fX3_takesWord 9 r6.2) (fun r10 => (if r10.1 = 0 then bnd (fX3_takesWord 10 r10.2) (fun r14 => (if r14.1 = 0 then (0, r14.2) else bnd (fX3_readSummer i1 r14.2) (fun r18 => (if r18.1 = 0 then (0, r18.2) else (1, r18.2))))) else bnd (fX3_readCandle i1 r10.2) (fun r26 => (r26.1, r26.2)))) else bnd (fX3_readIce i1 r6.2) (fun r31 => (r31.1, r31.2)))) else bnd (fX3_readShutter i1 r2.2) (fun r36 => (r36.1, r36.2)))) else bnd (fX3_readDeed i1 (fX3_kindOfWord σ) σ) (fun r41 => (r41.1, r41.2)))
def rmX3_readText : Room := { frames := 10, cells := 0, slots := 0, locals := 197 }
def LX3_readText_11 (i1 : Nat) : Nat → Int32 → sg → Int32 × sg
  | 0, v2, σ => (0, σ)
  | k + 1, v2, σ => (if 120 ≤ v2 then (((-1) - (rF σ 23)), σ) else bnd (fX3_readItem i1 σ) (fun r9 => (if r9.1 = 0 then (((-1) - (rF r9.2 23)), r9.2) else (if (rF r9.2 25) = 0 then ((v2 + 1), r9.2) else (if (rF r9.2 25) = 3 then bnd (fX3_step r9.2) (fun r15 => LX3_readText_11 i1 k (v2 + 1) r15) else (((-1) - (rF r9.2 23)), r9.2))))))
def fX3_readText (i1 : Nat) (σ : sg) : Int32 × sg := bnd (sF9 σ 24 0) (fun s1 => bnd (fX3_step s1) (fun r5 => LX3_readText_11 i1 121 0 r5))
def rmX4_text : Room := { frames := 11, cells := 0, slots := 0, locals := 219 }
def fX4_text (σ : sg) : Int32 × sg := bnd (fX0_take 1 0 σ) (fun r1 => bnd (fX3_readText 1 r1) (fun r4 => bnd (sF9 r4.2 22 0) (fun s7 => (if r4.1 < 0 then (r4.1, s7) else bnd (fX0_take 0 1 s7) (fun r13 => (r4.1, r13))))))
def PLX3_step_0 : sg → Prop := fun r => (WD r) ∧ True
set_option maxRecDepth 100000 in
set_option maxHeartbeats 4000000 in
theorem wLX3_step_0 : ∀ (k : Nat) (σ : sg) (hw : WD σ) (hmu : (120 - (rF σ 24).toInt).toNat < k), PLX3_step_0 (LX3_step_0 k σ) := by
  intro k
  induction k with
  | zero => intro σ hw hmu; exact absurd hmu (Nat.not_lt_zero _)
  | succ k ih =>
    intro σ hw hmu
    have k0 : (0 : Int32).toInt = 0 := rfl
    have k1 : (1 : Int32).toInt = 1 := rfl
    have k32 : (32 : Int32).toInt = 32 := rfl
    have q0 := wd_next hw
    rw [show LX3_step_0 (k + 1) σ = _ from LX3_step_0.eq_2 ..]
    have w1 := wd_next hw
    have w2 := wd_len hw
    refine wf_ite (fun c3 => ?_) (fun c3 => ?_)
    · have i12 := leI c3
      exact ⟨hw, trivial⟩
    · have i13 := nleI c3
      refine wf_ite (fun c4 => ?_) (fun c4 => ?_)
      · have i11 := eqI c4
        have a7 := addI (x := (rF σ 24)) (y := 1) (by omega) (by omega)
        refine wf_bnd (fun s5 e6 => ?_)
        have hw8 : WD s5 := by rw [e6]; exact wdFn hw (by omega) (by omega)
        have f9 := congrArg Int32.toInt (show rF s5 24 = ((rF σ 24) + 1) by rw [e6]; exact sF_same9)
        exact ih s5 hw8 (by omega)
      · have i10 := neI c4
        exact ⟨hw, trivial⟩
def PLX3_step_91 : sg → Prop := fun r => (WD r) ∧ True
set_option maxRecDepth 100000 in
set_option maxHeartbeats 4000000 in
theorem wLX3_step_91 : ∀ (k : Nat) (σ : sg) (hw : WD σ) (hmu : (120 - (rF σ 24).toInt).toNat < k), PLX3_step_91 (LX3_step_91 k σ) := by
  intro k
  induction k with
  | zero => intro σ hw hmu; exact absurd hmu (Nat.not_lt_zero _)
  | succ k ih =>
    intro σ hw hmu
    have k0 : (0 : Int32).toInt = 0 := rfl
    have k1 : (1 : Int32).toInt = 1 := rfl
    have k2 : (2 : Int32).toInt = 2 := rfl
    have k10 : (10 : Int32).toInt = 10 := rfl
    have k48 : (48 : Int32).toInt = 48 := rfl
    have k1000 : (1000 : Int32).toInt = 1000 := rfl
    have q0 := wd_next hw
    rw [show LX3_step_91 (k + 1) σ = _ from LX3_step_91.eq_2 ..]
    refine wf_ite (fun c37 => ?_) (fun c37 => ?_)
    · have i77 := eqI c37
      have w38 := wd_next hw
      have w39 := wd_len hw
      refine wf_ite (fun c40 => ?_) (fun c40 => ?_)
      · have i54 := leI c40
        exact ⟨hw, trivial⟩
      · have i55 := nleI c40
        refine wf_ite (fun c41 => ?_) (fun c41 => ?_)
        · have i53 := eqI c41
          refine wf_bnd (fun s42 e43 => ?_)
          have hw44 : WD s42 := by rw [e43]; exact wdF hw (by omega)
          have n45 := congrArg Int32.toInt (show rF s42 24 = rF σ 24 by rw [e43]; exact sF_other (by decide))
          have w46 := wd_next hw44
          have a49 := addI (x := (rF s42 24)) (y := 1) (by omega) (by omega)
          refine wf_bnd (fun s47 e48 => ?_)
          have hw50 : WD s47 := by rw [e48]; exact wdFn hw44 (by omega) (by omega)
          have f51 := congrArg Int32.toInt (show rF s47 24 = ((rF s42 24) + 1) by rw [e48]; exact sF_same9)
          exact ih s47 hw50 (by omega)
        · have i52 := neI c41
          exact ⟨hw, trivial⟩
    · have i78 := neI c37
      refine wf_ite (fun c56 => ?_) (fun c56 => ?_)
      · have i76 := eqI c56
        have w57 := wd_next hw
        have w58 := wd_len hw
        refine wf_ite (fun c59 => ?_) (fun c59 => ?_)
        · have i73 := leI c59
          exact ⟨hw, trivial⟩
        · have i74 := nleI c59
          refine wf_ite (fun c60 => ?_) (fun c60 => ?_)
          · have i72 := eqI c60
            refine wf_bnd (fun s61 e62 => ?_)
            have hw63 : WD s61 := by rw [e62]; exact wdF hw (by omega)
            have n64 := congrArg Int32.toInt (show rF s61 24 = rF σ 24 by rw [e62]; exact sF_other (by decide))
            have w65 := wd_next hw63
            have a68 := addI (x := (rF s61 24)) (y := 1) (by omega) (by omega)
            refine wf_bnd (fun s66 e67 => ?_)
            have hw69 : WD s66 := by rw [e67]; exact wdFn hw63 (by omega) (by omega)
            have f70 := congrArg Int32.toInt (show rF s66 24 = ((rF s61 24) + 1) by rw [e67]; exact sF_same9)
            exact ih s66 hw69 (by omega)
          · have i71 := neI c60
            exact ⟨hw, trivial⟩
      · have i75 := neI c56
        exact ⟨hw, trivial⟩
set_option maxRecDepth 100000 in
set_option maxHeartbeats 4000000 in
theorem wX3_step {σ : sg} (hw : WD σ) : WD (fX3_step σ) := by
  have k0 : (0 : Int32).toInt = 0 := rfl
  have k1 : (1 : Int32).toInt = 1 := rfl
  have k3 : (3 : Int32).toInt = 3 := rfl
  have k4 : (4 : Int32).toInt = 4 := rfl
  rw [show fX3_step σ = _ from fX3_step.eq_1 ..]
  refine wf_bnd (fun r14 e15 => ?_)
  obtain ⟨hw16, _⟩ := (show PLX3_step_0 r14 from by rw [e15]; exact wLX3_step_0 121 σ hw (by have := wd_next hw; omega))
  have w17 := wd_next hw16
  refine wf_bnd (fun s18 e19 => ?_)
  have hw20 : WD s18 := by rw [e19]; exact wdF hw16 (by omega)
  have n21 := congrArg Int32.toInt (show rF s18 24 = rF r14 24 by rw [e19]; exact sF_other (by decide))
  refine wf_bnd (fun s22 e23 => ?_)
  have hw24 : WD s22 := by rw [e23]; exact wdF hw20 (by omega)
  have n25 := congrArg Int32.toInt (show rF s22 24 = rF s18 24 by rw [e23]; exact sF_other (by decide))
  refine wf_ite (fun c26 => ?_) (fun c26 => ?_)
  · have i105 := eqI c26
    have w27 := wd_next hw24
    have sb := stepB (by assumption) e19 e23 (by first | exact Or.inl (by assumption) | exact Or.inr (by assumption))
    have a30 := addI (x := (rF s22 24)) (y := 1) (by omega) (by omega)
    refine wf_bnd (fun s28 e29 => ?_)
    have hw31 : WD s28 := by rw [e29]; exact wdFn hw24 (by omega) (by omega)
    have f32 := congrArg Int32.toInt (show rF s28 24 = ((rF s22 24) + 1) by rw [e29]; exact sF_same9)
    refine wf_bnd (fun s33 e34 => ?_)
    have hw35 : WD s33 := by rw [e34]; exact wdF hw31 (by omega)
    have n36 := congrArg Int32.toInt (show rF s33 24 = rF s28 24 by rw [e34]; exact sF_other (by decide))
    refine wf_bnd (fun r79 e80 => ?_)
    obtain ⟨hw81, _⟩ := (show PLX3_step_91 r79 from by rw [e80]; exact wLX3_step_91 121 s33 hw35 (by have := wd_next hw35; omega))
    exact hw81
  · have i106 := neI c26
    refine wf_ite (fun c82 => ?_) (fun c82 => ?_)
    · have i104 := eqI c82
      have w90 := wd_next hw24
      have sb := stepB (by assumption) e19 e23 (by first | exact Or.inl (by assumption) | exact Or.inr (by assumption))
      have a93 := addI (x := (rF s22 24)) (y := 1) (by omega) (by omega)
      refine wf_bnd (fun s91 e92 => ?_)
      have hw94 : WD s91 := by rw [e92]; exact wdFn hw24 (by omega) (by omega)
      have f95 := congrArg Int32.toInt (show rF s91 24 = ((rF s22 24) + 1) by rw [e92]; exact sF_same9)
      refine wf_bnd (fun s96 e97 => ?_)
      have hw98 : WD s96 := by rw [e97]; exact wdF hw94 (by omega)
      have n99 := congrArg Int32.toInt (show rF s96 24 = rF s91 24 by rw [e97]; exact sF_other (by decide))
      refine wf_bnd (fun r100 e101 => ?_)
      obtain ⟨hw102, _⟩ := (show PLX3_step_91 r100 from by rw [e101]; exact wLX3_step_91 121 s96 hw98 (by have := wd_next hw98; omega))
      exact hw102
    · have i103 := neI c82
      refine wf_bnd (fun s83 e84 => ?_)
      have hw85 : WD s83 := by rw [e84]; exact wdF hw24 (by omega)
      have n86 := congrArg Int32.toInt (show rF s83 24 = rF s22 24 by rw [e84]; exact sF_other (by decide))
      refine wf_bnd (fun r87 e88 => ?_)
      obtain ⟨hw89, _⟩ := (show PLX3_step_91 r87 from by rw [e88]; exact wLX3_step_91 121 s83 hw85 (by have := wd_next hw85; omega))
      exact hw89
set_option maxRecDepth 100000 in
set_option maxHeartbeats 4000000 in
theorem wX3_takesWord (w1 : Nat) (hw1 : w1 < 18) {σ : sg} (hw : WD σ) : WDi (fX3_takesWord w1 σ) := by
  have k0 : (0 : Int32).toInt = 0 := rfl
  rw [show fX3_takesWord w1 σ = _ from fX3_takesWord.eq_1 ..]
  refine wf_ite (fun c1 => ?_) (fun c1 => ?_)
  · have i5 := eqI c1
    exact hw
  · have i6 := neI c1
    refine wf_bnd (fun r2 e3 => ?_)
    have hw4 : WD r2 := by rw [e3]; exact wX3_step  hw 
    exact hw4
set_option maxRecDepth 100000 in
set_option maxHeartbeats 4000000 in
theorem wX3_takeNumber (v1 : Int32) (v2 : Int32) {σ : sg} (hw : WD σ) : WDi (fX3_takeNumber v1 v2 σ) := by
  have km1 : ((-1) : Int32).toInt = -1 := rfl
  have k0 : (0 : Int32).toInt = 0 := rfl
  have k2 : (2 : Int32).toInt = 2 := rfl
  rw [show fX3_takeNumber v1 v2 σ = _ from fX3_takeNumber.eq_1 ..]
  refine wf_ite (fun c1 => ?_) (fun c1 => ?_)
  · have i11 := eqI c1
    refine wf_ite (fun c2 => ?_) (fun c2 => ?_)
    · have i8 := eqI c2
      have b9 := isW_f c2
      exact hw
    · have i6 := neI c2
      have b7 := isW_t c2
      refine wf_bnd (fun r3 e4 => ?_)
      have hw5 : WD r3 := by rw [e4]; exact wX3_step  hw 
      exact hw5
  · have i10 := neI c1
    exact hw
theorem b01_X3_readDeed (i1 : Nat) (v2 : Int32) (σ : sg) : P01 (fX3_readDeed i1 v2 σ) := by
  rw [show fX3_readDeed i1 v2 σ = _ from fX3_readDeed.eq_1 ..]
  refine wf_ite (fun c1 => ?_) (fun c1 => ?_)
  · refine wf_bnd (fun r2 e3 => ?_)
    refine wf_bnd (fun r5 e6 => ?_)
    refine wf_ite (fun c8 => ?_) (fun c8 => ?_)
    · exact (Or.inl rfl)
    · refine wf_bnd (fun r9 e10 => ?_)
      refine wf_ite (fun c12 => ?_) (fun c12 => ?_)
      · refine wf_bnd (fun r13 e14 => ?_)
        refine wf_ite (fun c16 => ?_) (fun c16 => ?_)
        · refine wf_bnd (fun r17 e18 => ?_)
          exact (Or.inr rfl)
        · refine wf_bnd (fun r22 e23 => ?_)
          refine wf_ite (fun c25 => ?_) (fun c25 => ?_)
          · exact (Or.inl rfl)
          · refine wf_bnd (fun r26 e27 => ?_)
            exact (Or.inr rfl)
      · refine wf_bnd (fun r33 e34 => ?_)
        refine wf_ite (fun c36 => ?_) (fun c36 => ?_)
        · exact (Or.inl rfl)
        · refine wf_bnd (fun r37 e38 => ?_)
          refine wf_ite (fun c40 => ?_) (fun c40 => ?_)
          · refine wf_bnd (fun r41 e42 => ?_)
            exact (Or.inr rfl)
          · refine wf_bnd (fun r46 e47 => ?_)
            refine wf_ite (fun c49 => ?_) (fun c49 => ?_)
            · exact (Or.inl rfl)
            · refine wf_bnd (fun r50 e51 => ?_)
              exact (Or.inr rfl)
  · exact (Or.inl rfl)
set_option maxRecDepth 100000 in
set_option maxHeartbeats 4000000 in
theorem wX3_readDeed (i1 : Nat) (hi1 : i1 < 3) (v2 : Int32) {σ : sg} (hw : WD σ) : WDi (fX3_readDeed i1 v2 σ) := by
  have km1 : ((-1) : Int32).toInt = -1 := rfl
  have k0 : (0 : Int32).toInt = 0 := rfl
  have k1 : (1 : Int32).toInt = 1 := rfl
  have k5 : (5 : Int32).toInt = 5 := rfl
  have k40 : (40 : Int32).toInt = 40 := rfl
  have k99 : (99 : Int32).toInt = 99 := rfl
  rw [show fX3_readDeed i1 v2 σ = _ from fX3_readDeed.eq_1 ..]
  refine wf_ite (fun c1 => ?_) (fun c1 => ?_)
  · have i63 := eqI c1
    have b64 := isF_f c1
    refine wf_bnd (fun r2 e3 => ?_)
    have hw4 : WD r2 := by rw [e3]; exact wX3_step  hw 
    refine wf_bnd (fun r5 e6 => ?_)
    have hw7 : WD r5.2 := by rw [e6]; exact wX3_takeNumber 0 5 hw4 
    have tnr5 := tn_f e6
    refine wf_ite (fun c8 => ?_) (fun c8 => ?_)
    · have i62 := eqI c8
      exact hw7
    · have i61 := neI c8
      refine wf_bnd (fun r9 e10 => ?_)
      have hw11 : WD r9.2 := by rw [e10]; exact wX3_takesWord 11 (by decide) hw7 
      refine wf_ite (fun c12 => ?_) (fun c12 => ?_)
      · have i59 := eqI c12
        refine wf_bnd (fun r13 e14 => ?_)
        have hw15 : WD r13.2 := by rw [e14]; exact wX3_takesWord 12 (by decide) hw11 
        refine wf_ite (fun c16 => ?_) (fun c16 => ?_)
        · have i31 := eqI c16
          refine wf_bnd (fun r17 e18 => ?_)
          have hw19 : WD r17.2 := by rw [e18]; exact wX0_addDeed i1 hi1 v2 r5.1 40 (-1) hw15 (by omega)
          exact hw19
        · have i32 := neI c16
          have w20 := wd_deeds hw15 hi1
          have a21 := subI (x := (rF r13.2 (7 * i1 + 1))) (y := 1) (by omega) (by omega)
          refine wf_bnd (fun r22 e23 => ?_)
          have hw24 : WD r22.2 := by rw [e23]; exact wX3_takeNumber 0 ((rF r13.2 (7 * i1 + 1)) - 1) hw15 
          have tnr22 := tn_f e23
          refine wf_ite (fun c25 => ?_) (fun c25 => ?_)
          · have i30 := eqI c25
            exact hw24
          · have i29 := neI c25
            refine wf_bnd (fun r26 e27 => ?_)
            have hw28 : WD r26.2 := by rw [e27]; exact wX0_addDeed i1 hi1 v2 r5.1 40 r22.1 hw24 (by omega)
            exact hw28
      · have i60 := neI c12
        refine wf_bnd (fun r33 e34 => ?_)
        have hw35 : WD r33.2 := by rw [e34]; exact wX3_takeNumber 1 99 hw11 
        have tnr33 := tn_f e34
        refine wf_ite (fun c36 => ?_) (fun c36 => ?_)
        · have i58 := eqI c36
          exact hw35
        · have i57 := neI c36
          refine wf_bnd (fun r37 e38 => ?_)
          have hw39 : WD r37.2 := by rw [e38]; exact wX3_takesWord 12 (by decide) hw35 
          refine wf_ite (fun c40 => ?_) (fun c40 => ?_)
          · have i55 := eqI c40
            refine wf_bnd (fun r41 e42 => ?_)
            have hw43 : WD r41.2 := by rw [e42]; exact wX0_addDeed i1 hi1 v2 r5.1 r33.1 (-1) hw39 (by omega)
            exact hw43
          · have i56 := neI c40
            have w44 := wd_deeds hw39 hi1
            have a45 := subI (x := (rF r37.2 (7 * i1 + 1))) (y := 1) (by omega) (by omega)
            refine wf_bnd (fun r46 e47 => ?_)
            have hw48 : WD r46.2 := by rw [e47]; exact wX3_takeNumber 0 ((rF r37.2 (7 * i1 + 1)) - 1) hw39 
            have tnr46 := tn_f e47
            refine wf_ite (fun c49 => ?_) (fun c49 => ?_)
            · have i54 := eqI c49
              exact hw48
            · have i53 := neI c49
              refine wf_bnd (fun r50 e51 => ?_)
              have hw52 : WD r50.2 := by rw [e51]; exact wX0_addDeed i1 hi1 v2 r5.1 r33.1 r46.1 hw48 (by omega)
              exact hw52
  · have i65 := neI c1
    exact hw
theorem b01_X3_readShutter (i1 : Nat) (σ : sg) : P01 (fX3_readShutter i1 σ) := by
  rw [show fX3_readShutter i1 σ = _ from fX3_readShutter.eq_1 ..]
  refine wf_bnd (fun r1 e2 => ?_)
  refine wf_ite (fun c4 => ?_) (fun c4 => ?_)
  · exact (Or.inl rfl)
  · refine wf_bnd (fun r5 e6 => ?_)
    refine wf_ite (fun c8 => ?_) (fun c8 => ?_)
    · refine wf_bnd (fun r12 e13 => ?_)
      refine wf_ite (fun c15 => ?_) (fun c15 => ?_)
      · exact (Or.inl rfl)
      · refine wf_bnd (fun r16 e17 => ?_)
        exact (Or.inr rfl)
    · refine wf_bnd (fun r9 e10 => ?_)
      exact (Or.inr rfl)
set_option maxRecDepth 100000 in
set_option maxHeartbeats 4000000 in
theorem wX3_readShutter (i1 : Nat) (hi1 : i1 < 3) {σ : sg} (hw : WD σ) : WDi (fX3_readShutter i1 σ) := by
  have km1 : ((-1) : Int32).toInt = -1 := rfl
  have k0 : (0 : Int32).toInt = 0 := rfl
  have k1 : (1 : Int32).toInt = 1 := rfl
  have k5 : (5 : Int32).toInt = 5 := rfl
  rw [show fX3_readShutter i1 σ = _ from fX3_readShutter.eq_1 ..]
  refine wf_bnd (fun r1 e2 => ?_)
  have hw3 : WD r1.2 := by rw [e2]; exact wX3_takeNumber 0 5 hw 
  have tnr1 := tn_f e2
  refine wf_ite (fun c4 => ?_) (fun c4 => ?_)
  · have i24 := eqI c4
    exact hw3
  · have i23 := neI c4
    refine wf_bnd (fun r5 e6 => ?_)
    have hw7 : WD r5.2 := by rw [e6]; exact wX3_takesWord 13 (by decide) hw3 
    refine wf_ite (fun c8 => ?_) (fun c8 => ?_)
    · have i22 := eqI c8
      refine wf_bnd (fun r12 e13 => ?_)
      have hw14 : WD r12.2 := by rw [e13]; exact wX3_takesWord 14 (by decide) hw7 
      refine wf_ite (fun c15 => ?_) (fun c15 => ?_)
      · have i20 := eqI c15
        exact hw14
      · have i19 := neI c15
        refine wf_bnd (fun r16 e17 => ?_)
        have hw18 : WD r16 := by rw [e17]; exact wX0_setShutter i1 hi1 r1.1 r5.1 hw14 
        exact hw18
    · have i21 := neI c8
      refine wf_bnd (fun r9 e10 => ?_)
      have hw11 : WD r9 := by rw [e10]; exact wX0_setShutter i1 hi1 r1.1 r5.1 hw7 
      exact hw11
theorem b01_X3_readIce (i1 : Nat) (σ : sg) : P01 (fX3_readIce i1 σ) := by
  rw [show fX3_readIce i1 σ = _ from fX3_readIce.eq_1 ..]
  refine wf_bnd (fun r1 e2 => ?_)
  refine wf_ite (fun c4 => ?_) (fun c4 => ?_)
  · exact (Or.inl rfl)
  · refine wf_bnd (fun r5 e6 => ?_)
    refine wf_ite (fun c8 => ?_) (fun c8 => ?_)
    · exact (Or.inl rfl)
    · refine wf_bnd (fun s9 e10 => ?_)
      exact (Or.inr rfl)
set_option maxRecDepth 100000 in
set_option maxHeartbeats 4000000 in
theorem wX3_readIce (i1 : Nat) (hi1 : i1 < 3) {σ : sg} (hw : WD σ) : WDi (fX3_readIce i1 σ) := by
  have km1 : ((-1) : Int32).toInt = -1 := rfl
  have k0 : (0 : Int32).toInt = 0 := rfl
  have k1 : (1 : Int32).toInt = 1 := rfl
  have k5 : (5 : Int32).toInt = 5 := rfl
  have k99 : (99 : Int32).toInt = 99 := rfl
  rw [show fX3_readIce i1 σ = _ from fX3_readIce.eq_1 ..]
  refine wf_bnd (fun r1 e2 => ?_)
  have hw3 : WD r1.2 := by rw [e2]; exact wX3_takeNumber 0 5 hw 
  have tnr1 := tn_f e2
  refine wf_ite (fun c4 => ?_) (fun c4 => ?_)
  · have i15 := eqI c4
    exact hw3
  · have i14 := neI c4
    refine wf_bnd (fun r5 e6 => ?_)
    have hw7 : WD r5.2 := by rw [e6]; exact wX3_takeNumber 0 99 hw3 
    have tnr5 := tn_f e6
    refine wf_ite (fun c8 => ?_) (fun c8 => ?_)
    · have i13 := eqI c8
      exact hw7
    · have i12 := neI c8
      refine wf_bnd (fun s9 e10 => ?_)
      have hw11 : WD s9 := by rw [e10]; exact wdA hw7 (by have := hi1; omega)
      exact hw11
theorem b01_X3_readCandle (i1 : Nat) (σ : sg) : P01 (fX3_readCandle i1 σ) := by
  rw [show fX3_readCandle i1 σ = _ from fX3_readCandle.eq_1 ..]
  refine wf_bnd (fun r1 e2 => ?_)
  refine wf_ite (fun c4 => ?_) (fun c4 => ?_)
  · exact (Or.inl rfl)
  · refine wf_bnd (fun r5 e6 => ?_)
    refine wf_ite (fun c8 => ?_) (fun c8 => ?_)
    · refine wf_bnd (fun r12 e13 => ?_)
      refine wf_ite (fun c15 => ?_) (fun c15 => ?_)
      · exact (Or.inl rfl)
      · refine wf_bnd (fun r16 e17 => ?_)
        exact (Or.inr rfl)
    · refine wf_bnd (fun r9 e10 => ?_)
      exact (Or.inr rfl)
set_option maxRecDepth 100000 in
set_option maxHeartbeats 4000000 in
theorem wX3_readCandle (i1 : Nat) (hi1 : i1 < 3) {σ : sg} (hw : WD σ) : WDi (fX3_readCandle i1 σ) := by
  have km1 : ((-1) : Int32).toInt = -1 := rfl
  have k0 : (0 : Int32).toInt = 0 := rfl
  have k1 : (1 : Int32).toInt = 1 := rfl
  have k5 : (5 : Int32).toInt = 5 := rfl
  rw [show fX3_readCandle i1 σ = _ from fX3_readCandle.eq_1 ..]
  refine wf_bnd (fun r1 e2 => ?_)
  have hw3 : WD r1.2 := by rw [e2]; exact wX3_takeNumber 0 5 hw 
  have tnr1 := tn_f e2
  refine wf_ite (fun c4 => ?_) (fun c4 => ?_)
  · have i24 := eqI c4
    exact hw3
  · have i23 := neI c4
    refine wf_bnd (fun r5 e6 => ?_)
    have hw7 : WD r5.2 := by rw [e6]; exact wX3_takesWord 15 (by decide) hw3 
    refine wf_ite (fun c8 => ?_) (fun c8 => ?_)
    · have i22 := eqI c8
      refine wf_bnd (fun r12 e13 => ?_)
      have hw14 : WD r12.2 := by rw [e13]; exact wX3_takesWord 16 (by decide) hw7 
      refine wf_ite (fun c15 => ?_) (fun c15 => ?_)
      · have i20 := eqI c15
        exact hw14
      · have i19 := neI c15
        refine wf_bnd (fun r16 e17 => ?_)
        have hw18 : WD r16 := by rw [e17]; exact wX0_setCandle i1 hi1 r1.1 r5.1 hw14 
        exact hw18
    · have i21 := neI c8
      refine wf_bnd (fun r9 e10 => ?_)
      have hw11 : WD r9 := by rw [e10]; exact wX0_setCandle i1 hi1 r1.1 r5.1 hw7 
      exact hw11
theorem b01_X3_readSummer (i1 : Nat) (σ : sg) : P01 (fX3_readSummer i1 σ) := by
  rw [show fX3_readSummer i1 σ = _ from fX3_readSummer.eq_1 ..]
  refine wf_bnd (fun r1 e2 => ?_)
  refine wf_ite (fun c4 => ?_) (fun c4 => ?_)
  · exact (Or.inl rfl)
  · refine wf_bnd (fun s5 e6 => ?_)
    exact (Or.inr rfl)
set_option maxRecDepth 100000 in
set_option maxHeartbeats 4000000 in
theorem wX3_readSummer (i1 : Nat) (hi1 : i1 < 3) {σ : sg} (hw : WD σ) : WDi (fX3_readSummer i1 σ) := by
  have km1 : ((-1) : Int32).toInt = -1 := rfl
  have k0 : (0 : Int32).toInt = 0 := rfl
  have k1 : (1 : Int32).toInt = 1 := rfl
  have k40 : (40 : Int32).toInt = 40 := rfl
  rw [show fX3_readSummer i1 σ = _ from fX3_readSummer.eq_1 ..]
  refine wf_bnd (fun r1 e2 => ?_)
  have hw3 : WD r1.2 := by rw [e2]; exact wX3_takeNumber 0 40 hw 
  have tnr1 := tn_f e2
  refine wf_ite (fun c4 => ?_) (fun c4 => ?_)
  · have i9 := eqI c4
    exact hw3
  · have i8 := neI c4
    refine wf_bnd (fun s5 e6 => ?_)
    have hw7 : WD s5 := by rw [e6]; exact wdF hw3 (by have := hi1; omega)
    exact hw7
set_option maxRecDepth 100000 in
set_option maxHeartbeats 4000000 in
theorem wX3_readItem (i1 : Nat) (hi1 : i1 < 3) {σ : sg} (hw : WD σ) : WDi (fX3_readItem i1 σ) := by
  have km1 : ((-1) : Int32).toInt = -1 := rfl
  have k0 : (0 : Int32).toInt = 0 := rfl
  have k1 : (1 : Int32).toInt = 1 := rfl
  rw [show fX3_readItem i1 σ = _ from fX3_readItem.eq_1 ..]
  refine wf_ite (fun c1 => ?_) (fun c1 => ?_)
  · have i44 := eqI c1
    refine wf_bnd (fun r2 e3 => ?_)
    have hw4 : WD r2.2 := by rw [e3]; exact wX3_takesWord 7 (by decide) hw 
    refine wf_ite (fun c5 => ?_) (fun c5 => ?_)
    · have i39 := eqI c5
      refine wf_bnd (fun r6 e7 => ?_)
      have hw8 : WD r6.2 := by rw [e7]; exact wX3_takesWord 8 (by decide) hw4 
      refine wf_ite (fun c9 => ?_) (fun c9 => ?_)
      · have i34 := eqI c9
        refine wf_bnd (fun r10 e11 => ?_)
        have hw12 : WD r10.2 := by rw [e11]; exact wX3_takesWord 9 (by decide) hw8 
        refine wf_ite (fun c13 => ?_) (fun c13 => ?_)
        · have i29 := eqI c13
          refine wf_bnd (fun r14 e15 => ?_)
          have hw16 : WD r14.2 := by rw [e15]; exact wX3_takesWord 10 (by decide) hw12 
          refine wf_ite (fun c17 => ?_) (fun c17 => ?_)
          · have i24 := eqI c17
            exact hw16
          · have i25 := neI c17
            refine wf_bnd (fun r18 e19 => ?_)
            have hw20 : WD r18.2 := by rw [e19]; exact wX3_readSummer i1 hi1 hw16 
            refine wf_ite (fun c21 => ?_) (fun c21 => ?_)
            · have i22 := eqI c21
              exact hw20
            · have i23 := neI c21
              exact hw20
        · have i30 := neI c13
          refine wf_bnd (fun r26 e27 => ?_)
          have hw28 : WD r26.2 := by rw [e27]; exact wX3_readCandle i1 hi1 hw12 
          exact hw28
      · have i35 := neI c9
        refine wf_bnd (fun r31 e32 => ?_)
        have hw33 : WD r31.2 := by rw [e32]; exact wX3_readIce i1 hi1 hw8 
        exact hw33
    · have i40 := neI c5
      refine wf_bnd (fun r36 e37 => ?_)
      have hw38 : WD r36.2 := by rw [e37]; exact wX3_readShutter i1 hi1 hw4 
      exact hw38
  · have i45 := neI c1
    refine wf_bnd (fun r41 e42 => ?_)
    have hw43 : WD r41.2 := by rw [e42]; exact wX3_readDeed i1 hi1 (fX3_kindOfWord σ) hw 
    exact hw43
set_option maxRecDepth 100000 in
set_option maxHeartbeats 4000000 in
theorem wLX3_readText_11 (i1 : Nat) (hi1 : i1 < 3) : ∀ (k : Nat) (v2 : Int32) (σ : sg) (hw : WD σ) (hv2 : 0 ≤ v2.toInt ∧ v2.toInt ≤ 120) (hmu : (120 - v2.toInt).toNat < k), WDi (LX3_readText_11 i1 k v2 σ) := by
  intro k
  induction k with
  | zero => intro v2 σ hw hv2 hmu; exact absurd hmu (Nat.not_lt_zero _)
  | succ k ih =>
    intro v2 σ hw hv2 hmu
    have km1 : ((-1) : Int32).toInt = -1 := rfl
    have k0 : (0 : Int32).toInt = 0 := rfl
    have k1 : (1 : Int32).toInt = 1 := rfl
    have k3 : (3 : Int32).toInt = 3 := rfl
    have k120 : (120 : Int32).toInt = 120 := rfl
    rw [show LX3_readText_11 i1 (k + 1) v2 σ = _ from LX3_readText_11.eq_2 ..]
    refine wf_ite (fun c8 => ?_) (fun c8 => ?_)
    · have i25 := leI c8
      exact hw
    · have i26 := nleI c8
      refine wf_bnd (fun r9 e10 => ?_)
      have hw11 : WD r9.2 := by rw [e10]; exact wX3_readItem i1 hi1 hw 
      refine wf_ite (fun c12 => ?_) (fun c12 => ?_)
      · have i23 := eqI c12
        exact hw11
      · have i24 := neI c12
        refine wf_ite (fun c13 => ?_) (fun c13 => ?_)
        · have i22 := eqI c13
          exact hw11
        · have i21 := neI c13
          refine wf_ite (fun c14 => ?_) (fun c14 => ?_)
          · have i19 := eqI c14
            refine wf_bnd (fun r15 e16 => ?_)
            have hw17 : WD r15 := by rw [e16]; exact wX3_step  hw11 
            have a18 := addI (x := v2) (y := 1) (by omega) (by omega)
            exact ih (v2 + 1) r15 hw17 (by omega) (by omega)
          · have i20 := neI c14
            exact hw11
set_option maxRecDepth 100000 in
set_option maxHeartbeats 4000000 in
theorem wX3_readText (i1 : Nat) (hi1 : i1 < 3) {σ : sg} (hw : WD σ) : WDi (fX3_readText i1 σ) := by
  have k0 : (0 : Int32).toInt = 0 := rfl
  rw [show fX3_readText i1 σ = _ from fX3_readText.eq_1 ..]
  refine wf_bnd (fun s1 e2 => ?_)
  have hw3 : WD s1 := by rw [e2]; exact wdFn hw (by omega) (by omega)
  have f4 := congrArg Int32.toInt (show rF s1 24 = 0 by rw [e2]; exact sF_same9)
  refine wf_bnd (fun r5 e6 => ?_)
  have hw7 : WD r5 := by rw [e6]; exact wX3_step  hw3 
  exact wLX3_readText_11 i1 hi1 121 0 r5 hw7 (by omega) (by omega)
set_option maxRecDepth 100000 in
set_option maxHeartbeats 4000000 in
theorem wX4_text {σ : sg} (hw : WD σ) : WDi (fX4_text σ) := by
  have k0 : (0 : Int32).toInt = 0 := rfl
  rw [show fX4_text σ = _ from fX4_text.eq_1 ..]
  refine wf_bnd (fun r1 e2 => ?_)
  have hw3 : WD r1 := by rw [e2]; exact wX0_take 1 (show 1 < 3 by decide) 0 (show 0 < 3 by decide) hw 
  refine wf_bnd (fun r4 e5 => ?_)
  have hw6 : WD r4.2 := by rw [e5]; exact wX3_readText 1 (show 1 < 3 by decide) hw3 
  refine wf_bnd (fun s7 e8 => ?_)
  have hw9 : WD s7 := by rw [e8]; exact wdFl hw6 (by omega) (by omega)
  have f10 := congrArg Int32.toInt (show rF s7 22 = 0 by rw [e8]; exact sF_same9)
  have n11 := congrArg Int32.toInt (show rF s7 24 = rF r4.2 24 by rw [e8]; exact sF_other (by decide))
  refine wf_ite (fun c12 => ?_) (fun c12 => ?_)
  · have i16 := ltI c12
    exact hw9
  · have i17 := nltI c12
    refine wf_bnd (fun r13 e14 => ?_)
    have hw15 : WD r13 := by rw [e14]; exact wX0_take 0 (show 0 < 3 by decide) 1 (show 1 < 3 by decide) hw9 
    exact hw15
theorem hdV_X3_byteAt : yX3_byteAt.cls = RX3 ∧ yX3_byteAt.cls ≠ "java/lang/invoke/MethodHandle" ∧ yX3_byteAt.cls ≠ "java/lang/invoke/VarHandle" ∧ (parseMethodDescriptor yX3_byteAt.desc).map (fun d => d.parameters.length) = some 1 := by decide +kernel
theorem mX3_byteAt_f15 : Cond.fieldLink RX3 15 "WaxTreaties$Tape" "length" "I" ∈ wsX3_byteAt := List.mem_of_getElem? (i := 1) rfl
theorem iwX3_byteAt_X3 : ∀ w ∈ wsX30, w ∈ wsX3_byteAt := fun w h => List.mem_cons_of_mem _ (List.mem_append_right _ h)
theorem mX3_byteAt_f9 : Cond.fieldLink RX3 9 "WaxTreaties$Tape" "bytes" "[I" ∈ wsX3_byteAt := List.mem_of_getElem? (i := 2) rfl
set_option maxRecDepth 100000 in
set_option maxHeartbeats 4000000 in
theorem kX3_byteAt (l : Launch) {G : gT} (hN : wN G) (hG : gfl G = true) (v1 : Int32) (σ : sg) (hw : WD σ) : cM l yX3_byteAt wsX3_byteAt rmX3_byteAt G [.ref (gob G 4), .int v1] σ (some (.int (fX3_byteAt v1 σ))) σ := by
  refine cM_of (maxL := 2) (ret := (some .int)) (cc := cX3_byteAt) (fX3_byteAt v1 σ) RX3 hN (by decide +kernel) rfl rfl (Nat.le_of_ble_eq_true rfl) rfl ?_
  intro p e s m args below meth c K hr
  have km1 : ((-1) : Int32).toInt = -1 := rfl
  have k0 : (0 : Int32).toInt = 0 := rfl
  have k120 : (120 : Int32).toInt = 120 := rfl
  refine qq_st (lv' := [some (.ref (gob G 4)), some (.int v1)]) rfl rfl rfl ?_
  refine qq_T (fX3_byteAt.eq_1 ..) ?_
  refine q_iload_n (pc := 0) K dX3_byteAt_0 rfl rfl ?_
  refine q_if_lt (pc := 1) (tgt := 27) K dX3_byteAt_1 (by decide) (fun c1 => ?_) (fun c1 => ?_)
  · have i9 := ltI c1
    refine q_iconst (pc := 27) (v := (-1)) K dX3_byteAt_27 (by decide) ?_
    exact q_iretP K hr dX3_byteAt_28
  · have i10 := nltI c1
    refine q_iload_n (pc := 4) K dX3_byteAt_4 rfl rfl ?_
    refine q_aload_n (pc := 5) K dX3_byteAt_5 rfl rfl ?_
    refine q_get (pc := 6) (o := 4) (f := 1) (v := .int (rF σ 22)) K (wO_tp hG) vw_2 iwX3_byteAt_X3 (by decide) mX3_byteAt_f15 rfl dX3_byteAt_6 ?_
    have w2 := wd_len hw
    refine q_icmp_ge (pc := 9) (tgt := 27) K dX3_byteAt_9 (by decide) (fun c3 => ?_) (fun c3 => ?_)
    · have i7 := leI c3
      refine q_iconst (pc := 27) (v := (-1)) K dX3_byteAt_27 (by decide) ?_
      exact q_iretP K hr dX3_byteAt_28
    · have i8 := nleI c3
      refine q_iload_n (pc := 12) K dX3_byteAt_12 rfl rfl ?_
      refine q_bipush (pc := 13) (v := 120) K dX3_byteAt_13 (by decide) ?_
      refine q_icmp_ge (pc := 15) (tgt := 27) K dX3_byteAt_15 (by decide) (fun c4 => ?_) (fun c4 => ?_)
      · have i5 := leI c4
        refine q_iconst (pc := 27) (v := (-1)) K dX3_byteAt_27 (by decide) ?_
        exact q_iretP K hr dX3_byteAt_28
      · have i6 := nleI c4
        refine q_aload_n (pc := 18) K dX3_byteAt_18 rfl rfl ?_
        refine q_get (pc := 19) (o := 4) (f := 0) (v := .ref (gad G 24)) K (wO_tp hG) vw_2 iwX3_byteAt_X3 (by decide) mX3_byteAt_f9 rfl dX3_byteAt_19 ?_
        refine q_iload_n (pc := 22) K dX3_byteAt_22 rfl rfl ?_
        refine q_iald (pc := 23) (a := 24) K (by rw [wna_t hG]; decide) (vinN (wld (n := 120) hG 24 rfl) (by omega) (by omega)) dX3_byteAt_23 ?_
        refine q_goto (pc := 24) (tgt := 28) K dX3_byteAt_24 (by decide) ?_
        exact q_iretP K hr dX3_byteAt_28
theorem hdS_X3_sortOf : yX3_sortOf.cls ≠ "java/lang/invoke/MethodHandle" ∧ yX3_sortOf.cls ≠ "java/lang/invoke/VarHandle" ∧ (parseMethodDescriptor yX3_sortOf.desc).map (fun d => d.parameters.length) = some 1 := by decide +kernel
set_option maxRecDepth 100000 in
set_option maxHeartbeats 4000000 in
theorem kX3_sortOf (l : Launch) {G : gT} (hN : wN G) (v0 : Int32) (σ : sg) : cM l yX3_sortOf wsX3_sortOf rmX3_sortOf G [.int v0] σ (some (.int (fX3_sortOf v0))) σ := by
  refine cM_of (maxL := 1) (ret := (some .int)) (cc := cX3_sortOf) (fX3_sortOf v0) RX3 hN (by decide +kernel) rfl rfl (Nat.le_of_ble_eq_true rfl) rfl ?_
  intro p e s m args below meth c K hr
  have km1 : ((-1) : Int32).toInt = -1 := rfl
  have k0 : (0 : Int32).toInt = 0 := rfl
  have k1 : (1 : Int32).toInt = 1 := rfl
  have k2 : (2 : Int32).toInt = 2 := rfl
  have k3 : (3 : Int32).toInt = 3 := rfl
  have k4 : (4 : Int32).toInt = 4 := rfl
  have k48 : (48 : Int32).toInt = 48 := rfl
  have k57 : (57 : Int32).toInt = 57 := rfl
  have k59 : (59 : Int32).toInt = 59 := rfl
  have k97 : (97 : Int32).toInt = 97 := rfl
  have k122 : (122 : Int32).toInt = 122 := rfl
  refine qq_st (lv' := [some (.int v0)]) rfl rfl rfl ?_
  refine qq_T (fX3_sortOf.eq_1 ..) ?_
  refine q_iload_n (pc := 0) K dX3_sortOf_0 rfl rfl ?_
  refine q_iconst (pc := 1) (v := (-1)) K dX3_sortOf_1 (by decide) ?_
  refine q_icmp_ne (pc := 2) (tgt := 7) K dX3_sortOf_2 (by decide) (fun c1 => ?_) (fun c1 => ?_)
  · have i32 := neI c1
    refine q_iload_n (pc := 7) K dX3_sortOf_7 rfl rfl ?_
    refine q_bipush (pc := 8) (v := 97) K dX3_sortOf_8 (by decide) ?_
    refine q_icmp_lt (pc := 10) (tgt := 21) K dX3_sortOf_10 (by decide) (fun c2 => ?_) (fun c2 => ?_)
    · have i30 := ltI c2
      refine q_iload_n (pc := 21) K dX3_sortOf_21 rfl rfl ?_
      refine q_bipush (pc := 22) (v := 48) K dX3_sortOf_22 (by decide) ?_
      refine q_icmp_lt (pc := 24) (tgt := 35) K dX3_sortOf_24 (by decide) (fun c3 => ?_) (fun c3 => ?_)
      · have i13 := ltI c3
        refine q_iload_n (pc := 35) K dX3_sortOf_35 rfl rfl ?_
        refine q_bipush (pc := 36) (v := 59) K dX3_sortOf_36 (by decide) ?_
        refine q_icmp_ne (pc := 38) (tgt := 45) K dX3_sortOf_38 (by decide) (fun c4 => ?_) (fun c4 => ?_)
        · have i5 := neI c4
          refine q_iconst (pc := 45) (v := 4) K dX3_sortOf_45 (by decide) ?_
          exact q_iretP K hr dX3_sortOf_46
        · have i6 := eqI c4
          refine q_iconst (pc := 41) (v := 3) K dX3_sortOf_41 (by decide) ?_
          refine q_goto (pc := 42) (tgt := 46) K dX3_sortOf_42 (by decide) ?_
          exact q_iretP K hr dX3_sortOf_46
      · have i14 := nltI c3
        refine q_iload_n (pc := 27) K dX3_sortOf_27 rfl rfl ?_
        refine q_bipush (pc := 28) (v := 57) K dX3_sortOf_28 (by decide) ?_
        refine q_icmp_gt (pc := 30) (tgt := 35) K dX3_sortOf_30 (by decide) (fun c7 => ?_) (fun c7 => ?_)
        · have i11 := ltI c7
          refine q_iload_n (pc := 35) K dX3_sortOf_35 rfl rfl ?_
          refine q_bipush (pc := 36) (v := 59) K dX3_sortOf_36 (by decide) ?_
          refine q_icmp_ne (pc := 38) (tgt := 45) K dX3_sortOf_38 (by decide) (fun c8 => ?_) (fun c8 => ?_)
          · have i9 := neI c8
            refine q_iconst (pc := 45) (v := 4) K dX3_sortOf_45 (by decide) ?_
            exact q_iretP K hr dX3_sortOf_46
          · have i10 := eqI c8
            refine q_iconst (pc := 41) (v := 3) K dX3_sortOf_41 (by decide) ?_
            refine q_goto (pc := 42) (tgt := 46) K dX3_sortOf_42 (by decide) ?_
            exact q_iretP K hr dX3_sortOf_46
        · have i12 := nltI c7
          refine q_iconst (pc := 33) (v := 2) K dX3_sortOf_33 (by decide) ?_
          exact q_iretP K hr dX3_sortOf_34
    · have i31 := nltI c2
      refine q_iload_n (pc := 13) K dX3_sortOf_13 rfl rfl ?_
      refine q_bipush (pc := 14) (v := 122) K dX3_sortOf_14 (by decide) ?_
      refine q_icmp_gt (pc := 16) (tgt := 21) K dX3_sortOf_16 (by decide) (fun c15 => ?_) (fun c15 => ?_)
      · have i28 := ltI c15
        refine q_iload_n (pc := 21) K dX3_sortOf_21 rfl rfl ?_
        refine q_bipush (pc := 22) (v := 48) K dX3_sortOf_22 (by decide) ?_
        refine q_icmp_lt (pc := 24) (tgt := 35) K dX3_sortOf_24 (by decide) (fun c16 => ?_) (fun c16 => ?_)
        · have i26 := ltI c16
          refine q_iload_n (pc := 35) K dX3_sortOf_35 rfl rfl ?_
          refine q_bipush (pc := 36) (v := 59) K dX3_sortOf_36 (by decide) ?_
          refine q_icmp_ne (pc := 38) (tgt := 45) K dX3_sortOf_38 (by decide) (fun c17 => ?_) (fun c17 => ?_)
          · have i18 := neI c17
            refine q_iconst (pc := 45) (v := 4) K dX3_sortOf_45 (by decide) ?_
            exact q_iretP K hr dX3_sortOf_46
          · have i19 := eqI c17
            refine q_iconst (pc := 41) (v := 3) K dX3_sortOf_41 (by decide) ?_
            refine q_goto (pc := 42) (tgt := 46) K dX3_sortOf_42 (by decide) ?_
            exact q_iretP K hr dX3_sortOf_46
        · have i27 := nltI c16
          refine q_iload_n (pc := 27) K dX3_sortOf_27 rfl rfl ?_
          refine q_bipush (pc := 28) (v := 57) K dX3_sortOf_28 (by decide) ?_
          refine q_icmp_gt (pc := 30) (tgt := 35) K dX3_sortOf_30 (by decide) (fun c20 => ?_) (fun c20 => ?_)
          · have i24 := ltI c20
            refine q_iload_n (pc := 35) K dX3_sortOf_35 rfl rfl ?_
            refine q_bipush (pc := 36) (v := 59) K dX3_sortOf_36 (by decide) ?_
            refine q_icmp_ne (pc := 38) (tgt := 45) K dX3_sortOf_38 (by decide) (fun c21 => ?_) (fun c21 => ?_)
            · have i22 := neI c21
              refine q_iconst (pc := 45) (v := 4) K dX3_sortOf_45 (by decide) ?_
              exact q_iretP K hr dX3_sortOf_46
            · have i23 := eqI c21
              refine q_iconst (pc := 41) (v := 3) K dX3_sortOf_41 (by decide) ?_
              refine q_goto (pc := 42) (tgt := 46) K dX3_sortOf_42 (by decide) ?_
              exact q_iretP K hr dX3_sortOf_46
          · have i25 := nltI c20
            refine q_iconst (pc := 33) (v := 2) K dX3_sortOf_33 (by decide) ?_
            exact q_iretP K hr dX3_sortOf_34
      · have i29 := nltI c15
        refine q_iconst (pc := 19) (v := 1) K dX3_sortOf_19 (by decide) ?_
        exact q_iretP K hr dX3_sortOf_20
  · have i33 := eqI c1
    refine q_iconst (pc := 5) (v := 0) K dX3_sortOf_5 (by decide) ?_
    exact q_iretP K hr dX3_sortOf_6
theorem hdV_X3_step : yX3_step.cls = RX3 ∧ yX3_step.cls ≠ "java/lang/invoke/MethodHandle" ∧ yX3_step.cls ≠ "java/lang/invoke/VarHandle" ∧ (parseMethodDescriptor yX3_step.desc).map (fun d => d.parameters.length) = some 0 := by decide +kernel
theorem mX3_step_f22 : Cond.fieldLink RX3 22 "WaxTreaties$Tape" "next" "I" ∈ wsX3_step := List.mem_of_getElem? (i := 1) rfl
theorem iwX3_step_X3 : ∀ w ∈ wsX30, w ∈ wsX3_step := fun w h => List.mem_cons_of_mem _ (List.mem_append_right _ h)
theorem mX3_step_f15 : Cond.fieldLink RX3 15 "WaxTreaties$Tape" "length" "I" ∈ wsX3_step := List.mem_of_getElem? (i := 2) rfl
theorem mX3_step_f19 : Cond.fieldLink RX3 19 "WaxTreaties$Tape" "at" "I" ∈ wsX3_step := List.mem_of_getElem? (i := 3) rfl
theorem mX3_step_f25 : Cond.fieldLink RX3 25 "WaxTreaties$Tape" "sort" "I" ∈ wsX3_step := List.mem_of_getElem? (i := 4) rfl
theorem mX3_step_f28 : Cond.fieldLink RX3 28 "WaxTreaties$Tape" "value" "I" ∈ wsX3_step := List.mem_of_getElem? (i := 5) rfl
theorem mX3_step_l152 : Cond.methodLink RX3 152 Lib.Math.min.name ∈ wsX3_step := List.mem_of_getElem? (i := 6) rfl
theorem mX3_step_s152 : Cond.static Lib.Math.min.name ∈ wsX3_step := List.mem_of_getElem? (i := 7) rfl
theorem mX3_step_iM : Cond.initialized "java/lang/Math" ∈ wsX3_step := List.mem_of_getElem? (i := 8) rfl
theorem mX3_step_d152 : Cond.code Lib.Math.min.name Lib.Math.min.code 2 (some .int) ∈ wsX3_step := List.mem_of_getElem? (i := 9) rfl
set_option maxRecDepth 100000 in
set_option maxHeartbeats 4000000 in
theorem lX3_step_0 {p : Program} (l : Launch) {e : Env} {s : State} {m : MethodId} {args : Array Value} {below : List Frame} {meth : Method} {c : Code} {Q : State → Prop} {G : gT} (hN : wN G) (hG : gfl G = true) (K : qK p s m args meth c cX3_step 1 RX3 wsX3_step G) : ∀ (k : Nat) (σ : sg) (hw : WD σ) (hmu : (120 - (rF σ 24).toInt).toNat < k) {ρ : Type} {E : ρ → Prop} {f : sg → ρ} (hk : ∀ r : sg, (WD r) → qq p l e (headSpec wsX3_step rmX3_step).room s m args below meth c Q 1 G E (f r) 37 [some (.ref (gob G 4))] [] r), qq p l e (headSpec wsX3_step rmX3_step).room s m args below meth c Q 1 G E (bnd (LX3_step_0 k σ) f) 0 [some (.ref (gob G 4))] [] σ := by
  intro k
  induction k with
  | zero => intro σ hw hmu ρ E f hk; exact absurd hmu (Nat.not_lt_zero _)
  | succ k ih =>
    intro σ hw hmu ρ E f hk
    have k0 : (0 : Int32).toInt = 0 := rfl
    have k1 : (1 : Int32).toInt = 1 := rfl
    have k32 : (32 : Int32).toInt = 32 := rfl
    have q0 := wd_next hw
    refine qq_in ?_
    refine qq_T (LX3_step_0.eq_2 ..) ?_
    refine q_aload_n (pc := 0) K dX3_step_0 rfl rfl ?_
    refine q_get (pc := 1) (o := 4) (f := 3) (v := .int (rF σ 24)) K (wO_tp hG) vw_2 iwX3_step_X3 (by decide) mX3_step_f22 rfl dX3_step_1 ?_
    have w1 := wd_next hw
    refine q_aload_n (pc := 4) K dX3_step_4 rfl rfl ?_
    refine q_get (pc := 5) (o := 4) (f := 1) (v := .int (rF σ 22)) K (wO_tp hG) vw_2 iwX3_step_X3 (by decide) mX3_step_f15 rfl dX3_step_5 ?_
    have w2 := wd_len hw
    refine q_icmp_ge (pc := 8) (tgt := 37) K dX3_step_8 (by decide) (fun c3 => ?_) (fun c3 => ?_)
    · have i12 := leI c3
      exact qq_leaf (hk σ hw)
    · have i13 := nleI c3
      refine q_aload_n (pc := 11) K dX3_step_11 rfl rfl ?_
      refine q_aload_n (pc := 12) K dX3_step_12 rfl rfl ?_
      refine q_get (pc := 13) (o := 4) (f := 3) (v := .int (rF σ 24)) K (wO_tp hG) vw_2 iwX3_step_X3 (by decide) mX3_step_f22 rfl dX3_step_13 ?_
      refine q_callVi (pc := 16) (o := 4) (rm := rmX3_byteAt) K (kX3_byteAt l hN hG (rF σ 24) σ hw) gX3_step_X3_byteAt rfl hdV_X3_byteAt ⟨Nat.le_of_ble_eq_true rfl, Nat.le_of_ble_eq_true rfl⟩ rfl rfl ⟨Nat.zero_le _, Nat.zero_le _⟩ (wO_tp hG) vw_2 rfl rfl (Nat.le_of_ble_eq_true rfl) dX3_step_16 ?_
      refine q_bipush (pc := 19) (v := 32) K dX3_step_19 (by decide) ?_
      refine q_icmp_ne (pc := 21) (tgt := 37) K dX3_step_21 (by decide) (fun c4 => ?_) (fun c4 => ?_)
      · have i10 := neI c4
        exact qq_leaf (hk σ hw)
      · have i11 := eqI c4
        refine q_aload_n (pc := 24) K dX3_step_24 rfl rfl ?_
        refine q_dup (pc := 25) K dX3_step_25 rfl ?_
        refine q_get (pc := 26) (o := 4) (f := 3) (v := .int (rF σ 24)) K (wO_tp hG) vw_2 iwX3_step_X3 (by decide) mX3_step_f22 rfl dX3_step_26 ?_
        refine q_iconst (pc := 29) (v := 1) K dX3_step_29 (by decide) ?_
        refine q_iadd (pc := 30) K dX3_step_30 ?_
        have a7 := addI (x := (rF σ 24)) (y := 1) (by omega) (by omega)
        refine q_put (pc := 31) (o := 4) (f := 3) (i := 24) (ty := .int) K tyX3 tyX3_ok nmX3 (wO_tp hG) vw_2 iwX3_step_X3 (by decide) mX3_step_f22 rfl (tyX3_ok 3 (by decide)) rfl rfl (Nat.le_of_ble_eq_true rfl) (wP_tp3 hG _) dX3_step_31 (fun s5 e6 => ?_)
        have hw8 : WD s5 := by rw [e6]; exact wdFn hw (by omega) (by omega)
        have f9 := congrArg Int32.toInt (show rF s5 24 = ((rF σ 24) + 1) by rw [e6]; exact sF_same9)
        refine q_goto (pc := 34) (tgt := 0) K dX3_step_34 (by decide) ?_
        exact qq_out (ih s5 hw8 (by omega) hk)
set_option maxRecDepth 100000 in
set_option maxHeartbeats 4000000 in
theorem lX3_step_91 {p : Program} (l : Launch) {e : Env} {s : State} {m : MethodId} {args : Array Value} {below : List Frame} {meth : Method} {c : Code} {Q : State → Prop} {G : gT} (hN : wN G) (hG : gfl G = true) (K : qK p s m args meth c cX3_step 1 RX3 wsX3_step G) : ∀ (k : Nat) (σ : sg) (hw : WD σ) (hmu : (120 - (rF σ 24).toInt).toNat < k) {ρ : Type} {E : ρ → Prop} {f : sg → ρ} (hk : ∀ r : sg, (WD r) → qq p l e (headSpec wsX3_step rmX3_step).room s m args below meth c Q 1 G E (f r) 178 [none] [] r), qq p l e (headSpec wsX3_step rmX3_step).room s m args below meth c Q 1 G E (bnd (LX3_step_91 k σ) f) 91 [some (.ref (gob G 4))] [] σ := by
  intro k
  induction k with
  | zero => intro σ hw hmu ρ E f hk; exact absurd hmu (Nat.not_lt_zero _)
  | succ k ih =>
    intro σ hw hmu ρ E f hk
    have k0 : (0 : Int32).toInt = 0 := rfl
    have k1 : (1 : Int32).toInt = 1 := rfl
    have k2 : (2 : Int32).toInt = 2 := rfl
    have k10 : (10 : Int32).toInt = 10 := rfl
    have k48 : (48 : Int32).toInt = 48 := rfl
    have k1000 : (1000 : Int32).toInt = 1000 := rfl
    have q0 := wd_next hw
    refine qq_in ?_
    refine qq_T (LX3_step_91.eq_2 ..) ?_
    refine q_aload_n (pc := 91) K dX3_step_91 rfl rfl ?_
    refine q_get (pc := 92) (o := 4) (f := 4) (v := .int (rF σ 25)) K (wO_tp hG) vw_2 iwX3_step_X3 (by decide) mX3_step_f25 rfl dX3_step_92 ?_
    refine q_iconst (pc := 95) (v := 1) K dX3_step_95 (by decide) ?_
    refine q_icmp_eq (pc := 96) (tgt := 107) K dX3_step_96 (by decide) (fun c37 => ?_) (fun c37 => ?_)
    · have i77 := eqI c37
      refine q_aload_n (pc := 107) K dX3_step_107 rfl rfl ?_
      refine q_get (pc := 108) (o := 4) (f := 3) (v := .int (rF σ 24)) K (wO_tp hG) vw_2 iwX3_step_X3 (by decide) mX3_step_f22 rfl dX3_step_108 ?_
      have w38 := wd_next hw
      refine q_aload_n (pc := 111) K dX3_step_111 rfl rfl ?_
      refine q_get (pc := 112) (o := 4) (f := 1) (v := .int (rF σ 22)) K (wO_tp hG) vw_2 iwX3_step_X3 (by decide) mX3_step_f15 rfl dX3_step_112 ?_
      have w39 := wd_len hw
      refine q_icmp_ge (pc := 115) (tgt := 178) K dX3_step_115 (by decide) (fun c40 => ?_) (fun c40 => ?_)
      · have i54 := leI c40
        refine qq_drop 0 (lv' := [none]) rfl ?_
        exact qq_leaf (hk σ hw)
      · have i55 := nleI c40
        refine q_aload_n (pc := 118) K dX3_step_118 rfl rfl ?_
        refine q_aload_n (pc := 119) K dX3_step_119 rfl rfl ?_
        refine q_get (pc := 120) (o := 4) (f := 3) (v := .int (rF σ 24)) K (wO_tp hG) vw_2 iwX3_step_X3 (by decide) mX3_step_f22 rfl dX3_step_120 ?_
        refine q_callVi (pc := 123) (o := 4) (rm := rmX3_byteAt) K (kX3_byteAt l hN hG (rF σ 24) σ hw) gX3_step_X3_byteAt rfl hdV_X3_byteAt ⟨Nat.le_of_ble_eq_true rfl, Nat.le_of_ble_eq_true rfl⟩ rfl rfl ⟨Nat.zero_le _, Nat.zero_le _⟩ (wO_tp hG) vw_2 rfl rfl (Nat.le_of_ble_eq_true rfl) dX3_step_123 ?_
        refine q_callSi (pc := 126) (rm := rmX3_sortOf) K (kX3_sortOf l hN (fX3_byteAt (rF σ 24) σ) σ) gX3_step_X3_sortOf rfl hdS_X3_sortOf ⟨Nat.le_of_ble_eq_true rfl, Nat.le_of_ble_eq_true rfl⟩ rfl rfl ⟨Nat.zero_le _, Nat.zero_le _⟩ rfl rfl (Nat.le_of_ble_eq_true rfl) dX3_step_126 ?_
        refine q_aload_n (pc := 129) K dX3_step_129 rfl rfl ?_
        refine q_get (pc := 130) (o := 4) (f := 4) (v := .int (rF σ 25)) K (wO_tp hG) vw_2 iwX3_step_X3 (by decide) mX3_step_f25 rfl dX3_step_130 ?_
        refine q_icmp_ne (pc := 133) (tgt := 178) K dX3_step_133 (by decide) (fun c41 => ?_) (fun c41 => ?_)
        · have i52 := neI c41
          refine qq_drop 0 (lv' := [none]) rfl ?_
          exact qq_leaf (hk σ hw)
        · have i53 := eqI c41
          refine q_aload_n (pc := 136) K dX3_step_136 rfl rfl ?_
          refine q_sipush (pc := 137) (v := 1000) K dX3_step_137 (by decide) ?_
          refine q_aload_n (pc := 140) K dX3_step_140 rfl rfl ?_
          refine q_get (pc := 141) (o := 4) (f := 5) (v := .int (rF σ 26)) K (wO_tp hG) vw_2 iwX3_step_X3 (by decide) mX3_step_f28 rfl dX3_step_141 ?_
          refine q_bipush (pc := 144) (v := 10) K dX3_step_144 (by decide) ?_
          refine q_imul (pc := 146) K dX3_step_146 ?_
          refine q_aload_n (pc := 147) K dX3_step_147 rfl rfl ?_
          refine q_aload_n (pc := 148) K dX3_step_148 rfl rfl ?_
          refine q_get (pc := 149) (o := 4) (f := 3) (v := .int (rF σ 24)) K (wO_tp hG) vw_2 iwX3_step_X3 (by decide) mX3_step_f22 rfl dX3_step_149 ?_
          refine q_callVi (pc := 152) (o := 4) (rm := rmX3_byteAt) K (kX3_byteAt l hN hG (rF σ 24) σ hw) gX3_step_X3_byteAt rfl hdV_X3_byteAt ⟨Nat.le_of_ble_eq_true rfl, Nat.le_of_ble_eq_true rfl⟩ rfl rfl ⟨Nat.zero_le _, Nat.zero_le _⟩ (wO_tp hG) vw_2 rfl rfl (Nat.le_of_ble_eq_true rfl) dX3_step_152 ?_
          refine q_iadd (pc := 155) K dX3_step_155 ?_
          refine q_bipush (pc := 156) (v := 48) K dX3_step_156 (by decide) ?_
          refine q_isub (pc := 158) K dX3_step_158 ?_
          refine q_mmin (pc := 159) K mX3_step_l152 mX3_step_s152 mX3_step_iM mX3_step_d152 (Nat.le_of_ble_eq_true rfl) (Nat.le_of_ble_eq_true rfl) dX3_step_159 ?_
          refine q_put (pc := 162) (o := 4) (f := 5) (i := 26) (ty := .int) K tyX3 tyX3_ok nmX3 (wO_tp hG) vw_2 iwX3_step_X3 (by decide) mX3_step_f28 rfl (tyX3_ok 5 (by decide)) rfl rfl (Nat.le_of_ble_eq_true rfl) (wP_tp5 hG _) dX3_step_162 (fun s42 e43 => ?_)
          have hw44 : WD s42 := by rw [e43]; exact wdF hw (by omega)
          have n45 := congrArg Int32.toInt (show rF s42 24 = rF σ 24 by rw [e43]; exact sF_other (by decide))
          refine q_aload_n (pc := 165) K dX3_step_165 rfl rfl ?_
          refine q_dup (pc := 166) K dX3_step_166 rfl ?_
          refine q_get (pc := 167) (o := 4) (f := 3) (v := .int (rF s42 24)) K (wO_tp hG) vw_2 iwX3_step_X3 (by decide) mX3_step_f22 rfl dX3_step_167 ?_
          have w46 := wd_next hw44
          refine q_iconst (pc := 170) (v := 1) K dX3_step_170 (by decide) ?_
          refine q_iadd (pc := 171) K dX3_step_171 ?_
          have a49 := addI (x := (rF s42 24)) (y := 1) (by omega) (by omega)
          refine q_put (pc := 172) (o := 4) (f := 3) (i := 24) (ty := .int) K tyX3 tyX3_ok nmX3 (wO_tp hG) vw_2 iwX3_step_X3 (by decide) mX3_step_f22 rfl (tyX3_ok 3 (by decide)) rfl rfl (Nat.le_of_ble_eq_true rfl) (wP_tp3 hG _) dX3_step_172 (fun s47 e48 => ?_)
          have hw50 : WD s47 := by rw [e48]; exact wdFn hw44 (by omega) (by omega)
          have f51 := congrArg Int32.toInt (show rF s47 24 = ((rF s42 24) + 1) by rw [e48]; exact sF_same9)
          refine q_goto (pc := 175) (tgt := 91) K dX3_step_175 (by decide) ?_
          exact qq_out (ih s47 hw50 (by omega) hk)
    · have i78 := neI c37
      refine q_aload_n (pc := 99) K dX3_step_99 rfl rfl ?_
      refine q_get (pc := 100) (o := 4) (f := 4) (v := .int (rF σ 25)) K (wO_tp hG) vw_2 iwX3_step_X3 (by decide) mX3_step_f25 rfl dX3_step_100 ?_
      refine q_iconst (pc := 103) (v := 2) K dX3_step_103 (by decide) ?_
      refine q_icmp_ne (pc := 104) (tgt := 178) K dX3_step_104 (by decide) (fun c56 => ?_) (fun c56 => ?_)
      · have i75 := neI c56
        refine qq_drop 0 (lv' := [none]) rfl ?_
        exact qq_leaf (hk σ hw)
      · have i76 := eqI c56
        refine q_aload_n (pc := 107) K dX3_step_107 rfl rfl ?_
        refine q_get (pc := 108) (o := 4) (f := 3) (v := .int (rF σ 24)) K (wO_tp hG) vw_2 iwX3_step_X3 (by decide) mX3_step_f22 rfl dX3_step_108 ?_
        have w57 := wd_next hw
        refine q_aload_n (pc := 111) K dX3_step_111 rfl rfl ?_
        refine q_get (pc := 112) (o := 4) (f := 1) (v := .int (rF σ 22)) K (wO_tp hG) vw_2 iwX3_step_X3 (by decide) mX3_step_f15 rfl dX3_step_112 ?_
        have w58 := wd_len hw
        refine q_icmp_ge (pc := 115) (tgt := 178) K dX3_step_115 (by decide) (fun c59 => ?_) (fun c59 => ?_)
        · have i73 := leI c59
          refine qq_drop 0 (lv' := [none]) rfl ?_
          exact qq_leaf (hk σ hw)
        · have i74 := nleI c59
          refine q_aload_n (pc := 118) K dX3_step_118 rfl rfl ?_
          refine q_aload_n (pc := 119) K dX3_step_119 rfl rfl ?_
          refine q_get (pc := 120) (o := 4) (f := 3) (v := .int (rF σ 24)) K (wO_tp hG) vw_2 iwX3_step_X3 (by decide) mX3_step_f22 rfl dX3_step_120 ?_
          refine q_callVi (pc := 123) (o := 4) (rm := rmX3_byteAt) K (kX3_byteAt l hN hG (rF σ 24) σ hw) gX3_step_X3_byteAt rfl hdV_X3_byteAt ⟨Nat.le_of_ble_eq_true rfl, Nat.le_of_ble_eq_true rfl⟩ rfl rfl ⟨Nat.zero_le _, Nat.zero_le _⟩ (wO_tp hG) vw_2 rfl rfl (Nat.le_of_ble_eq_true rfl) dX3_step_123 ?_
          refine q_callSi (pc := 126) (rm := rmX3_sortOf) K (kX3_sortOf l hN (fX3_byteAt (rF σ 24) σ) σ) gX3_step_X3_sortOf rfl hdS_X3_sortOf ⟨Nat.le_of_ble_eq_true rfl, Nat.le_of_ble_eq_true rfl⟩ rfl rfl ⟨Nat.zero_le _, Nat.zero_le _⟩ rfl rfl (Nat.le_of_ble_eq_true rfl) dX3_step_126 ?_
          refine q_aload_n (pc := 129) K dX3_step_129 rfl rfl ?_
          refine q_get (pc := 130) (o := 4) (f := 4) (v := .int (rF σ 25)) K (wO_tp hG) vw_2 iwX3_step_X3 (by decide) mX3_step_f25 rfl dX3_step_130 ?_
          refine q_icmp_ne (pc := 133) (tgt := 178) K dX3_step_133 (by decide) (fun c60 => ?_) (fun c60 => ?_)
          · have i71 := neI c60
            refine qq_drop 0 (lv' := [none]) rfl ?_
            exact qq_leaf (hk σ hw)
          · have i72 := eqI c60
            refine q_aload_n (pc := 136) K dX3_step_136 rfl rfl ?_
            refine q_sipush (pc := 137) (v := 1000) K dX3_step_137 (by decide) ?_
            refine q_aload_n (pc := 140) K dX3_step_140 rfl rfl ?_
            refine q_get (pc := 141) (o := 4) (f := 5) (v := .int (rF σ 26)) K (wO_tp hG) vw_2 iwX3_step_X3 (by decide) mX3_step_f28 rfl dX3_step_141 ?_
            refine q_bipush (pc := 144) (v := 10) K dX3_step_144 (by decide) ?_
            refine q_imul (pc := 146) K dX3_step_146 ?_
            refine q_aload_n (pc := 147) K dX3_step_147 rfl rfl ?_
            refine q_aload_n (pc := 148) K dX3_step_148 rfl rfl ?_
            refine q_get (pc := 149) (o := 4) (f := 3) (v := .int (rF σ 24)) K (wO_tp hG) vw_2 iwX3_step_X3 (by decide) mX3_step_f22 rfl dX3_step_149 ?_
            refine q_callVi (pc := 152) (o := 4) (rm := rmX3_byteAt) K (kX3_byteAt l hN hG (rF σ 24) σ hw) gX3_step_X3_byteAt rfl hdV_X3_byteAt ⟨Nat.le_of_ble_eq_true rfl, Nat.le_of_ble_eq_true rfl⟩ rfl rfl ⟨Nat.zero_le _, Nat.zero_le _⟩ (wO_tp hG) vw_2 rfl rfl (Nat.le_of_ble_eq_true rfl) dX3_step_152 ?_
            refine q_iadd (pc := 155) K dX3_step_155 ?_
            refine q_bipush (pc := 156) (v := 48) K dX3_step_156 (by decide) ?_
            refine q_isub (pc := 158) K dX3_step_158 ?_
            refine q_mmin (pc := 159) K mX3_step_l152 mX3_step_s152 mX3_step_iM mX3_step_d152 (Nat.le_of_ble_eq_true rfl) (Nat.le_of_ble_eq_true rfl) dX3_step_159 ?_
            refine q_put (pc := 162) (o := 4) (f := 5) (i := 26) (ty := .int) K tyX3 tyX3_ok nmX3 (wO_tp hG) vw_2 iwX3_step_X3 (by decide) mX3_step_f28 rfl (tyX3_ok 5 (by decide)) rfl rfl (Nat.le_of_ble_eq_true rfl) (wP_tp5 hG _) dX3_step_162 (fun s61 e62 => ?_)
            have hw63 : WD s61 := by rw [e62]; exact wdF hw (by omega)
            have n64 := congrArg Int32.toInt (show rF s61 24 = rF σ 24 by rw [e62]; exact sF_other (by decide))
            refine q_aload_n (pc := 165) K dX3_step_165 rfl rfl ?_
            refine q_dup (pc := 166) K dX3_step_166 rfl ?_
            refine q_get (pc := 167) (o := 4) (f := 3) (v := .int (rF s61 24)) K (wO_tp hG) vw_2 iwX3_step_X3 (by decide) mX3_step_f22 rfl dX3_step_167 ?_
            have w65 := wd_next hw63
            refine q_iconst (pc := 170) (v := 1) K dX3_step_170 (by decide) ?_
            refine q_iadd (pc := 171) K dX3_step_171 ?_
            have a68 := addI (x := (rF s61 24)) (y := 1) (by omega) (by omega)
            refine q_put (pc := 172) (o := 4) (f := 3) (i := 24) (ty := .int) K tyX3 tyX3_ok nmX3 (wO_tp hG) vw_2 iwX3_step_X3 (by decide) mX3_step_f22 rfl (tyX3_ok 3 (by decide)) rfl rfl (Nat.le_of_ble_eq_true rfl) (wP_tp3 hG _) dX3_step_172 (fun s66 e67 => ?_)
            have hw69 : WD s66 := by rw [e67]; exact wdFn hw63 (by omega) (by omega)
            have f70 := congrArg Int32.toInt (show rF s66 24 = ((rF s61 24) + 1) by rw [e67]; exact sF_same9)
            refine q_goto (pc := 175) (tgt := 91) K dX3_step_175 (by decide) ?_
            exact qq_out (ih s66 hw69 (by omega) hk)
set_option maxRecDepth 100000 in
set_option maxHeartbeats 4000000 in
theorem kX3_step (l : Launch) {G : gT} (hN : wN G) (hG : gfl G = true) (σ : sg) (hw : WD σ) : cM l yX3_step wsX3_step rmX3_step G [.ref (gob G 4)] σ none (fX3_step σ) := by
  refine cM_of (maxL := 1) (ret := none) (cc := cX3_step) (fX3_step σ) RX3 hN (by decide +kernel) rfl rfl (Nat.le_of_ble_eq_true rfl) rfl ?_
  intro p e s m args below meth c K hr
  have k0 : (0 : Int32).toInt = 0 := rfl
  have k1 : (1 : Int32).toInt = 1 := rfl
  have k3 : (3 : Int32).toInt = 3 := rfl
  have k4 : (4 : Int32).toInt = 4 := rfl
  refine qq_st (lv' := [some (.ref (gob G 4))]) rfl rfl rfl ?_
  refine qq_T (fX3_step.eq_1 ..) ?_
  refine lX3_step_0 l hN hG K 121 σ hw (by have := wd_next hw; omega) (fun r14 hw16 => ?_)
  refine q_aload_n (pc := 37) K dX3_step_37 rfl rfl ?_
  refine q_aload_n (pc := 38) K dX3_step_38 rfl rfl ?_
  refine q_get (pc := 39) (o := 4) (f := 3) (v := .int (rF r14 24)) K (wO_tp hG) vw_2 iwX3_step_X3 (by decide) mX3_step_f22 rfl dX3_step_39 ?_
  have w17 := wd_next hw16
  refine q_put (pc := 42) (o := 4) (f := 2) (i := 23) (ty := .int) K tyX3 tyX3_ok nmX3 (wO_tp hG) vw_2 iwX3_step_X3 (by decide) mX3_step_f19 rfl (tyX3_ok 2 (by decide)) rfl rfl (Nat.le_of_ble_eq_true rfl) (wP_tp2 hG _) dX3_step_42 (fun s18 e19 => ?_)
  have hw20 : WD s18 := by rw [e19]; exact wdF hw16 (by omega)
  have n21 := congrArg Int32.toInt (show rF s18 24 = rF r14 24 by rw [e19]; exact sF_other (by decide))
  refine q_aload_n (pc := 45) K dX3_step_45 rfl rfl ?_
  refine q_aload_n (pc := 46) K dX3_step_46 rfl rfl ?_
  refine q_aload_n (pc := 47) K dX3_step_47 rfl rfl ?_
  refine q_get (pc := 48) (o := 4) (f := 2) (v := .int (rF s18 23)) K (wO_tp hG) vw_2 iwX3_step_X3 (by decide) mX3_step_f19 rfl dX3_step_48 ?_
  refine q_callVi (pc := 51) (o := 4) (rm := rmX3_byteAt) K (kX3_byteAt l hN hG (rF s18 23) s18 hw20) gX3_step_X3_byteAt rfl hdV_X3_byteAt ⟨Nat.le_of_ble_eq_true rfl, Nat.le_of_ble_eq_true rfl⟩ rfl rfl ⟨Nat.zero_le _, Nat.zero_le _⟩ (wO_tp hG) vw_2 rfl rfl (Nat.le_of_ble_eq_true rfl) dX3_step_51 ?_
  refine q_callSi (pc := 54) (rm := rmX3_sortOf) K (kX3_sortOf l hN (fX3_byteAt (rF s18 23) s18) s18) gX3_step_X3_sortOf rfl hdS_X3_sortOf ⟨Nat.le_of_ble_eq_true rfl, Nat.le_of_ble_eq_true rfl⟩ rfl rfl ⟨Nat.zero_le _, Nat.zero_le _⟩ rfl rfl (Nat.le_of_ble_eq_true rfl) dX3_step_54 ?_
  refine q_put (pc := 57) (o := 4) (f := 4) (i := 25) (ty := .int) K tyX3 tyX3_ok nmX3 (wO_tp hG) vw_2 iwX3_step_X3 (by decide) mX3_step_f25 rfl (tyX3_ok 4 (by decide)) rfl rfl (Nat.le_of_ble_eq_true rfl) (wP_tp4 hG _) dX3_step_57 (fun s22 e23 => ?_)
  have hw24 : WD s22 := by rw [e23]; exact wdF hw20 (by omega)
  have n25 := congrArg Int32.toInt (show rF s22 24 = rF s18 24 by rw [e23]; exact sF_other (by decide))
  refine q_aload_n (pc := 60) K dX3_step_60 rfl rfl ?_
  refine q_get (pc := 61) (o := 4) (f := 4) (v := .int (rF s22 25)) K (wO_tp hG) vw_2 iwX3_step_X3 (by decide) mX3_step_f25 rfl dX3_step_61 ?_
  refine q_iconst (pc := 64) (v := 3) K dX3_step_64 (by decide) ?_
  refine q_icmp_eq (pc := 65) (tgt := 76) K dX3_step_65 (by decide) (fun c26 => ?_) (fun c26 => ?_)
  · have i105 := eqI c26
    refine q_aload_n (pc := 76) K dX3_step_76 rfl rfl ?_
    refine q_dup (pc := 77) K dX3_step_77 rfl ?_
    refine q_get (pc := 78) (o := 4) (f := 3) (v := .int (rF s22 24)) K (wO_tp hG) vw_2 iwX3_step_X3 (by decide) mX3_step_f22 rfl dX3_step_78 ?_
    have w27 := wd_next hw24
    refine q_iconst (pc := 81) (v := 1) K dX3_step_81 (by decide) ?_
    refine q_iadd (pc := 82) K dX3_step_82 ?_
    have sb := stepB (by assumption) e19 e23 (by first | exact Or.inl (by assumption) | exact Or.inr (by assumption))
    have a30 := addI (x := (rF s22 24)) (y := 1) (by omega) (by omega)
    refine q_put (pc := 83) (o := 4) (f := 3) (i := 24) (ty := .int) K tyX3 tyX3_ok nmX3 (wO_tp hG) vw_2 iwX3_step_X3 (by decide) mX3_step_f22 rfl (tyX3_ok 3 (by decide)) rfl rfl (Nat.le_of_ble_eq_true rfl) (wP_tp3 hG _) dX3_step_83 (fun s28 e29 => ?_)
    have hw31 : WD s28 := by rw [e29]; exact wdFn hw24 (by omega) (by omega)
    have f32 := congrArg Int32.toInt (show rF s28 24 = ((rF s22 24) + 1) by rw [e29]; exact sF_same9)
    refine q_aload_n (pc := 86) K dX3_step_86 rfl rfl ?_
    refine q_iconst (pc := 87) (v := 0) K dX3_step_87 (by decide) ?_
    refine q_put (pc := 88) (o := 4) (f := 5) (i := 26) (ty := .int) K tyX3 tyX3_ok nmX3 (wO_tp hG) vw_2 iwX3_step_X3 (by decide) mX3_step_f28 rfl (tyX3_ok 5 (by decide)) rfl rfl (Nat.le_of_ble_eq_true rfl) (wP_tp5 hG _) dX3_step_88 (fun s33 e34 => ?_)
    have hw35 : WD s33 := by rw [e34]; exact wdF hw31 (by omega)
    have n36 := congrArg Int32.toInt (show rF s33 24 = rF s28 24 by rw [e34]; exact sF_other (by decide))
    refine lX3_step_91 l hN hG K 121 s33 hw35 (by have := wd_next hw35; omega) (fun r79 hw81 => ?_)
    exact q_vretW K hr dX3_step_178
  · have i106 := neI c26
    refine q_aload_n (pc := 68) K dX3_step_68 rfl rfl ?_
    refine q_get (pc := 69) (o := 4) (f := 4) (v := .int (rF s22 25)) K (wO_tp hG) vw_2 iwX3_step_X3 (by decide) mX3_step_f25 rfl dX3_step_69 ?_
    refine q_iconst (pc := 72) (v := 4) K dX3_step_72 (by decide) ?_
    refine q_icmp_ne (pc := 73) (tgt := 86) K dX3_step_73 (by decide) (fun c82 => ?_) (fun c82 => ?_)
    · have i103 := neI c82
      refine q_aload_n (pc := 86) K dX3_step_86 rfl rfl ?_
      refine q_iconst (pc := 87) (v := 0) K dX3_step_87 (by decide) ?_
      refine q_put (pc := 88) (o := 4) (f := 5) (i := 26) (ty := .int) K tyX3 tyX3_ok nmX3 (wO_tp hG) vw_2 iwX3_step_X3 (by decide) mX3_step_f28 rfl (tyX3_ok 5 (by decide)) rfl rfl (Nat.le_of_ble_eq_true rfl) (wP_tp5 hG _) dX3_step_88 (fun s83 e84 => ?_)
      have hw85 : WD s83 := by rw [e84]; exact wdF hw24 (by omega)
      have n86 := congrArg Int32.toInt (show rF s83 24 = rF s22 24 by rw [e84]; exact sF_other (by decide))
      refine lX3_step_91 l hN hG K 121 s83 hw85 (by have := wd_next hw85; omega) (fun r87 hw89 => ?_)
      exact q_vretW K hr dX3_step_178
    · have i104 := eqI c82
      refine q_aload_n (pc := 76) K dX3_step_76 rfl rfl ?_
      refine q_dup (pc := 77) K dX3_step_77 rfl ?_
      refine q_get (pc := 78) (o := 4) (f := 3) (v := .int (rF s22 24)) K (wO_tp hG) vw_2 iwX3_step_X3 (by decide) mX3_step_f22 rfl dX3_step_78 ?_
      have w90 := wd_next hw24
      refine q_iconst (pc := 81) (v := 1) K dX3_step_81 (by decide) ?_
      refine q_iadd (pc := 82) K dX3_step_82 ?_
      have sb := stepB (by assumption) e19 e23 (by first | exact Or.inl (by assumption) | exact Or.inr (by assumption))
      have a93 := addI (x := (rF s22 24)) (y := 1) (by omega) (by omega)
      refine q_put (pc := 83) (o := 4) (f := 3) (i := 24) (ty := .int) K tyX3 tyX3_ok nmX3 (wO_tp hG) vw_2 iwX3_step_X3 (by decide) mX3_step_f22 rfl (tyX3_ok 3 (by decide)) rfl rfl (Nat.le_of_ble_eq_true rfl) (wP_tp3 hG _) dX3_step_83 (fun s91 e92 => ?_)
      have hw94 : WD s91 := by rw [e92]; exact wdFn hw24 (by omega) (by omega)
      have f95 := congrArg Int32.toInt (show rF s91 24 = ((rF s22 24) + 1) by rw [e92]; exact sF_same9)
      refine q_aload_n (pc := 86) K dX3_step_86 rfl rfl ?_
      refine q_iconst (pc := 87) (v := 0) K dX3_step_87 (by decide) ?_
      refine q_put (pc := 88) (o := 4) (f := 5) (i := 26) (ty := .int) K tyX3 tyX3_ok nmX3 (wO_tp hG) vw_2 iwX3_step_X3 (by decide) mX3_step_f28 rfl (tyX3_ok 5 (by decide)) rfl rfl (Nat.le_of_ble_eq_true rfl) (wP_tp5 hG _) dX3_step_88 (fun s96 e97 => ?_)
      have hw98 : WD s96 := by rw [e97]; exact wdF hw94 (by omega)
      have n99 := congrArg Int32.toInt (show rF s96 24 = rF s91 24 by rw [e97]; exact sF_other (by decide))
      refine lX3_step_91 l hN hG K 121 s96 hw98 (by have := wd_next hw98; omega) (fun r100 hw102 => ?_)
      exact q_vretW K hr dX3_step_178
theorem hdV_X3_isWord : yX3_isWord.cls = RX3 ∧ yX3_isWord.cls ≠ "java/lang/invoke/MethodHandle" ∧ yX3_isWord.cls ≠ "java/lang/invoke/VarHandle" ∧ (parseMethodDescriptor yX3_isWord.desc).map (fun d => d.parameters.length) = some 1 := by decide +kernel
theorem mX3_isWord_f25 : Cond.fieldLink RX3 25 "WaxTreaties$Tape" "sort" "I" ∈ wsX3_isWord := List.mem_of_getElem? (i := 1) rfl
theorem iwX3_isWord_X3 : ∀ w ∈ wsX30, w ∈ wsX3_isWord := fun w h => List.mem_cons_of_mem _ (List.mem_append_right _ h)
theorem mX3_isWord_f22 : Cond.fieldLink RX3 22 "WaxTreaties$Tape" "next" "I" ∈ wsX3_isWord := List.mem_of_getElem? (i := 2) rfl
theorem mX3_isWord_f19 : Cond.fieldLink RX3 19 "WaxTreaties$Tape" "at" "I" ∈ wsX3_isWord := List.mem_of_getElem? (i := 3) rfl
set_option maxRecDepth 100000 in
set_option maxHeartbeats 4000000 in
theorem lX3_isWord_28 {p : Program} (l : Launch) {e : Env} {s : State} {m : MethodId} {args : Array Value} {below : List Frame} {meth : Method} {c : Code} {G : gT} (hN : wN G) (hG : gfl G = true) (K : qK p s m args meth c cX3_isWord 3 RX3 wsX3_isWord G) (w1 : Nat) (hw1 : w1 < 18) : ∀ (k : Nat) (v2 : Int32) (σ : sg) (hw : WD σ) (hv2 : 0 ≤ v2.toInt ∧ v2.toInt ≤ 7) (hmu : (7 - v2.toInt).toNat < k) (hr : meth.sig.returnType = some .boolean) (T0 : Int32), qq p l e (headSpec wsX3_isWord rmX3_isWord).room s m args below meth c (MQ below (cQ G (some (.int T0)) σ) args s 0 0 (wA G)) 3 G (fun T => T = T0) (LX3_isWord_28 w1 k v2 σ) 28 [some (.ref (gob G 4)), some (.ref (gK G w1)), some (.int v2)] [] σ := by
  intro k
  induction k with
  | zero => intro v2 σ hw hv2 hmu hr T0; exact absurd hmu (Nat.not_lt_zero _)
  | succ k ih =>
    intro v2 σ hw hv2 hmu hr T0
    have k0 : (0 : Int32).toInt = 0 := rfl
    have k1 : (1 : Int32).toInt = 1 := rfl
    refine qq_T (LX3_isWord_28.eq_2 ..) ?_
    refine q_iload_n (pc := 28) K dX3_isWord_28 rfl rfl ?_
    refine q_aload_n (pc := 29) K dX3_isWord_29 rfl rfl ?_
    have z5 := lenB hw1
    refine q_callK (pc := 30) (rm := rmJ0_length_8abf5) K hw1 (kJ0_length_8abf5 l hN w1 hw1 σ) gX3_isWord_J0_length_8abf5 rfl hdV_J0_length_8abf5 ⟨Nat.le_of_ble_eq_true rfl, Nat.le_of_ble_eq_true rfl⟩ rfl rfl ⟨Nat.zero_le _, Nat.zero_le _⟩ rfl rfl (Nat.le_of_ble_eq_true rfl) dX3_isWord_30 ?_
    refine q_icmp_ge (pc := 33) (tgt := 62) K dX3_isWord_33 (by decide) (fun c6 => ?_) (fun c6 => ?_)
    · have i12 := leI c6
      refine q_iconst (pc := 62) (v := 1) K dX3_isWord_62 (by decide) ?_
      exact q_zretP K hr (Or.inr rfl) dX3_isWord_63
    · have i13 := nleI c6
      refine q_aload_n (pc := 36) K dX3_isWord_36 rfl rfl ?_
      refine q_aload_n (pc := 37) K dX3_isWord_37 rfl rfl ?_
      refine q_get (pc := 38) (o := 4) (f := 2) (v := .int (rF σ 23)) K (wO_tp hG) vw_2 iwX3_isWord_X3 (by decide) mX3_isWord_f19 rfl dX3_isWord_38 ?_
      refine q_iload_n (pc := 41) K dX3_isWord_41 rfl rfl ?_
      refine q_iadd (pc := 42) K dX3_isWord_42 ?_
      refine q_callVi (pc := 43) (o := 4) (rm := rmX3_byteAt) K (kX3_byteAt l hN hG ((rF σ 23) + v2) σ hw) gX3_isWord_X3_byteAt rfl hdV_X3_byteAt ⟨Nat.le_of_ble_eq_true rfl, Nat.le_of_ble_eq_true rfl⟩ rfl rfl ⟨Nat.zero_le _, Nat.zero_le _⟩ (wO_tp hG) vw_2 rfl rfl (Nat.le_of_ble_eq_true rfl) dX3_isWord_43 ?_
      refine q_aload_n (pc := 46) K dX3_isWord_46 rfl rfl ?_
      refine q_iload_n (pc := 47) K dX3_isWord_47 rfl rfl ?_
      have z7 := chOK hw1 (i := v2) (by omega) (by omega)
      refine q_callK (pc := 48) (rm := rmJ0_charAt_5068e) K hw1 (kJ0_charAt_5068e l hN w1 hw1 v2 σ z7.1 z7.2.1 z7.2.2) gX3_isWord_J0_charAt_5068e rfl hdV_J0_charAt_5068e ⟨Nat.le_of_ble_eq_true rfl, Nat.le_of_ble_eq_true rfl⟩ rfl rfl ⟨Nat.zero_le _, Nat.zero_le _⟩ rfl rfl (Nat.le_of_ble_eq_true rfl) dX3_isWord_48 ?_
      refine q_icmp_eq (pc := 51) (tgt := 56) K dX3_isWord_51 (by decide) (fun c8 => ?_) (fun c8 => ?_)
      · have i10 := eqI c8
        refine q_iinc (pc := 56) (v := (v2 + 1)) (lv' := [some (.ref (gob G 4)), some (.ref (gK G w1)), some (.int (v2 + 1))]) K dX3_isWord_56 rfl rfl (by decide) rfl ?_
        refine q_goto (pc := 59) (tgt := 28) K dX3_isWord_59 (by decide) ?_
        have a9 := addI (x := v2) (y := 1) (by omega) (by omega)
        exact ih (v2 + 1) σ hw (by omega) (by omega) hr _
      · have i11 := neI c8
        refine q_iconst (pc := 54) (v := 0) K dX3_isWord_54 (by decide) ?_
        exact q_zretP K hr (Or.inl rfl) dX3_isWord_55
set_option maxRecDepth 100000 in
set_option maxHeartbeats 4000000 in
theorem kX3_isWord (l : Launch) {G : gT} (hN : wN G) (hG : gfl G = true) (w1 : Nat) (hw1 : w1 < 18) (σ : sg) (hw : WD σ) : cM l yX3_isWord wsX3_isWord rmX3_isWord G [.ref (gob G 4), .ref (gK G w1)] σ (some (.int (fX3_isWord w1 σ))) σ := by
  refine cM_of (maxL := 3) (ret := (some .boolean)) (cc := cX3_isWord) (fX3_isWord w1 σ) RX3 hN (by decide +kernel) rfl rfl (Nat.le_of_ble_eq_true rfl) rfl ?_
  intro p e s m args below meth c K hr
  have k0 : (0 : Int32).toInt = 0 := rfl
  have k1 : (1 : Int32).toInt = 1 := rfl
  refine qq_st (lv' := [some (.ref (gob G 4)), some (.ref (gK G w1)), none]) rfl rfl rfl ?_
  refine qq_T (fX3_isWord.eq_1 ..) ?_
  refine q_aload_n (pc := 0) K dX3_isWord_0 rfl rfl ?_
  refine q_get (pc := 1) (o := 4) (f := 4) (v := .int (rF σ 25)) K (wO_tp hG) vw_2 iwX3_isWord_X3 (by decide) mX3_isWord_f25 rfl dX3_isWord_1 ?_
  refine q_iconst (pc := 4) (v := 1) K dX3_isWord_4 (by decide) ?_
  refine q_icmp_ne (pc := 5) (tgt := 24) K dX3_isWord_5 (by decide) (fun c1 => ?_) (fun c1 => ?_)
  · have i16 := neI c1
    refine q_iconst (pc := 24) (v := 0) K dX3_isWord_24 (by decide) ?_
    exact q_zretP K hr (Or.inl rfl) dX3_isWord_25
  · have i17 := eqI c1
    refine q_aload_n (pc := 8) K dX3_isWord_8 rfl rfl ?_
    refine q_get (pc := 9) (o := 4) (f := 3) (v := .int (rF σ 24)) K (wO_tp hG) vw_2 iwX3_isWord_X3 (by decide) mX3_isWord_f22 rfl dX3_isWord_9 ?_
    have w2 := wd_next hw
    refine q_aload_n (pc := 12) K dX3_isWord_12 rfl rfl ?_
    refine q_get (pc := 13) (o := 4) (f := 2) (v := .int (rF σ 23)) K (wO_tp hG) vw_2 iwX3_isWord_X3 (by decide) mX3_isWord_f19 rfl dX3_isWord_13 ?_
    refine q_isub (pc := 16) K dX3_isWord_16 ?_
    refine q_aload_n (pc := 17) K dX3_isWord_17 rfl rfl ?_
    have z3 := lenB hw1
    refine q_callK (pc := 18) (rm := rmJ0_length_8abf5) K hw1 (kJ0_length_8abf5 l hN w1 hw1 σ) gX3_isWord_J0_length_8abf5 rfl hdV_J0_length_8abf5 ⟨Nat.le_of_ble_eq_true rfl, Nat.le_of_ble_eq_true rfl⟩ rfl rfl ⟨Nat.zero_le _, Nat.zero_le _⟩ rfl rfl (Nat.le_of_ble_eq_true rfl) dX3_isWord_18 ?_
    refine q_icmp_eq (pc := 21) (tgt := 26) K dX3_isWord_21 (by decide) (fun c4 => ?_) (fun c4 => ?_)
    · have i14 := eqI c4
      refine q_iconst (pc := 26) (v := 0) K dX3_isWord_26 (by decide) ?_
      refine q_istore_n (pc := 27) (lv' := [some (.ref (gob G 4)), some (.ref (gK G w1)), some (.int 0)]) K dX3_isWord_27 rfl (by decide) (Nat.le_of_ble_eq_true rfl) rfl ?_
      exact lX3_isWord_28 l hN hG K w1 hw1 8 0 σ hw (by omega) (by omega) hr _
    · have i15 := neI c4
      refine q_iconst (pc := 24) (v := 0) K dX3_isWord_24 (by decide) ?_
      exact q_zretP K hr (Or.inl rfl) dX3_isWord_25
theorem hdS_X3_wordOf : yX3_wordOf.cls ≠ "java/lang/invoke/MethodHandle" ∧ yX3_wordOf.cls ≠ "java/lang/invoke/VarHandle" ∧ (parseMethodDescriptor yX3_wordOf.desc).map (fun d => d.parameters.length) = some 1 := by decide +kernel
set_option maxRecDepth 100000 in
set_option maxHeartbeats 4000000 in
theorem kX3_wordOf (l : Launch) {G : gT} (hN : wN G) (v0 : Int32) (σ : sg) : cM l yX3_wordOf wsX3_wordOf rmX3_wordOf G [.int v0] σ (some (.ref (gK G (fX3_wordOf v0)))) σ := by
  refine cM_of (maxL := 1) (ret := (some (.object "java/lang/String"))) (cc := cX3_wordOf) (fX3_wordOf v0) RX3 hN (by decide +kernel) rfl rfl (Nat.le_of_ble_eq_true rfl) rfl ?_
  intro p e s m args below meth c K hr
  have k0 : (0 : Int32).toInt = 0 := rfl
  have k1 : (1 : Int32).toInt = 1 := rfl
  have k2 : (2 : Int32).toInt = 2 := rfl
  have k3 : (3 : Int32).toInt = 3 := rfl
  have k4 : (4 : Int32).toInt = 4 := rfl
  have k5 : (5 : Int32).toInt = 5 := rfl
  refine qq_st (lv' := [some (.int v0)]) rfl rfl rfl ?_
  refine qq_T (fX3_wordOf.eq_1 ..) ?_
  refine q_iload_n (pc := 0) K dX3_wordOf_0 rfl rfl ?_
  refine q_case (v := 0) (fun c1 => ?_) (fun c1 => ?_)
  · have i17 := eqI c1
    refine q_tableIn (pc := 1) (tgt := 40) K dX3_wordOf_1 c1 (by decide) (by decide) rfl (by decide) ?_
    refine q_ldcs (pc := 40) (i := 0) (tx := "deed") K (by decide +kernel) dX3_wordOf_40 ?_
    exact q_aretP K hr dX3_wordOf_42
  · have i18 := neI c1
    refine q_case (v := 1) (fun c2 => ?_) (fun c2 => ?_)
    · have i15 := eqI c2
      refine q_tableIn (pc := 1) (tgt := 43) K dX3_wordOf_1 c2 (by decide) (by decide) rfl (by decide) ?_
      refine q_ldcs (pc := 43) (i := 1) (tx := "double") K (by decide +kernel) dX3_wordOf_43 ?_
      exact q_aretP K hr dX3_wordOf_45
    · have i16 := neI c2
      refine q_case (v := 2) (fun c3 => ?_) (fun c3 => ?_)
      · have i13 := eqI c3
        refine q_tableIn (pc := 1) (tgt := 46) K dX3_wordOf_1 c3 (by decide) (by decide) rfl (by decide) ?_
        refine q_ldcs (pc := 46) (i := 2) (tx := "tallow") K (by decide +kernel) dX3_wordOf_46 ?_
        exact q_aretP K hr dX3_wordOf_48
      · have i14 := neI c3
        refine q_case (v := 3) (fun c4 => ?_) (fun c4 => ?_)
        · have i11 := eqI c4
          refine q_tableIn (pc := 1) (tgt := 49) K dX3_wordOf_1 c4 (by decide) (by decide) rfl (by decide) ?_
          refine q_ldcs (pc := 49) (i := 3) (tx := "copy") K (by decide +kernel) dX3_wordOf_49 ?_
          exact q_aretP K hr dX3_wordOf_51
        · have i12 := neI c4
          refine q_case (v := 4) (fun c5 => ?_) (fun c5 => ?_)
          · have i9 := eqI c5
            refine q_tableIn (pc := 1) (tgt := 52) K dX3_wordOf_1 c5 (by decide) (by decide) rfl (by decide) ?_
            refine q_ldcs (pc := 52) (i := 4) (tx := "stacked") K (by decide +kernel) dX3_wordOf_52 ?_
            exact q_aretP K hr dX3_wordOf_54
          · have i10 := neI c5
            refine q_case (v := 5) (fun c6 => ?_) (fun c6 => ?_)
            · have i7 := eqI c6
              refine q_tableIn (pc := 1) (tgt := 55) K dX3_wordOf_1 c6 (by decide) (by decide) rfl (by decide) ?_
              refine q_ldcs (pc := 55) (i := 5) (tx := "buried") K (by decide +kernel) dX3_wordOf_55 ?_
              exact q_aretP K hr dX3_wordOf_57
            · have i8 := neI c6
              refine q_tableOut (pc := 1) (tgt := 58) K dX3_wordOf_1 (by omega) (by decide) ?_
              refine q_ldcs (pc := 58) (i := 6) (tx := "false") K (by decide +kernel) dX3_wordOf_58 ?_
              exact q_aretP K hr dX3_wordOf_60
theorem hdV_X3_kindOfWord : yX3_kindOfWord.cls = RX3 ∧ yX3_kindOfWord.cls ≠ "java/lang/invoke/MethodHandle" ∧ yX3_kindOfWord.cls ≠ "java/lang/invoke/VarHandle" ∧ (parseMethodDescriptor yX3_kindOfWord.desc).map (fun d => d.parameters.length) = some 0 := by decide +kernel
set_option maxRecDepth 100000 in
set_option maxHeartbeats 4000000 in
theorem lX3_kindOfWord_2 {p : Program} (l : Launch) {e : Env} {s : State} {m : MethodId} {args : Array Value} {below : List Frame} {meth : Method} {c : Code} {G : gT} (hN : wN G) (hG : gfl G = true) (K : qK p s m args meth c cX3_kindOfWord 2 RX3 wsX3_kindOfWord G) : ∀ (k : Nat) (v1 : Int32) (σ : sg) (hw : WD σ) (hv1 : 0 ≤ v1.toInt ∧ v1.toInt ≤ 7) (hmu : (7 - v1.toInt).toNat < k) (hr : meth.sig.returnType = some .int) (T0 : Int32), qq p l e (headSpec wsX3_kindOfWord rmX3_kindOfWord).room s m args below meth c (MQ below (cQ G (some (.int T0)) σ) args s 0 0 (wA G)) 2 G (fun T => T = T0) (LX3_kindOfWord_2 k v1 σ) 2 [some (.ref (gob G 4)), some (.int v1)] [] σ := by
  intro k
  induction k with
  | zero => intro v1 σ hw hv1 hmu hr T0; exact absurd hmu (Nat.not_lt_zero _)
  | succ k ih =>
    intro v1 σ hw hv1 hmu hr T0
    have km1 : ((-1) : Int32).toInt = -1 := rfl
    have k0 : (0 : Int32).toInt = 0 := rfl
    have k1 : (1 : Int32).toInt = 1 := rfl
    have k7 : (7 : Int32).toInt = 7 := rfl
    refine qq_T (LX3_kindOfWord_2.eq_2 ..) ?_
    refine q_iload_n (pc := 2) K dX3_kindOfWord_2 rfl rfl ?_
    refine q_bipush (pc := 3) (v := 7) K dX3_kindOfWord_3 (by decide) ?_
    refine q_icmp_ge (pc := 5) (tgt := 27) K dX3_kindOfWord_5 (by decide) (fun c1 => ?_) (fun c1 => ?_)
    · have i6 := leI c1
      refine q_iconst (pc := 27) (v := (-1)) K dX3_kindOfWord_27 (by decide) ?_
      exact q_iretP K hr dX3_kindOfWord_28
    · have i7 := nleI c1
      refine q_aload_n (pc := 8) K dX3_kindOfWord_8 rfl rfl ?_
      refine q_iload_n (pc := 9) K dX3_kindOfWord_9 rfl rfl ?_
      refine q_callSa (pc := 10) (rm := rmX3_wordOf) K (kX3_wordOf l hN v1 σ) gX3_kindOfWord_X3_wordOf rfl hdS_X3_wordOf ⟨Nat.le_of_ble_eq_true rfl, Nat.le_of_ble_eq_true rfl⟩ rfl rfl ⟨Nat.zero_le _, Nat.zero_le _⟩ rfl rfl (Nat.le_of_ble_eq_true rfl) dX3_kindOfWord_10 ?_
      refine q_callVi (pc := 13) (o := 4) (rm := rmX3_isWord) K (kX3_isWord l hN hG ((fX3_wordOf v1)) (h18_X3_wordOf _) σ hw) gX3_kindOfWord_X3_isWord rfl hdV_X3_isWord ⟨Nat.le_of_ble_eq_true rfl, Nat.le_of_ble_eq_true rfl⟩ rfl rfl ⟨Nat.zero_le _, Nat.zero_le _⟩ (wO_tp hG) vw_2 rfl rfl (Nat.le_of_ble_eq_true rfl) dX3_kindOfWord_13 ?_
      refine q_if_eq (pc := 16) (tgt := 21) K dX3_kindOfWord_16 (by decide) (fun c2 => ?_) (fun c2 => ?_)
      · have i4 := eqI c2
        refine q_iinc (pc := 21) (v := (v1 + 1)) (lv' := [some (.ref (gob G 4)), some (.int (v1 + 1))]) K dX3_kindOfWord_21 rfl rfl (by decide) rfl ?_
        refine q_goto (pc := 24) (tgt := 2) K dX3_kindOfWord_24 (by decide) ?_
        have a3 := addI (x := v1) (y := 1) (by omega) (by omega)
        exact ih (v1 + 1) σ hw (by omega) (by omega) hr _
      · have i5 := neI c2
        refine q_iload_n (pc := 19) K dX3_kindOfWord_19 rfl rfl ?_
        exact q_iretP K hr dX3_kindOfWord_20
set_option maxRecDepth 100000 in
set_option maxHeartbeats 4000000 in
theorem kX3_kindOfWord (l : Launch) {G : gT} (hN : wN G) (hG : gfl G = true) (σ : sg) (hw : WD σ) : cM l yX3_kindOfWord wsX3_kindOfWord rmX3_kindOfWord G [.ref (gob G 4)] σ (some (.int (fX3_kindOfWord σ))) σ := by
  refine cM_of (maxL := 2) (ret := (some .int)) (cc := cX3_kindOfWord) (fX3_kindOfWord σ) RX3 hN (by decide +kernel) rfl rfl (Nat.le_of_ble_eq_true rfl) rfl ?_
  intro p e s m args below meth c K hr
  have k0 : (0 : Int32).toInt = 0 := rfl
  refine qq_st (lv' := [some (.ref (gob G 4)), none]) rfl rfl rfl ?_
  refine qq_T (fX3_kindOfWord.eq_1 ..) ?_
  refine q_iconst (pc := 0) (v := 0) K dX3_kindOfWord_0 (by decide) ?_
  refine q_istore_n (pc := 1) (lv' := [some (.ref (gob G 4)), some (.int 0)]) K dX3_kindOfWord_1 rfl (by decide) (Nat.le_of_ble_eq_true rfl) rfl ?_
  exact lX3_kindOfWord_2 l hN hG K 8 0 σ hw (by omega) (by omega) hr _
theorem hdV_X3_takesWord : yX3_takesWord.cls = RX3 ∧ yX3_takesWord.cls ≠ "java/lang/invoke/MethodHandle" ∧ yX3_takesWord.cls ≠ "java/lang/invoke/VarHandle" ∧ (parseMethodDescriptor yX3_takesWord.desc).map (fun d => d.parameters.length) = some 1 := by decide +kernel
set_option maxRecDepth 100000 in
set_option maxHeartbeats 4000000 in
theorem kX3_takesWord (l : Launch) {G : gT} (hN : wN G) (hG : gfl G = true) (w1 : Nat) (hw1 : w1 < 18) (σ : sg) (hw : WD σ) : cM l yX3_takesWord wsX3_takesWord rmX3_takesWord G [.ref (gob G 4), .ref (gK G w1)] σ (some (.int (fX3_takesWord w1 σ).1)) (fX3_takesWord w1 σ).2 := by
  refine cM_of (maxL := 3) (ret := (some .boolean)) (cc := cX3_takesWord) (fX3_takesWord w1 σ) RX3 hN (by decide +kernel) rfl rfl (Nat.le_of_ble_eq_true rfl) rfl ?_
  intro p e s m args below meth c K hr
  have k0 : (0 : Int32).toInt = 0 := rfl
  refine qq_st (lv' := [some (.ref (gob G 4)), some (.ref (gK G w1)), none]) rfl rfl rfl ?_
  refine qq_T (fX3_takesWord.eq_1 ..) ?_
  refine q_aload_n (pc := 0) K dX3_takesWord_0 rfl rfl ?_
  refine q_aload_n (pc := 1) K dX3_takesWord_1 rfl rfl ?_
  refine q_callVi (pc := 2) (o := 4) (rm := rmX3_isWord) K (kX3_isWord l hN hG w1 hw1 σ hw) gX3_takesWord_X3_isWord rfl hdV_X3_isWord ⟨Nat.le_of_ble_eq_true rfl, Nat.le_of_ble_eq_true rfl⟩ rfl rfl ⟨Nat.zero_le _, Nat.zero_le _⟩ (wO_tp hG) vw_2 rfl rfl (Nat.le_of_ble_eq_true rfl) dX3_takesWord_2 ?_
  refine q_istore_n (pc := 5) (lv' := [some (.ref (gob G 4)), some (.ref (gK G w1)), some (.int (fX3_isWord w1 σ))]) K dX3_takesWord_5 rfl (by decide) (Nat.le_of_ble_eq_true rfl) rfl ?_
  refine q_iload_n (pc := 6) K dX3_takesWord_6 rfl rfl ?_
  refine q_if_eq (pc := 7) (tgt := 14) K dX3_takesWord_7 (by decide) (fun c1 => ?_) (fun c1 => ?_)
  · have i5 := eqI c1
    refine q_iload_n (pc := 14) K dX3_takesWord_14 rfl rfl ?_
    exact q_zret K hr (b01_X3_isWord _ _) dX3_takesWord_15
  · have i6 := neI c1
    refine q_aload_n (pc := 10) K dX3_takesWord_10 rfl rfl ?_
    refine q_callVv (pc := 11) (o := 4) (rm := rmX3_step) K (kX3_step l hN hG  σ hw) gX3_takesWord_X3_step rfl hdV_X3_step ⟨Nat.le_of_ble_eq_true rfl, Nat.le_of_ble_eq_true rfl⟩ rfl rfl ⟨Nat.zero_le _, Nat.zero_le _⟩ (wO_tp hG) vw_2 rfl rfl (Nat.le_of_ble_eq_true rfl) dX3_takesWord_11 ?_
    refine qq_nmV (fun r2 e3 => ?_)
    have hw4 : WD r2 := by rw [e3]; exact wX3_step  hw 
    refine q_iload_n (pc := 14) K dX3_takesWord_14 rfl rfl ?_
    exact q_zret K hr (b01_X3_isWord _ _) dX3_takesWord_15
theorem hdV_X3_takeNumber : yX3_takeNumber.cls = RX3 ∧ yX3_takeNumber.cls ≠ "java/lang/invoke/MethodHandle" ∧ yX3_takeNumber.cls ≠ "java/lang/invoke/VarHandle" ∧ (parseMethodDescriptor yX3_takeNumber.desc).map (fun d => d.parameters.length) = some 2 := by decide +kernel
theorem mX3_takeNumber_f25 : Cond.fieldLink RX3 25 "WaxTreaties$Tape" "sort" "I" ∈ wsX3_takeNumber := List.mem_of_getElem? (i := 1) rfl
theorem iwX3_takeNumber_X3 : ∀ w ∈ wsX30, w ∈ wsX3_takeNumber := fun w h => List.mem_cons_of_mem _ (List.mem_append_right _ h)
theorem mX3_takeNumber_f28 : Cond.fieldLink RX3 28 "WaxTreaties$Tape" "value" "I" ∈ wsX3_takeNumber := List.mem_of_getElem? (i := 2) rfl
theorem mX3_takeNumber_iX4 : Cond.initialized RX4 ∈ wsX3_takeNumber := List.mem_of_getElem? (i := 4) rfl
theorem mX3_takeNumber_stX4_isWithin : Cond.static yX4_isWithin ∈ wsX3_takeNumber := List.mem_of_getElem? (i := 3) rfl
set_option maxRecDepth 100000 in
set_option maxHeartbeats 4000000 in
theorem kX3_takeNumber (l : Launch) {G : gT} (hN : wN G) (hG : gfl G = true) (v1 : Int32) (v2 : Int32) (σ : sg) (hw : WD σ) : cM l yX3_takeNumber wsX3_takeNumber rmX3_takeNumber G [.ref (gob G 4), .int v1, .int v2] σ (some (.int (fX3_takeNumber v1 v2 σ).1)) (fX3_takeNumber v1 v2 σ).2 := by
  refine cM_of (maxL := 4) (ret := (some .int)) (cc := cX3_takeNumber) (fX3_takeNumber v1 v2 σ) RX3 hN (by decide +kernel) rfl rfl (Nat.le_of_ble_eq_true rfl) rfl ?_
  intro p e s m args below meth c K hr
  have km1 : ((-1) : Int32).toInt = -1 := rfl
  have k0 : (0 : Int32).toInt = 0 := rfl
  have k2 : (2 : Int32).toInt = 2 := rfl
  refine qq_st (lv' := [some (.ref (gob G 4)), some (.int v1), some (.int v2), none]) rfl rfl rfl ?_
  refine qq_T (fX3_takeNumber.eq_1 ..) ?_
  refine q_aload_n (pc := 0) K dX3_takeNumber_0 rfl rfl ?_
  refine q_get (pc := 1) (o := 4) (f := 4) (v := .int (rF σ 25)) K (wO_tp hG) vw_2 iwX3_takeNumber_X3 (by decide) mX3_takeNumber_f25 rfl dX3_takeNumber_1 ?_
  refine q_iconst (pc := 4) (v := 2) K dX3_takeNumber_4 (by decide) ?_
  refine q_icmp_ne (pc := 5) (tgt := 20) K dX3_takeNumber_5 (by decide) (fun c1 => ?_) (fun c1 => ?_)
  · have i10 := neI c1
    refine q_iconst (pc := 20) (v := (-1)) K dX3_takeNumber_20 (by decide) ?_
    exact q_iret K hr dX3_takeNumber_21
  · have i11 := eqI c1
    refine q_aload_n (pc := 8) K dX3_takeNumber_8 rfl rfl ?_
    refine q_get (pc := 9) (o := 4) (f := 5) (v := .int (rF σ 26)) K (wO_tp hG) vw_2 iwX3_takeNumber_X3 (by decide) mX3_takeNumber_f28 rfl dX3_takeNumber_9 ?_
    refine q_iload_n (pc := 12) K dX3_takeNumber_12 rfl rfl ?_
    refine q_iload_n (pc := 13) K dX3_takeNumber_13 rfl rfl ?_
    refine q_callNi (pc := 14) (rm := rmX4_isWithin) K (kX4_isWithin l hN (rF σ 26) v1 v2 σ) gX3_takeNumber_X4_isWithin_n133 (nS_5 K.2.2.2.2.2.2.2.2.1) mX3_takeNumber_iX4 mX3_takeNumber_stX4_isWithin rfl hdS_X4_isWithin ⟨Nat.le_of_ble_eq_true rfl, Nat.le_of_ble_eq_true rfl⟩ rfl rfl ⟨Nat.zero_le _, Nat.zero_le _⟩ rfl rfl (Nat.le_of_ble_eq_true rfl) dX3_takeNumber_14 ?_
    refine q_if_ne (pc := 17) (tgt := 22) K dX3_takeNumber_17 (by decide) (fun c2 => ?_) (fun c2 => ?_)
    · have i6 := neI c2
      have b7 := isW_t c2
      refine q_aload_n (pc := 22) K dX3_takeNumber_22 rfl rfl ?_
      refine q_get (pc := 23) (o := 4) (f := 5) (v := .int (rF σ 26)) K (wO_tp hG) vw_2 iwX3_takeNumber_X3 (by decide) mX3_takeNumber_f28 rfl dX3_takeNumber_23 ?_
      refine q_istore_n (pc := 26) (lv' := [some (.ref (gob G 4)), some (.int v1), some (.int v2), some (.int (rF σ 26))]) K dX3_takeNumber_26 rfl (by decide) (Nat.le_of_ble_eq_true rfl) rfl ?_
      refine q_aload_n (pc := 27) K dX3_takeNumber_27 rfl rfl ?_
      refine q_callVv (pc := 28) (o := 4) (rm := rmX3_step) K (kX3_step l hN hG  σ hw) gX3_takeNumber_X3_step rfl hdV_X3_step ⟨Nat.le_of_ble_eq_true rfl, Nat.le_of_ble_eq_true rfl⟩ rfl rfl ⟨Nat.zero_le _, Nat.zero_le _⟩ (wO_tp hG) vw_2 rfl rfl (Nat.le_of_ble_eq_true rfl) dX3_takeNumber_28 ?_
      refine qq_nmV (fun r3 e4 => ?_)
      have hw5 : WD r3 := by rw [e4]; exact wX3_step  hw 
      refine q_iload_n (pc := 31) K dX3_takeNumber_31 rfl rfl ?_
      exact q_iret K hr dX3_takeNumber_32
    · have i8 := eqI c2
      have b9 := isW_f c2
      refine q_iconst (pc := 20) (v := (-1)) K dX3_takeNumber_20 (by decide) ?_
      exact q_iret K hr dX3_takeNumber_21
theorem hdV_X3_readDeed : yX3_readDeed.cls = RX3 ∧ yX3_readDeed.cls ≠ "java/lang/invoke/MethodHandle" ∧ yX3_readDeed.cls ≠ "java/lang/invoke/VarHandle" ∧ (parseMethodDescriptor yX3_readDeed.desc).map (fun d => d.parameters.length) = some 2 := by decide +kernel
theorem mX3_readDeed_f107 : Cond.fieldLink RX3 107 "WaxTreaties$Chancery" "deeds" "I" ∈ wsX3_readDeed := List.mem_of_getElem? (i := 1) rfl
theorem iwX3_readDeed_X0 : ∀ w ∈ wsX00, w ∈ wsX3_readDeed := fun w h => List.mem_cons_of_mem _ (List.mem_append_left _ (List.mem_append_right _ h))
set_option maxRecDepth 100000 in
set_option maxHeartbeats 4000000 in
theorem kX3_readDeed (l : Launch) {G : gT} (hN : wN G) (hG : gfl G = true) (i1 : Nat) (hi1 : i1 < 3) (v2 : Int32) (σ : sg) (hw : WD σ) : cM l yX3_readDeed wsX3_readDeed rmX3_readDeed G [.ref (gob G 4), .ref (gob G i1), .int v2] σ (some (.int (fX3_readDeed i1 v2 σ).1)) (fX3_readDeed i1 v2 σ).2 := by
  refine cM_of (maxL := 6) (ret := (some .boolean)) (cc := cX3_readDeed) (fX3_readDeed i1 v2 σ) RX3 hN (by decide +kernel) rfl rfl (Nat.le_of_ble_eq_true rfl) rfl ?_
  intro p e s m args below meth c K hr
  have km1 : ((-1) : Int32).toInt = -1 := rfl
  have k0 : (0 : Int32).toInt = 0 := rfl
  have k1 : (1 : Int32).toInt = 1 := rfl
  have k5 : (5 : Int32).toInt = 5 := rfl
  have k40 : (40 : Int32).toInt = 40 := rfl
  have k99 : (99 : Int32).toInt = 99 := rfl
  refine qq_st (lv' := [some (.ref (gob G 4)), some (.ref (gob G i1)), some (.int v2), none, none, none]) rfl rfl rfl ?_
  refine qq_T (fX3_readDeed.eq_1 ..) ?_
  refine q_aload_n (pc := 0) K dX3_readDeed_0 rfl rfl ?_
  refine q_callVi (pc := 1) (o := i1) (rm := rmX0_isFull) K (kX0_isFull l hN hG i1 hi1 σ hw) gX3_readDeed_X0_isFull rfl hdV_X0_isFull ⟨Nat.le_of_ble_eq_true rfl, Nat.le_of_ble_eq_true rfl⟩ rfl rfl ⟨Nat.zero_le _, Nat.zero_le _⟩ (wO_ch hG hi1) vw_0 rfl rfl (Nat.le_of_ble_eq_true rfl) dX3_readDeed_1 ?_
  refine q_if_eq (pc := 4) (tgt := 9) K dX3_readDeed_4 (by decide) (fun c1 => ?_) (fun c1 => ?_)
  · have i63 := eqI c1
    have b64 := isF_f c1
    refine q_aload_n (pc := 9) K dX3_readDeed_9 rfl rfl ?_
    refine q_callVv (pc := 10) (o := 4) (rm := rmX3_step) K (kX3_step l hN hG  σ hw) gX3_readDeed_X3_step rfl hdV_X3_step ⟨Nat.le_of_ble_eq_true rfl, Nat.le_of_ble_eq_true rfl⟩ rfl rfl ⟨Nat.zero_le _, Nat.zero_le _⟩ (wO_tp hG) vw_2 rfl rfl (Nat.le_of_ble_eq_true rfl) dX3_readDeed_10 ?_
    refine qq_nmV (fun r2 e3 => ?_)
    have hw4 : WD r2 := by rw [e3]; exact wX3_step  hw 
    refine q_aload_n (pc := 13) K dX3_readDeed_13 rfl rfl ?_
    refine q_iconst (pc := 14) (v := 0) K dX3_readDeed_14 (by decide) ?_
    refine q_iconst (pc := 15) (v := 5) K dX3_readDeed_15 (by decide) ?_
    refine q_callVi (pc := 16) (o := 4) (rm := rmX3_takeNumber) K (kX3_takeNumber l hN hG 0 5 r2 hw4) gX3_readDeed_X3_takeNumber rfl hdV_X3_takeNumber ⟨Nat.le_of_ble_eq_true rfl, Nat.le_of_ble_eq_true rfl⟩ rfl rfl ⟨Nat.zero_le _, Nat.zero_le _⟩ (wO_tp hG) vw_2 rfl rfl (Nat.le_of_ble_eq_true rfl) dX3_readDeed_16 ?_
    refine qq_nmI (fun r5 e6 => ?_)
    have hw7 : WD r5.2 := by rw [e6]; exact wX3_takeNumber 0 5 hw4 
    have tnr5 := tn_f e6
    refine q_istore_n (pc := 19) (lv' := [some (.ref (gob G 4)), some (.ref (gob G i1)), some (.int v2), some (.int r5.1), none, none]) K dX3_readDeed_19 rfl (by decide) (Nat.le_of_ble_eq_true rfl) rfl ?_
    refine q_iload_n (pc := 20) K dX3_readDeed_20 rfl rfl ?_
    refine q_iconst (pc := 21) (v := (-1)) K dX3_readDeed_21 (by decide) ?_
    refine q_icmp_ne (pc := 22) (tgt := 27) K dX3_readDeed_22 (by decide) (fun c8 => ?_) (fun c8 => ?_)
    · have i61 := neI c8
      refine q_aload_n (pc := 27) K dX3_readDeed_27 rfl rfl ?_
      refine q_ldcs (pc := 28) (i := 11) (tx := "wax") K (by decide +kernel) dX3_readDeed_28 ?_
      refine q_callVi (pc := 30) (o := 4) (rm := rmX3_takesWord) K (kX3_takesWord l hN hG 11 (by decide) r5.2 hw7) gX3_readDeed_X3_takesWord rfl hdV_X3_takesWord ⟨Nat.le_of_ble_eq_true rfl, Nat.le_of_ble_eq_true rfl⟩ rfl rfl ⟨Nat.zero_le _, Nat.zero_le _⟩ (wO_tp hG) vw_2 rfl rfl (Nat.le_of_ble_eq_true rfl) dX3_readDeed_30 ?_
      refine qq_nmI (fun r9 e10 => ?_)
      have hw11 : WD r9.2 := by rw [e10]; exact wX3_takesWord 11 (by decide) hw7 
      refine q_if_eq (pc := 33) (tgt := 46) K dX3_readDeed_33 (by decide) (fun c12 => ?_) (fun c12 => ?_)
      · have i59 := eqI c12
        refine q_bipush (pc := 46) (v := 40) K dX3_readDeed_46 (by decide) ?_
        refine q_istore (pc := 48) (lv' := [some (.ref (gob G 4)), some (.ref (gob G i1)), some (.int v2), some (.int r5.1), some (.int 40), none]) K dX3_readDeed_48 (by decide) (Nat.le_of_ble_eq_true rfl) rfl ?_
        refine q_iload (pc := 50) K dX3_readDeed_50 rfl ?_
        refine q_iconst (pc := 52) (v := (-1)) K dX3_readDeed_52 (by decide) ?_
        refine q_icmp_ne_t (pc := 53) (tgt := 58) K (by decide) dX3_readDeed_53 (by decide) ?_
        refine q_iconst (pc := 58) (v := (-1)) K dX3_readDeed_58 (by decide) ?_
        refine q_istore (pc := 59) (lv' := [some (.ref (gob G 4)), some (.ref (gob G i1)), some (.int v2), some (.int r5.1), some (.int 40), some (.int (-1))]) K dX3_readDeed_59 (by decide) (Nat.le_of_ble_eq_true rfl) rfl ?_
        refine q_aload_n (pc := 61) K dX3_readDeed_61 rfl rfl ?_
        refine q_ldcs (pc := 62) (i := 12) (tx := "on") K (by decide +kernel) dX3_readDeed_62 ?_
        refine q_callVi (pc := 64) (o := 4) (rm := rmX3_takesWord) K (kX3_takesWord l hN hG 12 (by decide) r9.2 hw11) gX3_readDeed_X3_takesWord rfl hdV_X3_takesWord ⟨Nat.le_of_ble_eq_true rfl, Nat.le_of_ble_eq_true rfl⟩ rfl rfl ⟨Nat.zero_le _, Nat.zero_le _⟩ (wO_tp hG) vw_2 rfl rfl (Nat.le_of_ble_eq_true rfl) dX3_readDeed_64 ?_
        refine qq_nmI (fun r13 e14 => ?_)
        have hw15 : WD r13.2 := by rw [e14]; exact wX3_takesWord 12 (by decide) hw11 
        refine q_if_eq (pc := 67) (tgt := 91) K dX3_readDeed_67 (by decide) (fun c16 => ?_) (fun c16 => ?_)
        · have i31 := eqI c16
          refine q_aload_n (pc := 91) K dX3_readDeed_91 rfl rfl ?_
          refine q_iload_n (pc := 92) K dX3_readDeed_92 rfl rfl ?_
          refine q_iload_n (pc := 93) K dX3_readDeed_93 rfl rfl ?_
          refine q_iload (pc := 94) K dX3_readDeed_94 rfl ?_
          refine q_iload (pc := 96) K dX3_readDeed_96 rfl ?_
          refine q_callVi (pc := 98) (o := i1) (rm := rmX0_addDeed) K (kX0_addDeed l hN hG i1 hi1 v2 r5.1 40 (-1) r13.2 hw15 (by omega)) gX3_readDeed_X0_addDeed rfl hdV_X0_addDeed ⟨Nat.le_of_ble_eq_true rfl, Nat.le_of_ble_eq_true rfl⟩ rfl rfl ⟨Nat.zero_le _, Nat.zero_le _⟩ (wO_ch hG hi1) vw_0 rfl rfl (Nat.le_of_ble_eq_true rfl) dX3_readDeed_98 ?_
          refine qq_nmI (fun r17 e18 => ?_)
          have hw19 : WD r17.2 := by rw [e18]; exact wX0_addDeed i1 hi1 v2 r5.1 40 (-1) hw15 (by omega)
          refine q_pop (pc := 101) K dX3_readDeed_101 rfl ?_
          refine q_iconst (pc := 102) (v := 1) K dX3_readDeed_102 (by decide) ?_
          exact q_zret K hr (Or.inr rfl) dX3_readDeed_103
        · have i32 := neI c16
          refine q_aload_n (pc := 70) K dX3_readDeed_70 rfl rfl ?_
          refine q_iconst (pc := 71) (v := 0) K dX3_readDeed_71 (by decide) ?_
          refine q_aload_n (pc := 72) K dX3_readDeed_72 rfl rfl ?_
          refine q_get (pc := 73) (o := i1) (f := 8) (v := .int (rF r13.2 (7 * i1 + 1))) K (wO_ch hG hi1) vw_0 iwX3_readDeed_X0 (by decide) mX3_readDeed_f107 rfl dX3_readDeed_73 ?_
          have w20 := wd_deeds hw15 hi1
          refine q_iconst (pc := 76) (v := 1) K dX3_readDeed_76 (by decide) ?_
          refine q_isub (pc := 77) K dX3_readDeed_77 ?_
          have a21 := subI (x := (rF r13.2 (7 * i1 + 1))) (y := 1) (by omega) (by omega)
          refine q_callVi (pc := 78) (o := 4) (rm := rmX3_takeNumber) K (kX3_takeNumber l hN hG 0 ((rF r13.2 (7 * i1 + 1)) - 1) r13.2 hw15) gX3_readDeed_X3_takeNumber rfl hdV_X3_takeNumber ⟨Nat.le_of_ble_eq_true rfl, Nat.le_of_ble_eq_true rfl⟩ rfl rfl ⟨Nat.zero_le _, Nat.zero_le _⟩ (wO_tp hG) vw_2 rfl rfl (Nat.le_of_ble_eq_true rfl) dX3_readDeed_78 ?_
          refine qq_nmI (fun r22 e23 => ?_)
          have hw24 : WD r22.2 := by rw [e23]; exact wX3_takeNumber 0 ((rF r13.2 (7 * i1 + 1)) - 1) hw15 
          have tnr22 := tn_f e23
          refine q_istore (pc := 81) (lv' := [some (.ref (gob G 4)), some (.ref (gob G i1)), some (.int v2), some (.int r5.1), some (.int 40), some (.int r22.1)]) K dX3_readDeed_81 (by decide) (Nat.le_of_ble_eq_true rfl) rfl ?_
          refine q_iload (pc := 83) K dX3_readDeed_83 rfl ?_
          refine q_iconst (pc := 85) (v := (-1)) K dX3_readDeed_85 (by decide) ?_
          refine q_icmp_ne (pc := 86) (tgt := 91) K dX3_readDeed_86 (by decide) (fun c25 => ?_) (fun c25 => ?_)
          · have i29 := neI c25
            refine q_aload_n (pc := 91) K dX3_readDeed_91 rfl rfl ?_
            refine q_iload_n (pc := 92) K dX3_readDeed_92 rfl rfl ?_
            refine q_iload_n (pc := 93) K dX3_readDeed_93 rfl rfl ?_
            refine q_iload (pc := 94) K dX3_readDeed_94 rfl ?_
            refine q_iload (pc := 96) K dX3_readDeed_96 rfl ?_
            refine q_callVi (pc := 98) (o := i1) (rm := rmX0_addDeed) K (kX0_addDeed l hN hG i1 hi1 v2 r5.1 40 r22.1 r22.2 hw24 (by omega)) gX3_readDeed_X0_addDeed rfl hdV_X0_addDeed ⟨Nat.le_of_ble_eq_true rfl, Nat.le_of_ble_eq_true rfl⟩ rfl rfl ⟨Nat.zero_le _, Nat.zero_le _⟩ (wO_ch hG hi1) vw_0 rfl rfl (Nat.le_of_ble_eq_true rfl) dX3_readDeed_98 ?_
            refine qq_nmI (fun r26 e27 => ?_)
            have hw28 : WD r26.2 := by rw [e27]; exact wX0_addDeed i1 hi1 v2 r5.1 40 r22.1 hw24 (by omega)
            refine q_pop (pc := 101) K dX3_readDeed_101 rfl ?_
            refine q_iconst (pc := 102) (v := 1) K dX3_readDeed_102 (by decide) ?_
            exact q_zret K hr (Or.inr rfl) dX3_readDeed_103
          · have i30 := eqI c25
            refine q_iconst (pc := 89) (v := 0) K dX3_readDeed_89 (by decide) ?_
            exact q_zret K hr (Or.inl rfl) dX3_readDeed_90
      · have i60 := neI c12
        refine q_aload_n (pc := 36) K dX3_readDeed_36 rfl rfl ?_
        refine q_iconst (pc := 37) (v := 1) K dX3_readDeed_37 (by decide) ?_
        refine q_bipush (pc := 38) (v := 99) K dX3_readDeed_38 (by decide) ?_
        refine q_callVi (pc := 40) (o := 4) (rm := rmX3_takeNumber) K (kX3_takeNumber l hN hG 1 99 r9.2 hw11) gX3_readDeed_X3_takeNumber rfl hdV_X3_takeNumber ⟨Nat.le_of_ble_eq_true rfl, Nat.le_of_ble_eq_true rfl⟩ rfl rfl ⟨Nat.zero_le _, Nat.zero_le _⟩ (wO_tp hG) vw_2 rfl rfl (Nat.le_of_ble_eq_true rfl) dX3_readDeed_40 ?_
        refine qq_nmI (fun r33 e34 => ?_)
        have hw35 : WD r33.2 := by rw [e34]; exact wX3_takeNumber 1 99 hw11 
        have tnr33 := tn_f e34
        refine q_goto (pc := 43) (tgt := 48) K dX3_readDeed_43 (by decide) ?_
        refine q_istore (pc := 48) (lv' := [some (.ref (gob G 4)), some (.ref (gob G i1)), some (.int v2), some (.int r5.1), some (.int r33.1), none]) K dX3_readDeed_48 (by decide) (Nat.le_of_ble_eq_true rfl) rfl ?_
        refine q_iload (pc := 50) K dX3_readDeed_50 rfl ?_
        refine q_iconst (pc := 52) (v := (-1)) K dX3_readDeed_52 (by decide) ?_
        refine q_icmp_ne (pc := 53) (tgt := 58) K dX3_readDeed_53 (by decide) (fun c36 => ?_) (fun c36 => ?_)
        · have i57 := neI c36
          refine q_iconst (pc := 58) (v := (-1)) K dX3_readDeed_58 (by decide) ?_
          refine q_istore (pc := 59) (lv' := [some (.ref (gob G 4)), some (.ref (gob G i1)), some (.int v2), some (.int r5.1), some (.int r33.1), some (.int (-1))]) K dX3_readDeed_59 (by decide) (Nat.le_of_ble_eq_true rfl) rfl ?_
          refine q_aload_n (pc := 61) K dX3_readDeed_61 rfl rfl ?_
          refine q_ldcs (pc := 62) (i := 12) (tx := "on") K (by decide +kernel) dX3_readDeed_62 ?_
          refine q_callVi (pc := 64) (o := 4) (rm := rmX3_takesWord) K (kX3_takesWord l hN hG 12 (by decide) r33.2 hw35) gX3_readDeed_X3_takesWord rfl hdV_X3_takesWord ⟨Nat.le_of_ble_eq_true rfl, Nat.le_of_ble_eq_true rfl⟩ rfl rfl ⟨Nat.zero_le _, Nat.zero_le _⟩ (wO_tp hG) vw_2 rfl rfl (Nat.le_of_ble_eq_true rfl) dX3_readDeed_64 ?_
          refine qq_nmI (fun r37 e38 => ?_)
          have hw39 : WD r37.2 := by rw [e38]; exact wX3_takesWord 12 (by decide) hw35 
          refine q_if_eq (pc := 67) (tgt := 91) K dX3_readDeed_67 (by decide) (fun c40 => ?_) (fun c40 => ?_)
          · have i55 := eqI c40
            refine q_aload_n (pc := 91) K dX3_readDeed_91 rfl rfl ?_
            refine q_iload_n (pc := 92) K dX3_readDeed_92 rfl rfl ?_
            refine q_iload_n (pc := 93) K dX3_readDeed_93 rfl rfl ?_
            refine q_iload (pc := 94) K dX3_readDeed_94 rfl ?_
            refine q_iload (pc := 96) K dX3_readDeed_96 rfl ?_
            refine q_callVi (pc := 98) (o := i1) (rm := rmX0_addDeed) K (kX0_addDeed l hN hG i1 hi1 v2 r5.1 r33.1 (-1) r37.2 hw39 (by omega)) gX3_readDeed_X0_addDeed rfl hdV_X0_addDeed ⟨Nat.le_of_ble_eq_true rfl, Nat.le_of_ble_eq_true rfl⟩ rfl rfl ⟨Nat.zero_le _, Nat.zero_le _⟩ (wO_ch hG hi1) vw_0 rfl rfl (Nat.le_of_ble_eq_true rfl) dX3_readDeed_98 ?_
            refine qq_nmI (fun r41 e42 => ?_)
            have hw43 : WD r41.2 := by rw [e42]; exact wX0_addDeed i1 hi1 v2 r5.1 r33.1 (-1) hw39 (by omega)
            refine q_pop (pc := 101) K dX3_readDeed_101 rfl ?_
            refine q_iconst (pc := 102) (v := 1) K dX3_readDeed_102 (by decide) ?_
            exact q_zret K hr (Or.inr rfl) dX3_readDeed_103
          · have i56 := neI c40
            refine q_aload_n (pc := 70) K dX3_readDeed_70 rfl rfl ?_
            refine q_iconst (pc := 71) (v := 0) K dX3_readDeed_71 (by decide) ?_
            refine q_aload_n (pc := 72) K dX3_readDeed_72 rfl rfl ?_
            refine q_get (pc := 73) (o := i1) (f := 8) (v := .int (rF r37.2 (7 * i1 + 1))) K (wO_ch hG hi1) vw_0 iwX3_readDeed_X0 (by decide) mX3_readDeed_f107 rfl dX3_readDeed_73 ?_
            have w44 := wd_deeds hw39 hi1
            refine q_iconst (pc := 76) (v := 1) K dX3_readDeed_76 (by decide) ?_
            refine q_isub (pc := 77) K dX3_readDeed_77 ?_
            have a45 := subI (x := (rF r37.2 (7 * i1 + 1))) (y := 1) (by omega) (by omega)
            refine q_callVi (pc := 78) (o := 4) (rm := rmX3_takeNumber) K (kX3_takeNumber l hN hG 0 ((rF r37.2 (7 * i1 + 1)) - 1) r37.2 hw39) gX3_readDeed_X3_takeNumber rfl hdV_X3_takeNumber ⟨Nat.le_of_ble_eq_true rfl, Nat.le_of_ble_eq_true rfl⟩ rfl rfl ⟨Nat.zero_le _, Nat.zero_le _⟩ (wO_tp hG) vw_2 rfl rfl (Nat.le_of_ble_eq_true rfl) dX3_readDeed_78 ?_
            refine qq_nmI (fun r46 e47 => ?_)
            have hw48 : WD r46.2 := by rw [e47]; exact wX3_takeNumber 0 ((rF r37.2 (7 * i1 + 1)) - 1) hw39 
            have tnr46 := tn_f e47
            refine q_istore (pc := 81) (lv' := [some (.ref (gob G 4)), some (.ref (gob G i1)), some (.int v2), some (.int r5.1), some (.int r33.1), some (.int r46.1)]) K dX3_readDeed_81 (by decide) (Nat.le_of_ble_eq_true rfl) rfl ?_
            refine q_iload (pc := 83) K dX3_readDeed_83 rfl ?_
            refine q_iconst (pc := 85) (v := (-1)) K dX3_readDeed_85 (by decide) ?_
            refine q_icmp_ne (pc := 86) (tgt := 91) K dX3_readDeed_86 (by decide) (fun c49 => ?_) (fun c49 => ?_)
            · have i53 := neI c49
              refine q_aload_n (pc := 91) K dX3_readDeed_91 rfl rfl ?_
              refine q_iload_n (pc := 92) K dX3_readDeed_92 rfl rfl ?_
              refine q_iload_n (pc := 93) K dX3_readDeed_93 rfl rfl ?_
              refine q_iload (pc := 94) K dX3_readDeed_94 rfl ?_
              refine q_iload (pc := 96) K dX3_readDeed_96 rfl ?_
              refine q_callVi (pc := 98) (o := i1) (rm := rmX0_addDeed) K (kX0_addDeed l hN hG i1 hi1 v2 r5.1 r33.1 r46.1 r46.2 hw48 (by omega)) gX3_readDeed_X0_addDeed rfl hdV_X0_addDeed ⟨Nat.le_of_ble_eq_true rfl, Nat.le_of_ble_eq_true rfl⟩ rfl rfl ⟨Nat.zero_le _, Nat.zero_le _⟩ (wO_ch hG hi1) vw_0 rfl rfl (Nat.le_of_ble_eq_true rfl) dX3_readDeed_98 ?_
              refine qq_nmI (fun r50 e51 => ?_)
              have hw52 : WD r50.2 := by rw [e51]; exact wX0_addDeed i1 hi1 v2 r5.1 r33.1 r46.1 hw48 (by omega)
              refine q_pop (pc := 101) K dX3_readDeed_101 rfl ?_
              refine q_iconst (pc := 102) (v := 1) K dX3_readDeed_102 (by decide) ?_
              exact q_zret K hr (Or.inr rfl) dX3_readDeed_103
            · have i54 := eqI c49
              refine q_iconst (pc := 89) (v := 0) K dX3_readDeed_89 (by decide) ?_
              exact q_zret K hr (Or.inl rfl) dX3_readDeed_90
        · have i58 := eqI c36
          refine q_iconst (pc := 56) (v := 0) K dX3_readDeed_56 (by decide) ?_
          exact q_zret K hr (Or.inl rfl) dX3_readDeed_57
    · have i62 := eqI c8
      refine q_iconst (pc := 25) (v := 0) K dX3_readDeed_25 (by decide) ?_
      exact q_zret K hr (Or.inl rfl) dX3_readDeed_26
  · have i65 := neI c1
    refine q_iconst (pc := 7) (v := 0) K dX3_readDeed_7 (by decide) ?_
    exact q_zret K hr (Or.inl rfl) dX3_readDeed_8
theorem hdV_X3_readShutter : yX3_readShutter.cls = RX3 ∧ yX3_readShutter.cls ≠ "java/lang/invoke/MethodHandle" ∧ yX3_readShutter.cls ≠ "java/lang/invoke/VarHandle" ∧ (parseMethodDescriptor yX3_readShutter.desc).map (fun d => d.parameters.length) = some 1 := by decide +kernel
set_option maxRecDepth 100000 in
set_option maxHeartbeats 4000000 in
theorem kX3_readShutter (l : Launch) {G : gT} (hN : wN G) (hG : gfl G = true) (i1 : Nat) (hi1 : i1 < 3) (σ : sg) (hw : WD σ) : cM l yX3_readShutter wsX3_readShutter rmX3_readShutter G [.ref (gob G 4), .ref (gob G i1)] σ (some (.int (fX3_readShutter i1 σ).1)) (fX3_readShutter i1 σ).2 := by
  refine cM_of (maxL := 4) (ret := (some .boolean)) (cc := cX3_readShutter) (fX3_readShutter i1 σ) RX3 hN (by decide +kernel) rfl rfl (Nat.le_of_ble_eq_true rfl) rfl ?_
  intro p e s m args below meth c K hr
  have km1 : ((-1) : Int32).toInt = -1 := rfl
  have k0 : (0 : Int32).toInt = 0 := rfl
  have k1 : (1 : Int32).toInt = 1 := rfl
  have k5 : (5 : Int32).toInt = 5 := rfl
  refine qq_st (lv' := [some (.ref (gob G 4)), some (.ref (gob G i1)), none, none]) rfl rfl rfl ?_
  refine qq_T (fX3_readShutter.eq_1 ..) ?_
  refine q_aload_n (pc := 0) K dX3_readShutter_0 rfl rfl ?_
  refine q_iconst (pc := 1) (v := 0) K dX3_readShutter_1 (by decide) ?_
  refine q_iconst (pc := 2) (v := 5) K dX3_readShutter_2 (by decide) ?_
  refine q_callVi (pc := 3) (o := 4) (rm := rmX3_takeNumber) K (kX3_takeNumber l hN hG 0 5 σ hw) gX3_readShutter_X3_takeNumber rfl hdV_X3_takeNumber ⟨Nat.le_of_ble_eq_true rfl, Nat.le_of_ble_eq_true rfl⟩ rfl rfl ⟨Nat.zero_le _, Nat.zero_le _⟩ (wO_tp hG) vw_2 rfl rfl (Nat.le_of_ble_eq_true rfl) dX3_readShutter_3 ?_
  refine qq_nmI (fun r1 e2 => ?_)
  have hw3 : WD r1.2 := by rw [e2]; exact wX3_takeNumber 0 5 hw 
  have tnr1 := tn_f e2
  refine q_istore_n (pc := 6) (lv' := [some (.ref (gob G 4)), some (.ref (gob G i1)), some (.int r1.1), none]) K dX3_readShutter_6 rfl (by decide) (Nat.le_of_ble_eq_true rfl) rfl ?_
  refine q_iload_n (pc := 7) K dX3_readShutter_7 rfl rfl ?_
  refine q_iconst (pc := 8) (v := (-1)) K dX3_readShutter_8 (by decide) ?_
  refine q_icmp_ne (pc := 9) (tgt := 14) K dX3_readShutter_9 (by decide) (fun c4 => ?_) (fun c4 => ?_)
  · have i23 := neI c4
    refine q_aload_n (pc := 14) K dX3_readShutter_14 rfl rfl ?_
    refine q_ldcs (pc := 15) (i := 13) (tx := "open") K (by decide +kernel) dX3_readShutter_15 ?_
    refine q_callVi (pc := 17) (o := 4) (rm := rmX3_takesWord) K (kX3_takesWord l hN hG 13 (by decide) r1.2 hw3) gX3_readShutter_X3_takesWord rfl hdV_X3_takesWord ⟨Nat.le_of_ble_eq_true rfl, Nat.le_of_ble_eq_true rfl⟩ rfl rfl ⟨Nat.zero_le _, Nat.zero_le _⟩ (wO_tp hG) vw_2 rfl rfl (Nat.le_of_ble_eq_true rfl) dX3_readShutter_17 ?_
    refine qq_nmI (fun r5 e6 => ?_)
    have hw7 : WD r5.2 := by rw [e6]; exact wX3_takesWord 13 (by decide) hw3 
    refine q_istore_n (pc := 20) (lv' := [some (.ref (gob G 4)), some (.ref (gob G i1)), some (.int r1.1), some (.int r5.1)]) K dX3_readShutter_20 rfl (by decide) (Nat.le_of_ble_eq_true rfl) rfl ?_
    refine q_iload_n (pc := 21) K dX3_readShutter_21 rfl rfl ?_
    refine q_if_ne (pc := 22) (tgt := 36) K dX3_readShutter_22 (by decide) (fun c8 => ?_) (fun c8 => ?_)
    · have i21 := neI c8
      refine q_aload_n (pc := 36) K dX3_readShutter_36 rfl rfl ?_
      refine q_iload_n (pc := 37) K dX3_readShutter_37 rfl rfl ?_
      refine q_iload_n (pc := 38) K dX3_readShutter_38 rfl rfl ?_
      refine q_callVv (pc := 39) (o := i1) (rm := rmX0_setShutter) K (kX0_setShutter l hN hG i1 hi1 r1.1 r5.1 r5.2 hw7) gX3_readShutter_X0_setShutter rfl hdV_X0_setShutter ⟨Nat.le_of_ble_eq_true rfl, Nat.le_of_ble_eq_true rfl⟩ rfl rfl ⟨Nat.zero_le _, Nat.zero_le _⟩ (wO_ch hG hi1) vw_0 rfl rfl (Nat.le_of_ble_eq_true rfl) dX3_readShutter_39 ?_
      refine qq_nmV (fun r9 e10 => ?_)
      have hw11 : WD r9 := by rw [e10]; exact wX0_setShutter i1 hi1 r1.1 r5.1 hw7 
      refine q_iconst (pc := 42) (v := 1) K dX3_readShutter_42 (by decide) ?_
      exact q_zret K hr (Or.inr rfl) dX3_readShutter_43
    · have i22 := eqI c8
      refine q_aload_n (pc := 25) K dX3_readShutter_25 rfl rfl ?_
      refine q_ldcs (pc := 26) (i := 14) (tx := "shut") K (by decide +kernel) dX3_readShutter_26 ?_
      refine q_callVi (pc := 28) (o := 4) (rm := rmX3_takesWord) K (kX3_takesWord l hN hG 14 (by decide) r5.2 hw7) gX3_readShutter_X3_takesWord rfl hdV_X3_takesWord ⟨Nat.le_of_ble_eq_true rfl, Nat.le_of_ble_eq_true rfl⟩ rfl rfl ⟨Nat.zero_le _, Nat.zero_le _⟩ (wO_tp hG) vw_2 rfl rfl (Nat.le_of_ble_eq_true rfl) dX3_readShutter_28 ?_
      refine qq_nmI (fun r12 e13 => ?_)
      have hw14 : WD r12.2 := by rw [e13]; exact wX3_takesWord 14 (by decide) hw7 
      refine q_if_ne (pc := 31) (tgt := 36) K dX3_readShutter_31 (by decide) (fun c15 => ?_) (fun c15 => ?_)
      · have i19 := neI c15
        refine q_aload_n (pc := 36) K dX3_readShutter_36 rfl rfl ?_
        refine q_iload_n (pc := 37) K dX3_readShutter_37 rfl rfl ?_
        refine q_iload_n (pc := 38) K dX3_readShutter_38 rfl rfl ?_
        refine q_callVv (pc := 39) (o := i1) (rm := rmX0_setShutter) K (kX0_setShutter l hN hG i1 hi1 r1.1 r5.1 r12.2 hw14) gX3_readShutter_X0_setShutter rfl hdV_X0_setShutter ⟨Nat.le_of_ble_eq_true rfl, Nat.le_of_ble_eq_true rfl⟩ rfl rfl ⟨Nat.zero_le _, Nat.zero_le _⟩ (wO_ch hG hi1) vw_0 rfl rfl (Nat.le_of_ble_eq_true rfl) dX3_readShutter_39 ?_
        refine qq_nmV (fun r16 e17 => ?_)
        have hw18 : WD r16 := by rw [e17]; exact wX0_setShutter i1 hi1 r1.1 r5.1 hw14 
        refine q_iconst (pc := 42) (v := 1) K dX3_readShutter_42 (by decide) ?_
        exact q_zret K hr (Or.inr rfl) dX3_readShutter_43
      · have i20 := eqI c15
        refine q_iconst (pc := 34) (v := 0) K dX3_readShutter_34 (by decide) ?_
        exact q_zret K hr (Or.inl rfl) dX3_readShutter_35
  · have i24 := eqI c4
    refine q_iconst (pc := 12) (v := 0) K dX3_readShutter_12 (by decide) ?_
    exact q_zret K hr (Or.inl rfl) dX3_readShutter_13
theorem hdV_X3_readIce : yX3_readIce.cls = RX3 ∧ yX3_readIce.cls ≠ "java/lang/invoke/MethodHandle" ∧ yX3_readIce.cls ≠ "java/lang/invoke/VarHandle" ∧ (parseMethodDescriptor yX3_readIce.desc).map (fun d => d.parameters.length) = some 1 := by decide +kernel
theorem mX3_readIce_f122 : Cond.fieldLink RX3 122 "WaxTreaties$Chancery" "ice" "[I" ∈ wsX3_readIce := List.mem_of_getElem? (i := 1) rfl
theorem iwX3_readIce_X0 : ∀ w ∈ wsX00, w ∈ wsX3_readIce := fun w h => List.mem_cons_of_mem _ (List.mem_append_left _ (List.mem_append_right _ h))
set_option maxRecDepth 100000 in
set_option maxHeartbeats 4000000 in
theorem kX3_readIce (l : Launch) {G : gT} (hN : wN G) (hG : gfl G = true) (i1 : Nat) (hi1 : i1 < 3) (σ : sg) (hw : WD σ) : cM l yX3_readIce wsX3_readIce rmX3_readIce G [.ref (gob G 4), .ref (gob G i1)] σ (some (.int (fX3_readIce i1 σ).1)) (fX3_readIce i1 σ).2 := by
  refine cM_of (maxL := 4) (ret := (some .boolean)) (cc := cX3_readIce) (fX3_readIce i1 σ) RX3 hN (by decide +kernel) rfl rfl (Nat.le_of_ble_eq_true rfl) rfl ?_
  intro p e s m args below meth c K hr
  have km1 : ((-1) : Int32).toInt = -1 := rfl
  have k0 : (0 : Int32).toInt = 0 := rfl
  have k1 : (1 : Int32).toInt = 1 := rfl
  have k5 : (5 : Int32).toInt = 5 := rfl
  have k99 : (99 : Int32).toInt = 99 := rfl
  refine qq_st (lv' := [some (.ref (gob G 4)), some (.ref (gob G i1)), none, none]) rfl rfl rfl ?_
  refine qq_T (fX3_readIce.eq_1 ..) ?_
  refine q_aload_n (pc := 0) K dX3_readIce_0 rfl rfl ?_
  refine q_iconst (pc := 1) (v := 0) K dX3_readIce_1 (by decide) ?_
  refine q_iconst (pc := 2) (v := 5) K dX3_readIce_2 (by decide) ?_
  refine q_callVi (pc := 3) (o := 4) (rm := rmX3_takeNumber) K (kX3_takeNumber l hN hG 0 5 σ hw) gX3_readIce_X3_takeNumber rfl hdV_X3_takeNumber ⟨Nat.le_of_ble_eq_true rfl, Nat.le_of_ble_eq_true rfl⟩ rfl rfl ⟨Nat.zero_le _, Nat.zero_le _⟩ (wO_tp hG) vw_2 rfl rfl (Nat.le_of_ble_eq_true rfl) dX3_readIce_3 ?_
  refine qq_nmI (fun r1 e2 => ?_)
  have hw3 : WD r1.2 := by rw [e2]; exact wX3_takeNumber 0 5 hw 
  have tnr1 := tn_f e2
  refine q_istore_n (pc := 6) (lv' := [some (.ref (gob G 4)), some (.ref (gob G i1)), some (.int r1.1), none]) K dX3_readIce_6 rfl (by decide) (Nat.le_of_ble_eq_true rfl) rfl ?_
  refine q_iload_n (pc := 7) K dX3_readIce_7 rfl rfl ?_
  refine q_iconst (pc := 8) (v := (-1)) K dX3_readIce_8 (by decide) ?_
  refine q_icmp_ne (pc := 9) (tgt := 14) K dX3_readIce_9 (by decide) (fun c4 => ?_) (fun c4 => ?_)
  · have i14 := neI c4
    refine q_aload_n (pc := 14) K dX3_readIce_14 rfl rfl ?_
    refine q_iconst (pc := 15) (v := 0) K dX3_readIce_15 (by decide) ?_
    refine q_bipush (pc := 16) (v := 99) K dX3_readIce_16 (by decide) ?_
    refine q_callVi (pc := 18) (o := 4) (rm := rmX3_takeNumber) K (kX3_takeNumber l hN hG 0 99 r1.2 hw3) gX3_readIce_X3_takeNumber rfl hdV_X3_takeNumber ⟨Nat.le_of_ble_eq_true rfl, Nat.le_of_ble_eq_true rfl⟩ rfl rfl ⟨Nat.zero_le _, Nat.zero_le _⟩ (wO_tp hG) vw_2 rfl rfl (Nat.le_of_ble_eq_true rfl) dX3_readIce_18 ?_
    refine qq_nmI (fun r5 e6 => ?_)
    have hw7 : WD r5.2 := by rw [e6]; exact wX3_takeNumber 0 99 hw3 
    have tnr5 := tn_f e6
    refine q_istore_n (pc := 21) (lv' := [some (.ref (gob G 4)), some (.ref (gob G i1)), some (.int r1.1), some (.int r5.1)]) K dX3_readIce_21 rfl (by decide) (Nat.le_of_ble_eq_true rfl) rfl ?_
    refine q_iload_n (pc := 22) K dX3_readIce_22 rfl rfl ?_
    refine q_iconst (pc := 23) (v := (-1)) K dX3_readIce_23 (by decide) ?_
    refine q_icmp_ne (pc := 24) (tgt := 29) K dX3_readIce_24 (by decide) (fun c8 => ?_) (fun c8 => ?_)
    · have i12 := neI c8
      refine q_aload_n (pc := 29) K dX3_readIce_29 rfl rfl ?_
      refine q_get (pc := 30) (o := i1) (f := 5) (v := .ref (gad G (8 * i1 + 5))) K (wO_ch hG hi1) vw_0 iwX3_readIce_X0 (by decide) mX3_readIce_f122 rfl dX3_readIce_30 ?_
      refine q_iload_n (pc := 33) K dX3_readIce_33 rfl rfl ?_
      refine q_iload_n (pc := 34) K dX3_readIce_34 rfl rfl ?_
      refine q_iast (pc := 35) (a := 8 * i1 + 5) K (by rw [wna_t hG]; have := hi1; omega) (vinN (wlc5 hG hi1) (by omega) (by omega)) dX3_readIce_35 (fun s9 e10 => ?_)
      have hw11 : WD s9 := by rw [e10]; exact wdA hw7 (by have := hi1; omega)
      refine q_iconst (pc := 36) (v := 1) K dX3_readIce_36 (by decide) ?_
      exact q_zret K hr (Or.inr rfl) dX3_readIce_37
    · have i13 := eqI c8
      refine q_iconst (pc := 27) (v := 0) K dX3_readIce_27 (by decide) ?_
      exact q_zret K hr (Or.inl rfl) dX3_readIce_28
  · have i15 := eqI c4
    refine q_iconst (pc := 12) (v := 0) K dX3_readIce_12 (by decide) ?_
    exact q_zret K hr (Or.inl rfl) dX3_readIce_13
theorem hdV_X3_readCandle : yX3_readCandle.cls = RX3 ∧ yX3_readCandle.cls ≠ "java/lang/invoke/MethodHandle" ∧ yX3_readCandle.cls ≠ "java/lang/invoke/VarHandle" ∧ (parseMethodDescriptor yX3_readCandle.desc).map (fun d => d.parameters.length) = some 1 := by decide +kernel
set_option maxRecDepth 100000 in
set_option maxHeartbeats 4000000 in
theorem kX3_readCandle (l : Launch) {G : gT} (hN : wN G) (hG : gfl G = true) (i1 : Nat) (hi1 : i1 < 3) (σ : sg) (hw : WD σ) : cM l yX3_readCandle wsX3_readCandle rmX3_readCandle G [.ref (gob G 4), .ref (gob G i1)] σ (some (.int (fX3_readCandle i1 σ).1)) (fX3_readCandle i1 σ).2 := by
  refine cM_of (maxL := 4) (ret := (some .boolean)) (cc := cX3_readCandle) (fX3_readCandle i1 σ) RX3 hN (by decide +kernel) rfl rfl (Nat.le_of_ble_eq_true rfl) rfl ?_
  intro p e s m args below meth c K hr
  have km1 : ((-1) : Int32).toInt = -1 := rfl
  have k0 : (0 : Int32).toInt = 0 := rfl
  have k1 : (1 : Int32).toInt = 1 := rfl
  have k5 : (5 : Int32).toInt = 5 := rfl
  refine qq_st (lv' := [some (.ref (gob G 4)), some (.ref (gob G i1)), none, none]) rfl rfl rfl ?_
  refine qq_T (fX3_readCandle.eq_1 ..) ?_
  refine q_aload_n (pc := 0) K dX3_readCandle_0 rfl rfl ?_
  refine q_iconst (pc := 1) (v := 0) K dX3_readCandle_1 (by decide) ?_
  refine q_iconst (pc := 2) (v := 5) K dX3_readCandle_2 (by decide) ?_
  refine q_callVi (pc := 3) (o := 4) (rm := rmX3_takeNumber) K (kX3_takeNumber l hN hG 0 5 σ hw) gX3_readCandle_X3_takeNumber rfl hdV_X3_takeNumber ⟨Nat.le_of_ble_eq_true rfl, Nat.le_of_ble_eq_true rfl⟩ rfl rfl ⟨Nat.zero_le _, Nat.zero_le _⟩ (wO_tp hG) vw_2 rfl rfl (Nat.le_of_ble_eq_true rfl) dX3_readCandle_3 ?_
  refine qq_nmI (fun r1 e2 => ?_)
  have hw3 : WD r1.2 := by rw [e2]; exact wX3_takeNumber 0 5 hw 
  have tnr1 := tn_f e2
  refine q_istore_n (pc := 6) (lv' := [some (.ref (gob G 4)), some (.ref (gob G i1)), some (.int r1.1), none]) K dX3_readCandle_6 rfl (by decide) (Nat.le_of_ble_eq_true rfl) rfl ?_
  refine q_iload_n (pc := 7) K dX3_readCandle_7 rfl rfl ?_
  refine q_iconst (pc := 8) (v := (-1)) K dX3_readCandle_8 (by decide) ?_
  refine q_icmp_ne (pc := 9) (tgt := 14) K dX3_readCandle_9 (by decide) (fun c4 => ?_) (fun c4 => ?_)
  · have i23 := neI c4
    refine q_aload_n (pc := 14) K dX3_readCandle_14 rfl rfl ?_
    refine q_ldcs (pc := 15) (i := 15) (tx := "here") K (by decide +kernel) dX3_readCandle_15 ?_
    refine q_callVi (pc := 17) (o := 4) (rm := rmX3_takesWord) K (kX3_takesWord l hN hG 15 (by decide) r1.2 hw3) gX3_readCandle_X3_takesWord rfl hdV_X3_takesWord ⟨Nat.le_of_ble_eq_true rfl, Nat.le_of_ble_eq_true rfl⟩ rfl rfl ⟨Nat.zero_le _, Nat.zero_le _⟩ (wO_tp hG) vw_2 rfl rfl (Nat.le_of_ble_eq_true rfl) dX3_readCandle_17 ?_
    refine qq_nmI (fun r5 e6 => ?_)
    have hw7 : WD r5.2 := by rw [e6]; exact wX3_takesWord 15 (by decide) hw3 
    refine q_istore_n (pc := 20) (lv' := [some (.ref (gob G 4)), some (.ref (gob G i1)), some (.int r1.1), some (.int r5.1)]) K dX3_readCandle_20 rfl (by decide) (Nat.le_of_ble_eq_true rfl) rfl ?_
    refine q_iload_n (pc := 21) K dX3_readCandle_21 rfl rfl ?_
    refine q_if_ne (pc := 22) (tgt := 36) K dX3_readCandle_22 (by decide) (fun c8 => ?_) (fun c8 => ?_)
    · have i21 := neI c8
      refine q_aload_n (pc := 36) K dX3_readCandle_36 rfl rfl ?_
      refine q_iload_n (pc := 37) K dX3_readCandle_37 rfl rfl ?_
      refine q_iload_n (pc := 38) K dX3_readCandle_38 rfl rfl ?_
      refine q_callVv (pc := 39) (o := i1) (rm := rmX0_setCandle) K (kX0_setCandle l hN hG i1 hi1 r1.1 r5.1 r5.2 hw7) gX3_readCandle_X0_setCandle rfl hdV_X0_setCandle ⟨Nat.le_of_ble_eq_true rfl, Nat.le_of_ble_eq_true rfl⟩ rfl rfl ⟨Nat.zero_le _, Nat.zero_le _⟩ (wO_ch hG hi1) vw_0 rfl rfl (Nat.le_of_ble_eq_true rfl) dX3_readCandle_39 ?_
      refine qq_nmV (fun r9 e10 => ?_)
      have hw11 : WD r9 := by rw [e10]; exact wX0_setCandle i1 hi1 r1.1 r5.1 hw7 
      refine q_iconst (pc := 42) (v := 1) K dX3_readCandle_42 (by decide) ?_
      exact q_zret K hr (Or.inr rfl) dX3_readCandle_43
    · have i22 := eqI c8
      refine q_aload_n (pc := 25) K dX3_readCandle_25 rfl rfl ?_
      refine q_ldcs (pc := 26) (i := 16) (tx := "gone") K (by decide +kernel) dX3_readCandle_26 ?_
      refine q_callVi (pc := 28) (o := 4) (rm := rmX3_takesWord) K (kX3_takesWord l hN hG 16 (by decide) r5.2 hw7) gX3_readCandle_X3_takesWord rfl hdV_X3_takesWord ⟨Nat.le_of_ble_eq_true rfl, Nat.le_of_ble_eq_true rfl⟩ rfl rfl ⟨Nat.zero_le _, Nat.zero_le _⟩ (wO_tp hG) vw_2 rfl rfl (Nat.le_of_ble_eq_true rfl) dX3_readCandle_28 ?_
      refine qq_nmI (fun r12 e13 => ?_)
      have hw14 : WD r12.2 := by rw [e13]; exact wX3_takesWord 16 (by decide) hw7 
      refine q_if_ne (pc := 31) (tgt := 36) K dX3_readCandle_31 (by decide) (fun c15 => ?_) (fun c15 => ?_)
      · have i19 := neI c15
        refine q_aload_n (pc := 36) K dX3_readCandle_36 rfl rfl ?_
        refine q_iload_n (pc := 37) K dX3_readCandle_37 rfl rfl ?_
        refine q_iload_n (pc := 38) K dX3_readCandle_38 rfl rfl ?_
        refine q_callVv (pc := 39) (o := i1) (rm := rmX0_setCandle) K (kX0_setCandle l hN hG i1 hi1 r1.1 r5.1 r12.2 hw14) gX3_readCandle_X0_setCandle rfl hdV_X0_setCandle ⟨Nat.le_of_ble_eq_true rfl, Nat.le_of_ble_eq_true rfl⟩ rfl rfl ⟨Nat.zero_le _, Nat.zero_le _⟩ (wO_ch hG hi1) vw_0 rfl rfl (Nat.le_of_ble_eq_true rfl) dX3_readCandle_39 ?_
        refine qq_nmV (fun r16 e17 => ?_)
        have hw18 : WD r16 := by rw [e17]; exact wX0_setCandle i1 hi1 r1.1 r5.1 hw14 
        refine q_iconst (pc := 42) (v := 1) K dX3_readCandle_42 (by decide) ?_
        exact q_zret K hr (Or.inr rfl) dX3_readCandle_43
      · have i20 := eqI c15
        refine q_iconst (pc := 34) (v := 0) K dX3_readCandle_34 (by decide) ?_
        exact q_zret K hr (Or.inl rfl) dX3_readCandle_35
  · have i24 := eqI c4
    refine q_iconst (pc := 12) (v := 0) K dX3_readCandle_12 (by decide) ?_
    exact q_zret K hr (Or.inl rfl) dX3_readCandle_13
theorem hdV_X3_readSummer : yX3_readSummer.cls = RX3 ∧ yX3_readSummer.cls ≠ "java/lang/invoke/MethodHandle" ∧ yX3_readSummer.cls ≠ "java/lang/invoke/VarHandle" ∧ (parseMethodDescriptor yX3_readSummer.desc).map (fun d => d.parameters.length) = some 1 := by decide +kernel
theorem mX3_readSummer_f131 : Cond.fieldLink RX3 131 "WaxTreaties$Chancery" "summer" "I" ∈ wsX3_readSummer := List.mem_of_getElem? (i := 1) rfl
theorem iwX3_readSummer_X0 : ∀ w ∈ wsX00, w ∈ wsX3_readSummer := fun w h => List.mem_cons_of_mem _ (List.mem_append_left _ (List.mem_append_right _ h))
set_option maxRecDepth 100000 in
set_option maxHeartbeats 4000000 in
theorem kX3_readSummer (l : Launch) {G : gT} (hN : wN G) (hG : gfl G = true) (i1 : Nat) (hi1 : i1 < 3) (σ : sg) (hw : WD σ) : cM l yX3_readSummer wsX3_readSummer rmX3_readSummer G [.ref (gob G 4), .ref (gob G i1)] σ (some (.int (fX3_readSummer i1 σ).1)) (fX3_readSummer i1 σ).2 := by
  refine cM_of (maxL := 3) (ret := (some .boolean)) (cc := cX3_readSummer) (fX3_readSummer i1 σ) RX3 hN (by decide +kernel) rfl rfl (Nat.le_of_ble_eq_true rfl) rfl ?_
  intro p e s m args below meth c K hr
  have km1 : ((-1) : Int32).toInt = -1 := rfl
  have k0 : (0 : Int32).toInt = 0 := rfl
  have k1 : (1 : Int32).toInt = 1 := rfl
  have k40 : (40 : Int32).toInt = 40 := rfl
  refine qq_st (lv' := [some (.ref (gob G 4)), some (.ref (gob G i1)), none]) rfl rfl rfl ?_
  refine qq_T (fX3_readSummer.eq_1 ..) ?_
  refine q_aload_n (pc := 0) K dX3_readSummer_0 rfl rfl ?_
  refine q_iconst (pc := 1) (v := 0) K dX3_readSummer_1 (by decide) ?_
  refine q_bipush (pc := 2) (v := 40) K dX3_readSummer_2 (by decide) ?_
  refine q_callVi (pc := 4) (o := 4) (rm := rmX3_takeNumber) K (kX3_takeNumber l hN hG 0 40 σ hw) gX3_readSummer_X3_takeNumber rfl hdV_X3_takeNumber ⟨Nat.le_of_ble_eq_true rfl, Nat.le_of_ble_eq_true rfl⟩ rfl rfl ⟨Nat.zero_le _, Nat.zero_le _⟩ (wO_tp hG) vw_2 rfl rfl (Nat.le_of_ble_eq_true rfl) dX3_readSummer_4 ?_
  refine qq_nmI (fun r1 e2 => ?_)
  have hw3 : WD r1.2 := by rw [e2]; exact wX3_takeNumber 0 40 hw 
  have tnr1 := tn_f e2
  refine q_istore_n (pc := 7) (lv' := [some (.ref (gob G 4)), some (.ref (gob G i1)), some (.int r1.1)]) K dX3_readSummer_7 rfl (by decide) (Nat.le_of_ble_eq_true rfl) rfl ?_
  refine q_iload_n (pc := 8) K dX3_readSummer_8 rfl rfl ?_
  refine q_iconst (pc := 9) (v := (-1)) K dX3_readSummer_9 (by decide) ?_
  refine q_icmp_ne (pc := 10) (tgt := 15) K dX3_readSummer_10 (by decide) (fun c4 => ?_) (fun c4 => ?_)
  · have i8 := neI c4
    refine q_aload_n (pc := 15) K dX3_readSummer_15 rfl rfl ?_
    refine q_iload_n (pc := 16) K dX3_readSummer_16 rfl rfl ?_
    refine q_put (pc := 17) (o := i1) (f := 12) (i := (7 * i1 + 5)) (ty := .int) K tyX0 tyX0_ok nmX0 (wO_ch hG hi1) vw_0 iwX3_readSummer_X0 (by decide) mX3_readSummer_f131 rfl (tyX0_ok 12 (by decide)) rfl rfl (Nat.le_of_ble_eq_true rfl) (wP_ch12 hG hi1 _) dX3_readSummer_17 (fun s5 e6 => ?_)
    have hw7 : WD s5 := by rw [e6]; exact wdF hw3 (by have := hi1; omega)
    refine q_iconst (pc := 20) (v := 1) K dX3_readSummer_20 (by decide) ?_
    exact q_zret K hr (Or.inr rfl) dX3_readSummer_21
  · have i9 := eqI c4
    refine q_iconst (pc := 13) (v := 0) K dX3_readSummer_13 (by decide) ?_
    exact q_zret K hr (Or.inl rfl) dX3_readSummer_14
theorem hdV_X3_readItem : yX3_readItem.cls = RX3 ∧ yX3_readItem.cls ≠ "java/lang/invoke/MethodHandle" ∧ yX3_readItem.cls ≠ "java/lang/invoke/VarHandle" ∧ (parseMethodDescriptor yX3_readItem.desc).map (fun d => d.parameters.length) = some 1 := by decide +kernel
set_option maxRecDepth 100000 in
set_option maxHeartbeats 4000000 in
theorem kX3_readItem (l : Launch) {G : gT} (hN : wN G) (hG : gfl G = true) (i1 : Nat) (hi1 : i1 < 3) (σ : sg) (hw : WD σ) : cM l yX3_readItem wsX3_readItem rmX3_readItem G [.ref (gob G 4), .ref (gob G i1)] σ (some (.int (fX3_readItem i1 σ).1)) (fX3_readItem i1 σ).2 := by
  refine cM_of (maxL := 3) (ret := (some .boolean)) (cc := cX3_readItem) (fX3_readItem i1 σ) RX3 hN (by decide +kernel) rfl rfl (Nat.le_of_ble_eq_true rfl) rfl ?_
  intro p e s m args below meth c K hr
  have km1 : ((-1) : Int32).toInt = -1 := rfl
  have k0 : (0 : Int32).toInt = 0 := rfl
  have k1 : (1 : Int32).toInt = 1 := rfl
  refine qq_st (lv' := [some (.ref (gob G 4)), some (.ref (gob G i1)), none]) rfl rfl rfl ?_
  refine qq_T (fX3_readItem.eq_1 ..) ?_
  refine q_aload_n (pc := 0) K dX3_readItem_0 rfl rfl ?_
  refine q_callVi (pc := 1) (o := 4) (rm := rmX3_kindOfWord) K (kX3_kindOfWord l hN hG  σ hw) gX3_readItem_X3_kindOfWord rfl hdV_X3_kindOfWord ⟨Nat.le_of_ble_eq_true rfl, Nat.le_of_ble_eq_true rfl⟩ rfl rfl ⟨Nat.zero_le _, Nat.zero_le _⟩ (wO_tp hG) vw_2 rfl rfl (Nat.le_of_ble_eq_true rfl) dX3_readItem_1 ?_
  refine q_istore_n (pc := 4) (lv' := [some (.ref (gob G 4)), some (.ref (gob G i1)), some (.int (fX3_kindOfWord σ))]) K dX3_readItem_4 rfl (by decide) (Nat.le_of_ble_eq_true rfl) rfl ?_
  refine q_iload_n (pc := 5) K dX3_readItem_5 rfl rfl ?_
  refine q_iconst (pc := 6) (v := (-1)) K dX3_readItem_6 (by decide) ?_
  refine q_icmp_eq (pc := 7) (tgt := 17) K dX3_readItem_7 (by decide) (fun c1 => ?_) (fun c1 => ?_)
  · have i44 := eqI c1
    refine q_aload_n (pc := 17) K dX3_readItem_17 rfl rfl ?_
    refine q_ldcs (pc := 18) (i := 7) (tx := "shutter") K (by decide +kernel) dX3_readItem_18 ?_
    refine q_callVi (pc := 20) (o := 4) (rm := rmX3_takesWord) K (kX3_takesWord l hN hG 7 (by decide) σ hw) gX3_readItem_X3_takesWord rfl hdV_X3_takesWord ⟨Nat.le_of_ble_eq_true rfl, Nat.le_of_ble_eq_true rfl⟩ rfl rfl ⟨Nat.zero_le _, Nat.zero_le _⟩ (wO_tp hG) vw_2 rfl rfl (Nat.le_of_ble_eq_true rfl) dX3_readItem_20 ?_
    refine qq_nmI (fun r2 e3 => ?_)
    have hw4 : WD r2.2 := by rw [e3]; exact wX3_takesWord 7 (by decide) hw 
    refine q_if_eq (pc := 23) (tgt := 32) K dX3_readItem_23 (by decide) (fun c5 => ?_) (fun c5 => ?_)
    · have i39 := eqI c5
      refine q_aload_n (pc := 32) K dX3_readItem_32 rfl rfl ?_
      refine q_ldcs (pc := 33) (i := 8) (tx := "ice") K (by decide +kernel) dX3_readItem_33 ?_
      refine q_callVi (pc := 35) (o := 4) (rm := rmX3_takesWord) K (kX3_takesWord l hN hG 8 (by decide) r2.2 hw4) gX3_readItem_X3_takesWord rfl hdV_X3_takesWord ⟨Nat.le_of_ble_eq_true rfl, Nat.le_of_ble_eq_true rfl⟩ rfl rfl ⟨Nat.zero_le _, Nat.zero_le _⟩ (wO_tp hG) vw_2 rfl rfl (Nat.le_of_ble_eq_true rfl) dX3_readItem_35 ?_
      refine qq_nmI (fun r6 e7 => ?_)
      have hw8 : WD r6.2 := by rw [e7]; exact wX3_takesWord 8 (by decide) hw4 
      refine q_if_eq (pc := 38) (tgt := 47) K dX3_readItem_38 (by decide) (fun c9 => ?_) (fun c9 => ?_)
      · have i34 := eqI c9
        refine q_aload_n (pc := 47) K dX3_readItem_47 rfl rfl ?_
        refine q_ldcs (pc := 48) (i := 9) (tx := "candle") K (by decide +kernel) dX3_readItem_48 ?_
        refine q_callVi (pc := 50) (o := 4) (rm := rmX3_takesWord) K (kX3_takesWord l hN hG 9 (by decide) r6.2 hw8) gX3_readItem_X3_takesWord rfl hdV_X3_takesWord ⟨Nat.le_of_ble_eq_true rfl, Nat.le_of_ble_eq_true rfl⟩ rfl rfl ⟨Nat.zero_le _, Nat.zero_le _⟩ (wO_tp hG) vw_2 rfl rfl (Nat.le_of_ble_eq_true rfl) dX3_readItem_50 ?_
        refine qq_nmI (fun r10 e11 => ?_)
        have hw12 : WD r10.2 := by rw [e11]; exact wX3_takesWord 9 (by decide) hw8 
        refine q_if_eq (pc := 53) (tgt := 62) K dX3_readItem_53 (by decide) (fun c13 => ?_) (fun c13 => ?_)
        · have i29 := eqI c13
          refine q_aload_n (pc := 62) K dX3_readItem_62 rfl rfl ?_
          refine q_ldcs (pc := 63) (i := 10) (tx := "summer") K (by decide +kernel) dX3_readItem_63 ?_
          refine q_callVi (pc := 65) (o := 4) (rm := rmX3_takesWord) K (kX3_takesWord l hN hG 10 (by decide) r10.2 hw12) gX3_readItem_X3_takesWord rfl hdV_X3_takesWord ⟨Nat.le_of_ble_eq_true rfl, Nat.le_of_ble_eq_true rfl⟩ rfl rfl ⟨Nat.zero_le _, Nat.zero_le _⟩ (wO_tp hG) vw_2 rfl rfl (Nat.le_of_ble_eq_true rfl) dX3_readItem_65 ?_
          refine qq_nmI (fun r14 e15 => ?_)
          have hw16 : WD r14.2 := by rw [e15]; exact wX3_takesWord 10 (by decide) hw12 
          refine q_if_eq (pc := 68) (tgt := 83) K dX3_readItem_68 (by decide) (fun c17 => ?_) (fun c17 => ?_)
          · have i24 := eqI c17
            refine q_iconst (pc := 83) (v := 0) K dX3_readItem_83 (by decide) ?_
            exact q_zret K hr (Or.inl rfl) dX3_readItem_84
          · have i25 := neI c17
            refine q_aload_n (pc := 71) K dX3_readItem_71 rfl rfl ?_
            refine q_aload_n (pc := 72) K dX3_readItem_72 rfl rfl ?_
            refine q_callVi (pc := 73) (o := 4) (rm := rmX3_readSummer) K (kX3_readSummer l hN hG i1 hi1 r14.2 hw16) gX3_readItem_X3_readSummer rfl hdV_X3_readSummer ⟨Nat.le_of_ble_eq_true rfl, Nat.le_of_ble_eq_true rfl⟩ rfl rfl ⟨Nat.zero_le _, Nat.zero_le _⟩ (wO_tp hG) vw_2 rfl rfl (Nat.le_of_ble_eq_true rfl) dX3_readItem_73 ?_
            refine qq_nmI (fun r18 e19 => ?_)
            have hw20 : WD r18.2 := by rw [e19]; exact wX3_readSummer i1 hi1 hw16 
            refine q_if_eq (pc := 76) (tgt := 83) K dX3_readItem_76 (by decide) (fun c21 => ?_) (fun c21 => ?_)
            · have i22 := eqI c21
              refine q_iconst (pc := 83) (v := 0) K dX3_readItem_83 (by decide) ?_
              exact q_zret K hr (Or.inl rfl) dX3_readItem_84
            · have i23 := neI c21
              refine q_iconst (pc := 79) (v := 1) K dX3_readItem_79 (by decide) ?_
              refine q_goto (pc := 80) (tgt := 84) K dX3_readItem_80 (by decide) ?_
              exact q_zret K hr (Or.inr rfl) dX3_readItem_84
        · have i30 := neI c13
          refine q_aload_n (pc := 56) K dX3_readItem_56 rfl rfl ?_
          refine q_aload_n (pc := 57) K dX3_readItem_57 rfl rfl ?_
          refine q_callVi (pc := 58) (o := 4) (rm := rmX3_readCandle) K (kX3_readCandle l hN hG i1 hi1 r10.2 hw12) gX3_readItem_X3_readCandle rfl hdV_X3_readCandle ⟨Nat.le_of_ble_eq_true rfl, Nat.le_of_ble_eq_true rfl⟩ rfl rfl ⟨Nat.zero_le _, Nat.zero_le _⟩ (wO_tp hG) vw_2 rfl rfl (Nat.le_of_ble_eq_true rfl) dX3_readItem_58 ?_
          refine qq_nmI (fun r26 e27 => ?_)
          have hw28 : WD r26.2 := by rw [e27]; exact wX3_readCandle i1 hi1 hw12 
          exact q_zret K hr (by rw [e27]; exact b01_X3_readCandle ..) dX3_readItem_61
      · have i35 := neI c9
        refine q_aload_n (pc := 41) K dX3_readItem_41 rfl rfl ?_
        refine q_aload_n (pc := 42) K dX3_readItem_42 rfl rfl ?_
        refine q_callVi (pc := 43) (o := 4) (rm := rmX3_readIce) K (kX3_readIce l hN hG i1 hi1 r6.2 hw8) gX3_readItem_X3_readIce rfl hdV_X3_readIce ⟨Nat.le_of_ble_eq_true rfl, Nat.le_of_ble_eq_true rfl⟩ rfl rfl ⟨Nat.zero_le _, Nat.zero_le _⟩ (wO_tp hG) vw_2 rfl rfl (Nat.le_of_ble_eq_true rfl) dX3_readItem_43 ?_
        refine qq_nmI (fun r31 e32 => ?_)
        have hw33 : WD r31.2 := by rw [e32]; exact wX3_readIce i1 hi1 hw8 
        exact q_zret K hr (by rw [e32]; exact b01_X3_readIce ..) dX3_readItem_46
    · have i40 := neI c5
      refine q_aload_n (pc := 26) K dX3_readItem_26 rfl rfl ?_
      refine q_aload_n (pc := 27) K dX3_readItem_27 rfl rfl ?_
      refine q_callVi (pc := 28) (o := 4) (rm := rmX3_readShutter) K (kX3_readShutter l hN hG i1 hi1 r2.2 hw4) gX3_readItem_X3_readShutter rfl hdV_X3_readShutter ⟨Nat.le_of_ble_eq_true rfl, Nat.le_of_ble_eq_true rfl⟩ rfl rfl ⟨Nat.zero_le _, Nat.zero_le _⟩ (wO_tp hG) vw_2 rfl rfl (Nat.le_of_ble_eq_true rfl) dX3_readItem_28 ?_
      refine qq_nmI (fun r36 e37 => ?_)
      have hw38 : WD r36.2 := by rw [e37]; exact wX3_readShutter i1 hi1 hw4 
      exact q_zret K hr (by rw [e37]; exact b01_X3_readShutter ..) dX3_readItem_31
  · have i45 := neI c1
    refine q_aload_n (pc := 10) K dX3_readItem_10 rfl rfl ?_
    refine q_aload_n (pc := 11) K dX3_readItem_11 rfl rfl ?_
    refine q_iload_n (pc := 12) K dX3_readItem_12 rfl rfl ?_
    refine q_callVi (pc := 13) (o := 4) (rm := rmX3_readDeed) K (kX3_readDeed l hN hG i1 hi1 (fX3_kindOfWord σ) σ hw) gX3_readItem_X3_readDeed rfl hdV_X3_readDeed ⟨Nat.le_of_ble_eq_true rfl, Nat.le_of_ble_eq_true rfl⟩ rfl rfl ⟨Nat.zero_le _, Nat.zero_le _⟩ (wO_tp hG) vw_2 rfl rfl (Nat.le_of_ble_eq_true rfl) dX3_readItem_13 ?_
    refine qq_nmI (fun r41 e42 => ?_)
    have hw43 : WD r41.2 := by rw [e42]; exact wX3_readDeed i1 hi1 (fX3_kindOfWord σ) hw 
    exact q_zret K hr (by rw [e42]; exact b01_X3_readDeed ..) dX3_readItem_16
theorem hdV_X3_readText : yX3_readText.cls = RX3 ∧ yX3_readText.cls ≠ "java/lang/invoke/MethodHandle" ∧ yX3_readText.cls ≠ "java/lang/invoke/VarHandle" ∧ (parseMethodDescriptor yX3_readText.desc).map (fun d => d.parameters.length) = some 1 := by decide +kernel
theorem mX3_readText_f22 : Cond.fieldLink RX3 22 "WaxTreaties$Tape" "next" "I" ∈ wsX3_readText := List.mem_of_getElem? (i := 1) rfl
theorem iwX3_readText_X3 : ∀ w ∈ wsX30, w ∈ wsX3_readText := fun w h => List.mem_cons_of_mem _ (List.mem_append_left _ (List.mem_append_right _ h))
theorem mX3_readText_f19 : Cond.fieldLink RX3 19 "WaxTreaties$Tape" "at" "I" ∈ wsX3_readText := List.mem_of_getElem? (i := 3) rfl
theorem mX3_readText_f25 : Cond.fieldLink RX3 25 "WaxTreaties$Tape" "sort" "I" ∈ wsX3_readText := List.mem_of_getElem? (i := 2) rfl
set_option maxRecDepth 100000 in
set_option maxHeartbeats 4000000 in
theorem lX3_readText_11 {p : Program} (l : Launch) {e : Env} {s : State} {m : MethodId} {args : Array Value} {below : List Frame} {meth : Method} {c : Code} {G : gT} (hN : wN G) (hG : gfl G = true) (K : qK p s m args meth c cX3_readText 3 RX3 wsX3_readText G) (i1 : Nat) (hi1 : i1 < 3) : ∀ (k : Nat) (v2 : Int32) (σ : sg) (hw : WD σ) (hv2 : 0 ≤ v2.toInt ∧ v2.toInt ≤ 120) (hmu : (120 - v2.toInt).toNat < k) (hr : meth.sig.returnType = some .int) (T0 : Int32 × sg), qq p l e (headSpec wsX3_readText rmX3_readText).room s m args below meth c (MQ below (cQ G (some (.int T0.1)) T0.2) args s 0 0 (wA G)) 3 G (fun T => T = T0) (LX3_readText_11 i1 k v2 σ) 11 [some (.ref (gob G 4)), some (.ref (gob G i1)), some (.int v2)] [] σ := by
  intro k
  induction k with
  | zero => intro v2 σ hw hv2 hmu hr T0; exact absurd hmu (Nat.not_lt_zero _)
  | succ k ih =>
    intro v2 σ hw hv2 hmu hr T0
    have km1 : ((-1) : Int32).toInt = -1 := rfl
    have k0 : (0 : Int32).toInt = 0 := rfl
    have k1 : (1 : Int32).toInt = 1 := rfl
    have k3 : (3 : Int32).toInt = 3 := rfl
    have k120 : (120 : Int32).toInt = 120 := rfl
    refine qq_T (LX3_readText_11.eq_2 ..) ?_
    refine q_iload_n (pc := 11) K dX3_readText_11 rfl rfl ?_
    refine q_bipush (pc := 12) (v := 120) K dX3_readText_12 (by decide) ?_
    refine q_icmp_ge (pc := 14) (tgt := 59) K dX3_readText_14 (by decide) (fun c8 => ?_) (fun c8 => ?_)
    · have i25 := leI c8
      refine q_iconst (pc := 59) (v := (-1)) K dX3_readText_59 (by decide) ?_
      refine q_aload_n (pc := 60) K dX3_readText_60 rfl rfl ?_
      refine q_get (pc := 61) (o := 4) (f := 2) (v := .int (rF σ 23)) K (wO_tp hG) vw_2 iwX3_readText_X3 (by decide) mX3_readText_f19 rfl dX3_readText_61 ?_
      refine q_isub (pc := 64) K dX3_readText_64 ?_
      exact q_iret K hr dX3_readText_65
    · have i26 := nleI c8
      refine q_aload_n (pc := 17) K dX3_readText_17 rfl rfl ?_
      refine q_aload_n (pc := 18) K dX3_readText_18 rfl rfl ?_
      refine q_callVi (pc := 19) (o := 4) (rm := rmX3_readItem) K (kX3_readItem l hN hG i1 hi1 σ hw) gX3_readText_X3_readItem rfl hdV_X3_readItem ⟨Nat.le_of_ble_eq_true rfl, Nat.le_of_ble_eq_true rfl⟩ rfl rfl ⟨Nat.zero_le _, Nat.zero_le _⟩ (wO_tp hG) vw_2 rfl rfl (Nat.le_of_ble_eq_true rfl) dX3_readText_19 ?_
      refine qq_nmI (fun r9 e10 => ?_)
      have hw11 : WD r9.2 := by rw [e10]; exact wX3_readItem i1 hi1 hw 
      refine q_if_eq (pc := 22) (tgt := 59) K dX3_readText_22 (by decide) (fun c12 => ?_) (fun c12 => ?_)
      · have i23 := eqI c12
        refine q_iconst (pc := 59) (v := (-1)) K dX3_readText_59 (by decide) ?_
        refine q_aload_n (pc := 60) K dX3_readText_60 rfl rfl ?_
        refine q_get (pc := 61) (o := 4) (f := 2) (v := .int (rF r9.2 23)) K (wO_tp hG) vw_2 iwX3_readText_X3 (by decide) mX3_readText_f19 rfl dX3_readText_61 ?_
        refine q_isub (pc := 64) K dX3_readText_64 ?_
        exact q_iret K hr dX3_readText_65
      · have i24 := neI c12
        refine q_iinc (pc := 25) (v := (v2 + 1)) (lv' := [some (.ref (gob G 4)), some (.ref (gob G i1)), some (.int (v2 + 1))]) K dX3_readText_25 rfl rfl (by decide) rfl ?_
        refine q_aload_n (pc := 28) K dX3_readText_28 rfl rfl ?_
        refine q_get (pc := 29) (o := 4) (f := 4) (v := .int (rF r9.2 25)) K (wO_tp hG) vw_2 iwX3_readText_X3 (by decide) mX3_readText_f25 rfl dX3_readText_29 ?_
        refine q_if_ne (pc := 32) (tgt := 37) K dX3_readText_32 (by decide) (fun c13 => ?_) (fun c13 => ?_)
        · have i21 := neI c13
          refine q_aload_n (pc := 37) K dX3_readText_37 rfl rfl ?_
          refine q_get (pc := 38) (o := 4) (f := 4) (v := .int (rF r9.2 25)) K (wO_tp hG) vw_2 iwX3_readText_X3 (by decide) mX3_readText_f25 rfl dX3_readText_38 ?_
          refine q_iconst (pc := 41) (v := 3) K dX3_readText_41 (by decide) ?_
          refine q_icmp_eq (pc := 42) (tgt := 52) K dX3_readText_42 (by decide) (fun c14 => ?_) (fun c14 => ?_)
          · have i19 := eqI c14
            refine q_aload_n (pc := 52) K dX3_readText_52 rfl rfl ?_
            refine q_callVv (pc := 53) (o := 4) (rm := rmX3_step) K (kX3_step l hN hG  r9.2 hw11) gX3_readText_X3_step rfl hdV_X3_step ⟨Nat.le_of_ble_eq_true rfl, Nat.le_of_ble_eq_true rfl⟩ rfl rfl ⟨Nat.zero_le _, Nat.zero_le _⟩ (wO_tp hG) vw_2 rfl rfl (Nat.le_of_ble_eq_true rfl) dX3_readText_53 ?_
            refine qq_nmV (fun r15 e16 => ?_)
            have hw17 : WD r15 := by rw [e16]; exact wX3_step  hw11 
            refine q_goto (pc := 56) (tgt := 11) K dX3_readText_56 (by decide) ?_
            have a18 := addI (x := v2) (y := 1) (by omega) (by omega)
            exact ih (v2 + 1) r15 hw17 (by omega) (by omega) hr _
          · have i20 := neI c14
            refine q_iconst (pc := 45) (v := (-1)) K dX3_readText_45 (by decide) ?_
            refine q_aload_n (pc := 46) K dX3_readText_46 rfl rfl ?_
            refine q_get (pc := 47) (o := 4) (f := 2) (v := .int (rF r9.2 23)) K (wO_tp hG) vw_2 iwX3_readText_X3 (by decide) mX3_readText_f19 rfl dX3_readText_47 ?_
            refine q_isub (pc := 50) K dX3_readText_50 ?_
            exact q_iret K hr dX3_readText_51
        · have i22 := eqI c13
          refine q_iload_n (pc := 35) K dX3_readText_35 rfl rfl ?_
          exact q_iret K hr dX3_readText_36
set_option maxRecDepth 100000 in
set_option maxHeartbeats 4000000 in
theorem kX3_readText (l : Launch) {G : gT} (hN : wN G) (hG : gfl G = true) (i1 : Nat) (hi1 : i1 < 3) (σ : sg) (hw : WD σ) : cM l yX3_readText wsX3_readText rmX3_readText G [.ref (gob G 4), .ref (gob G i1)] σ (some (.int (fX3_readText i1 σ).1)) (fX3_readText i1 σ).2 := by
  refine cM_of (maxL := 3) (ret := (some .int)) (cc := cX3_readText) (fX3_readText i1 σ) RX3 hN (by decide +kernel) rfl rfl (Nat.le_of_ble_eq_true rfl) rfl ?_
  intro p e s m args below meth c K hr
  have k0 : (0 : Int32).toInt = 0 := rfl
  refine qq_st (lv' := [some (.ref (gob G 4)), some (.ref (gob G i1)), none]) rfl rfl rfl ?_
  refine qq_T (fX3_readText.eq_1 ..) ?_
  refine q_aload_n (pc := 0) K dX3_readText_0 rfl rfl ?_
  refine q_iconst (pc := 1) (v := 0) K dX3_readText_1 (by decide) ?_
  refine q_put (pc := 2) (o := 4) (f := 3) (i := 24) (ty := .int) K tyX3 tyX3_ok nmX3 (wO_tp hG) vw_2 iwX3_readText_X3 (by decide) mX3_readText_f22 rfl (tyX3_ok 3 (by decide)) rfl rfl (Nat.le_of_ble_eq_true rfl) (wP_tp3 hG _) dX3_readText_2 (fun s1 e2 => ?_)
  have hw3 : WD s1 := by rw [e2]; exact wdFn hw (by omega) (by omega)
  have f4 := congrArg Int32.toInt (show rF s1 24 = 0 by rw [e2]; exact sF_same9)
  refine q_aload_n (pc := 5) K dX3_readText_5 rfl rfl ?_
  refine q_callVv (pc := 6) (o := 4) (rm := rmX3_step) K (kX3_step l hN hG  s1 hw3) gX3_readText_X3_step rfl hdV_X3_step ⟨Nat.le_of_ble_eq_true rfl, Nat.le_of_ble_eq_true rfl⟩ rfl rfl ⟨Nat.zero_le _, Nat.zero_le _⟩ (wO_tp hG) vw_2 rfl rfl (Nat.le_of_ble_eq_true rfl) dX3_readText_6 ?_
  refine qq_nmV (fun r5 e6 => ?_)
  have hw7 : WD r5 := by rw [e6]; exact wX3_step  hw3 
  refine q_iconst (pc := 9) (v := 0) K dX3_readText_9 (by decide) ?_
  refine q_istore_n (pc := 10) (lv' := [some (.ref (gob G 4)), some (.ref (gob G i1)), some (.int 0)]) K dX3_readText_10 rfl (by decide) (Nat.le_of_ble_eq_true rfl) rfl ?_
  exact lX3_readText_11 l hN hG K i1 hi1 121 0 r5 hw7 (by omega) (by omega) hr _
theorem hdV_X4_text : yX4_text.cls = RX4 ∧ yX4_text.cls ≠ "java/lang/invoke/MethodHandle" ∧ yX4_text.cls ≠ "java/lang/invoke/VarHandle" ∧ (parseMethodDescriptor yX4_text.desc).map (fun d => d.parameters.length) = some 0 := by decide +kernel
theorem mX4_text_f16 : Cond.fieldLink RX4 16 "WaxTreaties" "trial" "LWaxTreaties$Chancery;" ∈ wsX4_text := List.mem_of_getElem? (i := 1) rfl
theorem iwX4_text_X4 : ∀ w ∈ wsX40, w ∈ wsX4_text := fun w h => List.mem_cons_of_mem _ (List.mem_append_left _ (List.mem_append_left _ (List.mem_append_right _ h)))
theorem mX4_text_f12 : Cond.fieldLink RX4 12 "WaxTreaties" "live" "LWaxTreaties$Chancery;" ∈ wsX4_text := List.mem_of_getElem? (i := 2) rfl
theorem mX4_text_f29 : Cond.fieldLink RX4 29 "WaxTreaties" "tape" "LWaxTreaties$Tape;" ∈ wsX4_text := List.mem_of_getElem? (i := 3) rfl
theorem mX4_text_f255 : Cond.fieldLink RX4 255 "WaxTreaties$Tape" "length" "I" ∈ wsX4_text := List.mem_of_getElem? (i := 4) rfl
theorem iwX4_text_X3 : ∀ w ∈ wsX30, w ∈ wsX4_text := fun w h => List.mem_cons_of_mem _ (List.mem_append_left _ (List.mem_append_right _ h))
set_option maxRecDepth 100000 in
set_option maxHeartbeats 4000000 in
theorem kX4_text (l : Launch) {G : gT} (hN : wN G) (hG : gfl G = true) (σ : sg) (hw : WD σ) : cM l yX4_text wsX4_text rmX4_text G [.ref (gob G 3)] σ (some (.int (fX4_text σ).1)) (fX4_text σ).2 := by
  refine cM_of (maxL := 2) (ret := (some .int)) (cc := cX4_text) (fX4_text σ) RX4 hN (by decide +kernel) rfl rfl (Nat.le_of_ble_eq_true rfl) rfl ?_
  intro p e s m args below meth c K hr
  have k0 : (0 : Int32).toInt = 0 := rfl
  refine qq_st (lv' := [some (.ref (gob G 3)), none]) rfl rfl rfl ?_
  refine qq_T (fX4_text.eq_1 ..) ?_
  refine q_aload_n (pc := 0) K dX4_text_0 rfl rfl ?_
  refine q_get (pc := 1) (o := 3) (f := 1) (v := .ref (gob G 1)) K (wO_x hG) vw_3 iwX4_text_X4 (by decide) mX4_text_f16 rfl dX4_text_1 ?_
  refine q_aload_n (pc := 4) K dX4_text_4 rfl rfl ?_
  refine q_get (pc := 5) (o := 3) (f := 0) (v := .ref (gob G 0)) K (wO_x hG) vw_3 iwX4_text_X4 (by decide) mX4_text_f12 rfl dX4_text_5 ?_
  refine q_callVv (pc := 8) (o := 1) (rm := rmX0_take) K (kX0_take l hN hG 1 (show 1 < 3 by decide) 0 (show 0 < 3 by decide) σ hw) gX4_text_X0_take rfl hdV_X0_take ⟨Nat.le_of_ble_eq_true rfl, Nat.le_of_ble_eq_true rfl⟩ rfl rfl ⟨Nat.zero_le _, Nat.zero_le _⟩ (wO_ch hG (show 1 < 3 by decide)) vw_0 rfl rfl (Nat.le_of_ble_eq_true rfl) dX4_text_8 ?_
  refine qq_nmV (fun r1 e2 => ?_)
  have hw3 : WD r1 := by rw [e2]; exact wX0_take 1 (show 1 < 3 by decide) 0 (show 0 < 3 by decide) hw 
  refine q_aload_n (pc := 11) K dX4_text_11 rfl rfl ?_
  refine q_get (pc := 12) (o := 3) (f := 4) (v := .ref (gob G 4)) K (wO_x hG) vw_3 iwX4_text_X4 (by decide) mX4_text_f29 rfl dX4_text_12 ?_
  refine q_aload_n (pc := 15) K dX4_text_15 rfl rfl ?_
  refine q_get (pc := 16) (o := 3) (f := 1) (v := .ref (gob G 1)) K (wO_x hG) vw_3 iwX4_text_X4 (by decide) mX4_text_f16 rfl dX4_text_16 ?_
  refine q_callVi (pc := 19) (o := 4) (rm := rmX3_readText) K (kX3_readText l hN hG 1 (show 1 < 3 by decide) r1 hw3) gX4_text_X3_readText rfl hdV_X3_readText ⟨Nat.le_of_ble_eq_true rfl, Nat.le_of_ble_eq_true rfl⟩ rfl rfl ⟨Nat.zero_le _, Nat.zero_le _⟩ (wO_tp hG) vw_2 rfl rfl (Nat.le_of_ble_eq_true rfl) dX4_text_19 ?_
  refine qq_nmI (fun r4 e5 => ?_)
  have hw6 : WD r4.2 := by rw [e5]; exact wX3_readText 1 (show 1 < 3 by decide) hw3 
  refine q_istore_n (pc := 22) (lv' := [some (.ref (gob G 3)), some (.int r4.1)]) K dX4_text_22 rfl (by decide) (Nat.le_of_ble_eq_true rfl) rfl ?_
  refine q_aload_n (pc := 23) K dX4_text_23 rfl rfl ?_
  refine q_get (pc := 24) (o := 3) (f := 4) (v := .ref (gob G 4)) K (wO_x hG) vw_3 iwX4_text_X4 (by decide) mX4_text_f29 rfl dX4_text_24 ?_
  refine q_iconst (pc := 27) (v := 0) K dX4_text_27 (by decide) ?_
  refine q_put (pc := 28) (o := 4) (f := 1) (i := 22) (ty := .int) K tyX3 tyX3_ok nmX3 (wO_tp hG) vw_2 iwX4_text_X3 (by decide) mX4_text_f255 rfl (tyX3_ok 1 (by decide)) rfl rfl (Nat.le_of_ble_eq_true rfl) (wP_tp1 hG _) dX4_text_28 (fun s7 e8 => ?_)
  have hw9 : WD s7 := by rw [e8]; exact wdFl hw6 (by omega) (by omega)
  have f10 := congrArg Int32.toInt (show rF s7 22 = 0 by rw [e8]; exact sF_same9)
  have n11 := congrArg Int32.toInt (show rF s7 24 = rF r4.2 24 by rw [e8]; exact sF_other (by decide))
  refine q_iload_n (pc := 31) K dX4_text_31 rfl rfl ?_
  refine q_if_lt (pc := 32) (tgt := 46) K dX4_text_32 (by decide) (fun c12 => ?_) (fun c12 => ?_)
  · have i16 := ltI c12
    refine q_iload_n (pc := 46) K dX4_text_46 rfl rfl ?_
    exact q_iret K hr dX4_text_47
  · have i17 := nltI c12
    refine q_aload_n (pc := 35) K dX4_text_35 rfl rfl ?_
    refine q_get (pc := 36) (o := 3) (f := 0) (v := .ref (gob G 0)) K (wO_x hG) vw_3 iwX4_text_X4 (by decide) mX4_text_f12 rfl dX4_text_36 ?_
    refine q_aload_n (pc := 39) K dX4_text_39 rfl rfl ?_
    refine q_get (pc := 40) (o := 3) (f := 1) (v := .ref (gob G 1)) K (wO_x hG) vw_3 iwX4_text_X4 (by decide) mX4_text_f16 rfl dX4_text_40 ?_
    refine q_callVv (pc := 43) (o := 0) (rm := rmX0_take) K (kX0_take l hN hG 0 (show 0 < 3 by decide) 1 (show 1 < 3 by decide) s7 hw9) gX4_text_X0_take rfl hdV_X0_take ⟨Nat.le_of_ble_eq_true rfl, Nat.le_of_ble_eq_true rfl⟩ rfl rfl ⟨Nat.zero_le _, Nat.zero_le _⟩ (wO_ch hG (show 0 < 3 by decide)) vw_0 rfl rfl (Nat.le_of_ble_eq_true rfl) dX4_text_43 ?_
    refine qq_nmV (fun r13 e14 => ?_)
    have hw15 : WD r13 := by rw [e14]; exact wX0_take 0 (show 0 < 3 by decide) 1 (show 1 < 3 by decide) hw9 
    refine q_iload_n (pc := 46) K dX4_text_46 rfl rfl ?_
    exact q_iret K hr dX4_text_47
