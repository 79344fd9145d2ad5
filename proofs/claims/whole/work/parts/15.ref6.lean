def rmX5_isByte : Room := { frames := 1, cells := 0, slots := 0, locals := 22 }
def fX5_isByte (v1 : Int32) (v2 : Int32) (v3 : Int32) (σ : sg) : Int32 := (if (rF σ 1) ≤ v1 then 0 else (if (fX5_within (rA σ 4 v1) v2 v3) = 0 then 0 else 1))
theorem b01_X5_isByte (a b c : Int32) (σ : sg) : fX5_isByte a b c σ = 0 ∨ fX5_isByte a b c σ = 1 := by
  unfold fX5_isByte
  split
  · exact Or.inl rfl
  · split
    · exact Or.inl rfl
    · exact Or.inr rfl
theorem isB_t {a b c : Int32} {σ : sg} (h : ¬ fX5_isByte a b c σ = 0) : a.toInt < (rF σ 1).toInt := by
  unfold fX5_isByte at h
  split at h
  · exact absurd rfl h
  · rename_i c1; exact nleI c1
def rmX5_next : Room := { frames := 2, cells := 0, slots := 0, locals := 45 }
def LX5_next_8 : Nat → sg → sg
  | 0, σ => σ
  | k + 1, σ => (if (fX5_isByte (rF σ 3) 32 32 σ) = 0 then σ else bnd (sF9 σ 3 ((rF σ 3) + 1)) (fun s11 => LX5_next_8 k s11))
def LX5_next_70 : Nat → Int32 → Int32 → sg → sg
  | 0, v1, v2, σ => σ
  | k + 1, v1, v2, σ => (if v1 = 0 then (if v2 = 0 then σ else (if (fX5_isByte (rF σ 4) 48 57 σ) = 0 then σ else bnd (sF9 σ 4 ((rF σ 4) + 1)) (fun s38 => LX5_next_70 k v1 v2 s38))) else (if (fX5_isByte (rF σ 4) 97 122 σ) = 0 then (if v2 = 0 then σ else (if (fX5_isByte (rF σ 4) 48 57 σ) = 0 then σ else bnd (sF9 σ 4 ((rF σ 4) + 1)) (fun s63 => LX5_next_70 k v1 v2 s63))) else bnd (sF9 σ 4 ((rF σ 4) + 1)) (fun s53 => LX5_next_70 k v1 v2 s53)))
def fX5_next (σ : sg) : sg := bnd (sF9 σ 3 (rF σ 4)) (fun s2 => bnd (LX5_next_8 121 s2) (fun r22 => bnd (sF9 r22 4 (rF r22 3)) (fun s26 => bnd (LX5_next_70 121 (fX5_isByte (rF s26 3) 97 122 s26) (fX5_isByte (rF s26 3) 48 57 s26) s26) (fun r81 => (if (fX5_isByte (rF s26 3) 97 122 s26) = 0 then (if (fX5_isByte (rF s26 3) 48 57 s26) = 0 then (if (rF r81 1) ≤ (rF r81 3) then bnd (sF9 r81 4 ((rF r81 4) + 0)) (fun s107 => s107) else bnd (sF9 r81 4 ((rF r81 4) + 1)) (fun s115 => s115)) else bnd (sF9 r81 4 ((rF r81 4) + 0)) (fun s96 => s96)) else bnd (sF9 r81 4 ((rF r81 4) + 0)) (fun s87 => s87))))))
def rmX5_isWord : Room := { frames := 6, cells := 0, slots := 0, locals := 106 }
def LX5_isWord_31 (w1 : Nat) : Nat → Int32 → Int32 → sg → Int32
  | 0, v2, v3, σ => v2
  | k + 1, v2, v3, σ => (if v2 = 0 then v2 else (if (fJ0_length_8abf5 w1) ≤ v3 then v2 else (if (rA σ 4 ((rF σ 3) + v3)) = (fJ0_charAt_5068e w1 v3) then LX5_isWord_31 w1 k 1 (v3 + 1) σ else LX5_isWord_31 w1 k 0 (v3 + 1) σ)))
def fX5_isWord (w1 : Nat) (σ : sg) : Int32 := (if (rF σ 5) = 0 then (if ((rF σ 4) - (rF σ 3)) = (fJ0_length_8abf5 w1) then bnd (LX5_isWord_31 w1 8 1 0 σ) (fun r30 => r30) else bnd (LX5_isWord_31 w1 8 0 0 σ) (fun r26 => r26)) else bnd (LX5_isWord_31 w1 8 0 0 σ) (fun r17 => r17))
theorem b01L_X5_isWord (w : Nat) : ∀ (k : Nat) (v2 v3 : Int32) (σ : sg), (v2 = 0 ∨ v2 = 1) → LX5_isWord_31 w k v2 v3 σ = 0 ∨ LX5_isWord_31 w k v2 v3 σ = 1 := by
  intro k
  induction k with
  | zero => intro v2 v3 σ h; exact h
  | succ k ih =>
    intro v2 v3 σ h
    rw [LX5_isWord_31]
    split
    · exact h
    · split
      · exact h
      · split
        · exact ih _ _ _ (Or.inr rfl)
        · exact ih _ _ _ (Or.inl rfl)
theorem b01_X5_isWord (w : Nat) (σ : sg) : fX5_isWord w σ = 0 ∨ fX5_isWord w σ = 1 := by
  rw [fX5_isWord.eq_1]
  split
  · split
    · exact wf_bnd (P := fun x : Int32 => x = 0 ∨ x = 1) (fun r e => by rw [e]; exact b01L_X5_isWord w _ _ _ _ (Or.inr rfl))
    · exact wf_bnd (P := fun x : Int32 => x = 0 ∨ x = 1) (fun r e => by rw [e]; exact b01L_X5_isWord w _ _ _ _ (Or.inl rfl))
  · exact wf_bnd (P := fun x : Int32 => x = 0 ∨ x = 1) (fun r e => by rw [e]; exact b01L_X5_isWord w _ _ _ _ (Or.inl rfl))
def rmX5_takes : Room := { frames := 7, cells := 0, slots := 0, locals := 129 }
def fX5_takes (w1 : Nat) (σ : sg) : Int32 × sg := (if (fX5_isWord w1 σ) = 0 then ((fX5_isWord w1 σ), σ) else bnd (fX5_next σ) (fun r2 => ((fX5_isWord w1 σ), r2)))
def rmX5_wants : Room := { frames := 7, cells := 0, slots := 0, locals := 129 }
def fX5_wants (w1 : Nat) (σ : sg) : sg := (if (rF σ 5) = 0 then (if (fX5_isWord w1 σ) = 0 then bnd (sF9 σ 5 1) (fun s27 => (if (rF s27 5) = 0 then bnd (fX5_next s27) (fun r34 => r34) else s27)) else bnd (sF9 σ 5 0) (fun s15 => (if (rF s15 5) = 0 then bnd (fX5_next s15) (fun r22 => r22) else s15))) else bnd (sF9 σ 5 1) (fun s2 => (if (rF s2 5) = 0 then bnd (fX5_next s2) (fun r9 => r9) else s2)))
def rmX5_numberHere : Room := { frames := 2, cells := 0, slots := 0, locals := 45 }
def LX5_numberHere_26 : Nat → Int32 → Int32 → sg → Int32
  | 0, v1, v2, σ => v1
  | k + 1, v1, v2, σ => (if (rF σ 4) ≤ v2 then v1 else (if v1 < 0 then v1 else (if v1 ≤ 999 then LX5_numberHere_26 k (((10 * v1) + (rA σ 4 v2)) - 48) (v2 + 1) σ else LX5_numberHere_26 k v1 (v2 + 1) σ)))
def fX5_numberHere (σ : sg) : Int32 := (if (fX5_isByte (rF σ 3) 48 57 σ) = 0 then bnd (LX5_numberHere_26 122 (-1) (rF σ 3) σ) (fun r15 => r15) else bnd (LX5_numberHere_26 122 0 (rF σ 3) σ) (fun r17 => r17))
def rmX5_number : Room := { frames := 3, cells := 0, slots := 0, locals := 67 }
def fX5_number (v1 : Int32) (σ : sg) : Int32 × sg := (if (rF σ 5) = 0 then (if (fX5_within (fX5_numberHere σ) 0 v1) = 0 then bnd (sF9 σ 5 1) (fun s27 => (if (rF s27 5) = 0 then bnd (fX5_next s27) (fun r34 => ((fX5_numberHere σ), r34)) else ((fX5_numberHere σ), s27))) else bnd (sF9 σ 5 0) (fun s15 => (if (rF s15 5) = 0 then bnd (fX5_next s15) (fun r22 => ((fX5_numberHere σ), r22)) else ((fX5_numberHere σ), s15)))) else bnd (sF9 σ 5 1) (fun s2 => (if (rF s2 5) = 0 then bnd (fX5_next s2) (fun r9 => ((fX5_numberHere σ), r9)) else ((fX5_numberHere σ), s2))))
def rmX5_wordOf : Room := { frames := 0, cells := 0, slots := 0, locals := 0 }
def fX5_wordOf (v0 : Int32) : Nat := (if v0 = 0 then 0 else (if v0 = 1 then 1 else (if v0 = 2 then 2 else (if v0 = 3 then 3 else (if v0 = 4 then 4 else (if v0 = 5 then 5 else 6))))))
theorem h18_X5_wordOf (k : Int32) : fX5_wordOf k < 18 := by
  unfold fX5_wordOf
  (repeat' split) <;> decide
def rmX5_kindHere : Room := { frames := 7, cells := 0, slots := 0, locals := 129 }
def LX5_kindHere_3 : Nat → Int32 → sg → Int32
  | 0, v1, σ => v1
  | k + 1, v1, σ => (if v1 < 0 then v1 else (if (fX5_isWord ((fX5_wordOf v1)) σ) = 0 then LX5_kindHere_3 k (v1 + (-1)) σ else v1))
def fX5_kindHere (σ : sg) : Int32 := bnd (LX5_kindHere_3 8 6 σ) (fun r8 => r8)
def rmX5_shelfTold : Room := { frames := 4, cells := 0, slots := 0, locals := 89 }
def fX5_shelfTold (σ : sg) : Int32 × sg := bnd (fX5_number 5 σ) (fun r1 => (r1.1, r1.2))
def rmX5_either : Room := { frames := 8, cells := 0, slots := 0, locals := 151 }
def fX5_either (w1 : Nat) (w2 : Nat) (σ : sg) : Int32 × sg := bnd (fX5_takes w1 σ) (fun r1 => (if r1.1 = 0 then bnd (fX5_wants w2 r1.2) (fun r8 => (if r1.1 = 0 then (0, r8) else (1, r8))) else (if r1.1 = 0 then (0, r1.2) else (1, r1.2))))
def PLX5_next_8 : sg → Prop := fun r => (WM r) ∧ True
set_option maxRecDepth 100000 in
set_option maxHeartbeats 4000000 in
theorem wLX5_next_8 : ∀ (k : Nat) (σ : sg) (hw : WM σ) (hmu : (120 - (rF σ 3).toInt).toNat < k), PLX5_next_8 (LX5_next_8 k σ) := by
  intro k
  induction k with
  | zero => intro σ hw hmu; exact absurd hmu (Nat.not_lt_zero _)
  | succ k ih =>
    intro σ hw hmu
    have k0 : (0 : Int32).toInt = 0 := rfl
    have k1 : (1 : Int32).toInt = 1 := rfl
    have k32 : (32 : Int32).toInt = 32 := rfl
    have q0 := wm_from hw
    have q1 := wm_taped hw
    rw [show LX5_next_8 (k + 1) σ = _ from LX5_next_8.eq_2 ..]
    have w9 := wm_from hw
    refine wf_ite (fun c10 => ?_) (fun c10 => ?_)
    · have i19 := eqI c10
      exact ⟨hw, trivial⟩
    · have i20 := neI c10
      have b21 := isB_t c10
      have a13 := addI (x := (rF σ 3)) (y := 1) (by omega) (by omega)
      refine wf_bnd (fun s11 e12 => ?_)
      have hw14 : WM s11 := by rw [e12]; exact wmFf hw (by omega) (by omega)
      have f15 := congrArg Int32.toInt (show rF s11 3 = ((rF σ 3) + 1) by rw [e12]; exact sF_same9)
      have n16 := congrArg Int32.toInt (show rF s11 1 = rF σ 1 by rw [e12]; exact sF_other (by decide))
      have n17 := congrArg Int32.toInt (show rF s11 4 = rF σ 4 by rw [e12]; exact sF_other (by decide))
      have n18 := congrArg Int32.toInt (show rF s11 5 = rF σ 5 by rw [e12]; exact sF_other (by decide))
      exact ih s11 hw14 (by omega)
def PLX5_next_70 (v1 v2 : Int32) : sg → Prop := fun r => (WM r) ∧ (v1.toInt ≠ 0 ∨ v2.toInt ≠ 0 ∨ (rF r 4).toInt = (rF r 3).toInt) ∧ True
set_option maxRecDepth 100000 in
set_option maxHeartbeats 4000000 in
theorem wLX5_next_70 : ∀ (k : Nat) (v1 v2 : Int32) (σ : sg) (hw : WM σ) (hz : v1.toInt ≠ 0 ∨ v2.toInt ≠ 0 ∨ (rF σ 4).toInt = (rF σ 3).toInt) (hmu : (120 - (rF σ 4).toInt).toNat < k), PLX5_next_70 v1 v2 (LX5_next_70 k v1 v2 σ) := by
  intro k
  induction k with
  | zero => intro v1 v2 σ hw hz hmu; exact absurd hmu (Nat.not_lt_zero _)
  | succ k ih =>
    intro v1 v2 σ hw hz hmu
    have k0 : (0 : Int32).toInt = 0 := rfl
    have k1 : (1 : Int32).toInt = 1 := rfl
    have k48 : (48 : Int32).toInt = 48 := rfl
    have k57 : (57 : Int32).toInt = 57 := rfl
    have k97 : (97 : Int32).toInt = 97 := rfl
    have k122 : (122 : Int32).toInt = 122 := rfl
    have q0 := wm_to hw
    have q1 := wm_taped hw
    rw [show LX5_next_70 (k + 1) v1 v2 σ = _ from LX5_next_70.eq_2 ..]
    refine wf_ite (fun c34 => ?_) (fun c34 => ?_)
    · have i79 := eqI c34
      refine wf_ite (fun c35 => ?_) (fun c35 => ?_)
      · have i49 := eqI c35
        exact ⟨hw, (by omega), trivial⟩
      · have i50 := neI c35
        have w36 := wm_to hw
        refine wf_ite (fun c37 => ?_) (fun c37 => ?_)
        · have i46 := eqI c37
          exact ⟨hw, (by omega), trivial⟩
        · have i47 := neI c37
          have b48 := isB_t c37
          have a40 := addI (x := (rF σ 4)) (y := 1) (by omega) (by omega)
          refine wf_bnd (fun s38 e39 => ?_)
          have hw41 : WM s38 := by rw [e39]; exact wmFo hw (by omega) (by omega)
          have f42 := congrArg Int32.toInt (show rF s38 4 = ((rF σ 4) + 1) by rw [e39]; exact sF_same9)
          have n43 := congrArg Int32.toInt (show rF s38 1 = rF σ 1 by rw [e39]; exact sF_other (by decide))
          have n44 := congrArg Int32.toInt (show rF s38 3 = rF σ 3 by rw [e39]; exact sF_other (by decide))
          have n45 := congrArg Int32.toInt (show rF s38 5 = rF σ 5 by rw [e39]; exact sF_other (by decide))
          exact ih v1 v2 s38 hw41 (by omega) (by omega)
    · have i80 := neI c34
      have w51 := wm_to hw
      refine wf_ite (fun c52 => ?_) (fun c52 => ?_)
      · have i78 := eqI c52
        refine wf_ite (fun c61 => ?_) (fun c61 => ?_)
        · have i74 := eqI c61
          exact ⟨hw, (by omega), trivial⟩
        · have i75 := neI c61
          refine wf_ite (fun c62 => ?_) (fun c62 => ?_)
          · have i71 := eqI c62
            exact ⟨hw, (by omega), trivial⟩
          · have i72 := neI c62
            have b73 := isB_t c62
            have a65 := addI (x := (rF σ 4)) (y := 1) (by omega) (by omega)
            refine wf_bnd (fun s63 e64 => ?_)
            have hw66 : WM s63 := by rw [e64]; exact wmFo hw (by omega) (by omega)
            have f67 := congrArg Int32.toInt (show rF s63 4 = ((rF σ 4) + 1) by rw [e64]; exact sF_same9)
            have n68 := congrArg Int32.toInt (show rF s63 1 = rF σ 1 by rw [e64]; exact sF_other (by decide))
            have n69 := congrArg Int32.toInt (show rF s63 3 = rF σ 3 by rw [e64]; exact sF_other (by decide))
            have n70 := congrArg Int32.toInt (show rF s63 5 = rF σ 5 by rw [e64]; exact sF_other (by decide))
            exact ih v1 v2 s63 hw66 (by omega) (by omega)
      · have i76 := neI c52
        have b77 := isB_t c52
        have a55 := addI (x := (rF σ 4)) (y := 1) (by omega) (by omega)
        refine wf_bnd (fun s53 e54 => ?_)
        have hw56 : WM s53 := by rw [e54]; exact wmFo hw (by omega) (by omega)
        have f57 := congrArg Int32.toInt (show rF s53 4 = ((rF σ 4) + 1) by rw [e54]; exact sF_same9)
        have n58 := congrArg Int32.toInt (show rF s53 1 = rF σ 1 by rw [e54]; exact sF_other (by decide))
        have n59 := congrArg Int32.toInt (show rF s53 3 = rF σ 3 by rw [e54]; exact sF_other (by decide))
        have n60 := congrArg Int32.toInt (show rF s53 5 = rF σ 5 by rw [e54]; exact sF_other (by decide))
        exact ih v1 v2 s53 hw56 (by omega) (by omega)
set_option maxRecDepth 100000 in
set_option maxHeartbeats 4000000 in
theorem wX5_next {σ : sg} (hw : WM σ) : WM (fX5_next σ) := by
  have k0 : (0 : Int32).toInt = 0 := rfl
  have k1 : (1 : Int32).toInt = 1 := rfl
  have k48 : (48 : Int32).toInt = 48 := rfl
  have k57 : (57 : Int32).toInt = 57 := rfl
  have k97 : (97 : Int32).toInt = 97 := rfl
  have k122 : (122 : Int32).toInt = 122 := rfl
  rw [show fX5_next σ = _ from fX5_next.eq_1 ..]
  have w1 := wm_to hw
  refine wf_bnd (fun s2 e3 => ?_)
  have hw4 : WM s2 := by rw [e3]; exact wmFf hw (by omega) (by omega)
  have f5 := congrArg Int32.toInt (show rF s2 3 = (rF σ 4) by rw [e3]; exact sF_same9)
  have n6 := congrArg Int32.toInt (show rF s2 1 = rF σ 1 by rw [e3]; exact sF_other (by decide))
  have n7 := congrArg Int32.toInt (show rF s2 4 = rF σ 4 by rw [e3]; exact sF_other (by decide))
  have n8 := congrArg Int32.toInt (show rF s2 5 = rF σ 5 by rw [e3]; exact sF_other (by decide))
  refine wf_bnd (fun r22 e23 => ?_)
  obtain ⟨hw24, _⟩ := (show PLX5_next_8 r22 from by rw [e23]; exact wLX5_next_8 121 s2 hw4 (by have := wm_from hw4; omega))
  have w25 := wm_from hw24
  refine wf_bnd (fun s26 e27 => ?_)
  have hw28 : WM s26 := by rw [e27]; exact wmFo hw24 (by omega) (by omega)
  have f29 := congrArg Int32.toInt (show rF s26 4 = (rF r22 3) by rw [e27]; exact sF_same9)
  have n30 := congrArg Int32.toInt (show rF s26 1 = rF r22 1 by rw [e27]; exact sF_other (by decide))
  have n31 := congrArg Int32.toInt (show rF s26 3 = rF r22 3 by rw [e27]; exact sF_other (by decide))
  have n32 := congrArg Int32.toInt (show rF s26 5 = rF r22 5 by rw [e27]; exact sF_other (by decide))
  have w33 := wm_from hw28
  refine wf_bnd (fun r81 e82 => ?_)
  obtain ⟨hw83, x84, _⟩ := (show PLX5_next_70 (fX5_isByte (rF s26 3) 97 122 s26) (fX5_isByte (rF s26 3) 48 57 s26) r81 from by rw [e82]; exact wLX5_next_70 121 (fX5_isByte (rF s26 3) 97 122 s26) (fX5_isByte (rF s26 3) 48 57 s26) s26 hw28 (by omega) (by have := wm_to hw28; omega))
  have w85 := wm_to hw83
  refine wf_ite (fun c86 => ?_) (fun c86 => ?_)
  · have i130 := eqI c86
    refine wf_ite (fun c95 => ?_) (fun c95 => ?_)
    · have i127 := eqI c95
      have w104 := wm_from hw83
      have w105 := wm_taped hw83
      refine wf_ite (fun c106 => ?_) (fun c106 => ?_)
      · have i123 := leI c106
        have a109 := addI (x := (rF r81 4)) (y := 0) (by omega) (by omega)
        refine wf_bnd (fun s107 e108 => ?_)
        have hw110 : WM s107 := by rw [e108]; exact wmFo hw83 (by omega) (by omega)
        have f111 := congrArg Int32.toInt (show rF s107 4 = ((rF r81 4) + 0) by rw [e108]; exact sF_same9)
        have n112 := congrArg Int32.toInt (show rF s107 1 = rF r81 1 by rw [e108]; exact sF_other (by decide))
        have n113 := congrArg Int32.toInt (show rF s107 3 = rF r81 3 by rw [e108]; exact sF_other (by decide))
        have n114 := congrArg Int32.toInt (show rF s107 5 = rF r81 5 by rw [e108]; exact sF_other (by decide))
        exact hw110
      · have i124 := nleI c106
        have a117 := addI (x := (rF r81 4)) (y := 1) (by omega) (by omega)
        refine wf_bnd (fun s115 e116 => ?_)
        have hw118 : WM s115 := by rw [e116]; exact wmFo hw83 (by omega) (by omega)
        have f119 := congrArg Int32.toInt (show rF s115 4 = ((rF r81 4) + 1) by rw [e116]; exact sF_same9)
        have n120 := congrArg Int32.toInt (show rF s115 1 = rF r81 1 by rw [e116]; exact sF_other (by decide))
        have n121 := congrArg Int32.toInt (show rF s115 3 = rF r81 3 by rw [e116]; exact sF_other (by decide))
        have n122 := congrArg Int32.toInt (show rF s115 5 = rF r81 5 by rw [e116]; exact sF_other (by decide))
        exact hw118
    · have i125 := neI c95
      have b126 := isB_t c95
      have a98 := addI (x := (rF r81 4)) (y := 0) (by omega) (by omega)
      refine wf_bnd (fun s96 e97 => ?_)
      have hw99 : WM s96 := by rw [e97]; exact wmFo hw83 (by omega) (by omega)
      have f100 := congrArg Int32.toInt (show rF s96 4 = ((rF r81 4) + 0) by rw [e97]; exact sF_same9)
      have n101 := congrArg Int32.toInt (show rF s96 1 = rF r81 1 by rw [e97]; exact sF_other (by decide))
      have n102 := congrArg Int32.toInt (show rF s96 3 = rF r81 3 by rw [e97]; exact sF_other (by decide))
      have n103 := congrArg Int32.toInt (show rF s96 5 = rF r81 5 by rw [e97]; exact sF_other (by decide))
      exact hw99
  · have i128 := neI c86
    have b129 := isB_t c86
    have a89 := addI (x := (rF r81 4)) (y := 0) (by omega) (by omega)
    refine wf_bnd (fun s87 e88 => ?_)
    have hw90 : WM s87 := by rw [e88]; exact wmFo hw83 (by omega) (by omega)
    have f91 := congrArg Int32.toInt (show rF s87 4 = ((rF r81 4) + 0) by rw [e88]; exact sF_same9)
    have n92 := congrArg Int32.toInt (show rF s87 1 = rF r81 1 by rw [e88]; exact sF_other (by decide))
    have n93 := congrArg Int32.toInt (show rF s87 3 = rF r81 3 by rw [e88]; exact sF_other (by decide))
    have n94 := congrArg Int32.toInt (show rF s87 5 = rF r81 5 by rw [e88]; exact sF_other (by decide))
    exact hw90
set_option maxRecDepth 100000 in
set_option maxHeartbeats 4000000 in
theorem wX5_takes (w1 : Nat) (hw1 : w1 < 18) {σ : sg} (hw : WM σ) : WMi (fX5_takes w1 σ) := by
  have k0 : (0 : Int32).toInt = 0 := rfl
  rw [show fX5_takes w1 σ = _ from fX5_takes.eq_1 ..]
  refine wf_ite (fun c1 => ?_) (fun c1 => ?_)
  · have i5 := eqI c1
    exact hw
  · have i6 := neI c1
    refine wf_bnd (fun r2 e3 => ?_)
    have hw4 : WM r2 := by rw [e3]; exact wX5_next  hw 
    exact hw4
set_option maxRecDepth 100000 in
set_option maxHeartbeats 4000000 in
theorem wX5_wants (w1 : Nat) (hw1 : w1 < 18) {σ : sg} (hw : WM σ) : WM (fX5_wants w1 σ) := by
  have k0 : (0 : Int32).toInt = 0 := rfl
  have k1 : (1 : Int32).toInt = 1 := rfl
  rw [show fX5_wants w1 σ = _ from fX5_wants.eq_1 ..]
  refine wf_ite (fun c1 => ?_) (fun c1 => ?_)
  · have i42 := eqI c1
    refine wf_ite (fun c14 => ?_) (fun c14 => ?_)
    · have i40 := eqI c14
      refine wf_bnd (fun s27 e28 => ?_)
      have hw29 : WM s27 := by rw [e28]; exact wmF hw (by omega)
      have n30 := congrArg Int32.toInt (show rF s27 1 = rF σ 1 by rw [e28]; exact sF_other (by decide))
      have n31 := congrArg Int32.toInt (show rF s27 3 = rF σ 3 by rw [e28]; exact sF_other (by decide))
      have n32 := congrArg Int32.toInt (show rF s27 4 = rF σ 4 by rw [e28]; exact sF_other (by decide))
      refine wf_ite (fun c33 => ?_) (fun c33 => ?_)
      · have i38 := eqI c33
        refine wf_bnd (fun r34 e35 => ?_)
        have hw36 : WM r34 := by rw [e35]; exact wX5_next  hw29 
        exact hw36
      · have i37 := neI c33
        exact hw29
    · have i39 := neI c14
      refine wf_bnd (fun s15 e16 => ?_)
      have hw17 : WM s15 := by rw [e16]; exact wmF hw (by omega)
      have n18 := congrArg Int32.toInt (show rF s15 1 = rF σ 1 by rw [e16]; exact sF_other (by decide))
      have n19 := congrArg Int32.toInt (show rF s15 3 = rF σ 3 by rw [e16]; exact sF_other (by decide))
      have n20 := congrArg Int32.toInt (show rF s15 4 = rF σ 4 by rw [e16]; exact sF_other (by decide))
      refine wf_ite (fun c21 => ?_) (fun c21 => ?_)
      · have i26 := eqI c21
        refine wf_bnd (fun r22 e23 => ?_)
        have hw24 : WM r22 := by rw [e23]; exact wX5_next  hw17 
        exact hw24
      · have i25 := neI c21
        exact hw17
  · have i41 := neI c1
    refine wf_bnd (fun s2 e3 => ?_)
    have hw4 : WM s2 := by rw [e3]; exact wmF hw (by omega)
    have n5 := congrArg Int32.toInt (show rF s2 1 = rF σ 1 by rw [e3]; exact sF_other (by decide))
    have n6 := congrArg Int32.toInt (show rF s2 3 = rF σ 3 by rw [e3]; exact sF_other (by decide))
    have n7 := congrArg Int32.toInt (show rF s2 4 = rF σ 4 by rw [e3]; exact sF_other (by decide))
    refine wf_ite (fun c8 => ?_) (fun c8 => ?_)
    · have i13 := eqI c8
      refine wf_bnd (fun r9 e10 => ?_)
      have hw11 : WM r9 := by rw [e10]; exact wX5_next  hw4 
      exact hw11
    · have i12 := neI c8
      exact hw4
set_option maxRecDepth 100000 in
set_option maxHeartbeats 4000000 in
theorem wX5_number (v1 : Int32) {σ : sg} (hw : WM σ) : WMi (fX5_number v1 σ) := by
  have k0 : (0 : Int32).toInt = 0 := rfl
  have k1 : (1 : Int32).toInt = 1 := rfl
  rw [show fX5_number v1 σ = _ from fX5_number.eq_1 ..]
  refine wf_ite (fun c1 => ?_) (fun c1 => ?_)
  · have i43 := eqI c1
    refine wf_ite (fun c14 => ?_) (fun c14 => ?_)
    · have i41 := eqI c14
      refine wf_bnd (fun s27 e28 => ?_)
      have hw29 : WM s27 := by rw [e28]; exact wmF hw (by omega)
      have n30 := congrArg Int32.toInt (show rF s27 1 = rF σ 1 by rw [e28]; exact sF_other (by decide))
      have n31 := congrArg Int32.toInt (show rF s27 3 = rF σ 3 by rw [e28]; exact sF_other (by decide))
      have n32 := congrArg Int32.toInt (show rF s27 4 = rF σ 4 by rw [e28]; exact sF_other (by decide))
      refine wf_ite (fun c33 => ?_) (fun c33 => ?_)
      · have i38 := eqI c33
        refine wf_bnd (fun r34 e35 => ?_)
        have hw36 : WM r34 := by rw [e35]; exact wX5_next  hw29 
        exact hw36
      · have i37 := neI c33
        exact hw29
    · have i39 := neI c14
      have b40 := wi_t c14
      refine wf_bnd (fun s15 e16 => ?_)
      have hw17 : WM s15 := by rw [e16]; exact wmF hw (by omega)
      have n18 := congrArg Int32.toInt (show rF s15 1 = rF σ 1 by rw [e16]; exact sF_other (by decide))
      have n19 := congrArg Int32.toInt (show rF s15 3 = rF σ 3 by rw [e16]; exact sF_other (by decide))
      have n20 := congrArg Int32.toInt (show rF s15 4 = rF σ 4 by rw [e16]; exact sF_other (by decide))
      refine wf_ite (fun c21 => ?_) (fun c21 => ?_)
      · have i26 := eqI c21
        refine wf_bnd (fun r22 e23 => ?_)
        have hw24 : WM r22 := by rw [e23]; exact wX5_next  hw17 
        exact hw24
      · have i25 := neI c21
        exact hw17
  · have i42 := neI c1
    refine wf_bnd (fun s2 e3 => ?_)
    have hw4 : WM s2 := by rw [e3]; exact wmF hw (by omega)
    have n5 := congrArg Int32.toInt (show rF s2 1 = rF σ 1 by rw [e3]; exact sF_other (by decide))
    have n6 := congrArg Int32.toInt (show rF s2 3 = rF σ 3 by rw [e3]; exact sF_other (by decide))
    have n7 := congrArg Int32.toInt (show rF s2 4 = rF σ 4 by rw [e3]; exact sF_other (by decide))
    refine wf_ite (fun c8 => ?_) (fun c8 => ?_)
    · have i13 := eqI c8
      refine wf_bnd (fun r9 e10 => ?_)
      have hw11 : WM r9 := by rw [e10]; exact wX5_next  hw4 
      exact hw11
    · have i12 := neI c8
      exact hw4
set_option maxRecDepth 100000 in
set_option maxHeartbeats 4000000 in
theorem wX5_shelfTold {σ : sg} (hw : WM σ) : WMi (fX5_shelfTold σ) := by
  have k0 : (0 : Int32).toInt = 0 := rfl
  have k5 : (5 : Int32).toInt = 5 := rfl
  rw [show fX5_shelfTold σ = _ from fX5_shelfTold.eq_1 ..]
  refine wf_bnd (fun r1 e2 => ?_)
  have hw3 : WM r1.2 := by rw [e2]; exact wX5_number 5 hw 
  exact hw3
set_option maxRecDepth 100000 in
set_option maxHeartbeats 4000000 in
theorem wX5_either (w1 : Nat) (hw1 : w1 < 18) (w2 : Nat) (hw2 : w2 < 18) {σ : sg} (hw : WM σ) : WMi (fX5_either w1 w2 σ) := by
  have k0 : (0 : Int32).toInt = 0 := rfl
  have k1 : (1 : Int32).toInt = 1 := rfl
  rw [show fX5_either w1 w2 σ = _ from fX5_either.eq_1 ..]
  refine wf_bnd (fun r1 e2 => ?_)
  have hw3 : WM r1.2 := by rw [e2]; exact wX5_takes w1 hw1 hw 
  refine wf_ite (fun c4 => ?_) (fun c4 => ?_)
  · have i15 := eqI c4
    refine wf_bnd (fun r8 e9 => ?_)
    have hw10 : WM r8 := by rw [e9]; exact wX5_wants w2 hw2 hw3 
    refine wf_ite (fun c11 => ?_) (fun c11 => ?_)
    · have i12 := eqI c11
      exact hw10
    · have i13 := neI c11
      exact hw10
  · have i14 := neI c4
    refine wf_ite (fun c5 => ?_) (fun c5 => ?_)
    · have i6 := eqI c5
      exact hw3
    · have i7 := neI c5
      exact hw3
theorem hdV_X5_isByte : yX5_isByte.cls = RX5 ∧ yX5_isByte.cls ≠ "java/lang/invoke/MethodHandle" ∧ yX5_isByte.cls ≠ "java/lang/invoke/VarHandle" ∧ (parseMethodDescriptor yX5_isByte.desc).map (fun d => d.parameters.length) = some 3 := by decide +kernel
theorem mX5_isByte_f179 : Cond.fieldLink RX5 179 "WaxTreatiesModel" "taped" "I" ∈ wsX5_isByte := List.mem_of_getElem? (i := 1) rfl
theorem iwX5_isByte_X5 : ∀ w ∈ wsX50, w ∈ wsX5_isByte := fun w h => List.mem_cons_of_mem _ (List.mem_append_right _ h)
theorem mX5_isByte_f22 : Cond.fieldLink RX5 22 "WaxTreatiesModel" "tape" "[I" ∈ wsX5_isByte := List.mem_of_getElem? (i := 2) rfl
set_option maxRecDepth 100000 in
set_option maxHeartbeats 4000000 in
theorem kX5_isByte (l : Launch) {G : gT} (hN : wN G) (hG : gfl G = false) (v1 : Int32) (v2 : Int32) (v3 : Int32) (σ : sg) (hw : WM σ) (hb : 0 ≤ v1.toInt) : cM l yX5_isByte wsX5_isByte rmX5_isByte G [.ref (gob G 0), .int v1, .int v2, .int v3] σ (some (.int (fX5_isByte v1 v2 v3 σ))) σ := by
  refine cM_of (maxL := 4) (ret := (some .boolean)) (cc := cX5_isByte) (fX5_isByte v1 v2 v3 σ) RX5 hN (by decide +kernel) rfl rfl (Nat.le_of_ble_eq_true rfl) rfl ?_
  intro p e s m args below meth c K hr
  have k0 : (0 : Int32).toInt = 0 := rfl
  have k1 : (1 : Int32).toInt = 1 := rfl
  refine qq_st (lv' := [some (.ref (gob G 0)), some (.int v1), some (.int v2), some (.int v3)]) rfl rfl rfl ?_
  refine qq_T (fX5_isByte.eq_1 ..) ?_
  refine q_iload_n (pc := 0) K dX5_isByte_0 rfl rfl ?_
  refine q_aload_n (pc := 1) K dX5_isByte_1 rfl rfl ?_
  refine q_get (pc := 2) (o := 0) (f := 6) (v := .int (rF σ 1)) K (wO_m hG) vw_4 iwX5_isByte_X5 (by decide) mX5_isByte_f179 rfl dX5_isByte_2 ?_
  have w1 := wm_taped hw
  refine q_icmp_ge (pc := 5) (tgt := 26) K dX5_isByte_5 (by decide) (fun c2 => ?_) (fun c2 => ?_)
  · have i7 := leI c2
    refine q_iconst (pc := 26) (v := 0) K dX5_isByte_26 (by decide) ?_
    exact q_zretP K hr (Or.inl rfl) dX5_isByte_27
  · have i8 := nleI c2
    refine q_aload_n (pc := 8) K dX5_isByte_8 rfl rfl ?_
    refine q_get (pc := 9) (o := 0) (f := 5) (v := .ref (gad G 4)) K (wO_m hG) vw_4 iwX5_isByte_X5 (by decide) mX5_isByte_f22 rfl dX5_isByte_9 ?_
    refine q_iload_n (pc := 12) K dX5_isByte_12 rfl rfl ?_
    refine q_iald (pc := 13) (a := 4) K (by rw [wna_f hG]; decide) (vinN (wlm (n := 120) hG 4 rfl) (by omega) (by omega)) dX5_isByte_13 ?_
    refine q_iload_n (pc := 14) K dX5_isByte_14 rfl rfl ?_
    refine q_iload_n (pc := 15) K dX5_isByte_15 rfl rfl ?_
    refine q_callSi (pc := 16) (rm := rmX5_within) K (kX5_within l hN (rA σ 4 v1) v2 v3 σ) gX5_isByte_X5_within rfl hdS_X5_within ⟨Nat.le_of_ble_eq_true rfl, Nat.le_of_ble_eq_true rfl⟩ rfl rfl ⟨Nat.zero_le _, Nat.zero_le _⟩ rfl rfl (Nat.le_of_ble_eq_true rfl) dX5_isByte_16 ?_
    refine q_if_eq (pc := 19) (tgt := 26) K dX5_isByte_19 (by decide) (fun c3 => ?_) (fun c3 => ?_)
    · have i4 := eqI c3
      refine q_iconst (pc := 26) (v := 0) K dX5_isByte_26 (by decide) ?_
      exact q_zretP K hr (Or.inl rfl) dX5_isByte_27
    · have i5 := neI c3
      have b6 := wi_t c3
      refine q_iconst (pc := 22) (v := 1) K dX5_isByte_22 (by decide) ?_
      refine q_goto (pc := 23) (tgt := 27) K dX5_isByte_23 (by decide) ?_
      exact q_zretP K hr (Or.inr rfl) dX5_isByte_27
theorem hdV_X5_next : yX5_next.cls = RX5 ∧ yX5_next.cls ≠ "java/lang/invoke/MethodHandle" ∧ yX5_next.cls ≠ "java/lang/invoke/VarHandle" ∧ (parseMethodDescriptor yX5_next.desc).map (fun d => d.parameters.length) = some 0 := by decide +kernel
theorem mX5_next_f182 : Cond.fieldLink RX5 182 "WaxTreatiesModel" "to" "I" ∈ wsX5_next := List.mem_of_getElem? (i := 1) rfl
theorem iwX5_next_X5 : ∀ w ∈ wsX50, w ∈ wsX5_next := fun w h => List.mem_cons_of_mem _ (List.mem_append_right _ h)
theorem mX5_next_f185 : Cond.fieldLink RX5 185 "WaxTreatiesModel" "from" "I" ∈ wsX5_next := List.mem_of_getElem? (i := 2) rfl
theorem mX5_next_f179 : Cond.fieldLink RX5 179 "WaxTreatiesModel" "taped" "I" ∈ wsX5_next := List.mem_of_getElem? (i := 3) rfl
set_option maxRecDepth 100000 in
set_option maxHeartbeats 4000000 in
theorem lX5_next_8 {p : Program} (l : Launch) {e : Env} {s : State} {m : MethodId} {args : Array Value} {below : List Frame} {meth : Method} {c : Code} {Q : State → Prop} {G : gT} (hN : wN G) (hG : gfl G = false) (K : qK p s m args meth c cX5_next 3 RX5 wsX5_next G) : ∀ (k : Nat) (σ : sg) (hw : WM σ) (hmu : (120 - (rF σ 3).toInt).toNat < k) {ρ : Type} {E : ρ → Prop} {f : sg → ρ} (hk : ∀ r : sg, (WM r) → qq p l e (headSpec wsX5_next rmX5_next).room s m args below meth c Q 3 G E (f r) 36 [some (.ref (gob G 0)), none, none] [] r), qq p l e (headSpec wsX5_next rmX5_next).room s m args below meth c Q 3 G E (bnd (LX5_next_8 k σ) f) 8 [some (.ref (gob G 0)), none, none] [] σ := by
  intro k
  induction k with
  | zero => intro σ hw hmu ρ E f hk; exact absurd hmu (Nat.not_lt_zero _)
  | succ k ih =>
    intro σ hw hmu ρ E f hk
    have k0 : (0 : Int32).toInt = 0 := rfl
    have k1 : (1 : Int32).toInt = 1 := rfl
    have k32 : (32 : Int32).toInt = 32 := rfl
    have q0 := wm_from hw
    have q1 := wm_taped hw
    refine qq_in ?_
    refine qq_T (LX5_next_8.eq_2 ..) ?_
    refine q_aload_n (pc := 8) K dX5_next_8 rfl rfl ?_
    refine q_aload_n (pc := 9) K dX5_next_9 rfl rfl ?_
    refine q_get (pc := 10) (o := 0) (f := 10) (v := .int (rF σ 3)) K (wO_m hG) vw_4 iwX5_next_X5 (by decide) mX5_next_f185 rfl dX5_next_10 ?_
    have w9 := wm_from hw
    refine q_bipush (pc := 13) (v := 32) K dX5_next_13 (by decide) ?_
    refine q_bipush (pc := 15) (v := 32) K dX5_next_15 (by decide) ?_
    refine q_callVi (pc := 17) (o := 0) (rm := rmX5_isByte) K (kX5_isByte l hN hG (rF σ 3) 32 32 σ hw (by omega)) gX5_next_X5_isByte rfl hdV_X5_isByte ⟨Nat.le_of_ble_eq_true rfl, Nat.le_of_ble_eq_true rfl⟩ rfl rfl ⟨Nat.zero_le _, Nat.zero_le _⟩ (wO_m hG) vw_4 rfl rfl (Nat.le_of_ble_eq_true rfl) dX5_next_17 ?_
    refine q_if_eq (pc := 20) (tgt := 36) K dX5_next_20 (by decide) (fun c10 => ?_) (fun c10 => ?_)
    · have i19 := eqI c10
      exact qq_leaf (hk σ hw)
    · have i20 := neI c10
      have b21 := isB_t c10
      refine q_aload_n (pc := 23) K dX5_next_23 rfl rfl ?_
      refine q_dup (pc := 24) K dX5_next_24 rfl ?_
      refine q_get (pc := 25) (o := 0) (f := 10) (v := .int (rF σ 3)) K (wO_m hG) vw_4 iwX5_next_X5 (by decide) mX5_next_f185 rfl dX5_next_25 ?_
      refine q_iconst (pc := 28) (v := 1) K dX5_next_28 (by decide) ?_
      refine q_iadd (pc := 29) K dX5_next_29 ?_
      have a13 := addI (x := (rF σ 3)) (y := 1) (by omega) (by omega)
      refine q_put (pc := 30) (o := 0) (f := 10) (i := 3) (ty := .int) K tyX5 tyX5_ok nmX5 (wO_m hG) vw_4 iwX5_next_X5 (by decide) mX5_next_f185 rfl (tyX5_ok 10 (by decide)) rfl rfl (Nat.le_of_ble_eq_true rfl) (wP_m10 hG _) dX5_next_30 (fun s11 e12 => ?_)
      have hw14 : WM s11 := by rw [e12]; exact wmFf hw (by omega) (by omega)
      have f15 := congrArg Int32.toInt (show rF s11 3 = ((rF σ 3) + 1) by rw [e12]; exact sF_same9)
      have n16 := congrArg Int32.toInt (show rF s11 1 = rF σ 1 by rw [e12]; exact sF_other (by decide))
      have n17 := congrArg Int32.toInt (show rF s11 4 = rF σ 4 by rw [e12]; exact sF_other (by decide))
      have n18 := congrArg Int32.toInt (show rF s11 5 = rF σ 5 by rw [e12]; exact sF_other (by decide))
      refine q_goto (pc := 33) (tgt := 8) K dX5_next_33 (by decide) ?_
      exact qq_out (ih s11 hw14 (by omega) hk)
set_option maxRecDepth 100000 in
set_option maxHeartbeats 4000000 in
theorem lX5_next_70 {p : Program} (l : Launch) {e : Env} {s : State} {m : MethodId} {args : Array Value} {below : List Frame} {meth : Method} {c : Code} {Q : State → Prop} {G : gT} (hN : wN G) (hG : gfl G = false) (K : qK p s m args meth c cX5_next 3 RX5 wsX5_next G) : ∀ (k : Nat) (v1 v2 : Int32) (σ : sg) (hw : WM σ) (hz : v1.toInt ≠ 0 ∨ v2.toInt ≠ 0 ∨ (rF σ 4).toInt = (rF σ 3).toInt) (hmu : (120 - (rF σ 4).toInt).toNat < k) {ρ : Type} {E : ρ → Prop} {f : sg → ρ} (hk : ∀ r : sg, (WM r) → (v1.toInt ≠ 0 ∨ v2.toInt ≠ 0 ∨ (rF r 4).toInt = (rF r 3).toInt) → qq p l e (headSpec wsX5_next rmX5_next).room s m args below meth c Q 3 G E (f r) 121 [some (.ref (gob G 0)), some (.int v1), some (.int v2)] [] r), qq p l e (headSpec wsX5_next rmX5_next).room s m args below meth c Q 3 G E (bnd (LX5_next_70 k v1 v2 σ) f) 70 [some (.ref (gob G 0)), some (.int v1), some (.int v2)] [] σ := by
  intro k
  induction k with
  | zero => intro v1 v2 σ hw hz hmu ρ E f hk; exact absurd hmu (Nat.not_lt_zero _)
  | succ k ih =>
    intro v1 v2 σ hw hz hmu ρ E f hk
    have k0 : (0 : Int32).toInt = 0 := rfl
    have k1 : (1 : Int32).toInt = 1 := rfl
    have k48 : (48 : Int32).toInt = 48 := rfl
    have k57 : (57 : Int32).toInt = 57 := rfl
    have k97 : (97 : Int32).toInt = 97 := rfl
    have k122 : (122 : Int32).toInt = 122 := rfl
    have q0 := wm_to hw
    have q1 := wm_taped hw
    refine qq_in ?_
    refine qq_T (LX5_next_70.eq_2 ..) ?_
    refine q_iload_n (pc := 70) K dX5_next_70 rfl rfl ?_
    refine q_if_eq (pc := 71) (tgt := 89) K dX5_next_71 (by decide) (fun c34 => ?_) (fun c34 => ?_)
    · have i79 := eqI c34
      refine q_iload_n (pc := 89) K dX5_next_89 rfl rfl ?_
      refine q_if_eq (pc := 90) (tgt := 121) K dX5_next_90 (by decide) (fun c35 => ?_) (fun c35 => ?_)
      · have i49 := eqI c35
        exact qq_leaf (hk σ hw (by omega))
      · have i50 := neI c35
        refine q_aload_n (pc := 93) K dX5_next_93 rfl rfl ?_
        refine q_aload_n (pc := 94) K dX5_next_94 rfl rfl ?_
        refine q_get (pc := 95) (o := 0) (f := 11) (v := .int (rF σ 4)) K (wO_m hG) vw_4 iwX5_next_X5 (by decide) mX5_next_f182 rfl dX5_next_95 ?_
        have w36 := wm_to hw
        refine q_bipush (pc := 98) (v := 48) K dX5_next_98 (by decide) ?_
        refine q_bipush (pc := 100) (v := 57) K dX5_next_100 (by decide) ?_
        refine q_callVi (pc := 102) (o := 0) (rm := rmX5_isByte) K (kX5_isByte l hN hG (rF σ 4) 48 57 σ hw (by omega)) gX5_next_X5_isByte rfl hdV_X5_isByte ⟨Nat.le_of_ble_eq_true rfl, Nat.le_of_ble_eq_true rfl⟩ rfl rfl ⟨Nat.zero_le _, Nat.zero_le _⟩ (wO_m hG) vw_4 rfl rfl (Nat.le_of_ble_eq_true rfl) dX5_next_102 ?_
        refine q_if_eq (pc := 105) (tgt := 121) K dX5_next_105 (by decide) (fun c37 => ?_) (fun c37 => ?_)
        · have i46 := eqI c37
          exact qq_leaf (hk σ hw (by omega))
        · have i47 := neI c37
          have b48 := isB_t c37
          refine q_aload_n (pc := 108) K dX5_next_108 rfl rfl ?_
          refine q_dup (pc := 109) K dX5_next_109 rfl ?_
          refine q_get (pc := 110) (o := 0) (f := 11) (v := .int (rF σ 4)) K (wO_m hG) vw_4 iwX5_next_X5 (by decide) mX5_next_f182 rfl dX5_next_110 ?_
          refine q_iconst (pc := 113) (v := 1) K dX5_next_113 (by decide) ?_
          refine q_iadd (pc := 114) K dX5_next_114 ?_
          have a40 := addI (x := (rF σ 4)) (y := 1) (by omega) (by omega)
          refine q_put (pc := 115) (o := 0) (f := 11) (i := 4) (ty := .int) K tyX5 tyX5_ok nmX5 (wO_m hG) vw_4 iwX5_next_X5 (by decide) mX5_next_f182 rfl (tyX5_ok 11 (by decide)) rfl rfl (Nat.le_of_ble_eq_true rfl) (wP_m11 hG _) dX5_next_115 (fun s38 e39 => ?_)
          have hw41 : WM s38 := by rw [e39]; exact wmFo hw (by omega) (by omega)
          have f42 := congrArg Int32.toInt (show rF s38 4 = ((rF σ 4) + 1) by rw [e39]; exact sF_same9)
          have n43 := congrArg Int32.toInt (show rF s38 1 = rF σ 1 by rw [e39]; exact sF_other (by decide))
          have n44 := congrArg Int32.toInt (show rF s38 3 = rF σ 3 by rw [e39]; exact sF_other (by decide))
          have n45 := congrArg Int32.toInt (show rF s38 5 = rF σ 5 by rw [e39]; exact sF_other (by decide))
          refine q_goto (pc := 118) (tgt := 70) K dX5_next_118 (by decide) ?_
          exact qq_out (ih v1 v2 s38 hw41 (by omega) (by omega) hk)
    · have i80 := neI c34
      refine q_aload_n (pc := 74) K dX5_next_74 rfl rfl ?_
      refine q_aload_n (pc := 75) K dX5_next_75 rfl rfl ?_
      refine q_get (pc := 76) (o := 0) (f := 11) (v := .int (rF σ 4)) K (wO_m hG) vw_4 iwX5_next_X5 (by decide) mX5_next_f182 rfl dX5_next_76 ?_
      have w51 := wm_to hw
      refine q_bipush (pc := 79) (v := 97) K dX5_next_79 (by decide) ?_
      refine q_bipush (pc := 81) (v := 122) K dX5_next_81 (by decide) ?_
      refine q_callVi (pc := 83) (o := 0) (rm := rmX5_isByte) K (kX5_isByte l hN hG (rF σ 4) 97 122 σ hw (by omega)) gX5_next_X5_isByte rfl hdV_X5_isByte ⟨Nat.le_of_ble_eq_true rfl, Nat.le_of_ble_eq_true rfl⟩ rfl rfl ⟨Nat.zero_le _, Nat.zero_le _⟩ (wO_m hG) vw_4 rfl rfl (Nat.le_of_ble_eq_true rfl) dX5_next_83 ?_
      refine q_if_ne (pc := 86) (tgt := 108) K dX5_next_86 (by decide) (fun c52 => ?_) (fun c52 => ?_)
      · have i76 := neI c52
        have b77 := isB_t c52
        refine q_aload_n (pc := 108) K dX5_next_108 rfl rfl ?_
        refine q_dup (pc := 109) K dX5_next_109 rfl ?_
        refine q_get (pc := 110) (o := 0) (f := 11) (v := .int (rF σ 4)) K (wO_m hG) vw_4 iwX5_next_X5 (by decide) mX5_next_f182 rfl dX5_next_110 ?_
        refine q_iconst (pc := 113) (v := 1) K dX5_next_113 (by decide) ?_
        refine q_iadd (pc := 114) K dX5_next_114 ?_
        have a55 := addI (x := (rF σ 4)) (y := 1) (by omega) (by omega)
        refine q_put (pc := 115) (o := 0) (f := 11) (i := 4) (ty := .int) K tyX5 tyX5_ok nmX5 (wO_m hG) vw_4 iwX5_next_X5 (by decide) mX5_next_f182 rfl (tyX5_ok 11 (by decide)) rfl rfl (Nat.le_of_ble_eq_true rfl) (wP_m11 hG _) dX5_next_115 (fun s53 e54 => ?_)
        have hw56 : WM s53 := by rw [e54]; exact wmFo hw (by omega) (by omega)
        have f57 := congrArg Int32.toInt (show rF s53 4 = ((rF σ 4) + 1) by rw [e54]; exact sF_same9)
        have n58 := congrArg Int32.toInt (show rF s53 1 = rF σ 1 by rw [e54]; exact sF_other (by decide))
        have n59 := congrArg Int32.toInt (show rF s53 3 = rF σ 3 by rw [e54]; exact sF_other (by decide))
        have n60 := congrArg Int32.toInt (show rF s53 5 = rF σ 5 by rw [e54]; exact sF_other (by decide))
        refine q_goto (pc := 118) (tgt := 70) K dX5_next_118 (by decide) ?_
        exact qq_out (ih v1 v2 s53 hw56 (by omega) (by omega) hk)
      · have i78 := eqI c52
        refine q_iload_n (pc := 89) K dX5_next_89 rfl rfl ?_
        refine q_if_eq (pc := 90) (tgt := 121) K dX5_next_90 (by decide) (fun c61 => ?_) (fun c61 => ?_)
        · have i74 := eqI c61
          exact qq_leaf (hk σ hw (by omega))
        · have i75 := neI c61
          refine q_aload_n (pc := 93) K dX5_next_93 rfl rfl ?_
          refine q_aload_n (pc := 94) K dX5_next_94 rfl rfl ?_
          refine q_get (pc := 95) (o := 0) (f := 11) (v := .int (rF σ 4)) K (wO_m hG) vw_4 iwX5_next_X5 (by decide) mX5_next_f182 rfl dX5_next_95 ?_
          refine q_bipush (pc := 98) (v := 48) K dX5_next_98 (by decide) ?_
          refine q_bipush (pc := 100) (v := 57) K dX5_next_100 (by decide) ?_
          refine q_callVi (pc := 102) (o := 0) (rm := rmX5_isByte) K (kX5_isByte l hN hG (rF σ 4) 48 57 σ hw (by omega)) gX5_next_X5_isByte rfl hdV_X5_isByte ⟨Nat.le_of_ble_eq_true rfl, Nat.le_of_ble_eq_true rfl⟩ rfl rfl ⟨Nat.zero_le _, Nat.zero_le _⟩ (wO_m hG) vw_4 rfl rfl (Nat.le_of_ble_eq_true rfl) dX5_next_102 ?_
          refine q_if_eq (pc := 105) (tgt := 121) K dX5_next_105 (by decide) (fun c62 => ?_) (fun c62 => ?_)
          · have i71 := eqI c62
            exact qq_leaf (hk σ hw (by omega))
          · have i72 := neI c62
            have b73 := isB_t c62
            refine q_aload_n (pc := 108) K dX5_next_108 rfl rfl ?_
            refine q_dup (pc := 109) K dX5_next_109 rfl ?_
            refine q_get (pc := 110) (o := 0) (f := 11) (v := .int (rF σ 4)) K (wO_m hG) vw_4 iwX5_next_X5 (by decide) mX5_next_f182 rfl dX5_next_110 ?_
            refine q_iconst (pc := 113) (v := 1) K dX5_next_113 (by decide) ?_
            refine q_iadd (pc := 114) K dX5_next_114 ?_
            have a65 := addI (x := (rF σ 4)) (y := 1) (by omega) (by omega)
            refine q_put (pc := 115) (o := 0) (f := 11) (i := 4) (ty := .int) K tyX5 tyX5_ok nmX5 (wO_m hG) vw_4 iwX5_next_X5 (by decide) mX5_next_f182 rfl (tyX5_ok 11 (by decide)) rfl rfl (Nat.le_of_ble_eq_true rfl) (wP_m11 hG _) dX5_next_115 (fun s63 e64 => ?_)
            have hw66 : WM s63 := by rw [e64]; exact wmFo hw (by omega) (by omega)
            have f67 := congrArg Int32.toInt (show rF s63 4 = ((rF σ 4) + 1) by rw [e64]; exact sF_same9)
            have n68 := congrArg Int32.toInt (show rF s63 1 = rF σ 1 by rw [e64]; exact sF_other (by decide))
            have n69 := congrArg Int32.toInt (show rF s63 3 = rF σ 3 by rw [e64]; exact sF_other (by decide))
            have n70 := congrArg Int32.toInt (show rF s63 5 = rF σ 5 by rw [e64]; exact sF_other (by decide))
            refine q_goto (pc := 118) (tgt := 70) K dX5_next_118 (by decide) ?_
            exact qq_out (ih v1 v2 s63 hw66 (by omega) (by omega) hk)
set_option maxRecDepth 100000 in
set_option maxHeartbeats 4000000 in
theorem kX5_next (l : Launch) {G : gT} (hN : wN G) (hG : gfl G = false) (σ : sg) (hw : WM σ) : cM l yX5_next wsX5_next rmX5_next G [.ref (gob G 0)] σ none (fX5_next σ) := by
  refine cM_of (maxL := 3) (ret := none) (cc := cX5_next) (fX5_next σ) RX5 hN (by decide +kernel) rfl rfl (Nat.le_of_ble_eq_true rfl) rfl ?_
  intro p e s m args below meth c K hr
  have k0 : (0 : Int32).toInt = 0 := rfl
  have k1 : (1 : Int32).toInt = 1 := rfl
  have k48 : (48 : Int32).toInt = 48 := rfl
  have k57 : (57 : Int32).toInt = 57 := rfl
  have k97 : (97 : Int32).toInt = 97 := rfl
  have k122 : (122 : Int32).toInt = 122 := rfl
  refine qq_st (lv' := [some (.ref (gob G 0)), none, none]) rfl rfl rfl ?_
  refine qq_T (fX5_next.eq_1 ..) ?_
  refine q_aload_n (pc := 0) K dX5_next_0 rfl rfl ?_
  refine q_aload_n (pc := 1) K dX5_next_1 rfl rfl ?_
  refine q_get (pc := 2) (o := 0) (f := 11) (v := .int (rF σ 4)) K (wO_m hG) vw_4 iwX5_next_X5 (by decide) mX5_next_f182 rfl dX5_next_2 ?_
  have w1 := wm_to hw
  refine q_put (pc := 5) (o := 0) (f := 10) (i := 3) (ty := .int) K tyX5 tyX5_ok nmX5 (wO_m hG) vw_4 iwX5_next_X5 (by decide) mX5_next_f185 rfl (tyX5_ok 10 (by decide)) rfl rfl (Nat.le_of_ble_eq_true rfl) (wP_m10 hG _) dX5_next_5 (fun s2 e3 => ?_)
  have hw4 : WM s2 := by rw [e3]; exact wmFf hw (by omega) (by omega)
  have f5 := congrArg Int32.toInt (show rF s2 3 = (rF σ 4) by rw [e3]; exact sF_same9)
  have n6 := congrArg Int32.toInt (show rF s2 1 = rF σ 1 by rw [e3]; exact sF_other (by decide))
  have n7 := congrArg Int32.toInt (show rF s2 4 = rF σ 4 by rw [e3]; exact sF_other (by decide))
  have n8 := congrArg Int32.toInt (show rF s2 5 = rF σ 5 by rw [e3]; exact sF_other (by decide))
  refine lX5_next_8 l hN hG K 121 s2 hw4 (by have := wm_from hw4; omega) (fun r22 hw24 => ?_)
  refine q_aload_n (pc := 36) K dX5_next_36 rfl rfl ?_
  refine q_aload_n (pc := 37) K dX5_next_37 rfl rfl ?_
  refine q_get (pc := 38) (o := 0) (f := 10) (v := .int (rF r22 3)) K (wO_m hG) vw_4 iwX5_next_X5 (by decide) mX5_next_f185 rfl dX5_next_38 ?_
  have w25 := wm_from hw24
  refine q_put (pc := 41) (o := 0) (f := 11) (i := 4) (ty := .int) K tyX5 tyX5_ok nmX5 (wO_m hG) vw_4 iwX5_next_X5 (by decide) mX5_next_f182 rfl (tyX5_ok 11 (by decide)) rfl rfl (Nat.le_of_ble_eq_true rfl) (wP_m11 hG _) dX5_next_41 (fun s26 e27 => ?_)
  have hw28 : WM s26 := by rw [e27]; exact wmFo hw24 (by omega) (by omega)
  have f29 := congrArg Int32.toInt (show rF s26 4 = (rF r22 3) by rw [e27]; exact sF_same9)
  have n30 := congrArg Int32.toInt (show rF s26 1 = rF r22 1 by rw [e27]; exact sF_other (by decide))
  have n31 := congrArg Int32.toInt (show rF s26 3 = rF r22 3 by rw [e27]; exact sF_other (by decide))
  have n32 := congrArg Int32.toInt (show rF s26 5 = rF r22 5 by rw [e27]; exact sF_other (by decide))
  refine q_aload_n (pc := 44) K dX5_next_44 rfl rfl ?_
  refine q_aload_n (pc := 45) K dX5_next_45 rfl rfl ?_
  refine q_get (pc := 46) (o := 0) (f := 10) (v := .int (rF s26 3)) K (wO_m hG) vw_4 iwX5_next_X5 (by decide) mX5_next_f185 rfl dX5_next_46 ?_
  have w33 := wm_from hw28
  refine q_bipush (pc := 49) (v := 97) K dX5_next_49 (by decide) ?_
  refine q_bipush (pc := 51) (v := 122) K dX5_next_51 (by decide) ?_
  refine q_callVi (pc := 53) (o := 0) (rm := rmX5_isByte) K (kX5_isByte l hN hG (rF s26 3) 97 122 s26 hw28 (by omega)) gX5_next_X5_isByte rfl hdV_X5_isByte ⟨Nat.le_of_ble_eq_true rfl, Nat.le_of_ble_eq_true rfl⟩ rfl rfl ⟨Nat.zero_le _, Nat.zero_le _⟩ (wO_m hG) vw_4 rfl rfl (Nat.le_of_ble_eq_true rfl) dX5_next_53 ?_
  refine q_istore_n (pc := 56) (lv' := [some (.ref (gob G 0)), some (.int (fX5_isByte (rF s26 3) 97 122 s26)), none]) K dX5_next_56 rfl (by decide) (Nat.le_of_ble_eq_true rfl) rfl ?_
  refine q_aload_n (pc := 57) K dX5_next_57 rfl rfl ?_
  refine q_aload_n (pc := 58) K dX5_next_58 rfl rfl ?_
  refine q_get (pc := 59) (o := 0) (f := 10) (v := .int (rF s26 3)) K (wO_m hG) vw_4 iwX5_next_X5 (by decide) mX5_next_f185 rfl dX5_next_59 ?_
  refine q_bipush (pc := 62) (v := 48) K dX5_next_62 (by decide) ?_
  refine q_bipush (pc := 64) (v := 57) K dX5_next_64 (by decide) ?_
  refine q_callVi (pc := 66) (o := 0) (rm := rmX5_isByte) K (kX5_isByte l hN hG (rF s26 3) 48 57 s26 hw28 (by omega)) gX5_next_X5_isByte rfl hdV_X5_isByte ⟨Nat.le_of_ble_eq_true rfl, Nat.le_of_ble_eq_true rfl⟩ rfl rfl ⟨Nat.zero_le _, Nat.zero_le _⟩ (wO_m hG) vw_4 rfl rfl (Nat.le_of_ble_eq_true rfl) dX5_next_66 ?_
  refine q_istore_n (pc := 69) (lv' := [some (.ref (gob G 0)), some (.int (fX5_isByte (rF s26 3) 97 122 s26)), some (.int (fX5_isByte (rF s26 3) 48 57 s26))]) K dX5_next_69 rfl (by decide) (Nat.le_of_ble_eq_true rfl) rfl ?_
  refine lX5_next_70 l hN hG K 121 (fX5_isByte (rF s26 3) 97 122 s26) (fX5_isByte (rF s26 3) 48 57 s26) s26 hw28 (by omega) (by have := wm_to hw28; omega) (fun r81 hw83 x84 => ?_)
  refine q_aload_n (pc := 121) K dX5_next_121 rfl rfl ?_
  refine q_dup (pc := 122) K dX5_next_122 rfl ?_
  refine q_get (pc := 123) (o := 0) (f := 11) (v := .int (rF r81 4)) K (wO_m hG) vw_4 iwX5_next_X5 (by decide) mX5_next_f182 rfl dX5_next_123 ?_
  have w85 := wm_to hw83
  refine q_iload_n (pc := 126) K dX5_next_126 rfl rfl ?_
  refine q_if_ne (pc := 127) (tgt := 149) K dX5_next_127 (by decide) (fun c86 => ?_) (fun c86 => ?_)
  · have i128 := neI c86
    have b129 := isB_t c86
    refine q_iconst (pc := 149) (v := 0) K dX5_next_149 (by decide) ?_
    refine q_iadd (pc := 150) K dX5_next_150 ?_
    have a89 := addI (x := (rF r81 4)) (y := 0) (by omega) (by omega)
    refine q_put (pc := 151) (o := 0) (f := 11) (i := 4) (ty := .int) K tyX5 tyX5_ok nmX5 (wO_m hG) vw_4 iwX5_next_X5 (by decide) mX5_next_f182 rfl (tyX5_ok 11 (by decide)) rfl rfl (Nat.le_of_ble_eq_true rfl) (wP_m11 hG _) dX5_next_151 (fun s87 e88 => ?_)
    have hw90 : WM s87 := by rw [e88]; exact wmFo hw83 (by omega) (by omega)
    have f91 := congrArg Int32.toInt (show rF s87 4 = ((rF r81 4) + 0) by rw [e88]; exact sF_same9)
    have n92 := congrArg Int32.toInt (show rF s87 1 = rF r81 1 by rw [e88]; exact sF_other (by decide))
    have n93 := congrArg Int32.toInt (show rF s87 3 = rF r81 3 by rw [e88]; exact sF_other (by decide))
    have n94 := congrArg Int32.toInt (show rF s87 5 = rF r81 5 by rw [e88]; exact sF_other (by decide))
    exact q_vretW K hr dX5_next_154
  · have i130 := eqI c86
    refine q_iload_n (pc := 130) K dX5_next_130 rfl rfl ?_
    refine q_if_ne (pc := 131) (tgt := 149) K dX5_next_131 (by decide) (fun c95 => ?_) (fun c95 => ?_)
    · have i125 := neI c95
      have b126 := isB_t c95
      refine q_iconst (pc := 149) (v := 0) K dX5_next_149 (by decide) ?_
      refine q_iadd (pc := 150) K dX5_next_150 ?_
      have a98 := addI (x := (rF r81 4)) (y := 0) (by omega) (by omega)
      refine q_put (pc := 151) (o := 0) (f := 11) (i := 4) (ty := .int) K tyX5 tyX5_ok nmX5 (wO_m hG) vw_4 iwX5_next_X5 (by decide) mX5_next_f182 rfl (tyX5_ok 11 (by decide)) rfl rfl (Nat.le_of_ble_eq_true rfl) (wP_m11 hG _) dX5_next_151 (fun s96 e97 => ?_)
      have hw99 : WM s96 := by rw [e97]; exact wmFo hw83 (by omega) (by omega)
      have f100 := congrArg Int32.toInt (show rF s96 4 = ((rF r81 4) + 0) by rw [e97]; exact sF_same9)
      have n101 := congrArg Int32.toInt (show rF s96 1 = rF r81 1 by rw [e97]; exact sF_other (by decide))
      have n102 := congrArg Int32.toInt (show rF s96 3 = rF r81 3 by rw [e97]; exact sF_other (by decide))
      have n103 := congrArg Int32.toInt (show rF s96 5 = rF r81 5 by rw [e97]; exact sF_other (by decide))
      exact q_vretW K hr dX5_next_154
    · have i127 := eqI c95
      refine q_aload_n (pc := 134) K dX5_next_134 rfl rfl ?_
      refine q_get (pc := 135) (o := 0) (f := 10) (v := .int (rF r81 3)) K (wO_m hG) vw_4 iwX5_next_X5 (by decide) mX5_next_f185 rfl dX5_next_135 ?_
      have w104 := wm_from hw83
      refine q_aload_n (pc := 138) K dX5_next_138 rfl rfl ?_
      refine q_get (pc := 139) (o := 0) (f := 6) (v := .int (rF r81 1)) K (wO_m hG) vw_4 iwX5_next_X5 (by decide) mX5_next_f179 rfl dX5_next_139 ?_
      have w105 := wm_taped hw83
      refine q_icmp_ge (pc := 142) (tgt := 149) K dX5_next_142 (by decide) (fun c106 => ?_) (fun c106 => ?_)
      · have i123 := leI c106
        refine q_iconst (pc := 149) (v := 0) K dX5_next_149 (by decide) ?_
        refine q_iadd (pc := 150) K dX5_next_150 ?_
        have a109 := addI (x := (rF r81 4)) (y := 0) (by omega) (by omega)
        refine q_put (pc := 151) (o := 0) (f := 11) (i := 4) (ty := .int) K tyX5 tyX5_ok nmX5 (wO_m hG) vw_4 iwX5_next_X5 (by decide) mX5_next_f182 rfl (tyX5_ok 11 (by decide)) rfl rfl (Nat.le_of_ble_eq_true rfl) (wP_m11 hG _) dX5_next_151 (fun s107 e108 => ?_)
        have hw110 : WM s107 := by rw [e108]; exact wmFo hw83 (by omega) (by omega)
        have f111 := congrArg Int32.toInt (show rF s107 4 = ((rF r81 4) + 0) by rw [e108]; exact sF_same9)
        have n112 := congrArg Int32.toInt (show rF s107 1 = rF r81 1 by rw [e108]; exact sF_other (by decide))
        have n113 := congrArg Int32.toInt (show rF s107 3 = rF r81 3 by rw [e108]; exact sF_other (by decide))
        have n114 := congrArg Int32.toInt (show rF s107 5 = rF r81 5 by rw [e108]; exact sF_other (by decide))
        exact q_vretW K hr dX5_next_154
      · have i124 := nleI c106
        refine q_iconst (pc := 145) (v := 1) K dX5_next_145 (by decide) ?_
        refine q_goto (pc := 146) (tgt := 150) K dX5_next_146 (by decide) ?_
        refine q_iadd (pc := 150) K dX5_next_150 ?_
        have a117 := addI (x := (rF r81 4)) (y := 1) (by omega) (by omega)
        refine q_put (pc := 151) (o := 0) (f := 11) (i := 4) (ty := .int) K tyX5 tyX5_ok nmX5 (wO_m hG) vw_4 iwX5_next_X5 (by decide) mX5_next_f182 rfl (tyX5_ok 11 (by decide)) rfl rfl (Nat.le_of_ble_eq_true rfl) (wP_m11 hG _) dX5_next_151 (fun s115 e116 => ?_)
        have hw118 : WM s115 := by rw [e116]; exact wmFo hw83 (by omega) (by omega)
        have f119 := congrArg Int32.toInt (show rF s115 4 = ((rF r81 4) + 1) by rw [e116]; exact sF_same9)
        have n120 := congrArg Int32.toInt (show rF s115 1 = rF r81 1 by rw [e116]; exact sF_other (by decide))
        have n121 := congrArg Int32.toInt (show rF s115 3 = rF r81 3 by rw [e116]; exact sF_other (by decide))
        have n122 := congrArg Int32.toInt (show rF s115 5 = rF r81 5 by rw [e116]; exact sF_other (by decide))
        exact q_vretW K hr dX5_next_154
theorem hdV_X5_isWord : yX5_isWord.cls = RX5 ∧ yX5_isWord.cls ≠ "java/lang/invoke/MethodHandle" ∧ yX5_isWord.cls ≠ "java/lang/invoke/VarHandle" ∧ (parseMethodDescriptor yX5_isWord.desc).map (fun d => d.parameters.length) = some 1 := by decide +kernel
theorem mX5_isWord_f191 : Cond.fieldLink RX5 191 "WaxTreatiesModel" "isWrong" "Z" ∈ wsX5_isWord := List.mem_of_getElem? (i := 1) rfl
theorem iwX5_isWord_X5 : ∀ w ∈ wsX50, w ∈ wsX5_isWord := fun w h => List.mem_cons_of_mem _ (List.mem_append_right _ h)
theorem mX5_isWord_f22 : Cond.fieldLink RX5 22 "WaxTreatiesModel" "tape" "[I" ∈ wsX5_isWord := List.mem_of_getElem? (i := 4) rfl
theorem mX5_isWord_f185 : Cond.fieldLink RX5 185 "WaxTreatiesModel" "from" "I" ∈ wsX5_isWord := List.mem_of_getElem? (i := 3) rfl
theorem mX5_isWord_f182 : Cond.fieldLink RX5 182 "WaxTreatiesModel" "to" "I" ∈ wsX5_isWord := List.mem_of_getElem? (i := 2) rfl
set_option maxRecDepth 100000 in
set_option maxHeartbeats 4000000 in
theorem lX5_isWord_31 {p : Program} (l : Launch) {e : Env} {s : State} {m : MethodId} {args : Array Value} {below : List Frame} {meth : Method} {c : Code} {Q : State → Prop} {G : gT} (hN : wN G) (hG : gfl G = false) (K : qK p s m args meth c cX5_isWord 4 RX5 wsX5_isWord G) (w1 : Nat) (hw1 : w1 < 18) : ∀ (k : Nat) (v2 v3 : Int32) (σ : sg) (hw : WM σ) (hk : 0 ≤ v3.toInt ∧ v3.toInt ≤ 7) (hl : v2.toInt = 0 ∨ (rF σ 3).toInt + (fJ0_length_8abf5 w1).toInt = (rF σ 4).toInt) (hz : v2 = 0 ∨ v2 = 1) (hmu : (7 - v3.toInt).toNat < k) {ρ : Type} {E : ρ → Prop} {f : Int32 → ρ} (hk : ∀ r : Int32, (r.toInt = 0 ∨ (rF σ 3).toInt + (fJ0_length_8abf5 w1).toInt = (rF σ 4).toInt) → (r = 0 ∨ r = 1) → qq p l e (headSpec wsX5_isWord rmX5_isWord).room s m args below meth c Q 4 G E (f r) 74 [none, none, some (.int r), none] [] σ), qq p l e (headSpec wsX5_isWord rmX5_isWord).room s m args below meth c Q 4 G E (bnd (LX5_isWord_31 w1 k v2 v3 σ) f) 31 [some (.ref (gob G 0)), some (.ref (gK G w1)), some (.int v2), some (.int v3)] [] σ := by
  intro k
  induction k with
  | zero => intro v2 v3 σ hw hk hl hz hmu ρ E f hk; exact absurd hmu (Nat.not_lt_zero _)
  | succ k ih =>
    intro v2 v3 σ hw hk hl hz hmu ρ E f hk
    have k0 : (0 : Int32).toInt = 0 := rfl
    have k1 : (1 : Int32).toInt = 1 := rfl
    have q0 := wm_to hw
    have q1 := wm_from hw
    refine qq_in ?_
    refine qq_T (LX5_isWord_31.eq_2 ..) ?_
    refine q_iload_n (pc := 31) K dX5_isWord_31 rfl rfl ?_
    refine q_if_eq (pc := 32) (tgt := 74) K dX5_isWord_32 (by decide) (fun c2 => ?_) (fun c2 => ?_)
    · have i15 := eqI c2
      refine qq_drop 0 (lv' := [none, some (.ref (gK G w1)), some (.int v2), some (.int v3)]) rfl ?_
      refine qq_drop 1 (lv' := [none, none, some (.int v2), some (.int v3)]) rfl ?_
      refine qq_drop 3 (lv' := [none, none, some (.int v2), none]) rfl ?_
      exact qq_leaf (hk v2 (by omega) hz)
    · have i16 := neI c2
      refine q_iload_n (pc := 35) K dX5_isWord_35 rfl rfl ?_
      refine q_aload_n (pc := 36) K dX5_isWord_36 rfl rfl ?_
      have z3 := lenB hw1
      refine q_callK (pc := 37) (rm := rmJ0_length_8abf5) K hw1 (kJ0_length_8abf5 l hN w1 hw1 σ) gX5_isWord_J0_length_8abf5 rfl hdV_J0_length_8abf5 ⟨Nat.le_of_ble_eq_true rfl, Nat.le_of_ble_eq_true rfl⟩ rfl rfl ⟨Nat.zero_le _, Nat.zero_le _⟩ rfl rfl (Nat.le_of_ble_eq_true rfl) dX5_isWord_37 ?_
      refine q_icmp_ge (pc := 40) (tgt := 74) K dX5_isWord_40 (by decide) (fun c4 => ?_) (fun c4 => ?_)
      · have i13 := leI c4
        refine qq_drop 0 (lv' := [none, some (.ref (gK G w1)), some (.int v2), some (.int v3)]) rfl ?_
        refine qq_drop 1 (lv' := [none, none, some (.int v2), some (.int v3)]) rfl ?_
        refine qq_drop 3 (lv' := [none, none, some (.int v2), none]) rfl ?_
        exact qq_leaf (hk v2 (by omega) hz)
      · have i14 := nleI c4
        refine q_aload_n (pc := 43) K dX5_isWord_43 rfl rfl ?_
        refine q_get (pc := 44) (o := 0) (f := 5) (v := .ref (gad G 4)) K (wO_m hG) vw_4 iwX5_isWord_X5 (by decide) mX5_isWord_f22 rfl dX5_isWord_44 ?_
        refine q_aload_n (pc := 47) K dX5_isWord_47 rfl rfl ?_
        refine q_get (pc := 48) (o := 0) (f := 10) (v := .int (rF σ 3)) K (wO_m hG) vw_4 iwX5_isWord_X5 (by decide) mX5_isWord_f185 rfl dX5_isWord_48 ?_
        have w5 := wm_from hw
        refine q_iload_n (pc := 51) K dX5_isWord_51 rfl rfl ?_
        refine q_iadd (pc := 52) K dX5_isWord_52 ?_
        have a6 := addI (x := (rF σ 3)) (y := v3) (by omega) (by omega)
        refine q_iald (pc := 53) (a := 4) K (by rw [wna_f hG]; decide) (vinN (wlm (n := 120) hG 4 rfl) (by omega) (by omega)) dX5_isWord_53 ?_
        refine q_aload_n (pc := 54) K dX5_isWord_54 rfl rfl ?_
        refine q_iload_n (pc := 55) K dX5_isWord_55 rfl rfl ?_
        have z7 := chOK hw1 (i := v3) (by omega) (by omega)
        refine q_callK (pc := 56) (rm := rmJ0_charAt_5068e) K hw1 (kJ0_charAt_5068e l hN w1 hw1 v3 σ z7.1 z7.2.1 z7.2.2) gX5_isWord_J0_charAt_5068e rfl hdV_J0_charAt_5068e ⟨Nat.le_of_ble_eq_true rfl, Nat.le_of_ble_eq_true rfl⟩ rfl rfl ⟨Nat.zero_le _, Nat.zero_le _⟩ rfl rfl (Nat.le_of_ble_eq_true rfl) dX5_isWord_56 ?_
        refine q_icmp_ne (pc := 59) (tgt := 66) K dX5_isWord_59 (by decide) (fun c8 => ?_) (fun c8 => ?_)
        · have i11 := neI c8
          refine q_iconst (pc := 66) (v := 0) K dX5_isWord_66 (by decide) ?_
          refine q_istore_n (pc := 67) (lv' := [some (.ref (gob G 0)), some (.ref (gK G w1)), some (.int 0), some (.int v3)]) K dX5_isWord_67 rfl (by decide) (Nat.le_of_ble_eq_true rfl) rfl ?_
          refine q_iinc (pc := 68) (v := (v3 + 1)) (lv' := [some (.ref (gob G 0)), some (.ref (gK G w1)), some (.int 0), some (.int (v3 + 1))]) K dX5_isWord_68 rfl rfl (by decide) rfl ?_
          refine q_goto (pc := 71) (tgt := 31) K dX5_isWord_71 (by decide) ?_
          have a9 := addI (x := v3) (y := 1) (by omega) (by omega)
          exact qq_out (ih 0 (v3 + 1) σ hw (by omega) (by omega) (by first | exact Or.inl rfl | exact Or.inr rfl) (by omega) hk)
        · have i12 := eqI c8
          refine q_iconst (pc := 62) (v := 1) K dX5_isWord_62 (by decide) ?_
          refine q_goto (pc := 63) (tgt := 67) K dX5_isWord_63 (by decide) ?_
          refine q_istore_n (pc := 67) (lv' := [some (.ref (gob G 0)), some (.ref (gK G w1)), some (.int 1), some (.int v3)]) K dX5_isWord_67 rfl (by decide) (Nat.le_of_ble_eq_true rfl) rfl ?_
          refine q_iinc (pc := 68) (v := (v3 + 1)) (lv' := [some (.ref (gob G 0)), some (.ref (gK G w1)), some (.int 1), some (.int (v3 + 1))]) K dX5_isWord_68 rfl rfl (by decide) rfl ?_
          refine q_goto (pc := 71) (tgt := 31) K dX5_isWord_71 (by decide) ?_
          have a10 := addI (x := v3) (y := 1) (by omega) (by omega)
          exact qq_out (ih 1 (v3 + 1) σ hw (by omega) (by omega) (by first | exact Or.inl rfl | exact Or.inr rfl) (by omega) hk)
set_option maxRecDepth 100000 in
set_option maxHeartbeats 4000000 in
theorem kX5_isWord (l : Launch) {G : gT} (hN : wN G) (hG : gfl G = false) (w1 : Nat) (hw1 : w1 < 18) (σ : sg) (hw : WM σ) : cM l yX5_isWord wsX5_isWord rmX5_isWord G [.ref (gob G 0), .ref (gK G w1)] σ (some (.int (fX5_isWord w1 σ))) σ := by
  refine cM_of (maxL := 4) (ret := (some .boolean)) (cc := cX5_isWord) (fX5_isWord w1 σ) RX5 hN (by decide +kernel) rfl rfl (Nat.le_of_ble_eq_true rfl) rfl ?_
  intro p e s m args below meth c K hr
  have k0 : (0 : Int32).toInt = 0 := rfl
  have k1 : (1 : Int32).toInt = 1 := rfl
  refine qq_st (lv' := [some (.ref (gob G 0)), some (.ref (gK G w1)), none, none]) rfl rfl rfl ?_
  refine qq_T (fX5_isWord.eq_1 ..) ?_
  refine q_aload_n (pc := 0) K dX5_isWord_0 rfl rfl ?_
  refine q_get (pc := 1) (o := 0) (f := 12) (v := .int (rF σ 5)) K (wO_m hG) vw_4 iwX5_isWord_X5 (by decide) mX5_isWord_f191 rfl dX5_isWord_1 ?_
  refine q_if_ne (pc := 4) (tgt := 27) K dX5_isWord_4 (by decide) (fun c1 => ?_) (fun c1 => ?_)
  · have i36 := neI c1
    refine q_iconst (pc := 27) (v := 0) K dX5_isWord_27 (by decide) ?_
    refine q_istore_n (pc := 28) (lv' := [some (.ref (gob G 0)), some (.ref (gK G w1)), some (.int 0), none]) K dX5_isWord_28 rfl (by decide) (Nat.le_of_ble_eq_true rfl) rfl ?_
    refine q_iconst (pc := 29) (v := 0) K dX5_isWord_29 (by decide) ?_
    refine q_istore_n (pc := 30) (lv' := [some (.ref (gob G 0)), some (.ref (gK G w1)), some (.int 0), some (.int 0)]) K dX5_isWord_30 rfl (by decide) (Nat.le_of_ble_eq_true rfl) rfl ?_
    refine lX5_isWord_31 l hN hG K w1 hw1 8 0 0 σ hw (by omega) (by omega) (by first | exact Or.inl rfl | exact Or.inr rfl) (by omega) (fun r17 x19 x20 => ?_)
    refine q_iload_n (pc := 74) K dX5_isWord_74 rfl rfl ?_
    exact q_zretP K hr x20 dX5_isWord_75
  · have i37 := eqI c1
    refine q_aload_n (pc := 7) K dX5_isWord_7 rfl rfl ?_
    refine q_get (pc := 8) (o := 0) (f := 11) (v := .int (rF σ 4)) K (wO_m hG) vw_4 iwX5_isWord_X5 (by decide) mX5_isWord_f182 rfl dX5_isWord_8 ?_
    have w21 := wm_to hw
    refine q_aload_n (pc := 11) K dX5_isWord_11 rfl rfl ?_
    refine q_get (pc := 12) (o := 0) (f := 10) (v := .int (rF σ 3)) K (wO_m hG) vw_4 iwX5_isWord_X5 (by decide) mX5_isWord_f185 rfl dX5_isWord_12 ?_
    have w22 := wm_from hw
    refine q_isub (pc := 15) K dX5_isWord_15 ?_
    refine q_aload_n (pc := 16) K dX5_isWord_16 rfl rfl ?_
    have z23 := lenB hw1
    refine q_callK (pc := 17) (rm := rmJ0_length_8abf5) K hw1 (kJ0_length_8abf5 l hN w1 hw1 σ) gX5_isWord_J0_length_8abf5 rfl hdV_J0_length_8abf5 ⟨Nat.le_of_ble_eq_true rfl, Nat.le_of_ble_eq_true rfl⟩ rfl rfl ⟨Nat.zero_le _, Nat.zero_le _⟩ rfl rfl (Nat.le_of_ble_eq_true rfl) dX5_isWord_17 ?_
    have a24 := subI (x := (rF σ 4)) (y := (rF σ 3)) (by omega) (by omega)
    refine q_icmp_ne (pc := 20) (tgt := 27) K dX5_isWord_20 (by decide) (fun c25 => ?_) (fun c25 => ?_)
    · have i34 := neI c25
      refine q_iconst (pc := 27) (v := 0) K dX5_isWord_27 (by decide) ?_
      refine q_istore_n (pc := 28) (lv' := [some (.ref (gob G 0)), some (.ref (gK G w1)), some (.int 0), none]) K dX5_isWord_28 rfl (by decide) (Nat.le_of_ble_eq_true rfl) rfl ?_
      refine q_iconst (pc := 29) (v := 0) K dX5_isWord_29 (by decide) ?_
      refine q_istore_n (pc := 30) (lv' := [some (.ref (gob G 0)), some (.ref (gK G w1)), some (.int 0), some (.int 0)]) K dX5_isWord_30 rfl (by decide) (Nat.le_of_ble_eq_true rfl) rfl ?_
      refine lX5_isWord_31 l hN hG K w1 hw1 8 0 0 σ hw (by omega) (by omega) (by first | exact Or.inl rfl | exact Or.inr rfl) (by omega) (fun r26 x28 x29 => ?_)
      refine q_iload_n (pc := 74) K dX5_isWord_74 rfl rfl ?_
      exact q_zretP K hr x29 dX5_isWord_75
    · have i35 := eqI c25
      refine q_iconst (pc := 23) (v := 1) K dX5_isWord_23 (by decide) ?_
      refine q_goto (pc := 24) (tgt := 28) K dX5_isWord_24 (by decide) ?_
      refine q_istore_n (pc := 28) (lv' := [some (.ref (gob G 0)), some (.ref (gK G w1)), some (.int 1), none]) K dX5_isWord_28 rfl (by decide) (Nat.le_of_ble_eq_true rfl) rfl ?_
      refine q_iconst (pc := 29) (v := 0) K dX5_isWord_29 (by decide) ?_
      refine q_istore_n (pc := 30) (lv' := [some (.ref (gob G 0)), some (.ref (gK G w1)), some (.int 1), some (.int 0)]) K dX5_isWord_30 rfl (by decide) (Nat.le_of_ble_eq_true rfl) rfl ?_
      refine lX5_isWord_31 l hN hG K w1 hw1 8 1 0 σ hw (by omega) (by omega) (by first | exact Or.inl rfl | exact Or.inr rfl) (by omega) (fun r30 x32 x33 => ?_)
      refine q_iload_n (pc := 74) K dX5_isWord_74 rfl rfl ?_
      exact q_zretP K hr x33 dX5_isWord_75
theorem hdV_X5_takes : yX5_takes.cls = RX5 ∧ yX5_takes.cls ≠ "java/lang/invoke/MethodHandle" ∧ yX5_takes.cls ≠ "java/lang/invoke/VarHandle" ∧ (parseMethodDescriptor yX5_takes.desc).map (fun d => d.parameters.length) = some 1 := by decide +kernel
set_option maxRecDepth 100000 in
set_option maxHeartbeats 4000000 in
theorem kX5_takes (l : Launch) {G : gT} (hN : wN G) (hG : gfl G = false) (w1 : Nat) (hw1 : w1 < 18) (σ : sg) (hw : WM σ) : cM l yX5_takes wsX5_takes rmX5_takes G [.ref (gob G 0), .ref (gK G w1)] σ (some (.int (fX5_takes w1 σ).1)) (fX5_takes w1 σ).2 := by
  refine cM_of (maxL := 3) (ret := (some .boolean)) (cc := cX5_takes) (fX5_takes w1 σ) RX5 hN (by decide +kernel) rfl rfl (Nat.le_of_ble_eq_true rfl) rfl ?_
  intro p e s m args below meth c K hr
  have k0 : (0 : Int32).toInt = 0 := rfl
  refine qq_st (lv' := [some (.ref (gob G 0)), some (.ref (gK G w1)), none]) rfl rfl rfl ?_
  refine qq_T (fX5_takes.eq_1 ..) ?_
  refine q_aload_n (pc := 0) K dX5_takes_0 rfl rfl ?_
  refine q_aload_n (pc := 1) K dX5_takes_1 rfl rfl ?_
  refine q_callVi (pc := 2) (o := 0) (rm := rmX5_isWord) K (kX5_isWord l hN hG w1 hw1 σ hw) gX5_takes_X5_isWord rfl hdV_X5_isWord ⟨Nat.le_of_ble_eq_true rfl, Nat.le_of_ble_eq_true rfl⟩ rfl rfl ⟨Nat.zero_le _, Nat.zero_le _⟩ (wO_m hG) vw_4 rfl rfl (Nat.le_of_ble_eq_true rfl) dX5_takes_2 ?_
  refine q_istore_n (pc := 5) (lv' := [some (.ref (gob G 0)), some (.ref (gK G w1)), some (.int (fX5_isWord w1 σ))]) K dX5_takes_5 rfl (by decide) (Nat.le_of_ble_eq_true rfl) rfl ?_
  refine q_iload_n (pc := 6) K dX5_takes_6 rfl rfl ?_
  refine q_if_eq (pc := 7) (tgt := 14) K dX5_takes_7 (by decide) (fun c1 => ?_) (fun c1 => ?_)
  · have i5 := eqI c1
    refine q_iload_n (pc := 14) K dX5_takes_14 rfl rfl ?_
    exact q_zret K hr (b01_X5_isWord _ _) dX5_takes_15
  · have i6 := neI c1
    refine q_aload_n (pc := 10) K dX5_takes_10 rfl rfl ?_
    refine q_callVv (pc := 11) (o := 0) (rm := rmX5_next) K (kX5_next l hN hG  σ hw) gX5_takes_X5_next rfl hdV_X5_next ⟨Nat.le_of_ble_eq_true rfl, Nat.le_of_ble_eq_true rfl⟩ rfl rfl ⟨Nat.zero_le _, Nat.zero_le _⟩ (wO_m hG) vw_4 rfl rfl (Nat.le_of_ble_eq_true rfl) dX5_takes_11 ?_
    refine qq_nmV (fun r2 e3 => ?_)
    have hw4 : WM r2 := by rw [e3]; exact wX5_next  hw 
    refine q_iload_n (pc := 14) K dX5_takes_14 rfl rfl ?_
    exact q_zret K hr (b01_X5_isWord _ _) dX5_takes_15
theorem hdV_X5_wants : yX5_wants.cls = RX5 ∧ yX5_wants.cls ≠ "java/lang/invoke/MethodHandle" ∧ yX5_wants.cls ≠ "java/lang/invoke/VarHandle" ∧ (parseMethodDescriptor yX5_wants.desc).map (fun d => d.parameters.length) = some 1 := by decide +kernel
theorem mX5_wants_f191 : Cond.fieldLink RX5 191 "WaxTreatiesModel" "isWrong" "Z" ∈ wsX5_wants := List.mem_of_getElem? (i := 1) rfl
theorem iwX5_wants_X5 : ∀ w ∈ wsX50, w ∈ wsX5_wants := fun w h => List.mem_cons_of_mem _ (List.mem_append_right _ h)
set_option maxRecDepth 100000 in
set_option maxHeartbeats 4000000 in
theorem kX5_wants (l : Launch) {G : gT} (hN : wN G) (hG : gfl G = false) (w1 : Nat) (hw1 : w1 < 18) (σ : sg) (hw : WM σ) : cM l yX5_wants wsX5_wants rmX5_wants G [.ref (gob G 0), .ref (gK G w1)] σ none (fX5_wants w1 σ) := by
  refine cM_of (maxL := 2) (ret := none) (cc := cX5_wants) (fX5_wants w1 σ) RX5 hN (by decide +kernel) rfl rfl (Nat.le_of_ble_eq_true rfl) rfl ?_
  intro p e s m args below meth c K hr
  have k0 : (0 : Int32).toInt = 0 := rfl
  have k1 : (1 : Int32).toInt = 1 := rfl
  refine qq_st (lv' := [some (.ref (gob G 0)), some (.ref (gK G w1))]) rfl rfl rfl ?_
  refine qq_T (fX5_wants.eq_1 ..) ?_
  refine q_aload_n (pc := 0) K dX5_wants_0 rfl rfl ?_
  refine q_aload_n (pc := 1) K dX5_wants_1 rfl rfl ?_
  refine q_get (pc := 2) (o := 0) (f := 12) (v := .int (rF σ 5)) K (wO_m hG) vw_4 iwX5_wants_X5 (by decide) mX5_wants_f191 rfl dX5_wants_2 ?_
  refine q_if_ne (pc := 5) (tgt := 16) K dX5_wants_5 (by decide) (fun c1 => ?_) (fun c1 => ?_)
  · have i41 := neI c1
    refine q_iconst (pc := 16) (v := 1) K dX5_wants_16 (by decide) ?_
    refine q_goto (pc := 17) (tgt := 21) K dX5_wants_17 (by decide) ?_
    refine q_put (pc := 21) (o := 0) (f := 12) (i := 5) (ty := .boolean) K tyX5 tyX5_ok nmX5 (wO_m hG) vw_4 iwX5_wants_X5 (by decide) mX5_wants_f191 rfl (tyX5_ok 12 (by decide)) rfl rfl (Nat.le_of_ble_eq_true rfl) (wP_m12 hG _) dX5_wants_21 (fun s2 e3 => ?_)
    have hw4 : WM s2 := by rw [e3]; exact wmF hw (by omega)
    have n5 := congrArg Int32.toInt (show rF s2 1 = rF σ 1 by rw [e3]; exact sF_other (by decide))
    have n6 := congrArg Int32.toInt (show rF s2 3 = rF σ 3 by rw [e3]; exact sF_other (by decide))
    have n7 := congrArg Int32.toInt (show rF s2 4 = rF σ 4 by rw [e3]; exact sF_other (by decide))
    refine q_aload_n (pc := 24) K dX5_wants_24 rfl rfl ?_
    refine q_get (pc := 25) (o := 0) (f := 12) (v := .int (rF s2 5)) K (wO_m hG) vw_4 iwX5_wants_X5 (by decide) mX5_wants_f191 rfl dX5_wants_25 ?_
    refine q_if_ne (pc := 28) (tgt := 35) K dX5_wants_28 (by decide) (fun c8 => ?_) (fun c8 => ?_)
    · have i12 := neI c8
      exact q_vretW K hr dX5_wants_35
    · have i13 := eqI c8
      refine q_aload_n (pc := 31) K dX5_wants_31 rfl rfl ?_
      refine q_callVv (pc := 32) (o := 0) (rm := rmX5_next) K (kX5_next l hN hG  s2 hw4) gX5_wants_X5_next rfl hdV_X5_next ⟨Nat.le_of_ble_eq_true rfl, Nat.le_of_ble_eq_true rfl⟩ rfl rfl ⟨Nat.zero_le _, Nat.zero_le _⟩ (wO_m hG) vw_4 rfl rfl (Nat.le_of_ble_eq_true rfl) dX5_wants_32 ?_
      refine qq_nmV (fun r9 e10 => ?_)
      have hw11 : WM r9 := by rw [e10]; exact wX5_next  hw4 
      exact q_vretW K hr dX5_wants_35
  · have i42 := eqI c1
    refine q_aload_n (pc := 8) K dX5_wants_8 rfl rfl ?_
    refine q_aload_n (pc := 9) K dX5_wants_9 rfl rfl ?_
    refine q_callVi (pc := 10) (o := 0) (rm := rmX5_isWord) K (kX5_isWord l hN hG w1 hw1 σ hw) gX5_wants_X5_isWord rfl hdV_X5_isWord ⟨Nat.le_of_ble_eq_true rfl, Nat.le_of_ble_eq_true rfl⟩ rfl rfl ⟨Nat.zero_le _, Nat.zero_le _⟩ (wO_m hG) vw_4 rfl rfl (Nat.le_of_ble_eq_true rfl) dX5_wants_10 ?_
    refine q_if_ne (pc := 13) (tgt := 20) K dX5_wants_13 (by decide) (fun c14 => ?_) (fun c14 => ?_)
    · have i39 := neI c14
      refine q_iconst (pc := 20) (v := 0) K dX5_wants_20 (by decide) ?_
      refine q_put (pc := 21) (o := 0) (f := 12) (i := 5) (ty := .boolean) K tyX5 tyX5_ok nmX5 (wO_m hG) vw_4 iwX5_wants_X5 (by decide) mX5_wants_f191 rfl (tyX5_ok 12 (by decide)) rfl rfl (Nat.le_of_ble_eq_true rfl) (wP_m12 hG _) dX5_wants_21 (fun s15 e16 => ?_)
      have hw17 : WM s15 := by rw [e16]; exact wmF hw (by omega)
      have n18 := congrArg Int32.toInt (show rF s15 1 = rF σ 1 by rw [e16]; exact sF_other (by decide))
      have n19 := congrArg Int32.toInt (show rF s15 3 = rF σ 3 by rw [e16]; exact sF_other (by decide))
      have n20 := congrArg Int32.toInt (show rF s15 4 = rF σ 4 by rw [e16]; exact sF_other (by decide))
      refine q_aload_n (pc := 24) K dX5_wants_24 rfl rfl ?_
      refine q_get (pc := 25) (o := 0) (f := 12) (v := .int (rF s15 5)) K (wO_m hG) vw_4 iwX5_wants_X5 (by decide) mX5_wants_f191 rfl dX5_wants_25 ?_
      refine q_if_ne (pc := 28) (tgt := 35) K dX5_wants_28 (by decide) (fun c21 => ?_) (fun c21 => ?_)
      · have i25 := neI c21
        exact q_vretW K hr dX5_wants_35
      · have i26 := eqI c21
        refine q_aload_n (pc := 31) K dX5_wants_31 rfl rfl ?_
        refine q_callVv (pc := 32) (o := 0) (rm := rmX5_next) K (kX5_next l hN hG  s15 hw17) gX5_wants_X5_next rfl hdV_X5_next ⟨Nat.le_of_ble_eq_true rfl, Nat.le_of_ble_eq_true rfl⟩ rfl rfl ⟨Nat.zero_le _, Nat.zero_le _⟩ (wO_m hG) vw_4 rfl rfl (Nat.le_of_ble_eq_true rfl) dX5_wants_32 ?_
        refine qq_nmV (fun r22 e23 => ?_)
        have hw24 : WM r22 := by rw [e23]; exact wX5_next  hw17 
        exact q_vretW K hr dX5_wants_35
    · have i40 := eqI c14
      refine q_iconst (pc := 16) (v := 1) K dX5_wants_16 (by decide) ?_
      refine q_goto (pc := 17) (tgt := 21) K dX5_wants_17 (by decide) ?_
      refine q_put (pc := 21) (o := 0) (f := 12) (i := 5) (ty := .boolean) K tyX5 tyX5_ok nmX5 (wO_m hG) vw_4 iwX5_wants_X5 (by decide) mX5_wants_f191 rfl (tyX5_ok 12 (by decide)) rfl rfl (Nat.le_of_ble_eq_true rfl) (wP_m12 hG _) dX5_wants_21 (fun s27 e28 => ?_)
      have hw29 : WM s27 := by rw [e28]; exact wmF hw (by omega)
      have n30 := congrArg Int32.toInt (show rF s27 1 = rF σ 1 by rw [e28]; exact sF_other (by decide))
      have n31 := congrArg Int32.toInt (show rF s27 3 = rF σ 3 by rw [e28]; exact sF_other (by decide))
      have n32 := congrArg Int32.toInt (show rF s27 4 = rF σ 4 by rw [e28]; exact sF_other (by decide))
      refine q_aload_n (pc := 24) K dX5_wants_24 rfl rfl ?_
      refine q_get (pc := 25) (o := 0) (f := 12) (v := .int (rF s27 5)) K (wO_m hG) vw_4 iwX5_wants_X5 (by decide) mX5_wants_f191 rfl dX5_wants_25 ?_
      refine q_if_ne (pc := 28) (tgt := 35) K dX5_wants_28 (by decide) (fun c33 => ?_) (fun c33 => ?_)
      · have i37 := neI c33
        exact q_vretW K hr dX5_wants_35
      · have i38 := eqI c33
        refine q_aload_n (pc := 31) K dX5_wants_31 rfl rfl ?_
        refine q_callVv (pc := 32) (o := 0) (rm := rmX5_next) K (kX5_next l hN hG  s27 hw29) gX5_wants_X5_next rfl hdV_X5_next ⟨Nat.le_of_ble_eq_true rfl, Nat.le_of_ble_eq_true rfl⟩ rfl rfl ⟨Nat.zero_le _, Nat.zero_le _⟩ (wO_m hG) vw_4 rfl rfl (Nat.le_of_ble_eq_true rfl) dX5_wants_32 ?_
        refine qq_nmV (fun r34 e35 => ?_)
        have hw36 : WM r34 := by rw [e35]; exact wX5_next  hw29 
        exact q_vretW K hr dX5_wants_35
theorem hdV_X5_numberHere : yX5_numberHere.cls = RX5 ∧ yX5_numberHere.cls ≠ "java/lang/invoke/MethodHandle" ∧ yX5_numberHere.cls ≠ "java/lang/invoke/VarHandle" ∧ (parseMethodDescriptor yX5_numberHere.desc).map (fun d => d.parameters.length) = some 0 := by decide +kernel
theorem mX5_numberHere_f185 : Cond.fieldLink RX5 185 "WaxTreatiesModel" "from" "I" ∈ wsX5_numberHere := List.mem_of_getElem? (i := 1) rfl
theorem iwX5_numberHere_X5 : ∀ w ∈ wsX50, w ∈ wsX5_numberHere := fun w h => List.mem_cons_of_mem _ (List.mem_append_right _ h)
theorem mX5_numberHere_f182 : Cond.fieldLink RX5 182 "WaxTreatiesModel" "to" "I" ∈ wsX5_numberHere := List.mem_of_getElem? (i := 2) rfl
theorem mX5_numberHere_f22 : Cond.fieldLink RX5 22 "WaxTreatiesModel" "tape" "[I" ∈ wsX5_numberHere := List.mem_of_getElem? (i := 3) rfl
set_option maxRecDepth 100000 in
set_option maxHeartbeats 4000000 in
theorem lX5_numberHere_26 {p : Program} (l : Launch) {e : Env} {s : State} {m : MethodId} {args : Array Value} {below : List Frame} {meth : Method} {c : Code} {Q : State → Prop} {G : gT} (hN : wN G) (hG : gfl G = false) (K : qK p s m args meth c cX5_numberHere 3 RX5 wsX5_numberHere G) : ∀ (k : Nat) (v1 v2 : Int32) (σ : sg) (hw : WM σ) (hk : 0 ≤ v2.toInt ∧ v2.toInt ≤ 120) (hmu : (121 - v2.toInt).toNat < k) {ρ : Type} {E : ρ → Prop} {f : Int32 → ρ} (hk : ∀ r : Int32, qq p l e (headSpec wsX5_numberHere rmX5_numberHere).room s m args below meth c Q 3 G E (f r) 70 [none, some (.int r), none] [] σ), qq p l e (headSpec wsX5_numberHere rmX5_numberHere).room s m args below meth c Q 3 G E (bnd (LX5_numberHere_26 k v1 v2 σ) f) 26 [some (.ref (gob G 0)), some (.int v1), some (.int v2)] [] σ := by
  intro k
  induction k with
  | zero => intro v1 v2 σ hw hk hmu ρ E f hk; exact absurd hmu (Nat.not_lt_zero _)
  | succ k ih =>
    intro v1 v2 σ hw hk hmu ρ E f hk
    have k0 : (0 : Int32).toInt = 0 := rfl
    have k1 : (1 : Int32).toInt = 1 := rfl
    have k10 : (10 : Int32).toInt = 10 := rfl
    have k48 : (48 : Int32).toInt = 48 := rfl
    have k999 : (999 : Int32).toInt = 999 := rfl
    have q0 := wm_to hw
    refine qq_in ?_
    refine qq_T (LX5_numberHere_26.eq_2 ..) ?_
    refine q_iload_n (pc := 26) K dX5_numberHere_26 rfl rfl ?_
    refine q_aload_n (pc := 27) K dX5_numberHere_27 rfl rfl ?_
    refine q_get (pc := 28) (o := 0) (f := 11) (v := .int (rF σ 4)) K (wO_m hG) vw_4 iwX5_numberHere_X5 (by decide) mX5_numberHere_f182 rfl dX5_numberHere_28 ?_
    have w3 := wm_to hw
    refine q_icmp_ge (pc := 31) (tgt := 70) K dX5_numberHere_31 (by decide) (fun c4 => ?_) (fun c4 => ?_)
    · have i13 := leI c4
      refine qq_drop 0 (lv' := [none, some (.int v1), some (.int v2)]) rfl ?_
      refine qq_drop 2 (lv' := [none, some (.int v1), none]) rfl ?_
      exact qq_leaf (hk v1)
    · have i14 := nleI c4
      refine q_iload_n (pc := 34) K dX5_numberHere_34 rfl rfl ?_
      refine q_if_lt (pc := 35) (tgt := 70) K dX5_numberHere_35 (by decide) (fun c5 => ?_) (fun c5 => ?_)
      · have i11 := ltI c5
        refine qq_drop 0 (lv' := [none, some (.int v1), some (.int v2)]) rfl ?_
        refine qq_drop 2 (lv' := [none, some (.int v1), none]) rfl ?_
        exact qq_leaf (hk v1)
      · have i12 := nltI c5
        refine q_iload_n (pc := 38) K dX5_numberHere_38 rfl rfl ?_
        refine q_sipush (pc := 39) (v := 999) K dX5_numberHere_39 (by decide) ?_
        refine q_icmp_le (pc := 42) (tgt := 49) K dX5_numberHere_42 (by decide) (fun c6 => ?_) (fun c6 => ?_)
        · have i9 := leI c6
          refine q_bipush (pc := 49) (v := 10) K dX5_numberHere_49 (by decide) ?_
          refine q_iload_n (pc := 51) K dX5_numberHere_51 rfl rfl ?_
          refine q_imul (pc := 52) K dX5_numberHere_52 ?_
          refine q_aload_n (pc := 53) K dX5_numberHere_53 rfl rfl ?_
          refine q_get (pc := 54) (o := 0) (f := 5) (v := .ref (gad G 4)) K (wO_m hG) vw_4 iwX5_numberHere_X5 (by decide) mX5_numberHere_f22 rfl dX5_numberHere_54 ?_
          refine q_iload_n (pc := 57) K dX5_numberHere_57 rfl rfl ?_
          refine q_iald (pc := 58) (a := 4) K (by rw [wna_f hG]; decide) (vinN (wlm (n := 120) hG 4 rfl) (by omega) (by omega)) dX5_numberHere_58 ?_
          refine q_iadd (pc := 59) K dX5_numberHere_59 ?_
          refine q_bipush (pc := 60) (v := 48) K dX5_numberHere_60 (by decide) ?_
          refine q_isub (pc := 62) K dX5_numberHere_62 ?_
          refine q_istore_n (pc := 63) (lv' := [some (.ref (gob G 0)), some (.int (((10 * v1) + (rA σ 4 v2)) - 48)), some (.int v2)]) K dX5_numberHere_63 rfl (by decide) (Nat.le_of_ble_eq_true rfl) rfl ?_
          refine q_iinc (pc := 64) (v := (v2 + 1)) (lv' := [some (.ref (gob G 0)), some (.int (((10 * v1) + (rA σ 4 v2)) - 48)), some (.int (v2 + 1))]) K dX5_numberHere_64 rfl rfl (by decide) rfl ?_
          refine q_goto (pc := 67) (tgt := 26) K dX5_numberHere_67 (by decide) ?_
          have a7 := addI (x := v2) (y := 1) (by omega) (by omega)
          exact qq_out (ih (((10 * v1) + (rA σ 4 v2)) - 48) (v2 + 1) σ hw (by omega) (by omega) hk)
        · have i10 := nleI c6
          refine q_iload_n (pc := 45) K dX5_numberHere_45 rfl rfl ?_
          refine q_goto (pc := 46) (tgt := 63) K dX5_numberHere_46 (by decide) ?_
          refine q_istore_n (pc := 63) (lv' := [some (.ref (gob G 0)), some (.int v1), some (.int v2)]) K dX5_numberHere_63 rfl (by decide) (Nat.le_of_ble_eq_true rfl) rfl ?_
          refine q_iinc (pc := 64) (v := (v2 + 1)) (lv' := [some (.ref (gob G 0)), some (.int v1), some (.int (v2 + 1))]) K dX5_numberHere_64 rfl rfl (by decide) rfl ?_
          refine q_goto (pc := 67) (tgt := 26) K dX5_numberHere_67 (by decide) ?_
          have a8 := addI (x := v2) (y := 1) (by omega) (by omega)
          exact qq_out (ih v1 (v2 + 1) σ hw (by omega) (by omega) hk)
set_option maxRecDepth 100000 in
set_option maxHeartbeats 4000000 in
theorem kX5_numberHere (l : Launch) {G : gT} (hN : wN G) (hG : gfl G = false) (σ : sg) (hw : WM σ) : cM l yX5_numberHere wsX5_numberHere rmX5_numberHere G [.ref (gob G 0)] σ (some (.int (fX5_numberHere σ))) σ := by
  refine cM_of (maxL := 3) (ret := (some .int)) (cc := cX5_numberHere) (fX5_numberHere σ) RX5 hN (by decide +kernel) rfl rfl (Nat.le_of_ble_eq_true rfl) rfl ?_
  intro p e s m args below meth c K hr
  have km1 : ((-1) : Int32).toInt = -1 := rfl
  have k0 : (0 : Int32).toInt = 0 := rfl
  have k48 : (48 : Int32).toInt = 48 := rfl
  have k57 : (57 : Int32).toInt = 57 := rfl
  refine qq_st (lv' := [some (.ref (gob G 0)), none, none]) rfl rfl rfl ?_
  refine qq_T (fX5_numberHere.eq_1 ..) ?_
  refine q_aload_n (pc := 0) K dX5_numberHere_0 rfl rfl ?_
  refine q_aload_n (pc := 1) K dX5_numberHere_1 rfl rfl ?_
  refine q_get (pc := 2) (o := 0) (f := 10) (v := .int (rF σ 3)) K (wO_m hG) vw_4 iwX5_numberHere_X5 (by decide) mX5_numberHere_f185 rfl dX5_numberHere_2 ?_
  have w1 := wm_from hw
  refine q_bipush (pc := 5) (v := 48) K dX5_numberHere_5 (by decide) ?_
  refine q_bipush (pc := 7) (v := 57) K dX5_numberHere_7 (by decide) ?_
  refine q_callVi (pc := 9) (o := 0) (rm := rmX5_isByte) K (kX5_isByte l hN hG (rF σ 3) 48 57 σ hw (by omega)) gX5_numberHere_X5_isByte rfl hdV_X5_isByte ⟨Nat.le_of_ble_eq_true rfl, Nat.le_of_ble_eq_true rfl⟩ rfl rfl ⟨Nat.zero_le _, Nat.zero_le _⟩ (wO_m hG) vw_4 rfl rfl (Nat.le_of_ble_eq_true rfl) dX5_numberHere_9 ?_
  refine q_if_eq (pc := 12) (tgt := 19) K dX5_numberHere_12 (by decide) (fun c2 => ?_) (fun c2 => ?_)
  · have i19 := eqI c2
    refine q_iconst (pc := 19) (v := (-1)) K dX5_numberHere_19 (by decide) ?_
    refine q_istore_n (pc := 20) (lv' := [some (.ref (gob G 0)), some (.int (-1)), none]) K dX5_numberHere_20 rfl (by decide) (Nat.le_of_ble_eq_true rfl) rfl ?_
    refine q_aload_n (pc := 21) K dX5_numberHere_21 rfl rfl ?_
    refine q_get (pc := 22) (o := 0) (f := 10) (v := .int (rF σ 3)) K (wO_m hG) vw_4 iwX5_numberHere_X5 (by decide) mX5_numberHere_f185 rfl dX5_numberHere_22 ?_
    refine q_istore_n (pc := 25) (lv' := [some (.ref (gob G 0)), some (.int (-1)), some (.int (rF σ 3))]) K dX5_numberHere_25 rfl (by decide) (Nat.le_of_ble_eq_true rfl) rfl ?_
    refine lX5_numberHere_26 l hN hG K 122 (-1) (rF σ 3) σ hw (by omega) (by omega) (fun r15 => ?_)
    refine q_iload_n (pc := 70) K dX5_numberHere_70 rfl rfl ?_
    exact q_iretP K hr dX5_numberHere_71
  · have i20 := neI c2
    have b21 := isB_t c2
    refine q_iconst (pc := 15) (v := 0) K dX5_numberHere_15 (by decide) ?_
    refine q_goto (pc := 16) (tgt := 20) K dX5_numberHere_16 (by decide) ?_
    refine q_istore_n (pc := 20) (lv' := [some (.ref (gob G 0)), some (.int 0), none]) K dX5_numberHere_20 rfl (by decide) (Nat.le_of_ble_eq_true rfl) rfl ?_
    refine q_aload_n (pc := 21) K dX5_numberHere_21 rfl rfl ?_
    refine q_get (pc := 22) (o := 0) (f := 10) (v := .int (rF σ 3)) K (wO_m hG) vw_4 iwX5_numberHere_X5 (by decide) mX5_numberHere_f185 rfl dX5_numberHere_22 ?_
    refine q_istore_n (pc := 25) (lv' := [some (.ref (gob G 0)), some (.int 0), some (.int (rF σ 3))]) K dX5_numberHere_25 rfl (by decide) (Nat.le_of_ble_eq_true rfl) rfl ?_
    refine lX5_numberHere_26 l hN hG K 122 0 (rF σ 3) σ hw (by omega) (by omega) (fun r17 => ?_)
    refine q_iload_n (pc := 70) K dX5_numberHere_70 rfl rfl ?_
    exact q_iretP K hr dX5_numberHere_71
theorem hdV_X5_number : yX5_number.cls = RX5 ∧ yX5_number.cls ≠ "java/lang/invoke/MethodHandle" ∧ yX5_number.cls ≠ "java/lang/invoke/VarHandle" ∧ (parseMethodDescriptor yX5_number.desc).map (fun d => d.parameters.length) = some 1 := by decide +kernel
theorem mX5_number_f191 : Cond.fieldLink RX5 191 "WaxTreatiesModel" "isWrong" "Z" ∈ wsX5_number := List.mem_of_getElem? (i := 1) rfl
theorem iwX5_number_X5 : ∀ w ∈ wsX50, w ∈ wsX5_number := fun w h => List.mem_cons_of_mem _ (List.mem_append_right _ h)
set_option maxRecDepth 100000 in
set_option maxHeartbeats 4000000 in
theorem kX5_number (l : Launch) {G : gT} (hN : wN G) (hG : gfl G = false) (v1 : Int32) (σ : sg) (hw : WM σ) : cM l yX5_number wsX5_number rmX5_number G [.ref (gob G 0), .int v1] σ (some (.int (fX5_number v1 σ).1)) (fX5_number v1 σ).2 := by
  refine cM_of (maxL := 3) (ret := (some .int)) (cc := cX5_number) (fX5_number v1 σ) RX5 hN (by decide +kernel) rfl rfl (Nat.le_of_ble_eq_true rfl) rfl ?_
  intro p e s m args below meth c K hr
  have k0 : (0 : Int32).toInt = 0 := rfl
  have k1 : (1 : Int32).toInt = 1 := rfl
  refine qq_st (lv' := [some (.ref (gob G 0)), some (.int v1), none]) rfl rfl rfl ?_
  refine qq_T (fX5_number.eq_1 ..) ?_
  refine q_aload_n (pc := 0) K dX5_number_0 rfl rfl ?_
  refine q_callVi (pc := 1) (o := 0) (rm := rmX5_numberHere) K (kX5_numberHere l hN hG  σ hw) gX5_number_X5_numberHere rfl hdV_X5_numberHere ⟨Nat.le_of_ble_eq_true rfl, Nat.le_of_ble_eq_true rfl⟩ rfl rfl ⟨Nat.zero_le _, Nat.zero_le _⟩ (wO_m hG) vw_4 rfl rfl (Nat.le_of_ble_eq_true rfl) dX5_number_1 ?_
  refine q_istore_n (pc := 4) (lv' := [some (.ref (gob G 0)), some (.int v1), some (.int (fX5_numberHere σ))]) K dX5_number_4 rfl (by decide) (Nat.le_of_ble_eq_true rfl) rfl ?_
  refine q_aload_n (pc := 5) K dX5_number_5 rfl rfl ?_
  refine q_aload_n (pc := 6) K dX5_number_6 rfl rfl ?_
  refine q_get (pc := 7) (o := 0) (f := 12) (v := .int (rF σ 5)) K (wO_m hG) vw_4 iwX5_number_X5 (by decide) mX5_number_f191 rfl dX5_number_7 ?_
  refine q_if_ne (pc := 10) (tgt := 22) K dX5_number_10 (by decide) (fun c1 => ?_) (fun c1 => ?_)
  · have i42 := neI c1
    refine q_iconst (pc := 22) (v := 1) K dX5_number_22 (by decide) ?_
    refine q_goto (pc := 23) (tgt := 27) K dX5_number_23 (by decide) ?_
    refine q_put (pc := 27) (o := 0) (f := 12) (i := 5) (ty := .boolean) K tyX5 tyX5_ok nmX5 (wO_m hG) vw_4 iwX5_number_X5 (by decide) mX5_number_f191 rfl (tyX5_ok 12 (by decide)) rfl rfl (Nat.le_of_ble_eq_true rfl) (wP_m12 hG _) dX5_number_27 (fun s2 e3 => ?_)
    have hw4 : WM s2 := by rw [e3]; exact wmF hw (by omega)
    have n5 := congrArg Int32.toInt (show rF s2 1 = rF σ 1 by rw [e3]; exact sF_other (by decide))
    have n6 := congrArg Int32.toInt (show rF s2 3 = rF σ 3 by rw [e3]; exact sF_other (by decide))
    have n7 := congrArg Int32.toInt (show rF s2 4 = rF σ 4 by rw [e3]; exact sF_other (by decide))
    refine q_aload_n (pc := 30) K dX5_number_30 rfl rfl ?_
    refine q_get (pc := 31) (o := 0) (f := 12) (v := .int (rF s2 5)) K (wO_m hG) vw_4 iwX5_number_X5 (by decide) mX5_number_f191 rfl dX5_number_31 ?_
    refine q_if_ne (pc := 34) (tgt := 41) K dX5_number_34 (by decide) (fun c8 => ?_) (fun c8 => ?_)
    · have i12 := neI c8
      refine q_iload_n (pc := 41) K dX5_number_41 rfl rfl ?_
      exact q_iret K hr dX5_number_42
    · have i13 := eqI c8
      refine q_aload_n (pc := 37) K dX5_number_37 rfl rfl ?_
      refine q_callVv (pc := 38) (o := 0) (rm := rmX5_next) K (kX5_next l hN hG  s2 hw4) gX5_number_X5_next rfl hdV_X5_next ⟨Nat.le_of_ble_eq_true rfl, Nat.le_of_ble_eq_true rfl⟩ rfl rfl ⟨Nat.zero_le _, Nat.zero_le _⟩ (wO_m hG) vw_4 rfl rfl (Nat.le_of_ble_eq_true rfl) dX5_number_38 ?_
      refine qq_nmV (fun r9 e10 => ?_)
      have hw11 : WM r9 := by rw [e10]; exact wX5_next  hw4 
      refine q_iload_n (pc := 41) K dX5_number_41 rfl rfl ?_
      exact q_iret K hr dX5_number_42
  · have i43 := eqI c1
    refine q_iload_n (pc := 13) K dX5_number_13 rfl rfl ?_
    refine q_iconst (pc := 14) (v := 0) K dX5_number_14 (by decide) ?_
    refine q_iload_n (pc := 15) K dX5_number_15 rfl rfl ?_
    refine q_callSi (pc := 16) (rm := rmX5_within) K (kX5_within l hN (fX5_numberHere σ) 0 v1 σ) gX5_number_X5_within rfl hdS_X5_within ⟨Nat.le_of_ble_eq_true rfl, Nat.le_of_ble_eq_true rfl⟩ rfl rfl ⟨Nat.zero_le _, Nat.zero_le _⟩ rfl rfl (Nat.le_of_ble_eq_true rfl) dX5_number_16 ?_
    refine q_if_ne (pc := 19) (tgt := 26) K dX5_number_19 (by decide) (fun c14 => ?_) (fun c14 => ?_)
    · have i39 := neI c14
      have b40 := wi_t c14
      refine q_iconst (pc := 26) (v := 0) K dX5_number_26 (by decide) ?_
      refine q_put (pc := 27) (o := 0) (f := 12) (i := 5) (ty := .boolean) K tyX5 tyX5_ok nmX5 (wO_m hG) vw_4 iwX5_number_X5 (by decide) mX5_number_f191 rfl (tyX5_ok 12 (by decide)) rfl rfl (Nat.le_of_ble_eq_true rfl) (wP_m12 hG _) dX5_number_27 (fun s15 e16 => ?_)
      have hw17 : WM s15 := by rw [e16]; exact wmF hw (by omega)
      have n18 := congrArg Int32.toInt (show rF s15 1 = rF σ 1 by rw [e16]; exact sF_other (by decide))
      have n19 := congrArg Int32.toInt (show rF s15 3 = rF σ 3 by rw [e16]; exact sF_other (by decide))
      have n20 := congrArg Int32.toInt (show rF s15 4 = rF σ 4 by rw [e16]; exact sF_other (by decide))
      refine q_aload_n (pc := 30) K dX5_number_30 rfl rfl ?_
      refine q_get (pc := 31) (o := 0) (f := 12) (v := .int (rF s15 5)) K (wO_m hG) vw_4 iwX5_number_X5 (by decide) mX5_number_f191 rfl dX5_number_31 ?_
      refine q_if_ne (pc := 34) (tgt := 41) K dX5_number_34 (by decide) (fun c21 => ?_) (fun c21 => ?_)
      · have i25 := neI c21
        refine q_iload_n (pc := 41) K dX5_number_41 rfl rfl ?_
        exact q_iret K hr dX5_number_42
      · have i26 := eqI c21
        refine q_aload_n (pc := 37) K dX5_number_37 rfl rfl ?_
        refine q_callVv (pc := 38) (o := 0) (rm := rmX5_next) K (kX5_next l hN hG  s15 hw17) gX5_number_X5_next rfl hdV_X5_next ⟨Nat.le_of_ble_eq_true rfl, Nat.le_of_ble_eq_true rfl⟩ rfl rfl ⟨Nat.zero_le _, Nat.zero_le _⟩ (wO_m hG) vw_4 rfl rfl (Nat.le_of_ble_eq_true rfl) dX5_number_38 ?_
        refine qq_nmV (fun r22 e23 => ?_)
        have hw24 : WM r22 := by rw [e23]; exact wX5_next  hw17 
        refine q_iload_n (pc := 41) K dX5_number_41 rfl rfl ?_
        exact q_iret K hr dX5_number_42
    · have i41 := eqI c14
      refine q_iconst (pc := 22) (v := 1) K dX5_number_22 (by decide) ?_
      refine q_goto (pc := 23) (tgt := 27) K dX5_number_23 (by decide) ?_
      refine q_put (pc := 27) (o := 0) (f := 12) (i := 5) (ty := .boolean) K tyX5 tyX5_ok nmX5 (wO_m hG) vw_4 iwX5_number_X5 (by decide) mX5_number_f191 rfl (tyX5_ok 12 (by decide)) rfl rfl (Nat.le_of_ble_eq_true rfl) (wP_m12 hG _) dX5_number_27 (fun s27 e28 => ?_)
      have hw29 : WM s27 := by rw [e28]; exact wmF hw (by omega)
      have n30 := congrArg Int32.toInt (show rF s27 1 = rF σ 1 by rw [e28]; exact sF_other (by decide))
      have n31 := congrArg Int32.toInt (show rF s27 3 = rF σ 3 by rw [e28]; exact sF_other (by decide))
      have n32 := congrArg Int32.toInt (show rF s27 4 = rF σ 4 by rw [e28]; exact sF_other (by decide))
      refine q_aload_n (pc := 30) K dX5_number_30 rfl rfl ?_
      refine q_get (pc := 31) (o := 0) (f := 12) (v := .int (rF s27 5)) K (wO_m hG) vw_4 iwX5_number_X5 (by decide) mX5_number_f191 rfl dX5_number_31 ?_
      refine q_if_ne (pc := 34) (tgt := 41) K dX5_number_34 (by decide) (fun c33 => ?_) (fun c33 => ?_)
      · have i37 := neI c33
        refine q_iload_n (pc := 41) K dX5_number_41 rfl rfl ?_
        exact q_iret K hr dX5_number_42
      · have i38 := eqI c33
        refine q_aload_n (pc := 37) K dX5_number_37 rfl rfl ?_
        refine q_callVv (pc := 38) (o := 0) (rm := rmX5_next) K (kX5_next l hN hG  s27 hw29) gX5_number_X5_next rfl hdV_X5_next ⟨Nat.le_of_ble_eq_true rfl, Nat.le_of_ble_eq_true rfl⟩ rfl rfl ⟨Nat.zero_le _, Nat.zero_le _⟩ (wO_m hG) vw_4 rfl rfl (Nat.le_of_ble_eq_true rfl) dX5_number_38 ?_
        refine qq_nmV (fun r34 e35 => ?_)
        have hw36 : WM r34 := by rw [e35]; exact wX5_next  hw29 
        refine q_iload_n (pc := 41) K dX5_number_41 rfl rfl ?_
        exact q_iret K hr dX5_number_42
theorem hdS_X5_wordOf : yX5_wordOf.cls ≠ "java/lang/invoke/MethodHandle" ∧ yX5_wordOf.cls ≠ "java/lang/invoke/VarHandle" ∧ (parseMethodDescriptor yX5_wordOf.desc).map (fun d => d.parameters.length) = some 1 := by decide +kernel
set_option maxRecDepth 100000 in
set_option maxHeartbeats 4000000 in
theorem kX5_wordOf (l : Launch) {G : gT} (hN : wN G) (v0 : Int32) (σ : sg) : cM l yX5_wordOf wsX5_wordOf rmX5_wordOf G [.int v0] σ (some (.ref (gK G (fX5_wordOf v0)))) σ := by
  refine cM_of (maxL := 1) (ret := (some (.object "java/lang/String"))) (cc := cX5_wordOf) (fX5_wordOf v0) RX5 hN (by decide +kernel) rfl rfl (Nat.le_of_ble_eq_true rfl) rfl ?_
  intro p e s m args below meth c K hr
  have k0 : (0 : Int32).toInt = 0 := rfl
  have k1 : (1 : Int32).toInt = 1 := rfl
  have k2 : (2 : Int32).toInt = 2 := rfl
  have k3 : (3 : Int32).toInt = 3 := rfl
  have k4 : (4 : Int32).toInt = 4 := rfl
  have k5 : (5 : Int32).toInt = 5 := rfl
  refine qq_st (lv' := [some (.int v0)]) rfl rfl rfl ?_
  refine qq_T (fX5_wordOf.eq_1 ..) ?_
  refine q_iload_n (pc := 0) K dX5_wordOf_0 rfl rfl ?_
  refine q_case (v := 0) (fun c1 => ?_) (fun c1 => ?_)
  · have i17 := eqI c1
    refine q_tableIn (pc := 1) (tgt := 40) K dX5_wordOf_1 c1 (by decide) (by decide) rfl (by decide) ?_
    refine q_ldcs (pc := 40) (i := 0) (tx := "deed") K (by decide +kernel) dX5_wordOf_40 ?_
    exact q_aretP K hr dX5_wordOf_42
  · have i18 := neI c1
    refine q_case (v := 1) (fun c2 => ?_) (fun c2 => ?_)
    · have i15 := eqI c2
      refine q_tableIn (pc := 1) (tgt := 43) K dX5_wordOf_1 c2 (by decide) (by decide) rfl (by decide) ?_
      refine q_ldcs (pc := 43) (i := 1) (tx := "double") K (by decide +kernel) dX5_wordOf_43 ?_
      exact q_aretP K hr dX5_wordOf_45
    · have i16 := neI c2
      refine q_case (v := 2) (fun c3 => ?_) (fun c3 => ?_)
      · have i13 := eqI c3
        refine q_tableIn (pc := 1) (tgt := 46) K dX5_wordOf_1 c3 (by decide) (by decide) rfl (by decide) ?_
        refine q_ldcs (pc := 46) (i := 2) (tx := "tallow") K (by decide +kernel) dX5_wordOf_46 ?_
        exact q_aretP K hr dX5_wordOf_48
      · have i14 := neI c3
        refine q_case (v := 3) (fun c4 => ?_) (fun c4 => ?_)
        · have i11 := eqI c4
          refine q_tableIn (pc := 1) (tgt := 49) K dX5_wordOf_1 c4 (by decide) (by decide) rfl (by decide) ?_
          refine q_ldcs (pc := 49) (i := 3) (tx := "copy") K (by decide +kernel) dX5_wordOf_49 ?_
          exact q_aretP K hr dX5_wordOf_51
        · have i12 := neI c4
          refine q_case (v := 4) (fun c5 => ?_) (fun c5 => ?_)
          · have i9 := eqI c5
            refine q_tableIn (pc := 1) (tgt := 52) K dX5_wordOf_1 c5 (by decide) (by decide) rfl (by decide) ?_
            refine q_ldcs (pc := 52) (i := 4) (tx := "stacked") K (by decide +kernel) dX5_wordOf_52 ?_
            exact q_aretP K hr dX5_wordOf_54
          · have i10 := neI c5
            refine q_case (v := 5) (fun c6 => ?_) (fun c6 => ?_)
            · have i7 := eqI c6
              refine q_tableIn (pc := 1) (tgt := 55) K dX5_wordOf_1 c6 (by decide) (by decide) rfl (by decide) ?_
              refine q_ldcs (pc := 55) (i := 5) (tx := "buried") K (by decide +kernel) dX5_wordOf_55 ?_
              exact q_aretP K hr dX5_wordOf_57
            · have i8 := neI c6
              refine q_tableOut (pc := 1) (tgt := 58) K dX5_wordOf_1 (by omega) (by decide) ?_
              refine q_ldcs (pc := 58) (i := 6) (tx := "false") K (by decide +kernel) dX5_wordOf_58 ?_
              exact q_aretP K hr dX5_wordOf_60
theorem hdV_X5_kindHere : yX5_kindHere.cls = RX5 ∧ yX5_kindHere.cls ≠ "java/lang/invoke/MethodHandle" ∧ yX5_kindHere.cls ≠ "java/lang/invoke/VarHandle" ∧ (parseMethodDescriptor yX5_kindHere.desc).map (fun d => d.parameters.length) = some 0 := by decide +kernel
set_option maxRecDepth 100000 in
set_option maxHeartbeats 4000000 in
theorem lX5_kindHere_3 {p : Program} (l : Launch) {e : Env} {s : State} {m : MethodId} {args : Array Value} {below : List Frame} {meth : Method} {c : Code} {Q : State → Prop} {G : gT} (hN : wN G) (hG : gfl G = false) (K : qK p s m args meth c cX5_kindHere 2 RX5 wsX5_kindHere G) : ∀ (k : Nat) (v1 : Int32) (σ : sg) (hw : WM σ) (hk : -1 ≤ v1.toInt ∧ v1.toInt ≤ 6) (hmu : (v1.toInt + 1).toNat < k) {ρ : Type} {E : ρ → Prop} {f : Int32 → ρ} (hk : ∀ r : Int32, (-1 ≤ r.toInt ∧ r.toInt ≤ 6) → qq p l e (headSpec wsX5_kindHere rmX5_kindHere).room s m args below meth c Q 2 G E (f r) 24 [none, some (.int r)] [] σ), qq p l e (headSpec wsX5_kindHere rmX5_kindHere).room s m args below meth c Q 2 G E (bnd (LX5_kindHere_3 k v1 σ) f) 3 [some (.ref (gob G 0)), some (.int v1)] [] σ := by
  intro k
  induction k with
  | zero => intro v1 σ hw hk hmu ρ E f hk; exact absurd hmu (Nat.not_lt_zero _)
  | succ k ih =>
    intro v1 σ hw hk hmu ρ E f hk
    have km1 : ((-1) : Int32).toInt = -1 := rfl
    have k0 : (0 : Int32).toInt = 0 := rfl
    refine qq_in ?_
    refine qq_T (LX5_kindHere_3.eq_2 ..) ?_
    refine q_iload_n (pc := 3) K dX5_kindHere_3 rfl rfl ?_
    refine q_if_lt (pc := 4) (tgt := 24) K dX5_kindHere_4 (by decide) (fun c1 => ?_) (fun c1 => ?_)
    · have i6 := ltI c1
      refine qq_drop 0 (lv' := [none, some (.int v1)]) rfl ?_
      exact qq_leaf (hk v1 (by omega))
    · have i7 := nltI c1
      refine q_aload_n (pc := 7) K dX5_kindHere_7 rfl rfl ?_
      refine q_iload_n (pc := 8) K dX5_kindHere_8 rfl rfl ?_
      refine q_callSa (pc := 9) (rm := rmX5_wordOf) K (kX5_wordOf l hN v1 σ) gX5_kindHere_X5_wordOf rfl hdS_X5_wordOf ⟨Nat.le_of_ble_eq_true rfl, Nat.le_of_ble_eq_true rfl⟩ rfl rfl ⟨Nat.zero_le _, Nat.zero_le _⟩ rfl rfl (Nat.le_of_ble_eq_true rfl) dX5_kindHere_9 ?_
      refine q_callVi (pc := 12) (o := 0) (rm := rmX5_isWord) K (kX5_isWord l hN hG ((fX5_wordOf v1)) (h18_X5_wordOf _) σ hw) gX5_kindHere_X5_isWord rfl hdV_X5_isWord ⟨Nat.le_of_ble_eq_true rfl, Nat.le_of_ble_eq_true rfl⟩ rfl rfl ⟨Nat.zero_le _, Nat.zero_le _⟩ (wO_m hG) vw_4 rfl rfl (Nat.le_of_ble_eq_true rfl) dX5_kindHere_12 ?_
      refine q_if_ne (pc := 15) (tgt := 24) K dX5_kindHere_15 (by decide) (fun c2 => ?_) (fun c2 => ?_)
      · have i4 := neI c2
        refine qq_drop 0 (lv' := [none, some (.int v1)]) rfl ?_
        exact qq_leaf (hk v1 (by omega))
      · have i5 := eqI c2
        refine q_iinc (pc := 18) (v := (v1 + (-1))) (lv' := [some (.ref (gob G 0)), some (.int (v1 + (-1)))]) K dX5_kindHere_18 rfl rfl (by decide) rfl ?_
        refine q_goto (pc := 21) (tgt := 3) K dX5_kindHere_21 (by decide) ?_
        have a3 := addI (x := v1) (y := (-1)) (by omega) (by omega)
        exact qq_out (ih (v1 + (-1)) σ hw (by omega) (by omega) hk)
set_option maxRecDepth 100000 in
set_option maxHeartbeats 4000000 in
theorem kX5_kindHere (l : Launch) {G : gT} (hN : wN G) (hG : gfl G = false) (σ : sg) (hw : WM σ) : cM l yX5_kindHere wsX5_kindHere rmX5_kindHere G [.ref (gob G 0)] σ (some (.int (fX5_kindHere σ))) σ := by
  refine cM_of (maxL := 2) (ret := (some .int)) (cc := cX5_kindHere) (fX5_kindHere σ) RX5 hN (by decide +kernel) rfl rfl (Nat.le_of_ble_eq_true rfl) rfl ?_
  intro p e s m args below meth c K hr
  have k0 : (0 : Int32).toInt = 0 := rfl
  have k6 : (6 : Int32).toInt = 6 := rfl
  refine qq_st (lv' := [some (.ref (gob G 0)), none]) rfl rfl rfl ?_
  refine qq_T (fX5_kindHere.eq_1 ..) ?_
  refine q_bipush (pc := 0) (v := 6) K dX5_kindHere_0 (by decide) ?_
  refine q_istore_n (pc := 2) (lv' := [some (.ref (gob G 0)), some (.int 6)]) K dX5_kindHere_2 rfl (by decide) (Nat.le_of_ble_eq_true rfl) rfl ?_
  refine lX5_kindHere_3 l hN hG K 8 6 σ hw (by omega) (by omega) (fun r8 x10 => ?_)
  refine q_iload_n (pc := 24) K dX5_kindHere_24 rfl rfl ?_
  exact q_iretP K hr dX5_kindHere_25
theorem hdV_X5_shelfTold : yX5_shelfTold.cls = RX5 ∧ yX5_shelfTold.cls ≠ "java/lang/invoke/MethodHandle" ∧ yX5_shelfTold.cls ≠ "java/lang/invoke/VarHandle" ∧ (parseMethodDescriptor yX5_shelfTold.desc).map (fun d => d.parameters.length) = some 0 := by decide +kernel
set_option maxRecDepth 100000 in
set_option maxHeartbeats 4000000 in
theorem kX5_shelfTold (l : Launch) {G : gT} (hN : wN G) (hG : gfl G = false) (σ : sg) (hw : WM σ) : cM l yX5_shelfTold wsX5_shelfTold rmX5_shelfTold G [.ref (gob G 0)] σ (some (.int (fX5_shelfTold σ).1)) (fX5_shelfTold σ).2 := by
  refine cM_of (maxL := 1) (ret := (some .int)) (cc := cX5_shelfTold) (fX5_shelfTold σ) RX5 hN (by decide +kernel) rfl rfl (Nat.le_of_ble_eq_true rfl) rfl ?_
  intro p e s m args below meth c K hr
  have k0 : (0 : Int32).toInt = 0 := rfl
  have k5 : (5 : Int32).toInt = 5 := rfl
  refine qq_st (lv' := [some (.ref (gob G 0))]) rfl rfl rfl ?_
  refine qq_T (fX5_shelfTold.eq_1 ..) ?_
  refine q_aload_n (pc := 0) K dX5_shelfTold_0 rfl rfl ?_
  refine q_iconst (pc := 1) (v := 5) K dX5_shelfTold_1 (by decide) ?_
  refine q_callVi (pc := 2) (o := 0) (rm := rmX5_number) K (kX5_number l hN hG 5 σ hw) gX5_shelfTold_X5_number rfl hdV_X5_number ⟨Nat.le_of_ble_eq_true rfl, Nat.le_of_ble_eq_true rfl⟩ rfl rfl ⟨Nat.zero_le _, Nat.zero_le _⟩ (wO_m hG) vw_4 rfl rfl (Nat.le_of_ble_eq_true rfl) dX5_shelfTold_2 ?_
  refine qq_nmI (fun r1 e2 => ?_)
  have hw3 : WM r1.2 := by rw [e2]; exact wX5_number 5 hw 
  exact q_iret K hr dX5_shelfTold_5
theorem hdV_X5_either : yX5_either.cls = RX5 ∧ yX5_either.cls ≠ "java/lang/invoke/MethodHandle" ∧ yX5_either.cls ≠ "java/lang/invoke/VarHandle" ∧ (parseMethodDescriptor yX5_either.desc).map (fun d => d.parameters.length) = some 2 := by decide +kernel
set_option maxRecDepth 100000 in
set_option maxHeartbeats 4000000 in
theorem kX5_either (l : Launch) {G : gT} (hN : wN G) (hG : gfl G = false) (w1 : Nat) (hw1 : w1 < 18) (w2 : Nat) (hw2 : w2 < 18) (σ : sg) (hw : WM σ) : cM l yX5_either wsX5_either rmX5_either G [.ref (gob G 0), .ref (gK G w1), .ref (gK G w2)] σ (some (.int (fX5_either w1 w2 σ).1)) (fX5_either w1 w2 σ).2 := by
  refine cM_of (maxL := 4) (ret := (some .int)) (cc := cX5_either) (fX5_either w1 w2 σ) RX5 hN (by decide +kernel) rfl rfl (Nat.le_of_ble_eq_true rfl) rfl ?_
  intro p e s m args below meth c K hr
  have k0 : (0 : Int32).toInt = 0 := rfl
  have k1 : (1 : Int32).toInt = 1 := rfl
  refine qq_st (lv' := [some (.ref (gob G 0)), some (.ref (gK G w1)), some (.ref (gK G w2)), none]) rfl rfl rfl ?_
  refine qq_T (fX5_either.eq_1 ..) ?_
  refine q_aload_n (pc := 0) K dX5_either_0 rfl rfl ?_
  refine q_aload_n (pc := 1) K dX5_either_1 rfl rfl ?_
  refine q_callVi (pc := 2) (o := 0) (rm := rmX5_takes) K (kX5_takes l hN hG w1 hw1 σ hw) gX5_either_X5_takes rfl hdV_X5_takes ⟨Nat.le_of_ble_eq_true rfl, Nat.le_of_ble_eq_true rfl⟩ rfl rfl ⟨Nat.zero_le _, Nat.zero_le _⟩ (wO_m hG) vw_4 rfl rfl (Nat.le_of_ble_eq_true rfl) dX5_either_2 ?_
  refine qq_nmI (fun r1 e2 => ?_)
  have hw3 : WM r1.2 := by rw [e2]; exact wX5_takes w1 hw1 hw 
  refine q_istore_n (pc := 5) (lv' := [some (.ref (gob G 0)), some (.ref (gK G w1)), some (.ref (gK G w2)), some (.int r1.1)]) K dX5_either_5 rfl (by decide) (Nat.le_of_ble_eq_true rfl) rfl ?_
  refine q_iload_n (pc := 6) K dX5_either_6 rfl rfl ?_
  refine q_if_ne (pc := 7) (tgt := 15) K dX5_either_7 (by decide) (fun c4 => ?_) (fun c4 => ?_)
  · have i14 := neI c4
    refine q_iload_n (pc := 15) K dX5_either_15 rfl rfl ?_
    refine q_if_eq (pc := 16) (tgt := 23) K dX5_either_16 (by decide) (fun c5 => ?_) (fun c5 => ?_)
    · have i6 := eqI c5
      refine q_iconst (pc := 23) (v := 0) K dX5_either_23 (by decide) ?_
      exact q_iret K hr dX5_either_24
    · have i7 := neI c5
      refine q_iconst (pc := 19) (v := 1) K dX5_either_19 (by decide) ?_
      refine q_goto (pc := 20) (tgt := 24) K dX5_either_20 (by decide) ?_
      exact q_iret K hr dX5_either_24
  · have i15 := eqI c4
    refine q_aload_n (pc := 10) K dX5_either_10 rfl rfl ?_
    refine q_aload_n (pc := 11) K dX5_either_11 rfl rfl ?_
    refine q_callVv (pc := 12) (o := 0) (rm := rmX5_wants) K (kX5_wants l hN hG w2 hw2 r1.2 hw3) gX5_either_X5_wants rfl hdV_X5_wants ⟨Nat.le_of_ble_eq_true rfl, Nat.le_of_ble_eq_true rfl⟩ rfl rfl ⟨Nat.zero_le _, Nat.zero_le _⟩ (wO_m hG) vw_4 rfl rfl (Nat.le_of_ble_eq_true rfl) dX5_either_12 ?_
    refine qq_nmV (fun r8 e9 => ?_)
    have hw10 : WM r8 := by rw [e9]; exact wX5_wants w2 hw2 hw3 
    refine q_iload_n (pc := 15) K dX5_either_15 rfl rfl ?_
    refine q_if_eq (pc := 16) (tgt := 23) K dX5_either_16 (by decide) (fun c11 => ?_) (fun c11 => ?_)
    · have i12 := eqI c11
      refine q_iconst (pc := 23) (v := 0) K dX5_either_23 (by decide) ?_
      exact q_iret K hr dX5_either_24
    · have i13 := neI c11
      refine q_iconst (pc := 19) (v := 1) K dX5_either_19 (by decide) ?_
      refine q_goto (pc := 20) (tgt := 24) K dX5_either_20 (by decide) ?_
      exact q_iret K hr dX5_either_24
