def rmX5_ice : Room := { frames := 5, cells := 0, slots := 0, locals := 114 }
def LX5_ice_47 : Nat → Int32 → Int32 → Int32 → Int32 → Int32 → sg → Int32 × sg
  | 0, v1, v2, v4, v5, v6, σ => (v4, σ)
  | k + 1, v1, v2, v4, v5, v6, σ => (if 6 ≤ v6 then (v4, σ) else bnd (fX5_row 0 2 σ) (fun r11 => bnd (fX5_brings 2 v6 v1 r11) (fun r14 => bnd (fX5_holdingBehind v2 r14) (fun r17 => (if (fX5_bits r17.1) ≤ v5 then LX5_ice_47 k v1 v2 v4 v5 (v6 + 1) r17.2 else LX5_ice_47 k v1 v2 v6 (fX5_bits r17.1) (v6 + 1) r17.2)))))
def fX5_ice (v1 : Int32) (v2 : Int32) (σ : sg) : Int32 × sg := (if (fX5_within v1 1 99) = 0 then bnd (fX5_finding (fX5_lacks 0 v2 σ) σ) (fun r2 => (r2.1, r2.2)) else (if (fX5_isAhead v2) = 0 then bnd (fX5_finding (fX5_lacks 0 v2 σ) σ) (fun r6 => (r6.1, r6.2)) else (if (fX5_lacks 1 v2 σ) < 0 then bnd (LX5_ice_47 7 v1 v2 0 (-1) 0 σ) (fun r27 => (r27.1, r27.2)) else bnd (fX5_finding (fX5_lacks 1 v2 σ) σ) (fun r30 => (r30.1, r30.2)))))
def rmX5_blocks : Room := { frames := 5, cells := 0, slots := 0, locals := 114 }
def LX5_blocks_39 : Nat → Int32 → Int32 → Int32 → sg → Int32 × sg
  | 0, v1, v2, v4, σ => (0, σ)
  | k + 1, v1, v2, v4, σ => (if 99 < v4 then bnd (fX5_finding 3 σ) (fun r11 => (r11.1, r11.2)) else bnd (fX5_row 0 2 σ) (fun r14 => bnd (fX5_brings 2 (rA r14 0 (40 + v1)) v4 r14) (fun r19 => bnd (fX5_holdingBehind v2 r19) (fun r22 => (if ((jshr r22.1 v1) &&& 1) = 1 then (v4, r22.2) else LX5_blocks_39 k v1 v2 (v4 + 1) r22.2)))))
def fX5_blocks (v1 : Int32) (v2 : Int32) (σ : sg) : Int32 × sg := (if (fX5_isDeed v1 σ) = 0 then bnd (fX5_finding (fX5_lacks 0 v2 σ) σ) (fun r2 => (r2.1, r2.2)) else (if (fX5_isAhead v2) = 0 then bnd (fX5_finding (fX5_lacks 0 v2 σ) σ) (fun r6 => (r6.1, r6.2)) else (if (fX5_lacks 1 v2 σ) < 0 then LX5_blocks_39 101 v1 v2 0 σ else bnd (fX5_finding (fX5_lacks 1 v2 σ) σ) (fun r31 => (r31.1, r31.2)))))
def rmX5_swap : Room := { frames := 5, cells := 0, slots := 0, locals := 114 }
def LX5_swap_63 : Nat → Int32 → Int32 → Int32 → Int32 → Int32 → sg → Int32 × Int32 × sg
  | 0, v1, v3, v4, v5, v6, σ => (v3, v4, σ)
  | k + 1, v1, v3, v4, v5, v6, σ => (if (rA σ 0 0) ≤ v6 then (v3, v4, σ) else bnd (fX5_row 0 2 σ) (fun r12 => bnd (sA r12 2 (40 + v5) (rA r12 0 (40 + v6))) (fun s18 => bnd (sA s18 2 (40 + v6) (rA s18 0 (40 + v5))) (fun s24 => bnd (fX5_holdingBehind v1 s24) (fun r29 => (if (fX5_bits r29.1) ≤ v3 then LX5_swap_63 k v1 v3 v4 v5 (v6 + 1) r29.2 else LX5_swap_63 k v1 (fX5_bits r29.1) ((10 * v5) + v6) v5 (v6 + 1) r29.2))))))
def LX5_swap_46 : Nat → Int32 → Int32 → Int32 → Int32 → sg → Int32 × sg
  | 0, v1, v3, v4, v5, σ => (v4, σ)
  | k + 1, v1, v3, v4, v5, σ => (if (rA σ 0 0) ≤ v5 then (v4, σ) else bnd (LX5_swap_63 9 v1 v3 v4 v5 (v5 + 1) σ) (fun r40 => LX5_swap_46 k v1 r40.1 r40.2.1 (v5 + 1) r40.2.2))
def fX5_swap (v1 : Int32) (σ : sg) : Int32 × sg := (if (fX5_lacks (fX5_isAhead v1) v1 σ) < 0 then bnd (fX5_row 0 2 σ) (fun r2 => bnd (fX5_holdingBehind v1 r2) (fun r5 => bnd (LX5_swap_46 9 v1 (fX5_bits r5.1) (-1) 0 r5.2) (fun r45 => (if 0 ≤ r45.1 then (r45.1, r45.2) else bnd (fX5_finding 3 r45.2) (fun r49 => (r49.1, r49.2)))))) else bnd (fX5_finding (fX5_lacks (fX5_isAhead v1) v1 σ) σ) (fun r54 => (r54.1, r54.2)))
def rmX5_law : Room := { frames := 5, cells := 0, slots := 0, locals := 114 }
def LX5_law_49 : Nat → Int32 → Int32 → Int32 → Int32 → Int32 → sg → sg
  | 0, v1, v3, v4, v5, v6, σ => σ
  | k + 1, v1, v3, v4, v5, v6, σ => (if (rA σ 0 0) ≤ v6 then σ else bnd (sA σ 2 (32 + v6) v5) (fun s9 => LX5_law_49 k v1 v3 v4 v5 (v6 + 1) s9))
def LX5_law_28 : Nat → Int32 → Int32 → Int32 → Int32 → sg → Int32 × sg
  | 0, v1, v3, v4, v5, σ => (v3, σ)
  | k + 1, v1, v3, v4, v5, σ => (if 7 ≤ v5 then (v3, σ) else bnd (fX5_row 0 2 σ) (fun r3 => bnd (LX5_law_49 9 v1 v3 v4 v5 0 r3) (fun r17 => bnd (fX5_holdingBehind v1 r17) (fun r20 => (if (fX5_bits r20.1) ≤ v4 then LX5_law_28 k v1 v3 v4 (v5 + 1) r20.2 else LX5_law_28 k v1 v5 (fX5_bits r20.1) (v5 + 1) r20.2)))))
def fX5_law (v1 : Int32) (σ : sg) : Int32 × sg := (if (fX5_lacks (fX5_isAhead v1) v1 σ) < 0 then bnd (LX5_law_28 8 v1 0 (-1) 0 σ) (fun r30 => (r30.1, r30.2)) else bnd (fX5_finding (fX5_lacks (fX5_isAhead v1) v1 σ) σ) (fun r33 => (r33.1, r33.2)))
def rmX5_shut : Room := { frames := 0, cells := 0, slots := 0, locals := 0 }
def LX5_shut_4 : Nat → Int32 → Int32 → sg → Int32
  | 0, v1, v2, σ => v1
  | k + 1, v1, v2, σ => (if 6 ≤ v2 then v1 else (if (rA σ 0 (4 + v2)) = 0 then LX5_shut_4 k (v1 ||| (jshl 1 v2)) (v2 + 1) σ else LX5_shut_4 k (v1 ||| 0) (v2 + 1) σ))
def fX5_shut (σ : sg) : Int32 := bnd (LX5_shut_4 7 0 0 σ) (fun r10 => r10)
def rmX5_holdingWith : Room := { frames := 5, cells := 0, slots := 0, locals := 114 }
def LX5_holdingWith_13 : Nat → Int32 → Int32 → Int32 → sg → sg
  | 0, v1, v2, v3, σ => σ
  | k + 1, v1, v2, v3, σ => (if 6 ≤ v3 then σ else (if ((jshr v1 v3) &&& 1) = 1 then bnd (sA σ 2 (4 + v3) 1) (fun s14 => LX5_holdingWith_13 k v1 v2 (v3 + 1) s14) else bnd (sA σ 2 (4 + v3) (rA σ 2 (4 + v3))) (fun s7 => LX5_holdingWith_13 k v1 v2 (v3 + 1) s7)))
def fX5_holdingWith (v1 : Int32) (v2 : Int32) (σ : sg) : Int32 × sg := bnd (fX5_row 0 2 σ) (fun r1 => bnd (LX5_holdingWith_13 7 v1 v2 0 r1) (fun r24 => bnd (fX5_holdingBehind v2 r24) (fun r27 => (r27.1, r27.2))))
theorem hwB {a h : Int32} {σ : sg} {r : Int32 × sg} (hw : WM r.2) (e : r = fX5_holdingWith a h σ) : 0 ≤ r.1.toInt ∧ r.1.toInt < 256 := by
  have e1 : r.1 = fX5_holding 2 r.2 := by
    rw [e, fX5_holdingWith.eq_1]
    refine wf_bnd (P := fun T : Int32 × sg => T.1 = fX5_holding 2 T.2) (fun r1 _ => ?_)
    refine wf_bnd (P := fun T : Int32 × sg => T.1 = fX5_holding 2 T.2) (fun r2 _ => ?_)
    exact wf_bnd (P := fun T : Int32 × sg => T.1 = fX5_holding 2 T.2) (fun r3 e3 => hbE e3)
  rw [e1]
  exact holdB hw (by decide)
def rmX5_worstOf : Room := { frames := 6, cells := 0, slots := 0, locals := 137 }
def LX5_worstOf_12 : Nat → Int32 → Int32 → Int32 → Int32 → Int32 → sg → Int32 × sg
  | 0, v1, v2, v3, v4, v5, σ => (v4, σ)
  | k + 1, v1, v2, v3, v4, v5, σ => (if 64 ≤ v5 then (v4, σ) else (if (v5 &&& (v1 ^^^ (-1))) = 0 then (if (fX5_bits v5) = v2 then bnd (fX5_holdingWith v5 v3 σ) (fun r9 => (if (rF r9.2 2) ≤ (fX5_bits r9.1) then LX5_worstOf_12 k v1 v2 v3 v4 (v5 + 1) r9.2 else bnd (sF9 r9.2 2 (fX5_bits r9.1)) (fun s14 => LX5_worstOf_12 k v1 v2 v3 v5 (v5 + 1) s14))) else LX5_worstOf_12 k v1 v2 v3 v4 (v5 + 1) σ) else LX5_worstOf_12 k v1 v2 v3 v4 (v5 + 1) σ))
def fX5_worstOf (v1 : Int32) (v2 : Int32) (v3 : Int32) (σ : sg) : Int32 × sg := bnd (sF9 σ 2 9) (fun s1 => bnd (LX5_worstOf_12 65 v1 v2 v3 (-1) 0 s1) (fun r26 => (r26.1, r26.2)))
def rmX5_enemy : Room := { frames := 7, cells := 0, slots := 0, locals := 163 }
def fX5_enemy (v1 : Int32) (v2 : Int32) (σ : sg) : Int32 × sg := (if (fX5_within v1 0 6) = 0 then bnd (fX5_finding (fX5_lacks 0 v2 σ) σ) (fun r2 => (r2.1, r2.2)) else (if (fX5_isAhead v2) = 0 then bnd (fX5_finding (fX5_lacks 0 v2 σ) σ) (fun r6 => (r6.1, r6.2)) else (if (fX5_lacks 1 v2 σ) < 0 then bnd (fX5_worstOf (fX5_shut σ) v1 v2 σ) (fun r10 => (if 0 ≤ r10.1 then (r10.1, r10.2) else bnd (fX5_finding 3 r10.2) (fun r14 => (r14.1, r14.2)))) else bnd (fX5_finding (fX5_lacks 1 v2 σ) σ) (fun r19 => (r19.1, r19.2)))))
def rmX5_worst : Room := { frames := 7, cells := 0, slots := 0, locals := 163 }
def fX5_worst (v1 : Int32) (v2 : Int32) (σ : sg) : Int32 × sg := (if (fX5_within v1 0 6) = 0 then bnd (fX5_finding (fX5_lacks 0 v2 σ) σ) (fun r2 => (r2.1, r2.2)) else (if (fX5_isAhead v2) = 0 then bnd (fX5_finding (fX5_lacks 0 v2 σ) σ) (fun r6 => (r6.1, r6.2)) else (if (fX5_lacks 1 v2 σ) < 0 then bnd (fX5_worstOf (fX5_shut σ) v1 v2 σ) (fun r10 => (if 0 ≤ r10.1 then ((rF r10.2 2), r10.2) else bnd (fX5_finding 3 r10.2) (fun r14 => (r14.1, r14.2)))) else bnd (fX5_finding (fX5_lacks 1 v2 σ) σ) (fun r19 => (r19.1, r19.2)))))
def rmX5_least : Room := { frames := 6, cells := 0, slots := 0, locals := 137 }
def LX5_least_43 : Nat → Int32 → Int32 → Int32 → Int32 → sg → Int32 × sg
  | 0, v1, v2, v4, v5, σ => (v4, σ)
  | k + 1, v1, v2, v4, v5, σ => (if 64 ≤ v5 then (v4, σ) else (if (v5 &&& ((fX5_shut σ) ^^^ (-1))) = 0 then (if v4 ≤ (fX5_bits v5) then LX5_least_43 k v1 v2 v4 (v5 + 1) σ else bnd (fX5_holdingWith v5 v2 σ) (fun r15 => (if ((jshr r15.1 v1) &&& 1) = 0 then LX5_least_43 k v1 v2 (fX5_bits v5) (v5 + 1) r15.2 else LX5_least_43 k v1 v2 v4 (v5 + 1) r15.2))) else LX5_least_43 k v1 v2 v4 (v5 + 1) σ))
def fX5_least (v1 : Int32) (v2 : Int32) (σ : sg) : Int32 × sg := (if (fX5_isDeed v1 σ) = 0 then bnd (fX5_finding (fX5_lacks 0 v2 σ) σ) (fun r2 => (r2.1, r2.2)) else (if (fX5_isAhead v2) = 0 then bnd (fX5_finding (fX5_lacks 0 v2 σ) σ) (fun r6 => (r6.1, r6.2)) else (if (fX5_lacks 1 v2 σ) < 0 then bnd (LX5_least_43 65 v1 v2 7 0 σ) (fun r29 => (if r29.1 ≤ 6 then (r29.1, r29.2) else bnd (fX5_finding 3 r29.2) (fun r33 => (r33.1, r33.2)))) else bnd (fX5_finding (fX5_lacks 1 v2 σ) σ) (fun r38 => (r38.1, r38.2)))))
def rmX5_nail : Room := { frames := 7, cells := 0, slots := 0, locals := 163 }
def LX5_nail_28 : Nat → Int32 → Int32 → Int32 → Int32 → sg → Int32 × sg
  | 0, v1, v3, v4, v5, σ => (v3, σ)
  | k + 1, v1, v3, v4, v5, σ => (if 6 ≤ v5 then (v3, σ) else (if ((jshr (fX5_shut σ) v5) &&& 1) = 1 then (if ((fX5_shut σ) &&& ((jshl 1 v5) ^^^ (-1))) = 0 then bnd (fX5_worstOf ((fX5_shut σ) &&& ((jshl 1 v5) ^^^ (-1))) 0 v1 σ) (fun r14 => (if (rF r14.2 2) ≤ v4 then LX5_nail_28 k v1 v3 v4 (v5 + 1) r14.2 else LX5_nail_28 k v1 v5 (rF r14.2 2) (v5 + 1) r14.2)) else bnd (fX5_worstOf ((fX5_shut σ) &&& ((jshl 1 v5) ^^^ (-1))) 1 v1 σ) (fun r6 => (if (rF r6.2 2) ≤ v4 then LX5_nail_28 k v1 v3 v4 (v5 + 1) r6.2 else LX5_nail_28 k v1 v5 (rF r6.2 2) (v5 + 1) r6.2))) else LX5_nail_28 k v1 v3 v4 (v5 + 1) σ))
def fX5_nail (v1 : Int32) (σ : sg) : Int32 × sg := (if (fX5_lacks (fX5_isAhead v1) v1 σ) < 0 then bnd (LX5_nail_28 7 v1 (-1) (-1) 0 σ) (fun r28 => (if 0 ≤ r28.1 then (r28.1, r28.2) else bnd (fX5_finding 3 r28.2) (fun r32 => (r32.1, r32.2)))) else bnd (fX5_finding (fX5_lacks (fX5_isAhead v1) v1 σ) σ) (fun r37 => (r37.1, r37.2)))
def PLX5_ice_47 : Int32 × sg → Prop := fun r => (WM r.2) ∧ True
set_option maxRecDepth 100000 in
set_option maxHeartbeats 4000000 in
theorem wLX5_ice_47 : ∀ (k : Nat) (v1 v2 v4 v5 v6 : Int32) (σ : sg) (hw : WM σ) (hv6 : 0 ≤ v6.toInt ∧ v6.toInt ≤ 6) (hnv2 : v2.toInt ≤ 100) (hmu : (6 - v6.toInt).toNat < k), PLX5_ice_47 (LX5_ice_47 k v1 v2 v4 v5 v6 σ) := by
  intro k
  induction k with
  | zero => intro v1 v2 v4 v5 v6 σ hw hv6 hnv2 hmu; exact absurd hmu (Nat.not_lt_zero _)
  | succ k ih =>
    intro v1 v2 v4 v5 v6 σ hw hv6 hnv2 hmu
    have k0 : (0 : Int32).toInt = 0 := rfl
    have k1 : (1 : Int32).toInt = 1 := rfl
    have k6 : (6 : Int32).toInt = 6 := rfl
    rw [show LX5_ice_47 (k + 1) v1 v2 v4 v5 v6 σ = _ from LX5_ice_47.eq_2 ..]
    refine wf_ite (fun c10 => ?_) (fun c10 => ?_)
    · have i25 := leI c10
      exact ⟨hw, trivial⟩
    · have i26 := nleI c10
      refine wf_bnd (fun r11 e12 => ?_)
      have hw13 : WM r11 := by rw [e12]; exact wX5_row 0 (by decide) 2 (by decide) hw (by omega)
      have me12 := row0 (show 0 ≠ 2 by decide) e12
      refine wf_bnd (fun r14 e15 => ?_)
      have hw16 : WM r14 := by rw [e15]; exact wX5_brings 2 (by decide) v6 v1 hw13 (by omega)
      have bre15 := brM (b := 0) e15 (by decide)
      refine wf_bnd (fun r17 e18 => ?_)
      have hw19 : WM r17.2 := by rw [e18]; exact wX5_holdingBehind v2 hw16 (by omega)
      have hbe18 := hbB hw19 e18
      have hme18 := hbm e18
      refine wf_ite (fun c20 => ?_) (fun c20 => ?_)
      · have i23 := leI c20
        have a21 := addI (x := v6) (y := 1) (by omega) (by omega)
        exact ih v1 v2 v4 v5 (v6 + 1) r17.2 hw19 (by omega) (by omega) (by omega)
      · have i24 := nleI c20
        have a22 := addI (x := v6) (y := 1) (by omega) (by omega)
        exact ih v1 v2 v6 (fX5_bits r17.1) (v6 + 1) r17.2 hw19 (by omega) (by omega) (by omega)
set_option maxRecDepth 100000 in
set_option maxHeartbeats 4000000 in
theorem wX5_ice (v1 : Int32) (v2 : Int32) {σ : sg} (hw : WM σ) : WMi (fX5_ice v1 v2 σ) := by
  have km1 : ((-1) : Int32).toInt = -1 := rfl
  have k0 : (0 : Int32).toInt = 0 := rfl
  have k1 : (1 : Int32).toInt = 1 := rfl
  have k99 : (99 : Int32).toInt = 99 := rfl
  rw [show fX5_ice v1 v2 σ = _ from fX5_ice.eq_1 ..]
  refine wf_ite (fun c1 => ?_) (fun c1 => ?_)
  · have i38 := eqI c1
    have lr := lkR 0 v2 σ
    have lz := lkZ v2 σ
    refine wf_bnd (fun r2 e3 => ?_)
    have hw4 : WM r2.2 := by rw [e3]; exact wX5_finding (fX5_lacks 0 v2 σ) hw (by omega)
    exact hw4
  · have i39 := neI c1
    have b40 := wi_t c1
    refine wf_ite (fun c5 => ?_) (fun c5 => ?_)
    · have i35 := eqI c5
      have lr := lkR 0 v2 σ
      have lz := lkZ v2 σ
      refine wf_bnd (fun r6 e7 => ?_)
      have hw8 : WM r6.2 := by rw [e7]; exact wX5_finding (fX5_lacks 0 v2 σ) hw (by omega)
      exact hw8
    · have i36 := neI c5
      have b37 := wiA_t c5
      have lr := lkR 1 v2 σ
      refine wf_ite (fun c9 => ?_) (fun c9 => ?_)
      · have i33 := ltI c9
        refine wf_bnd (fun r27 e28 => ?_)
        obtain ⟨hw29, _⟩ := (show PLX5_ice_47 r27 from by rw [e28]; exact wLX5_ice_47 7 v1 v2 0 (-1) 0 σ hw (by omega) (by omega) (by omega))
        exact hw29
      · have i34 := nltI c9
        refine wf_bnd (fun r30 e31 => ?_)
        have hw32 : WM r30.2 := by rw [e31]; exact wX5_finding (fX5_lacks 1 v2 σ) hw (by omega)
        exact hw32
set_option maxRecDepth 100000 in
set_option maxHeartbeats 4000000 in
theorem wLX5_blocks_39 : ∀ (k : Nat) (v1 v2 v4 : Int32) (σ : sg) (hw : WM σ) (hv4 : 0 ≤ v4.toInt ∧ v4.toInt ≤ 100) (hnv2 : v2.toInt ≤ 100) (hdv1 : 0 ≤ v1.toInt ∧ v1.toInt ≤ 7) (hmu : (100 - v4.toInt).toNat < k), WMi (LX5_blocks_39 k v1 v2 v4 σ) := by
  intro k
  induction k with
  | zero => intro v1 v2 v4 σ hw hv4 hnv2 hdv1 hmu; exact absurd hmu (Nat.not_lt_zero _)
  | succ k ih =>
    intro v1 v2 v4 σ hw hv4 hnv2 hdv1 hmu
    have k0 : (0 : Int32).toInt = 0 := rfl
    have k1 : (1 : Int32).toInt = 1 := rfl
    have k3 : (3 : Int32).toInt = 3 := rfl
    have k40 : (40 : Int32).toInt = 40 := rfl
    have k99 : (99 : Int32).toInt = 99 := rfl
    rw [show LX5_blocks_39 (k + 1) v1 v2 v4 σ = _ from LX5_blocks_39.eq_2 ..]
    refine wf_ite (fun c10 => ?_) (fun c10 => ?_)
    · have i29 := ltI c10
      refine wf_bnd (fun r11 e12 => ?_)
      have hw13 : WM r11.2 := by rw [e12]; exact wX5_finding 3 hw (by omega)
      exact hw13
    · have i30 := nltI c10
      refine wf_bnd (fun r14 e15 => ?_)
      have hw16 : WM r14 := by rw [e15]; exact wX5_row 0 (by decide) 2 (by decide) hw (by omega)
      have me15 := row0 (show 0 ≠ 2 by decide) e15
      have a17 := addI (x := 40) (y := v1) (by omega) (by omega)
      have w18 := wm_shelf hw16 (show 0 < 4 by decide) v1 (by omega) (by omega)
      refine wf_bnd (fun r19 e20 => ?_)
      have hw21 : WM r19 := by rw [e20]; exact wX5_brings 2 (by decide) (rA r14 0 (40 + v1)) v4 hw16 (by omega)
      have bre20 := brM (b := 0) e20 (by decide)
      refine wf_bnd (fun r22 e23 => ?_)
      have hw24 : WM r22.2 := by rw [e23]; exact wX5_holdingBehind v2 hw21 (by omega)
      have hbe23 := hbB hw24 e23
      have hme23 := hbm e23
      refine wf_ite (fun c25 => ?_) (fun c25 => ?_)
      · have i28 := eqI c25
        exact hw24
      · have i27 := neI c25
        have a26 := addI (x := v4) (y := 1) (by omega) (by omega)
        exact ih v1 v2 (v4 + 1) r22.2 hw24 (by omega) (by omega) (by omega) (by omega)
set_option maxRecDepth 100000 in
set_option maxHeartbeats 4000000 in
theorem wX5_blocks (v1 : Int32) (v2 : Int32) {σ : sg} (hw : WM σ) : WMi (fX5_blocks v1 v2 σ) := by
  have k0 : (0 : Int32).toInt = 0 := rfl
  have k1 : (1 : Int32).toInt = 1 := rfl
  rw [show fX5_blocks v1 v2 σ = _ from fX5_blocks.eq_1 ..]
  refine wf_ite (fun c1 => ?_) (fun c1 => ?_)
  · have i39 := eqI c1
    have lr := lkR 0 v2 σ
    have lz := lkZ v2 σ
    refine wf_bnd (fun r2 e3 => ?_)
    have hw4 : WM r2.2 := by rw [e3]; exact wX5_finding (fX5_lacks 0 v2 σ) hw (by omega)
    exact hw4
  · have i40 := neI c1
    have b41 := wiD_t hw c1
    refine wf_ite (fun c5 => ?_) (fun c5 => ?_)
    · have i36 := eqI c5
      have lr := lkR 0 v2 σ
      have lz := lkZ v2 σ
      refine wf_bnd (fun r6 e7 => ?_)
      have hw8 : WM r6.2 := by rw [e7]; exact wX5_finding (fX5_lacks 0 v2 σ) hw (by omega)
      exact hw8
    · have i37 := neI c5
      have b38 := wiA_t c5
      have lr := lkR 1 v2 σ
      refine wf_ite (fun c9 => ?_) (fun c9 => ?_)
      · have i34 := ltI c9
        exact wLX5_blocks_39 101 v1 v2 0 σ hw (by omega) (by omega) (by omega) (by omega)
      · have i35 := nltI c9
        refine wf_bnd (fun r31 e32 => ?_)
        have hw33 : WM r31.2 := by rw [e32]; exact wX5_finding (fX5_lacks 1 v2 σ) hw (by omega)
        exact hw33
def PLX5_swap_63 : Int32 × Int32 × sg → Prop := fun r => (WM r.2.2) ∧ True
set_option maxRecDepth 100000 in
set_option maxHeartbeats 4000000 in
theorem wLX5_swap_63 : ∀ (k : Nat) (v1 v3 v4 v5 v6 : Int32) (σ : sg) (hw : WM σ) (hv6 : 0 ≤ v6.toInt ∧ v6.toInt ≤ 8) (hnv1 : v1.toInt ≤ 100) (ha : 0 ≤ v5.toInt ∧ v5.toInt ≤ 7) (hmu : (8 - v6.toInt).toNat < k), PLX5_swap_63 (LX5_swap_63 k v1 v3 v4 v5 v6 σ) := by
  intro k
  induction k with
  | zero => intro v1 v3 v4 v5 v6 σ hw hv6 hnv1 ha hmu; exact absurd hmu (Nat.not_lt_zero _)
  | succ k ih =>
    intro v1 v3 v4 v5 v6 σ hw hv6 hnv1 ha hmu
    have k0 : (0 : Int32).toInt = 0 := rfl
    have k1 : (1 : Int32).toInt = 1 := rfl
    have k10 : (10 : Int32).toInt = 10 := rfl
    have k40 : (40 : Int32).toInt = 40 := rfl
    rw [show LX5_swap_63 (k + 1) v1 v3 v4 v5 v6 σ = _ from LX5_swap_63.eq_2 ..]
    have w10 := wm_many hw (show 0 < 4 by decide)
    refine wf_ite (fun c11 => ?_) (fun c11 => ?_)
    · have i37 := leI c11
      exact ⟨hw, trivial⟩
    · have i38 := nleI c11
      refine wf_bnd (fun r12 e13 => ?_)
      have hw14 : WM r12 := by rw [e13]; exact wX5_row 0 (by decide) 2 (by decide) hw (by omega)
      have me13 := row0 (show 0 ≠ 2 by decide) e13
      have a15 := addI (x := 40) (y := v6) (by omega) (by omega)
      have w16 := wm_shelf hw14 (show 0 < 4 by decide) v6 (by omega) (by omega)
      have a17 := addI (x := 40) (y := v5) (by omega) (by omega)
      refine wf_bnd (fun s18 e19 => ?_)
      have hw20 : WM s18 := by rw [e19]; exact wmRs hw14 (show 2 < 4 by decide) (by omega) (by omega) (by omega) (by omega)
      have m21 := mKeep e19 (by omega)
      have m22 := many6 e19 (show 0 ≠ 2 by decide)
      have w23 := wm_shelf hw20 (show 0 < 4 by decide) v5 (by omega) (by omega)
      refine wf_bnd (fun s24 e25 => ?_)
      have hw26 : WM s24 := by rw [e25]; exact wmRs hw20 (show 2 < 4 by decide) (by omega) (by omega) (by omega) (by omega)
      have m27 := mKeep e25 (by omega)
      have m28 := many6 e25 (show 0 ≠ 2 by decide)
      refine wf_bnd (fun r29 e30 => ?_)
      have hw31 : WM r29.2 := by rw [e30]; exact wX5_holdingBehind v1 hw26 (by omega)
      have hbe30 := hbB hw31 e30
      have hme30 := hbm e30
      refine wf_ite (fun c32 => ?_) (fun c32 => ?_)
      · have i35 := leI c32
        have a33 := addI (x := v6) (y := 1) (by omega) (by omega)
        exact ih v1 v3 v4 v5 (v6 + 1) r29.2 hw31 (by omega) (by omega) (by omega) (by omega)
      · have i36 := nleI c32
        have a34 := addI (x := v6) (y := 1) (by omega) (by omega)
        exact ih v1 (fX5_bits r29.1) ((10 * v5) + v6) v5 (v6 + 1) r29.2 hw31 (by omega) (by omega) (by omega) (by omega)
def PLX5_swap_46 : Int32 × sg → Prop := fun r => (WM r.2) ∧ True
set_option maxRecDepth 100000 in
set_option maxHeartbeats 4000000 in
theorem wLX5_swap_46 : ∀ (k : Nat) (v1 v3 v4 v5 : Int32) (σ : sg) (hw : WM σ) (hv5 : 0 ≤ v5.toInt ∧ v5.toInt ≤ 8) (hnv1 : v1.toInt ≤ 100) (hmu : (8 - v5.toInt).toNat < k), PLX5_swap_46 (LX5_swap_46 k v1 v3 v4 v5 σ) := by
  intro k
  induction k with
  | zero => intro v1 v3 v4 v5 σ hw hv5 hnv1 hmu; exact absurd hmu (Nat.not_lt_zero _)
  | succ k ih =>
    intro v1 v3 v4 v5 σ hw hv5 hnv1 hmu
    have k0 : (0 : Int32).toInt = 0 := rfl
    have k1 : (1 : Int32).toInt = 1 := rfl
    rw [show LX5_swap_46 (k + 1) v1 v3 v4 v5 σ = _ from LX5_swap_46.eq_2 ..]
    have w8 := wm_many hw (show 0 < 4 by decide)
    refine wf_ite (fun c9 => ?_) (fun c9 => ?_)
    · have i43 := leI c9
      exact ⟨hw, trivial⟩
    · have i44 := nleI c9
      have a39 := addI (x := v5) (y := 1) (by omega) (by omega)
      refine wf_bnd (fun r40 e41 => ?_)
      obtain ⟨hw42, _⟩ := (show PLX5_swap_63 r40 from by rw [e41]; exact wLX5_swap_63 9 v1 v3 v4 v5 (v5 + 1) σ hw (by omega) (by omega) (by omega) (by omega))
      exact ih v1 r40.1 r40.2.1 (v5 + 1) r40.2.2 hw42 (by omega) (by omega) (by omega)
set_option maxRecDepth 100000 in
set_option maxHeartbeats 4000000 in
theorem wX5_swap (v1 : Int32) {σ : sg} (hw : WM σ) : WMi (fX5_swap v1 σ) := by
  have km1 : ((-1) : Int32).toInt = -1 := rfl
  have k0 : (0 : Int32).toInt = 0 := rfl
  have k3 : (3 : Int32).toInt = 3 := rfl
  rw [show fX5_swap v1 σ = _ from fX5_swap.eq_1 ..]
  have lr := lkR (fX5_isAhead v1) v1 σ
  refine wf_ite (fun c1 => ?_) (fun c1 => ?_)
  · have i57 := ltI c1
    have b58 := lkA_t c1
    refine wf_bnd (fun r2 e3 => ?_)
    have hw4 : WM r2 := by rw [e3]; exact wX5_row 0 (by decide) 2 (by decide) hw (by omega)
    have me3 := row0 (show 0 ≠ 2 by decide) e3
    refine wf_bnd (fun r5 e6 => ?_)
    have hw7 : WM r5.2 := by rw [e6]; exact wX5_holdingBehind v1 hw4 (by omega)
    have hbe6 := hbB hw7 e6
    have hme6 := hbm e6
    refine wf_bnd (fun r45 e46 => ?_)
    obtain ⟨hw47, _⟩ := (show PLX5_swap_46 r45 from by rw [e46]; exact wLX5_swap_46 9 v1 (fX5_bits r5.1) (-1) 0 r5.2 hw7 (by omega) (by omega) (by omega))
    refine wf_ite (fun c48 => ?_) (fun c48 => ?_)
    · have i52 := leI c48
      exact hw47
    · have i53 := nleI c48
      refine wf_bnd (fun r49 e50 => ?_)
      have hw51 : WM r49.2 := by rw [e50]; exact wX5_finding 3 hw47 (by omega)
      exact hw51
  · have i59 := nltI c1
    refine wf_bnd (fun r54 e55 => ?_)
    have hw56 : WM r54.2 := by rw [e55]; exact wX5_finding (fX5_lacks (fX5_isAhead v1) v1 σ) hw (by omega)
    exact hw56
def PLX5_law_49 : sg → Prop := fun r => (WM r) ∧ True
set_option maxRecDepth 100000 in
set_option maxHeartbeats 4000000 in
theorem wLX5_law_49 : ∀ (k : Nat) (v1 v3 v4 v5 v6 : Int32) (σ : sg) (hw : WM σ) (hv6 : 0 ≤ v6.toInt ∧ v6.toInt ≤ 8) (hmu : (8 - v6.toInt).toNat < k), PLX5_law_49 (LX5_law_49 k v1 v3 v4 v5 v6 σ) := by
  intro k
  induction k with
  | zero => intro v1 v3 v4 v5 v6 σ hw hv6 hmu; exact absurd hmu (Nat.not_lt_zero _)
  | succ k ih =>
    intro v1 v3 v4 v5 v6 σ hw hv6 hmu
    have k0 : (0 : Int32).toInt = 0 := rfl
    have k1 : (1 : Int32).toInt = 1 := rfl
    have k32 : (32 : Int32).toInt = 32 := rfl
    rw [show LX5_law_49 (k + 1) v1 v3 v4 v5 v6 σ = _ from LX5_law_49.eq_2 ..]
    have w6 := wm_many hw (show 0 < 4 by decide)
    refine wf_ite (fun c7 => ?_) (fun c7 => ?_)
    · have i15 := leI c7
      exact ⟨hw, trivial⟩
    · have i16 := nleI c7
      have a8 := addI (x := 32) (y := v6) (by omega) (by omega)
      refine wf_bnd (fun s9 e10 => ?_)
      have hw11 : WM s9 := by rw [e10]; exact wmRn hw (by decide) (by omega) (by omega) (by omega) (by omega)
      have m12 := mKeep e10 (by omega)
      have m13 := many6 e10 (show 0 ≠ 2 by decide)
      have a14 := addI (x := v6) (y := 1) (by omega) (by omega)
      exact ih v1 v3 v4 v5 (v6 + 1) s9 hw11 (by omega) (by omega)
def PLX5_law_28 : Int32 × sg → Prop := fun r => (WM r.2) ∧ True
set_option maxRecDepth 100000 in
set_option maxHeartbeats 4000000 in
theorem wLX5_law_28 : ∀ (k : Nat) (v1 v3 v4 v5 : Int32) (σ : sg) (hw : WM σ) (hv5 : 0 ≤ v5.toInt ∧ v5.toInt ≤ 7) (hnv1 : v1.toInt ≤ 100) (hmu : (7 - v5.toInt).toNat < k), PLX5_law_28 (LX5_law_28 k v1 v3 v4 v5 σ) := by
  intro k
  induction k with
  | zero => intro v1 v3 v4 v5 σ hw hv5 hnv1 hmu; exact absurd hmu (Nat.not_lt_zero _)
  | succ k ih =>
    intro v1 v3 v4 v5 σ hw hv5 hnv1 hmu
    have k0 : (0 : Int32).toInt = 0 := rfl
    have k1 : (1 : Int32).toInt = 1 := rfl
    have k7 : (7 : Int32).toInt = 7 := rfl
    rw [show LX5_law_28 (k + 1) v1 v3 v4 v5 σ = _ from LX5_law_28.eq_2 ..]
    refine wf_ite (fun c2 => ?_) (fun c2 => ?_)
    · have i28 := leI c2
      exact ⟨hw, trivial⟩
    · have i29 := nleI c2
      refine wf_bnd (fun r3 e4 => ?_)
      have hw5 : WM r3 := by rw [e4]; exact wX5_row 0 (by decide) 2 (by decide) hw (by omega)
      have me4 := row0 (show 0 ≠ 2 by decide) e4
      refine wf_bnd (fun r17 e18 => ?_)
      obtain ⟨hw19, _⟩ := (show PLX5_law_49 r17 from by rw [e18]; exact wLX5_law_49 9 v1 v3 v4 v5 0 r3 hw5 (by omega) (by omega))
      refine wf_bnd (fun r20 e21 => ?_)
      have hw22 : WM r20.2 := by rw [e21]; exact wX5_holdingBehind v1 hw19 (by omega)
      have hbe21 := hbB hw22 e21
      have hme21 := hbm e21
      refine wf_ite (fun c23 => ?_) (fun c23 => ?_)
      · have i26 := leI c23
        have a24 := addI (x := v5) (y := 1) (by omega) (by omega)
        exact ih v1 v3 v4 (v5 + 1) r20.2 hw22 (by omega) (by omega) (by omega)
      · have i27 := nleI c23
        have a25 := addI (x := v5) (y := 1) (by omega) (by omega)
        exact ih v1 v5 (fX5_bits r20.1) (v5 + 1) r20.2 hw22 (by omega) (by omega) (by omega)
set_option maxRecDepth 100000 in
set_option maxHeartbeats 4000000 in
theorem wX5_law (v1 : Int32) {σ : sg} (hw : WM σ) : WMi (fX5_law v1 σ) := by
  have km1 : ((-1) : Int32).toInt = -1 := rfl
  have k0 : (0 : Int32).toInt = 0 := rfl
  rw [show fX5_law v1 σ = _ from fX5_law.eq_1 ..]
  have lr := lkR (fX5_isAhead v1) v1 σ
  refine wf_ite (fun c1 => ?_) (fun c1 => ?_)
  · have i36 := ltI c1
    have b37 := lkA_t c1
    refine wf_bnd (fun r30 e31 => ?_)
    obtain ⟨hw32, _⟩ := (show PLX5_law_28 r30 from by rw [e31]; exact wLX5_law_28 8 v1 0 (-1) 0 σ hw (by omega) (by omega) (by omega))
    exact hw32
  · have i38 := nltI c1
    refine wf_bnd (fun r33 e34 => ?_)
    have hw35 : WM r33.2 := by rw [e34]; exact wX5_finding (fX5_lacks (fX5_isAhead v1) v1 σ) hw (by omega)
    exact hw35
def PLX5_holdingWith_13 : sg → Prop := fun r => (WM r) ∧ True
set_option maxRecDepth 100000 in
set_option maxHeartbeats 4000000 in
theorem wLX5_holdingWith_13 : ∀ (k : Nat) (v1 v2 v3 : Int32) (σ : sg) (hw : WM σ) (hv3 : 0 ≤ v3.toInt ∧ v3.toInt ≤ 6) (hmu : (6 - v3.toInt).toNat < k), PLX5_holdingWith_13 (LX5_holdingWith_13 k v1 v2 v3 σ) := by
  intro k
  induction k with
  | zero => intro v1 v2 v3 σ hw hv3 hmu; exact absurd hmu (Nat.not_lt_zero _)
  | succ k ih =>
    intro v1 v2 v3 σ hw hv3 hmu
    have k0 : (0 : Int32).toInt = 0 := rfl
    have k1 : (1 : Int32).toInt = 1 := rfl
    have k4 : (4 : Int32).toInt = 4 := rfl
    have k6 : (6 : Int32).toInt = 6 := rfl
    rw [show LX5_holdingWith_13 (k + 1) v1 v2 v3 σ = _ from LX5_holdingWith_13.eq_2 ..]
    refine wf_ite (fun c4 => ?_) (fun c4 => ?_)
    · have i22 := leI c4
      exact ⟨hw, trivial⟩
    · have i23 := nleI c4
      refine wf_ite (fun c5 => ?_) (fun c5 => ?_)
      · have i21 := eqI c5
        have a13 := addI (x := 4) (y := v3) (by omega) (by omega)
        refine wf_bnd (fun s14 e15 => ?_)
        have hw16 : WM s14 := by rw [e15]; exact wmRn hw (by decide) (by omega) (by omega) (by omega) (by omega)
        have m17 := mKeep e15 (by omega)
        have m18 := many6 e15 (show 0 ≠ 2 by decide)
        have a19 := addI (x := v3) (y := 1) (by omega) (by omega)
        exact ih v1 v2 (v3 + 1) s14 hw16 (by omega) (by omega)
      · have i20 := neI c5
        have a6 := addI (x := 4) (y := v3) (by omega) (by omega)
        refine wf_bnd (fun s7 e8 => ?_)
        have hw9 : WM s7 := by rw [e8]; exact wmRn hw (by decide) (by omega) (by omega) (by omega) (by omega)
        have m10 := mKeep e8 (by omega)
        have m11 := many6 e8 (show 0 ≠ 2 by decide)
        have a12 := addI (x := v3) (y := 1) (by omega) (by omega)
        exact ih v1 v2 (v3 + 1) s7 hw9 (by omega) (by omega)
set_option maxRecDepth 100000 in
set_option maxHeartbeats 4000000 in
theorem wX5_holdingWith (v1 : Int32) (v2 : Int32) {σ : sg} (hw : WM σ) (hn : v2.toInt ≤ 100) : WMi (fX5_holdingWith v1 v2 σ) := by
  have k0 : (0 : Int32).toInt = 0 := rfl
  rw [show fX5_holdingWith v1 v2 σ = _ from fX5_holdingWith.eq_1 ..]
  refine wf_bnd (fun r1 e2 => ?_)
  have hw3 : WM r1 := by rw [e2]; exact wX5_row 0 (by decide) 2 (by decide) hw (by omega)
  have me2 := row0 (show 0 ≠ 2 by decide) e2
  refine wf_bnd (fun r24 e25 => ?_)
  obtain ⟨hw26, _⟩ := (show PLX5_holdingWith_13 r24 from by rw [e25]; exact wLX5_holdingWith_13 7 v1 v2 0 r1 hw3 (by omega) (by omega))
  refine wf_bnd (fun r27 e28 => ?_)
  have hw29 : WM r27.2 := by rw [e28]; exact wX5_holdingBehind v2 hw26 (by omega)
  have hbe28 := hbB hw29 e28
  have hme28 := hbm e28
  exact hw29
def PLX5_worstOf_12 : Int32 × sg → Prop := fun r => (WM r.2) ∧ True
set_option maxRecDepth 100000 in
set_option maxHeartbeats 4000000 in
theorem wLX5_worstOf_12 : ∀ (k : Nat) (v1 v2 v3 v4 v5 : Int32) (σ : sg) (hw : WM σ) (hv5 : 0 ≤ v5.toInt ∧ v5.toInt ≤ 64) (hnv3 : v3.toInt ≤ 100) (hmu : (64 - v5.toInt).toNat < k), PLX5_worstOf_12 (LX5_worstOf_12 k v1 v2 v3 v4 v5 σ) := by
  intro k
  induction k with
  | zero => intro v1 v2 v3 v4 v5 σ hw hv5 hnv3 hmu; exact absurd hmu (Nat.not_lt_zero _)
  | succ k ih =>
    intro v1 v2 v3 v4 v5 σ hw hv5 hnv3 hmu
    have km1 : ((-1) : Int32).toInt = -1 := rfl
    have k0 : (0 : Int32).toInt = 0 := rfl
    have k1 : (1 : Int32).toInt = 1 := rfl
    have k64 : (64 : Int32).toInt = 64 := rfl
    rw [show LX5_worstOf_12 (k + 1) v1 v2 v3 v4 v5 σ = _ from LX5_worstOf_12.eq_2 ..]
    refine wf_ite (fun c4 => ?_) (fun c4 => ?_)
    · have i24 := leI c4
      exact ⟨hw, trivial⟩
    · have i25 := nleI c4
      refine wf_ite (fun c5 => ?_) (fun c5 => ?_)
      · have i23 := eqI c5
        refine wf_ite (fun c7 => ?_) (fun c7 => ?_)
        · have i21 := eqI c7
          refine wf_bnd (fun r9 e10 => ?_)
          have hw11 : WM r9.2 := by rw [e10]; exact wX5_holdingWith v5 v3 hw (by omega)
          have hbe10 := hwB hw11 e10
          refine wf_ite (fun c12 => ?_) (fun c12 => ?_)
          · have i18 := leI c12
            have a13 := addI (x := v5) (y := 1) (by omega) (by omega)
            exact ih v1 v2 v3 v4 (v5 + 1) r9.2 hw11 (by omega) (by omega) (by omega)
          · have i19 := nleI c12
            refine wf_bnd (fun s14 e15 => ?_)
            have hw16 : WM s14 := by rw [e15]; exact wmF hw11 (by omega)
            have a17 := addI (x := v5) (y := 1) (by omega) (by omega)
            exact ih v1 v2 v3 v5 (v5 + 1) s14 hw16 (by omega) (by omega) (by omega)
        · have i20 := neI c7
          have a8 := addI (x := v5) (y := 1) (by omega) (by omega)
          exact ih v1 v2 v3 v4 (v5 + 1) σ hw (by omega) (by omega) (by omega)
      · have i22 := neI c5
        have a6 := addI (x := v5) (y := 1) (by omega) (by omega)
        exact ih v1 v2 v3 v4 (v5 + 1) σ hw (by omega) (by omega) (by omega)
set_option maxRecDepth 100000 in
set_option maxHeartbeats 4000000 in
theorem wX5_worstOf (v1 : Int32) (v2 : Int32) (v3 : Int32) {σ : sg} (hw : WM σ) (hn : v3.toInt ≤ 100) : WMi (fX5_worstOf v1 v2 v3 σ) := by
  have km1 : ((-1) : Int32).toInt = -1 := rfl
  have k0 : (0 : Int32).toInt = 0 := rfl
  have k9 : (9 : Int32).toInt = 9 := rfl
  rw [show fX5_worstOf v1 v2 v3 σ = _ from fX5_worstOf.eq_1 ..]
  refine wf_bnd (fun s1 e2 => ?_)
  have hw3 : WM s1 := by rw [e2]; exact wmF hw (by omega)
  refine wf_bnd (fun r26 e27 => ?_)
  obtain ⟨hw28, _⟩ := (show PLX5_worstOf_12 r26 from by rw [e27]; exact wLX5_worstOf_12 65 v1 v2 v3 (-1) 0 s1 hw3 (by omega) (by omega) (by omega))
  exact hw28
set_option maxRecDepth 100000 in
set_option maxHeartbeats 4000000 in
theorem wX5_enemy (v1 : Int32) (v2 : Int32) {σ : sg} (hw : WM σ) : WMi (fX5_enemy v1 v2 σ) := by
  have k0 : (0 : Int32).toInt = 0 := rfl
  have k1 : (1 : Int32).toInt = 1 := rfl
  have k3 : (3 : Int32).toInt = 3 := rfl
  have k6 : (6 : Int32).toInt = 6 := rfl
  rw [show fX5_enemy v1 v2 σ = _ from fX5_enemy.eq_1 ..]
  refine wf_ite (fun c1 => ?_) (fun c1 => ?_)
  · have i27 := eqI c1
    have lr := lkR 0 v2 σ
    have lz := lkZ v2 σ
    refine wf_bnd (fun r2 e3 => ?_)
    have hw4 : WM r2.2 := by rw [e3]; exact wX5_finding (fX5_lacks 0 v2 σ) hw (by omega)
    exact hw4
  · have i28 := neI c1
    have b29 := wi_t c1
    refine wf_ite (fun c5 => ?_) (fun c5 => ?_)
    · have i24 := eqI c5
      have lr := lkR 0 v2 σ
      have lz := lkZ v2 σ
      refine wf_bnd (fun r6 e7 => ?_)
      have hw8 : WM r6.2 := by rw [e7]; exact wX5_finding (fX5_lacks 0 v2 σ) hw (by omega)
      exact hw8
    · have i25 := neI c5
      have b26 := wiA_t c5
      have lr := lkR 1 v2 σ
      refine wf_ite (fun c9 => ?_) (fun c9 => ?_)
      · have i22 := ltI c9
        refine wf_bnd (fun r10 e11 => ?_)
        have hw12 : WM r10.2 := by rw [e11]; exact wX5_worstOf (fX5_shut σ) v1 v2 hw (by omega)
        refine wf_ite (fun c13 => ?_) (fun c13 => ?_)
        · have i17 := leI c13
          exact hw12
        · have i18 := nleI c13
          refine wf_bnd (fun r14 e15 => ?_)
          have hw16 : WM r14.2 := by rw [e15]; exact wX5_finding 3 hw12 (by omega)
          exact hw16
      · have i23 := nltI c9
        refine wf_bnd (fun r19 e20 => ?_)
        have hw21 : WM r19.2 := by rw [e20]; exact wX5_finding (fX5_lacks 1 v2 σ) hw (by omega)
        exact hw21
set_option maxRecDepth 100000 in
set_option maxHeartbeats 4000000 in
theorem wX5_worst (v1 : Int32) (v2 : Int32) {σ : sg} (hw : WM σ) : WMi (fX5_worst v1 v2 σ) := by
  have k0 : (0 : Int32).toInt = 0 := rfl
  have k1 : (1 : Int32).toInt = 1 := rfl
  have k3 : (3 : Int32).toInt = 3 := rfl
  have k6 : (6 : Int32).toInt = 6 := rfl
  rw [show fX5_worst v1 v2 σ = _ from fX5_worst.eq_1 ..]
  refine wf_ite (fun c1 => ?_) (fun c1 => ?_)
  · have i27 := eqI c1
    have lr := lkR 0 v2 σ
    have lz := lkZ v2 σ
    refine wf_bnd (fun r2 e3 => ?_)
    have hw4 : WM r2.2 := by rw [e3]; exact wX5_finding (fX5_lacks 0 v2 σ) hw (by omega)
    exact hw4
  · have i28 := neI c1
    have b29 := wi_t c1
    refine wf_ite (fun c5 => ?_) (fun c5 => ?_)
    · have i24 := eqI c5
      have lr := lkR 0 v2 σ
      have lz := lkZ v2 σ
      refine wf_bnd (fun r6 e7 => ?_)
      have hw8 : WM r6.2 := by rw [e7]; exact wX5_finding (fX5_lacks 0 v2 σ) hw (by omega)
      exact hw8
    · have i25 := neI c5
      have b26 := wiA_t c5
      have lr := lkR 1 v2 σ
      refine wf_ite (fun c9 => ?_) (fun c9 => ?_)
      · have i22 := ltI c9
        refine wf_bnd (fun r10 e11 => ?_)
        have hw12 : WM r10.2 := by rw [e11]; exact wX5_worstOf (fX5_shut σ) v1 v2 hw (by omega)
        refine wf_ite (fun c13 => ?_) (fun c13 => ?_)
        · have i17 := leI c13
          exact hw12
        · have i18 := nleI c13
          refine wf_bnd (fun r14 e15 => ?_)
          have hw16 : WM r14.2 := by rw [e15]; exact wX5_finding 3 hw12 (by omega)
          exact hw16
      · have i23 := nltI c9
        refine wf_bnd (fun r19 e20 => ?_)
        have hw21 : WM r19.2 := by rw [e20]; exact wX5_finding (fX5_lacks 1 v2 σ) hw (by omega)
        exact hw21
def PLX5_least_43 : Int32 × sg → Prop := fun r => (WM r.2) ∧ True
set_option maxRecDepth 100000 in
set_option maxHeartbeats 4000000 in
theorem wLX5_least_43 : ∀ (k : Nat) (v1 v2 v4 v5 : Int32) (σ : sg) (hw : WM σ) (hv5 : 0 ≤ v5.toInt ∧ v5.toInt ≤ 64) (hnv2 : v2.toInt ≤ 100) (hmu : (64 - v5.toInt).toNat < k), PLX5_least_43 (LX5_least_43 k v1 v2 v4 v5 σ) := by
  intro k
  induction k with
  | zero => intro v1 v2 v4 v5 σ hw hv5 hnv2 hmu; exact absurd hmu (Nat.not_lt_zero _)
  | succ k ih =>
    intro v1 v2 v4 v5 σ hw hv5 hnv2 hmu
    have km1 : ((-1) : Int32).toInt = -1 := rfl
    have k0 : (0 : Int32).toInt = 0 := rfl
    have k1 : (1 : Int32).toInt = 1 := rfl
    have k64 : (64 : Int32).toInt = 64 := rfl
    rw [show LX5_least_43 (k + 1) v1 v2 v4 v5 σ = _ from LX5_least_43.eq_2 ..]
    refine wf_ite (fun c10 => ?_) (fun c10 => ?_)
    · have i27 := leI c10
      exact ⟨hw, trivial⟩
    · have i28 := nleI c10
      refine wf_ite (fun c11 => ?_) (fun c11 => ?_)
      · have i26 := eqI c11
        refine wf_ite (fun c13 => ?_) (fun c13 => ?_)
        · have i23 := leI c13
          have a14 := addI (x := v5) (y := 1) (by omega) (by omega)
          exact ih v1 v2 v4 (v5 + 1) σ hw (by omega) (by omega) (by omega)
        · have i24 := nleI c13
          refine wf_bnd (fun r15 e16 => ?_)
          have hw17 : WM r15.2 := by rw [e16]; exact wX5_holdingWith v5 v2 hw (by omega)
          have hbe16 := hwB hw17 e16
          refine wf_ite (fun c18 => ?_) (fun c18 => ?_)
          · have i22 := eqI c18
            have a20 := addI (x := v5) (y := 1) (by omega) (by omega)
            exact ih v1 v2 (fX5_bits v5) (v5 + 1) r15.2 hw17 (by omega) (by omega) (by omega)
          · have i21 := neI c18
            have a19 := addI (x := v5) (y := 1) (by omega) (by omega)
            exact ih v1 v2 v4 (v5 + 1) r15.2 hw17 (by omega) (by omega) (by omega)
      · have i25 := neI c11
        have a12 := addI (x := v5) (y := 1) (by omega) (by omega)
        exact ih v1 v2 v4 (v5 + 1) σ hw (by omega) (by omega) (by omega)
set_option maxRecDepth 100000 in
set_option maxHeartbeats 4000000 in
theorem wX5_least (v1 : Int32) (v2 : Int32) {σ : sg} (hw : WM σ) : WMi (fX5_least v1 v2 σ) := by
  have k0 : (0 : Int32).toInt = 0 := rfl
  have k1 : (1 : Int32).toInt = 1 := rfl
  have k3 : (3 : Int32).toInt = 3 := rfl
  have k6 : (6 : Int32).toInt = 6 := rfl
  have k7 : (7 : Int32).toInt = 7 := rfl
  rw [show fX5_least v1 v2 σ = _ from fX5_least.eq_1 ..]
  refine wf_ite (fun c1 => ?_) (fun c1 => ?_)
  · have i46 := eqI c1
    have lr := lkR 0 v2 σ
    have lz := lkZ v2 σ
    refine wf_bnd (fun r2 e3 => ?_)
    have hw4 : WM r2.2 := by rw [e3]; exact wX5_finding (fX5_lacks 0 v2 σ) hw (by omega)
    exact hw4
  · have i47 := neI c1
    have b48 := wiD_t hw c1
    refine wf_ite (fun c5 => ?_) (fun c5 => ?_)
    · have i43 := eqI c5
      have lr := lkR 0 v2 σ
      have lz := lkZ v2 σ
      refine wf_bnd (fun r6 e7 => ?_)
      have hw8 : WM r6.2 := by rw [e7]; exact wX5_finding (fX5_lacks 0 v2 σ) hw (by omega)
      exact hw8
    · have i44 := neI c5
      have b45 := wiA_t c5
      have lr := lkR 1 v2 σ
      refine wf_ite (fun c9 => ?_) (fun c9 => ?_)
      · have i41 := ltI c9
        refine wf_bnd (fun r29 e30 => ?_)
        obtain ⟨hw31, _⟩ := (show PLX5_least_43 r29 from by rw [e30]; exact wLX5_least_43 65 v1 v2 7 0 σ hw (by omega) (by omega) (by omega))
        refine wf_ite (fun c32 => ?_) (fun c32 => ?_)
        · have i36 := leI c32
          exact hw31
        · have i37 := nleI c32
          refine wf_bnd (fun r33 e34 => ?_)
          have hw35 : WM r33.2 := by rw [e34]; exact wX5_finding 3 hw31 (by omega)
          exact hw35
      · have i42 := nltI c9
        refine wf_bnd (fun r38 e39 => ?_)
        have hw40 : WM r38.2 := by rw [e39]; exact wX5_finding (fX5_lacks 1 v2 σ) hw (by omega)
        exact hw40
def PLX5_nail_28 : Int32 × sg → Prop := fun r => (WM r.2) ∧ True
set_option maxRecDepth 100000 in
set_option maxHeartbeats 4000000 in
theorem wLX5_nail_28 : ∀ (k : Nat) (v1 v3 v4 v5 : Int32) (σ : sg) (hw : WM σ) (hv5 : 0 ≤ v5.toInt ∧ v5.toInt ≤ 6) (hnv1 : v1.toInt ≤ 100) (hmu : (6 - v5.toInt).toNat < k), PLX5_nail_28 (LX5_nail_28 k v1 v3 v4 v5 σ) := by
  intro k
  induction k with
  | zero => intro v1 v3 v4 v5 σ hw hv5 hnv1 hmu; exact absurd hmu (Nat.not_lt_zero _)
  | succ k ih =>
    intro v1 v3 v4 v5 σ hw hv5 hnv1 hmu
    have km1 : ((-1) : Int32).toInt = -1 := rfl
    have k0 : (0 : Int32).toInt = 0 := rfl
    have k1 : (1 : Int32).toInt = 1 := rfl
    have k6 : (6 : Int32).toInt = 6 := rfl
    rw [show LX5_nail_28 (k + 1) v1 v3 v4 v5 σ = _ from LX5_nail_28.eq_2 ..]
    refine wf_ite (fun c2 => ?_) (fun c2 => ?_)
    · have i26 := leI c2
      exact ⟨hw, trivial⟩
    · have i27 := nleI c2
      refine wf_ite (fun c3 => ?_) (fun c3 => ?_)
      · have i25 := eqI c3
        refine wf_ite (fun c5 => ?_) (fun c5 => ?_)
        · have i23 := eqI c5
          refine wf_bnd (fun r14 e15 => ?_)
          have hw16 : WM r14.2 := by rw [e15]; exact wX5_worstOf ((fX5_shut σ) &&& ((jshl 1 v5) ^^^ (-1))) 0 v1 hw (by omega)
          refine wf_ite (fun c17 => ?_) (fun c17 => ?_)
          · have i20 := leI c17
            have a18 := addI (x := v5) (y := 1) (by omega) (by omega)
            exact ih v1 v3 v4 (v5 + 1) r14.2 hw16 (by omega) (by omega) (by omega)
          · have i21 := nleI c17
            have a19 := addI (x := v5) (y := 1) (by omega) (by omega)
            exact ih v1 v5 (rF r14.2 2) (v5 + 1) r14.2 hw16 (by omega) (by omega) (by omega)
        · have i22 := neI c5
          refine wf_bnd (fun r6 e7 => ?_)
          have hw8 : WM r6.2 := by rw [e7]; exact wX5_worstOf ((fX5_shut σ) &&& ((jshl 1 v5) ^^^ (-1))) 1 v1 hw (by omega)
          refine wf_ite (fun c9 => ?_) (fun c9 => ?_)
          · have i12 := leI c9
            have a10 := addI (x := v5) (y := 1) (by omega) (by omega)
            exact ih v1 v3 v4 (v5 + 1) r6.2 hw8 (by omega) (by omega) (by omega)
          · have i13 := nleI c9
            have a11 := addI (x := v5) (y := 1) (by omega) (by omega)
            exact ih v1 v5 (rF r6.2 2) (v5 + 1) r6.2 hw8 (by omega) (by omega) (by omega)
      · have i24 := neI c3
        have a4 := addI (x := v5) (y := 1) (by omega) (by omega)
        exact ih v1 v3 v4 (v5 + 1) σ hw (by omega) (by omega) (by omega)
set_option maxRecDepth 100000 in
set_option maxHeartbeats 4000000 in
theorem wX5_nail (v1 : Int32) {σ : sg} (hw : WM σ) : WMi (fX5_nail v1 σ) := by
  have km1 : ((-1) : Int32).toInt = -1 := rfl
  have k0 : (0 : Int32).toInt = 0 := rfl
  have k3 : (3 : Int32).toInt = 3 := rfl
  rw [show fX5_nail v1 σ = _ from fX5_nail.eq_1 ..]
  have lr := lkR (fX5_isAhead v1) v1 σ
  refine wf_ite (fun c1 => ?_) (fun c1 => ?_)
  · have i40 := ltI c1
    have b41 := lkA_t c1
    refine wf_bnd (fun r28 e29 => ?_)
    obtain ⟨hw30, _⟩ := (show PLX5_nail_28 r28 from by rw [e29]; exact wLX5_nail_28 7 v1 (-1) (-1) 0 σ hw (by omega) (by omega) (by omega))
    refine wf_ite (fun c31 => ?_) (fun c31 => ?_)
    · have i35 := leI c31
      exact hw30
    · have i36 := nleI c31
      refine wf_bnd (fun r32 e33 => ?_)
      have hw34 : WM r32.2 := by rw [e33]; exact wX5_finding 3 hw30 (by omega)
      exact hw34
  · have i42 := nltI c1
    refine wf_bnd (fun r37 e38 => ?_)
    have hw39 : WM r37.2 := by rw [e38]; exact wX5_finding (fX5_lacks (fX5_isAhead v1) v1 σ) hw (by omega)
    exact hw39
theorem hdV_X5_ice : yX5_ice.cls = RX5 ∧ yX5_ice.cls ≠ "java/lang/invoke/MethodHandle" ∧ yX5_ice.cls ≠ "java/lang/invoke/VarHandle" ∧ (parseMethodDescriptor yX5_ice.desc).map (fun d => d.parameters.length) = some 2 := by decide +kernel
theorem mX5_ice_f9 : Cond.fieldLink RX5 9 "WaxTreatiesModel" "now" "[I" ∈ wsX5_ice := List.mem_of_getElem? (i := 1) rfl
theorem iwX5_ice_X5 : ∀ w ∈ wsX50, w ∈ wsX5_ice := fun w h => List.mem_cons_of_mem _ (List.mem_append_right _ h)
theorem mX5_ice_f16 : Cond.fieldLink RX5 16 "WaxTreatiesModel" "tried" "[I" ∈ wsX5_ice := List.mem_of_getElem? (i := 2) rfl
set_option maxRecDepth 100000 in
set_option maxHeartbeats 4000000 in
theorem lX5_ice_47 {p : Program} (l : Launch) {e : Env} {s : State} {m : MethodId} {args : Array Value} {below : List Frame} {meth : Method} {c : Code} {Q : State → Prop} {G : gT} (hN : wN G) (hG : gfl G = false) (K : qK p s m args meth c cX5_ice 8 RX5 wsX5_ice G) : ∀ (k : Nat) (v1 v2 v4 v5 v6 : Int32) (σ : sg) (hw : WM σ) (hv6 : 0 ≤ v6.toInt ∧ v6.toInt ≤ 6) (hnv2 : v2.toInt ≤ 100) (hmu : (6 - v6.toInt).toNat < k) {ρ : Type} {E : ρ → Prop} {f : Int32 × sg → ρ} (hk : ∀ r : Int32 × sg, (WM r.2) → qq p l e (headSpec wsX5_ice rmX5_ice).room s m args below meth c Q 8 G E (f r) 106 [none, none, none, none, some (.int r.1), none, none, none] [] r.2), qq p l e (headSpec wsX5_ice rmX5_ice).room s m args below meth c Q 8 G E (bnd (LX5_ice_47 k v1 v2 v4 v5 v6 σ) f) 47 [some (.ref (gob G 0)), some (.int v1), some (.int v2), none, some (.int v4), some (.int v5), some (.int v6), none] [] σ := by
  intro k
  induction k with
  | zero => intro v1 v2 v4 v5 v6 σ hw hv6 hnv2 hmu ρ E f hk; exact absurd hmu (Nat.not_lt_zero _)
  | succ k ih =>
    intro v1 v2 v4 v5 v6 σ hw hv6 hnv2 hmu ρ E f hk
    have k0 : (0 : Int32).toInt = 0 := rfl
    have k1 : (1 : Int32).toInt = 1 := rfl
    have k6 : (6 : Int32).toInt = 6 := rfl
    refine qq_in ?_
    refine qq_T (LX5_ice_47.eq_2 ..) ?_
    refine q_iload (pc := 47) K dX5_ice_47 rfl ?_
    refine q_bipush (pc := 49) (v := 6) K dX5_ice_49 (by decide) ?_
    refine q_icmp_ge (pc := 51) (tgt := 106) K dX5_ice_51 (by decide) (fun c10 => ?_) (fun c10 => ?_)
    · have i25 := leI c10
      refine qq_drop 0 (lv' := [none, some (.int v1), some (.int v2), none, some (.int v4), some (.int v5), some (.int v6), none]) rfl ?_
      refine qq_drop 1 (lv' := [none, none, some (.int v2), none, some (.int v4), some (.int v5), some (.int v6), none]) rfl ?_
      refine qq_drop 2 (lv' := [none, none, none, none, some (.int v4), some (.int v5), some (.int v6), none]) rfl ?_
      refine qq_drop 5 (lv' := [none, none, none, none, some (.int v4), none, some (.int v6), none]) rfl ?_
      refine qq_drop 6 (lv' := [none, none, none, none, some (.int v4), none, none, none]) rfl ?_
      exact qq_leaf (hk (v4, σ) hw)
    · have i26 := nleI c10
      refine q_aload_n (pc := 54) K dX5_ice_54 rfl rfl ?_
      refine q_get (pc := 55) (o := 0) (f := 0) (v := .ref (gad G 0)) K (wO_m hG) vw_4 iwX5_ice_X5 (by decide) mX5_ice_f9 rfl dX5_ice_55 ?_
      refine q_aload_n (pc := 58) K dX5_ice_58 rfl rfl ?_
      refine q_get (pc := 59) (o := 0) (f := 2) (v := .ref (gad G 2)) K (wO_m hG) vw_4 iwX5_ice_X5 (by decide) mX5_ice_f16 rfl dX5_ice_59 ?_
      refine q_callSv (pc := 62) (rm := rmX5_row) K (kX5_row l hN hG 0 (by decide) 2 (by decide) σ (by omega)) gX5_ice_X5_row rfl hdS_X5_row ⟨Nat.le_of_ble_eq_true rfl, Nat.le_of_ble_eq_true rfl⟩ rfl rfl ⟨Nat.zero_le _, Nat.zero_le _⟩ rfl rfl (Nat.le_of_ble_eq_true rfl) dX5_ice_62 ?_
      refine qq_nmV (fun r11 e12 => ?_)
      have hw13 : WM r11 := by rw [e12]; exact wX5_row 0 (by decide) 2 (by decide) hw (by omega)
      have me12 := row0 (show 0 ≠ 2 by decide) e12
      refine q_aload_n (pc := 65) K dX5_ice_65 rfl rfl ?_
      refine q_get (pc := 66) (o := 0) (f := 2) (v := .ref (gad G 2)) K (wO_m hG) vw_4 iwX5_ice_X5 (by decide) mX5_ice_f16 rfl dX5_ice_66 ?_
      refine q_iload (pc := 69) K dX5_ice_69 rfl ?_
      refine q_iload_n (pc := 71) K dX5_ice_71 rfl rfl ?_
      refine q_callSv (pc := 72) (rm := rmX5_brings) K (kX5_brings l hN hG 2 (by decide) v6 v1 r11 hw13 (by omega)) gX5_ice_X5_brings rfl hdS_X5_brings ⟨Nat.le_of_ble_eq_true rfl, Nat.le_of_ble_eq_true rfl⟩ rfl rfl ⟨Nat.zero_le _, Nat.zero_le _⟩ rfl rfl (Nat.le_of_ble_eq_true rfl) dX5_ice_72 ?_
      refine qq_nmV (fun r14 e15 => ?_)
      have hw16 : WM r14 := by rw [e15]; exact wX5_brings 2 (by decide) v6 v1 hw13 (by omega)
      have bre15 := brM (b := 0) e15 (by decide)
      refine q_aload_n (pc := 75) K dX5_ice_75 rfl rfl ?_
      refine q_iload_n (pc := 76) K dX5_ice_76 rfl rfl ?_
      refine q_callVi (pc := 77) (o := 0) (rm := rmX5_holdingBehind) K (kX5_holdingBehind l hN hG v2 r14 hw16 (by omega)) gX5_ice_X5_holdingBehind rfl hdV_X5_holdingBehind ⟨Nat.le_of_ble_eq_true rfl, Nat.le_of_ble_eq_true rfl⟩ rfl rfl ⟨Nat.zero_le _, Nat.zero_le _⟩ (wO_m hG) vw_4 rfl rfl (Nat.le_of_ble_eq_true rfl) dX5_ice_77 ?_
      refine qq_nmI (fun r17 e18 => ?_)
      have hw19 : WM r17.2 := by rw [e18]; exact wX5_holdingBehind v2 hw16 (by omega)
      have hbe18 := hbB hw19 e18
      have hme18 := hbm e18
      refine q_callSi (pc := 80) (rm := rmX5_bits) K (kX5_bits l hN r17.1 r17.2 (by omega)) gX5_ice_X5_bits rfl hdS_X5_bits ⟨Nat.le_of_ble_eq_true rfl, Nat.le_of_ble_eq_true rfl⟩ rfl rfl ⟨Nat.zero_le _, Nat.zero_le _⟩ rfl rfl (Nat.le_of_ble_eq_true rfl) dX5_ice_80 ?_
      refine q_istore (pc := 83) (lv' := [some (.ref (gob G 0)), some (.int v1), some (.int v2), none, some (.int v4), some (.int v5), some (.int v6), some (.int (fX5_bits r17.1))]) K dX5_ice_83 (by decide) (Nat.le_of_ble_eq_true rfl) rfl ?_
      refine q_iload (pc := 85) K dX5_ice_85 rfl ?_
      refine q_iload (pc := 87) K dX5_ice_87 rfl ?_
      refine q_icmp_le (pc := 89) (tgt := 100) K dX5_ice_89 (by decide) (fun c20 => ?_) (fun c20 => ?_)
      · have i23 := leI c20
        refine q_iinc (pc := 100) (v := (v6 + 1)) (lv' := [some (.ref (gob G 0)), some (.int v1), some (.int v2), none, some (.int v4), some (.int v5), some (.int (v6 + 1)), some (.int (fX5_bits r17.1))]) K dX5_ice_100 rfl rfl (by decide) rfl ?_
        refine q_goto (pc := 103) (tgt := 47) K dX5_ice_103 (by decide) ?_
        refine qq_drop 7 (lv' := [some (.ref (gob G 0)), some (.int v1), some (.int v2), none, some (.int v4), some (.int v5), some (.int (v6 + 1)), none]) rfl ?_
        have a21 := addI (x := v6) (y := 1) (by omega) (by omega)
        exact qq_out (ih v1 v2 v4 v5 (v6 + 1) r17.2 hw19 (by omega) (by omega) (by omega) hk)
      · have i24 := nleI c20
        refine q_iload (pc := 92) K dX5_ice_92 rfl ?_
        refine q_istore (pc := 94) (lv' := [some (.ref (gob G 0)), some (.int v1), some (.int v2), none, some (.int v6), some (.int v5), some (.int v6), some (.int (fX5_bits r17.1))]) K dX5_ice_94 (by decide) (Nat.le_of_ble_eq_true rfl) rfl ?_
        refine q_iload (pc := 96) K dX5_ice_96 rfl ?_
        refine q_istore (pc := 98) (lv' := [some (.ref (gob G 0)), some (.int v1), some (.int v2), none, some (.int v6), some (.int (fX5_bits r17.1)), some (.int v6), some (.int (fX5_bits r17.1))]) K dX5_ice_98 (by decide) (Nat.le_of_ble_eq_true rfl) rfl ?_
        refine q_iinc (pc := 100) (v := (v6 + 1)) (lv' := [some (.ref (gob G 0)), some (.int v1), some (.int v2), none, some (.int v6), some (.int (fX5_bits r17.1)), some (.int (v6 + 1)), some (.int (fX5_bits r17.1))]) K dX5_ice_100 rfl rfl (by decide) rfl ?_
        refine q_goto (pc := 103) (tgt := 47) K dX5_ice_103 (by decide) ?_
        refine qq_drop 7 (lv' := [some (.ref (gob G 0)), some (.int v1), some (.int v2), none, some (.int v6), some (.int (fX5_bits r17.1)), some (.int (v6 + 1)), none]) rfl ?_
        have a22 := addI (x := v6) (y := 1) (by omega) (by omega)
        exact qq_out (ih v1 v2 v6 (fX5_bits r17.1) (v6 + 1) r17.2 hw19 (by omega) (by omega) (by omega) hk)
set_option maxRecDepth 100000 in
set_option maxHeartbeats 4000000 in
theorem kX5_ice (l : Launch) {G : gT} (hN : wN G) (hG : gfl G = false) (v1 : Int32) (v2 : Int32) (σ : sg) (hw : WM σ) : cM l yX5_ice wsX5_ice rmX5_ice G [.ref (gob G 0), .int v1, .int v2] σ (some (.int (fX5_ice v1 v2 σ).1)) (fX5_ice v1 v2 σ).2 := by
  refine cM_of (maxL := 8) (ret := (some .int)) (cc := cX5_ice) (fX5_ice v1 v2 σ) RX5 hN (by decide +kernel) rfl rfl (Nat.le_of_ble_eq_true rfl) rfl ?_
  intro p e s m args below meth c K hr
  have km1 : ((-1) : Int32).toInt = -1 := rfl
  have k0 : (0 : Int32).toInt = 0 := rfl
  have k1 : (1 : Int32).toInt = 1 := rfl
  have k99 : (99 : Int32).toInt = 99 := rfl
  refine qq_st (lv' := [some (.ref (gob G 0)), some (.int v1), some (.int v2), none, none, none, none, none]) rfl rfl rfl ?_
  refine qq_T (fX5_ice.eq_1 ..) ?_
  refine q_aload_n (pc := 0) K dX5_ice_0 rfl rfl ?_
  refine q_iload_n (pc := 1) K dX5_ice_1 rfl rfl ?_
  refine q_iconst (pc := 2) (v := 1) K dX5_ice_2 (by decide) ?_
  refine q_bipush (pc := 3) (v := 99) K dX5_ice_3 (by decide) ?_
  refine q_callSi (pc := 5) (rm := rmX5_within) K (kX5_within l hN v1 1 99 σ) gX5_ice_X5_within rfl hdS_X5_within ⟨Nat.le_of_ble_eq_true rfl, Nat.le_of_ble_eq_true rfl⟩ rfl rfl ⟨Nat.zero_le _, Nat.zero_le _⟩ rfl rfl (Nat.le_of_ble_eq_true rfl) dX5_ice_5 ?_
  refine q_if_eq (pc := 8) (tgt := 22) K dX5_ice_8 (by decide) (fun c1 => ?_) (fun c1 => ?_)
  · have i38 := eqI c1
    refine q_iconst (pc := 22) (v := 0) K dX5_ice_22 (by decide) ?_
    refine q_iload_n (pc := 23) K dX5_ice_23 rfl rfl ?_
    refine q_callVi (pc := 24) (o := 0) (rm := rmX5_lacks) K (kX5_lacks l hN hG 0 v2 σ hw) gX5_ice_X5_lacks rfl hdV_X5_lacks ⟨Nat.le_of_ble_eq_true rfl, Nat.le_of_ble_eq_true rfl⟩ rfl rfl ⟨Nat.zero_le _, Nat.zero_le _⟩ (wO_m hG) vw_4 rfl rfl (Nat.le_of_ble_eq_true rfl) dX5_ice_24 ?_
    have lr := lkR 0 v2 σ
    have lz := lkZ v2 σ
    refine q_istore_n (pc := 27) (lv' := [some (.ref (gob G 0)), some (.int v1), some (.int v2), some (.int (fX5_lacks 0 v2 σ)), none, none, none, none]) K dX5_ice_27 rfl (by decide) (Nat.le_of_ble_eq_true rfl) rfl ?_
    refine q_iload_n (pc := 28) K dX5_ice_28 rfl rfl ?_
    refine q_if_lt_f (pc := 29) (tgt := 38) K (lk0 _ _) dX5_ice_29 (by decide) ?_
    refine q_aload_n (pc := 32) K dX5_ice_32 rfl rfl ?_
    refine q_iload_n (pc := 33) K dX5_ice_33 rfl rfl ?_
    refine q_callVi (pc := 34) (o := 0) (rm := rmX5_finding) K (kX5_finding l hN hG (fX5_lacks 0 v2 σ) σ hw (by omega)) gX5_ice_X5_finding rfl hdV_X5_finding ⟨Nat.le_of_ble_eq_true rfl, Nat.le_of_ble_eq_true rfl⟩ rfl rfl ⟨Nat.zero_le _, Nat.zero_le _⟩ (wO_m hG) vw_4 rfl rfl (Nat.le_of_ble_eq_true rfl) dX5_ice_34 ?_
    refine qq_nmI (fun r2 e3 => ?_)
    have hw4 : WM r2.2 := by rw [e3]; exact wX5_finding (fX5_lacks 0 v2 σ) hw (by omega)
    exact q_iret K hr dX5_ice_37
  · have i39 := neI c1
    have b40 := wi_t c1
    refine q_iload_n (pc := 11) K dX5_ice_11 rfl rfl ?_
    refine q_callSi (pc := 12) (rm := rmX5_isAhead) K (kX5_isAhead l hN v2 σ) gX5_ice_X5_isAhead rfl hdS_X5_isAhead ⟨Nat.le_of_ble_eq_true rfl, Nat.le_of_ble_eq_true rfl⟩ rfl rfl ⟨Nat.zero_le _, Nat.zero_le _⟩ rfl rfl (Nat.le_of_ble_eq_true rfl) dX5_ice_12 ?_
    refine q_if_eq (pc := 15) (tgt := 22) K dX5_ice_15 (by decide) (fun c5 => ?_) (fun c5 => ?_)
    · have i35 := eqI c5
      refine q_iconst (pc := 22) (v := 0) K dX5_ice_22 (by decide) ?_
      refine q_iload_n (pc := 23) K dX5_ice_23 rfl rfl ?_
      refine q_callVi (pc := 24) (o := 0) (rm := rmX5_lacks) K (kX5_lacks l hN hG 0 v2 σ hw) gX5_ice_X5_lacks rfl hdV_X5_lacks ⟨Nat.le_of_ble_eq_true rfl, Nat.le_of_ble_eq_true rfl⟩ rfl rfl ⟨Nat.zero_le _, Nat.zero_le _⟩ (wO_m hG) vw_4 rfl rfl (Nat.le_of_ble_eq_true rfl) dX5_ice_24 ?_
      have lr := lkR 0 v2 σ
      have lz := lkZ v2 σ
      refine q_istore_n (pc := 27) (lv' := [some (.ref (gob G 0)), some (.int v1), some (.int v2), some (.int (fX5_lacks 0 v2 σ)), none, none, none, none]) K dX5_ice_27 rfl (by decide) (Nat.le_of_ble_eq_true rfl) rfl ?_
      refine q_iload_n (pc := 28) K dX5_ice_28 rfl rfl ?_
      refine q_if_lt_f (pc := 29) (tgt := 38) K (lk0 _ _) dX5_ice_29 (by decide) ?_
      refine q_aload_n (pc := 32) K dX5_ice_32 rfl rfl ?_
      refine q_iload_n (pc := 33) K dX5_ice_33 rfl rfl ?_
      refine q_callVi (pc := 34) (o := 0) (rm := rmX5_finding) K (kX5_finding l hN hG (fX5_lacks 0 v2 σ) σ hw (by omega)) gX5_ice_X5_finding rfl hdV_X5_finding ⟨Nat.le_of_ble_eq_true rfl, Nat.le_of_ble_eq_true rfl⟩ rfl rfl ⟨Nat.zero_le _, Nat.zero_le _⟩ (wO_m hG) vw_4 rfl rfl (Nat.le_of_ble_eq_true rfl) dX5_ice_34 ?_
      refine qq_nmI (fun r6 e7 => ?_)
      have hw8 : WM r6.2 := by rw [e7]; exact wX5_finding (fX5_lacks 0 v2 σ) hw (by omega)
      exact q_iret K hr dX5_ice_37
    · have i36 := neI c5
      have b37 := wiA_t c5
      refine q_iconst (pc := 18) (v := 1) K dX5_ice_18 (by decide) ?_
      refine q_goto (pc := 19) (tgt := 23) K dX5_ice_19 (by decide) ?_
      refine q_iload_n (pc := 23) K dX5_ice_23 rfl rfl ?_
      refine q_callVi (pc := 24) (o := 0) (rm := rmX5_lacks) K (kX5_lacks l hN hG 1 v2 σ hw) gX5_ice_X5_lacks rfl hdV_X5_lacks ⟨Nat.le_of_ble_eq_true rfl, Nat.le_of_ble_eq_true rfl⟩ rfl rfl ⟨Nat.zero_le _, Nat.zero_le _⟩ (wO_m hG) vw_4 rfl rfl (Nat.le_of_ble_eq_true rfl) dX5_ice_24 ?_
      have lr := lkR 1 v2 σ
      refine q_istore_n (pc := 27) (lv' := [some (.ref (gob G 0)), some (.int v1), some (.int v2), some (.int (fX5_lacks 1 v2 σ)), none, none, none, none]) K dX5_ice_27 rfl (by decide) (Nat.le_of_ble_eq_true rfl) rfl ?_
      refine q_iload_n (pc := 28) K dX5_ice_28 rfl rfl ?_
      refine q_if_lt (pc := 29) (tgt := 38) K dX5_ice_29 (by decide) (fun c9 => ?_) (fun c9 => ?_)
      · have i33 := ltI c9
        refine q_iconst (pc := 38) (v := 0) K dX5_ice_38 (by decide) ?_
        refine q_istore (pc := 39) (lv' := [some (.ref (gob G 0)), some (.int v1), some (.int v2), some (.int (fX5_lacks 1 v2 σ)), some (.int 0), none, none, none]) K dX5_ice_39 (by decide) (Nat.le_of_ble_eq_true rfl) rfl ?_
        refine q_iconst (pc := 41) (v := (-1)) K dX5_ice_41 (by decide) ?_
        refine q_istore (pc := 42) (lv' := [some (.ref (gob G 0)), some (.int v1), some (.int v2), some (.int (fX5_lacks 1 v2 σ)), some (.int 0), some (.int (-1)), none, none]) K dX5_ice_42 (by decide) (Nat.le_of_ble_eq_true rfl) rfl ?_
        refine q_iconst (pc := 44) (v := 0) K dX5_ice_44 (by decide) ?_
        refine q_istore (pc := 45) (lv' := [some (.ref (gob G 0)), some (.int v1), some (.int v2), some (.int (fX5_lacks 1 v2 σ)), some (.int 0), some (.int (-1)), some (.int 0), none]) K dX5_ice_45 (by decide) (Nat.le_of_ble_eq_true rfl) rfl ?_
        refine qq_drop 3 (lv' := [some (.ref (gob G 0)), some (.int v1), some (.int v2), none, some (.int 0), some (.int (-1)), some (.int 0), none]) rfl ?_
        refine lX5_ice_47 l hN hG K 7 v1 v2 0 (-1) 0 σ hw (by omega) (by omega) (by omega) (fun r27 hw29 => ?_)
        refine q_iload (pc := 106) K dX5_ice_106 rfl ?_
        exact q_iret K hr dX5_ice_108
      · have i34 := nltI c9
        refine q_aload_n (pc := 32) K dX5_ice_32 rfl rfl ?_
        refine q_iload_n (pc := 33) K dX5_ice_33 rfl rfl ?_
        refine q_callVi (pc := 34) (o := 0) (rm := rmX5_finding) K (kX5_finding l hN hG (fX5_lacks 1 v2 σ) σ hw (by omega)) gX5_ice_X5_finding rfl hdV_X5_finding ⟨Nat.le_of_ble_eq_true rfl, Nat.le_of_ble_eq_true rfl⟩ rfl rfl ⟨Nat.zero_le _, Nat.zero_le _⟩ (wO_m hG) vw_4 rfl rfl (Nat.le_of_ble_eq_true rfl) dX5_ice_34 ?_
        refine qq_nmI (fun r30 e31 => ?_)
        have hw32 : WM r30.2 := by rw [e31]; exact wX5_finding (fX5_lacks 1 v2 σ) hw (by omega)
        exact q_iret K hr dX5_ice_37
theorem hdV_X5_blocks : yX5_blocks.cls = RX5 ∧ yX5_blocks.cls ≠ "java/lang/invoke/MethodHandle" ∧ yX5_blocks.cls ≠ "java/lang/invoke/VarHandle" ∧ (parseMethodDescriptor yX5_blocks.desc).map (fun d => d.parameters.length) = some 2 := by decide +kernel
theorem mX5_blocks_f9 : Cond.fieldLink RX5 9 "WaxTreatiesModel" "now" "[I" ∈ wsX5_blocks := List.mem_of_getElem? (i := 1) rfl
theorem iwX5_blocks_X5 : ∀ w ∈ wsX50, w ∈ wsX5_blocks := fun w h => List.mem_cons_of_mem _ (List.mem_append_right _ h)
theorem mX5_blocks_f16 : Cond.fieldLink RX5 16 "WaxTreatiesModel" "tried" "[I" ∈ wsX5_blocks := List.mem_of_getElem? (i := 2) rfl
set_option maxRecDepth 100000 in
set_option maxHeartbeats 4000000 in
theorem lX5_blocks_39 {p : Program} (l : Launch) {e : Env} {s : State} {m : MethodId} {args : Array Value} {below : List Frame} {meth : Method} {c : Code} {G : gT} (hN : wN G) (hG : gfl G = false) (K : qK p s m args meth c cX5_blocks 5 RX5 wsX5_blocks G) : ∀ (k : Nat) (v1 v2 v4 : Int32) (σ : sg) (hw : WM σ) (hv4 : 0 ≤ v4.toInt ∧ v4.toInt ≤ 100) (hnv2 : v2.toInt ≤ 100) (hdv1 : 0 ≤ v1.toInt ∧ v1.toInt ≤ 7) (hmu : (100 - v4.toInt).toNat < k) (hr : meth.sig.returnType = some .int) (T0 : Int32 × sg), qq p l e (headSpec wsX5_blocks rmX5_blocks).room s m args below meth c (MQ below (cQ G (some (.int T0.1)) T0.2) args s 0 0 (wA G)) 5 G (fun T => T = T0) (LX5_blocks_39 k v1 v2 v4 σ) 39 [some (.ref (gob G 0)), some (.int v1), some (.int v2), none, some (.int v4)] [] σ := by
  intro k
  induction k with
  | zero => intro v1 v2 v4 σ hw hv4 hnv2 hdv1 hmu hr T0; exact absurd hmu (Nat.not_lt_zero _)
  | succ k ih =>
    intro v1 v2 v4 σ hw hv4 hnv2 hdv1 hmu hr T0
    have k0 : (0 : Int32).toInt = 0 := rfl
    have k1 : (1 : Int32).toInt = 1 := rfl
    have k3 : (3 : Int32).toInt = 3 := rfl
    have k40 : (40 : Int32).toInt = 40 := rfl
    have k99 : (99 : Int32).toInt = 99 := rfl
    refine qq_T (LX5_blocks_39.eq_2 ..) ?_
    refine q_iload (pc := 39) K dX5_blocks_39 rfl ?_
    refine q_bipush (pc := 41) (v := 99) K dX5_blocks_41 (by decide) ?_
    refine q_icmp_gt (pc := 43) (tgt := 97) K dX5_blocks_43 (by decide) (fun c10 => ?_) (fun c10 => ?_)
    · have i29 := ltI c10
      refine q_aload_n (pc := 97) K dX5_blocks_97 rfl rfl ?_
      refine q_iconst (pc := 98) (v := 3) K dX5_blocks_98 (by decide) ?_
      refine q_callVi (pc := 99) (o := 0) (rm := rmX5_finding) K (kX5_finding l hN hG 3 σ hw (by omega)) gX5_blocks_X5_finding rfl hdV_X5_finding ⟨Nat.le_of_ble_eq_true rfl, Nat.le_of_ble_eq_true rfl⟩ rfl rfl ⟨Nat.zero_le _, Nat.zero_le _⟩ (wO_m hG) vw_4 rfl rfl (Nat.le_of_ble_eq_true rfl) dX5_blocks_99 ?_
      refine qq_nmI (fun r11 e12 => ?_)
      have hw13 : WM r11.2 := by rw [e12]; exact wX5_finding 3 hw (by omega)
      exact q_iret K hr dX5_blocks_102
    · have i30 := nltI c10
      refine q_aload_n (pc := 46) K dX5_blocks_46 rfl rfl ?_
      refine q_get (pc := 47) (o := 0) (f := 0) (v := .ref (gad G 0)) K (wO_m hG) vw_4 iwX5_blocks_X5 (by decide) mX5_blocks_f9 rfl dX5_blocks_47 ?_
      refine q_aload_n (pc := 50) K dX5_blocks_50 rfl rfl ?_
      refine q_get (pc := 51) (o := 0) (f := 2) (v := .ref (gad G 2)) K (wO_m hG) vw_4 iwX5_blocks_X5 (by decide) mX5_blocks_f16 rfl dX5_blocks_51 ?_
      refine q_callSv (pc := 54) (rm := rmX5_row) K (kX5_row l hN hG 0 (by decide) 2 (by decide) σ (by omega)) gX5_blocks_X5_row rfl hdS_X5_row ⟨Nat.le_of_ble_eq_true rfl, Nat.le_of_ble_eq_true rfl⟩ rfl rfl ⟨Nat.zero_le _, Nat.zero_le _⟩ rfl rfl (Nat.le_of_ble_eq_true rfl) dX5_blocks_54 ?_
      refine qq_nmV (fun r14 e15 => ?_)
      have hw16 : WM r14 := by rw [e15]; exact wX5_row 0 (by decide) 2 (by decide) hw (by omega)
      have me15 := row0 (show 0 ≠ 2 by decide) e15
      refine q_aload_n (pc := 57) K dX5_blocks_57 rfl rfl ?_
      refine q_get (pc := 58) (o := 0) (f := 2) (v := .ref (gad G 2)) K (wO_m hG) vw_4 iwX5_blocks_X5 (by decide) mX5_blocks_f16 rfl dX5_blocks_58 ?_
      refine q_aload_n (pc := 61) K dX5_blocks_61 rfl rfl ?_
      refine q_get (pc := 62) (o := 0) (f := 0) (v := .ref (gad G 0)) K (wO_m hG) vw_4 iwX5_blocks_X5 (by decide) mX5_blocks_f9 rfl dX5_blocks_62 ?_
      refine q_bipush (pc := 65) (v := 40) K dX5_blocks_65 (by decide) ?_
      refine q_iload_n (pc := 67) K dX5_blocks_67 rfl rfl ?_
      refine q_iadd (pc := 68) K dX5_blocks_68 ?_
      have a17 := addI (x := 40) (y := v1) (by omega) (by omega)
      refine q_iald (pc := 69) (a := 0) K (by rw [wna_f hG]; decide) (vinN (wlm (n := 80) hG 0 rfl) (by omega) (by omega)) dX5_blocks_69 ?_
      have w18 := wm_shelf hw16 (show 0 < 4 by decide) v1 (by omega) (by omega)
      refine q_iload (pc := 70) K dX5_blocks_70 rfl ?_
      refine q_callSv (pc := 72) (rm := rmX5_brings) K (kX5_brings l hN hG 2 (by decide) (rA r14 0 (40 + v1)) v4 r14 hw16 (by omega)) gX5_blocks_X5_brings rfl hdS_X5_brings ⟨Nat.le_of_ble_eq_true rfl, Nat.le_of_ble_eq_true rfl⟩ rfl rfl ⟨Nat.zero_le _, Nat.zero_le _⟩ rfl rfl (Nat.le_of_ble_eq_true rfl) dX5_blocks_72 ?_
      refine qq_nmV (fun r19 e20 => ?_)
      have hw21 : WM r19 := by rw [e20]; exact wX5_brings 2 (by decide) (rA r14 0 (40 + v1)) v4 hw16 (by omega)
      have bre20 := brM (b := 0) e20 (by decide)
      refine q_aload_n (pc := 75) K dX5_blocks_75 rfl rfl ?_
      refine q_iload_n (pc := 76) K dX5_blocks_76 rfl rfl ?_
      refine q_callVi (pc := 77) (o := 0) (rm := rmX5_holdingBehind) K (kX5_holdingBehind l hN hG v2 r19 hw21 (by omega)) gX5_blocks_X5_holdingBehind rfl hdV_X5_holdingBehind ⟨Nat.le_of_ble_eq_true rfl, Nat.le_of_ble_eq_true rfl⟩ rfl rfl ⟨Nat.zero_le _, Nat.zero_le _⟩ (wO_m hG) vw_4 rfl rfl (Nat.le_of_ble_eq_true rfl) dX5_blocks_77 ?_
      refine qq_nmI (fun r22 e23 => ?_)
      have hw24 : WM r22.2 := by rw [e23]; exact wX5_holdingBehind v2 hw21 (by omega)
      have hbe23 := hbB hw24 e23
      have hme23 := hbm e23
      refine q_iload_n (pc := 80) K dX5_blocks_80 rfl rfl ?_
      refine q_ishr (pc := 81) K dX5_blocks_81 ?_
      refine q_iconst (pc := 82) (v := 1) K dX5_blocks_82 (by decide) ?_
      refine q_iand (pc := 83) K dX5_blocks_83 ?_
      refine q_iconst (pc := 84) (v := 1) K dX5_blocks_84 (by decide) ?_
      refine q_icmp_ne (pc := 85) (tgt := 91) K dX5_blocks_85 (by decide) (fun c25 => ?_) (fun c25 => ?_)
      · have i27 := neI c25
        refine q_iinc (pc := 91) (v := (v4 + 1)) (lv' := [some (.ref (gob G 0)), some (.int v1), some (.int v2), none, some (.int (v4 + 1))]) K dX5_blocks_91 rfl rfl (by decide) rfl ?_
        refine q_goto (pc := 94) (tgt := 39) K dX5_blocks_94 (by decide) ?_
        have a26 := addI (x := v4) (y := 1) (by omega) (by omega)
        exact ih v1 v2 (v4 + 1) r22.2 hw24 (by omega) (by omega) (by omega) (by omega) hr _
      · have i28 := eqI c25
        refine q_iload (pc := 88) K dX5_blocks_88 rfl ?_
        exact q_iret K hr dX5_blocks_90
set_option maxRecDepth 100000 in
set_option maxHeartbeats 4000000 in
theorem kX5_blocks (l : Launch) {G : gT} (hN : wN G) (hG : gfl G = false) (v1 : Int32) (v2 : Int32) (σ : sg) (hw : WM σ) : cM l yX5_blocks wsX5_blocks rmX5_blocks G [.ref (gob G 0), .int v1, .int v2] σ (some (.int (fX5_blocks v1 v2 σ).1)) (fX5_blocks v1 v2 σ).2 := by
  refine cM_of (maxL := 5) (ret := (some .int)) (cc := cX5_blocks) (fX5_blocks v1 v2 σ) RX5 hN (by decide +kernel) rfl rfl (Nat.le_of_ble_eq_true rfl) rfl ?_
  intro p e s m args below meth c K hr
  have k0 : (0 : Int32).toInt = 0 := rfl
  have k1 : (1 : Int32).toInt = 1 := rfl
  refine qq_st (lv' := [some (.ref (gob G 0)), some (.int v1), some (.int v2), none, none]) rfl rfl rfl ?_
  refine qq_T (fX5_blocks.eq_1 ..) ?_
  refine q_aload_n (pc := 0) K dX5_blocks_0 rfl rfl ?_
  refine q_aload_n (pc := 1) K dX5_blocks_1 rfl rfl ?_
  refine q_iload_n (pc := 2) K dX5_blocks_2 rfl rfl ?_
  refine q_callVi (pc := 3) (o := 0) (rm := rmX5_isDeed) K (kX5_isDeed l hN hG v1 σ hw) gX5_blocks_X5_isDeed rfl hdV_X5_isDeed ⟨Nat.le_of_ble_eq_true rfl, Nat.le_of_ble_eq_true rfl⟩ rfl rfl ⟨Nat.zero_le _, Nat.zero_le _⟩ (wO_m hG) vw_4 rfl rfl (Nat.le_of_ble_eq_true rfl) dX5_blocks_3 ?_
  refine q_if_eq (pc := 6) (tgt := 20) K dX5_blocks_6 (by decide) (fun c1 => ?_) (fun c1 => ?_)
  · have i39 := eqI c1
    refine q_iconst (pc := 20) (v := 0) K dX5_blocks_20 (by decide) ?_
    refine q_iload_n (pc := 21) K dX5_blocks_21 rfl rfl ?_
    refine q_callVi (pc := 22) (o := 0) (rm := rmX5_lacks) K (kX5_lacks l hN hG 0 v2 σ hw) gX5_blocks_X5_lacks rfl hdV_X5_lacks ⟨Nat.le_of_ble_eq_true rfl, Nat.le_of_ble_eq_true rfl⟩ rfl rfl ⟨Nat.zero_le _, Nat.zero_le _⟩ (wO_m hG) vw_4 rfl rfl (Nat.le_of_ble_eq_true rfl) dX5_blocks_22 ?_
    have lr := lkR 0 v2 σ
    have lz := lkZ v2 σ
    refine q_istore_n (pc := 25) (lv' := [some (.ref (gob G 0)), some (.int v1), some (.int v2), some (.int (fX5_lacks 0 v2 σ)), none]) K dX5_blocks_25 rfl (by decide) (Nat.le_of_ble_eq_true rfl) rfl ?_
    refine q_iload_n (pc := 26) K dX5_blocks_26 rfl rfl ?_
    refine q_if_lt_f (pc := 27) (tgt := 36) K (lk0 _ _) dX5_blocks_27 (by decide) ?_
    refine q_aload_n (pc := 30) K dX5_blocks_30 rfl rfl ?_
    refine q_iload_n (pc := 31) K dX5_blocks_31 rfl rfl ?_
    refine q_callVi (pc := 32) (o := 0) (rm := rmX5_finding) K (kX5_finding l hN hG (fX5_lacks 0 v2 σ) σ hw (by omega)) gX5_blocks_X5_finding rfl hdV_X5_finding ⟨Nat.le_of_ble_eq_true rfl, Nat.le_of_ble_eq_true rfl⟩ rfl rfl ⟨Nat.zero_le _, Nat.zero_le _⟩ (wO_m hG) vw_4 rfl rfl (Nat.le_of_ble_eq_true rfl) dX5_blocks_32 ?_
    refine qq_nmI (fun r2 e3 => ?_)
    have hw4 : WM r2.2 := by rw [e3]; exact wX5_finding (fX5_lacks 0 v2 σ) hw (by omega)
    exact q_iret K hr dX5_blocks_35
  · have i40 := neI c1
    have b41 := wiD_t hw c1
    refine q_iload_n (pc := 9) K dX5_blocks_9 rfl rfl ?_
    refine q_callSi (pc := 10) (rm := rmX5_isAhead) K (kX5_isAhead l hN v2 σ) gX5_blocks_X5_isAhead rfl hdS_X5_isAhead ⟨Nat.le_of_ble_eq_true rfl, Nat.le_of_ble_eq_true rfl⟩ rfl rfl ⟨Nat.zero_le _, Nat.zero_le _⟩ rfl rfl (Nat.le_of_ble_eq_true rfl) dX5_blocks_10 ?_
    refine q_if_eq (pc := 13) (tgt := 20) K dX5_blocks_13 (by decide) (fun c5 => ?_) (fun c5 => ?_)
    · have i36 := eqI c5
      refine q_iconst (pc := 20) (v := 0) K dX5_blocks_20 (by decide) ?_
      refine q_iload_n (pc := 21) K dX5_blocks_21 rfl rfl ?_
      refine q_callVi (pc := 22) (o := 0) (rm := rmX5_lacks) K (kX5_lacks l hN hG 0 v2 σ hw) gX5_blocks_X5_lacks rfl hdV_X5_lacks ⟨Nat.le_of_ble_eq_true rfl, Nat.le_of_ble_eq_true rfl⟩ rfl rfl ⟨Nat.zero_le _, Nat.zero_le _⟩ (wO_m hG) vw_4 rfl rfl (Nat.le_of_ble_eq_true rfl) dX5_blocks_22 ?_
      have lr := lkR 0 v2 σ
      have lz := lkZ v2 σ
      refine q_istore_n (pc := 25) (lv' := [some (.ref (gob G 0)), some (.int v1), some (.int v2), some (.int (fX5_lacks 0 v2 σ)), none]) K dX5_blocks_25 rfl (by decide) (Nat.le_of_ble_eq_true rfl) rfl ?_
      refine q_iload_n (pc := 26) K dX5_blocks_26 rfl rfl ?_
      refine q_if_lt_f (pc := 27) (tgt := 36) K (lk0 _ _) dX5_blocks_27 (by decide) ?_
      refine q_aload_n (pc := 30) K dX5_blocks_30 rfl rfl ?_
      refine q_iload_n (pc := 31) K dX5_blocks_31 rfl rfl ?_
      refine q_callVi (pc := 32) (o := 0) (rm := rmX5_finding) K (kX5_finding l hN hG (fX5_lacks 0 v2 σ) σ hw (by omega)) gX5_blocks_X5_finding rfl hdV_X5_finding ⟨Nat.le_of_ble_eq_true rfl, Nat.le_of_ble_eq_true rfl⟩ rfl rfl ⟨Nat.zero_le _, Nat.zero_le _⟩ (wO_m hG) vw_4 rfl rfl (Nat.le_of_ble_eq_true rfl) dX5_blocks_32 ?_
      refine qq_nmI (fun r6 e7 => ?_)
      have hw8 : WM r6.2 := by rw [e7]; exact wX5_finding (fX5_lacks 0 v2 σ) hw (by omega)
      exact q_iret K hr dX5_blocks_35
    · have i37 := neI c5
      have b38 := wiA_t c5
      refine q_iconst (pc := 16) (v := 1) K dX5_blocks_16 (by decide) ?_
      refine q_goto (pc := 17) (tgt := 21) K dX5_blocks_17 (by decide) ?_
      refine q_iload_n (pc := 21) K dX5_blocks_21 rfl rfl ?_
      refine q_callVi (pc := 22) (o := 0) (rm := rmX5_lacks) K (kX5_lacks l hN hG 1 v2 σ hw) gX5_blocks_X5_lacks rfl hdV_X5_lacks ⟨Nat.le_of_ble_eq_true rfl, Nat.le_of_ble_eq_true rfl⟩ rfl rfl ⟨Nat.zero_le _, Nat.zero_le _⟩ (wO_m hG) vw_4 rfl rfl (Nat.le_of_ble_eq_true rfl) dX5_blocks_22 ?_
      have lr := lkR 1 v2 σ
      refine q_istore_n (pc := 25) (lv' := [some (.ref (gob G 0)), some (.int v1), some (.int v2), some (.int (fX5_lacks 1 v2 σ)), none]) K dX5_blocks_25 rfl (by decide) (Nat.le_of_ble_eq_true rfl) rfl ?_
      refine q_iload_n (pc := 26) K dX5_blocks_26 rfl rfl ?_
      refine q_if_lt (pc := 27) (tgt := 36) K dX5_blocks_27 (by decide) (fun c9 => ?_) (fun c9 => ?_)
      · have i34 := ltI c9
        refine q_iconst (pc := 36) (v := 0) K dX5_blocks_36 (by decide) ?_
        refine q_istore (pc := 37) (lv' := [some (.ref (gob G 0)), some (.int v1), some (.int v2), some (.int (fX5_lacks 1 v2 σ)), some (.int 0)]) K dX5_blocks_37 (by decide) (Nat.le_of_ble_eq_true rfl) rfl ?_
        refine qq_drop 3 (lv' := [some (.ref (gob G 0)), some (.int v1), some (.int v2), none, some (.int 0)]) rfl ?_
        exact lX5_blocks_39 l hN hG K 101 v1 v2 0 σ hw (by omega) (by omega) (by omega) (by omega) hr _
      · have i35 := nltI c9
        refine q_aload_n (pc := 30) K dX5_blocks_30 rfl rfl ?_
        refine q_iload_n (pc := 31) K dX5_blocks_31 rfl rfl ?_
        refine q_callVi (pc := 32) (o := 0) (rm := rmX5_finding) K (kX5_finding l hN hG (fX5_lacks 1 v2 σ) σ hw (by omega)) gX5_blocks_X5_finding rfl hdV_X5_finding ⟨Nat.le_of_ble_eq_true rfl, Nat.le_of_ble_eq_true rfl⟩ rfl rfl ⟨Nat.zero_le _, Nat.zero_le _⟩ (wO_m hG) vw_4 rfl rfl (Nat.le_of_ble_eq_true rfl) dX5_blocks_32 ?_
        refine qq_nmI (fun r31 e32 => ?_)
        have hw33 : WM r31.2 := by rw [e32]; exact wX5_finding (fX5_lacks 1 v2 σ) hw (by omega)
        exact q_iret K hr dX5_blocks_35
theorem hdV_X5_swap : yX5_swap.cls = RX5 ∧ yX5_swap.cls ≠ "java/lang/invoke/MethodHandle" ∧ yX5_swap.cls ≠ "java/lang/invoke/VarHandle" ∧ (parseMethodDescriptor yX5_swap.desc).map (fun d => d.parameters.length) = some 1 := by decide +kernel
theorem mX5_swap_f9 : Cond.fieldLink RX5 9 "WaxTreatiesModel" "now" "[I" ∈ wsX5_swap := List.mem_of_getElem? (i := 1) rfl
theorem iwX5_swap_X5 : ∀ w ∈ wsX50, w ∈ wsX5_swap := fun w h => List.mem_cons_of_mem _ (List.mem_append_right _ h)
theorem mX5_swap_f16 : Cond.fieldLink RX5 16 "WaxTreatiesModel" "tried" "[I" ∈ wsX5_swap := List.mem_of_getElem? (i := 2) rfl
set_option maxRecDepth 100000 in
set_option maxHeartbeats 4000000 in
theorem lX5_swap_63 {p : Program} (l : Launch) {e : Env} {s : State} {m : MethodId} {args : Array Value} {below : List Frame} {meth : Method} {c : Code} {Q : State → Prop} {G : gT} (hN : wN G) (hG : gfl G = false) (K : qK p s m args meth c cX5_swap 8 RX5 wsX5_swap G) : ∀ (k : Nat) (v1 v3 v4 v5 v6 : Int32) (σ : sg) (hw : WM σ) (hv6 : 0 ≤ v6.toInt ∧ v6.toInt ≤ 8) (hnv1 : v1.toInt ≤ 100) (ha : 0 ≤ v5.toInt ∧ v5.toInt ≤ 7) (hmu : (8 - v6.toInt).toNat < k) {ρ : Type} {E : ρ → Prop} {f : Int32 × Int32 × sg → ρ} (hk : ∀ r : Int32 × Int32 × sg, (WM r.2.2) → qq p l e (headSpec wsX5_swap rmX5_swap).room s m args below meth c Q 8 G E (f r) 160 [some (.ref (gob G 0)), some (.int v1), none, some (.int r.1), some (.int r.2.1), some (.int v5), none, none] [] r.2.2), qq p l e (headSpec wsX5_swap rmX5_swap).room s m args below meth c Q 8 G E (bnd (LX5_swap_63 k v1 v3 v4 v5 v6 σ) f) 63 [some (.ref (gob G 0)), some (.int v1), none, some (.int v3), some (.int v4), some (.int v5), some (.int v6), none] [] σ := by
  intro k
  induction k with
  | zero => intro v1 v3 v4 v5 v6 σ hw hv6 hnv1 ha hmu ρ E f hk; exact absurd hmu (Nat.not_lt_zero _)
  | succ k ih =>
    intro v1 v3 v4 v5 v6 σ hw hv6 hnv1 ha hmu ρ E f hk
    have k0 : (0 : Int32).toInt = 0 := rfl
    have k1 : (1 : Int32).toInt = 1 := rfl
    have k10 : (10 : Int32).toInt = 10 := rfl
    have k40 : (40 : Int32).toInt = 40 := rfl
    refine qq_in ?_
    refine qq_T (LX5_swap_63.eq_2 ..) ?_
    refine q_iload (pc := 63) K dX5_swap_63 rfl ?_
    refine q_aload_n (pc := 65) K dX5_swap_65 rfl rfl ?_
    refine q_get (pc := 66) (o := 0) (f := 0) (v := .ref (gad G 0)) K (wO_m hG) vw_4 iwX5_swap_X5 (by decide) mX5_swap_f9 rfl dX5_swap_66 ?_
    refine q_iconst (pc := 69) (v := 0) K dX5_swap_69 (by decide) ?_
    refine q_iald (pc := 70) (a := 0) K (by rw [wna_f hG]; decide) (vinN (wlm (n := 80) hG 0 rfl) (by omega) (by omega)) dX5_swap_70 ?_
    have w10 := wm_many hw (show 0 < 4 by decide)
    refine q_icmp_ge (pc := 71) (tgt := 160) K dX5_swap_71 (by decide) (fun c11 => ?_) (fun c11 => ?_)
    · have i37 := leI c11
      refine qq_drop 6 (lv' := [some (.ref (gob G 0)), some (.int v1), none, some (.int v3), some (.int v4), some (.int v5), none, none]) rfl ?_
      exact qq_leaf (hk (v3, v4, σ) hw)
    · have i38 := nleI c11
      refine q_aload_n (pc := 74) K dX5_swap_74 rfl rfl ?_
      refine q_get (pc := 75) (o := 0) (f := 0) (v := .ref (gad G 0)) K (wO_m hG) vw_4 iwX5_swap_X5 (by decide) mX5_swap_f9 rfl dX5_swap_75 ?_
      refine q_aload_n (pc := 78) K dX5_swap_78 rfl rfl ?_
      refine q_get (pc := 79) (o := 0) (f := 2) (v := .ref (gad G 2)) K (wO_m hG) vw_4 iwX5_swap_X5 (by decide) mX5_swap_f16 rfl dX5_swap_79 ?_
      refine q_callSv (pc := 82) (rm := rmX5_row) K (kX5_row l hN hG 0 (by decide) 2 (by decide) σ (by omega)) gX5_swap_X5_row rfl hdS_X5_row ⟨Nat.le_of_ble_eq_true rfl, Nat.le_of_ble_eq_true rfl⟩ rfl rfl ⟨Nat.zero_le _, Nat.zero_le _⟩ rfl rfl (Nat.le_of_ble_eq_true rfl) dX5_swap_82 ?_
      refine qq_nmV (fun r12 e13 => ?_)
      have hw14 : WM r12 := by rw [e13]; exact wX5_row 0 (by decide) 2 (by decide) hw (by omega)
      have me13 := row0 (show 0 ≠ 2 by decide) e13
      refine q_aload_n (pc := 85) K dX5_swap_85 rfl rfl ?_
      refine q_get (pc := 86) (o := 0) (f := 2) (v := .ref (gad G 2)) K (wO_m hG) vw_4 iwX5_swap_X5 (by decide) mX5_swap_f16 rfl dX5_swap_86 ?_
      refine q_bipush (pc := 89) (v := 40) K dX5_swap_89 (by decide) ?_
      refine q_iload (pc := 91) K dX5_swap_91 rfl ?_
      refine q_iadd (pc := 93) K dX5_swap_93 ?_
      refine q_aload_n (pc := 94) K dX5_swap_94 rfl rfl ?_
      refine q_get (pc := 95) (o := 0) (f := 0) (v := .ref (gad G 0)) K (wO_m hG) vw_4 iwX5_swap_X5 (by decide) mX5_swap_f9 rfl dX5_swap_95 ?_
      refine q_bipush (pc := 98) (v := 40) K dX5_swap_98 (by decide) ?_
      refine q_iload (pc := 100) K dX5_swap_100 rfl ?_
      refine q_iadd (pc := 102) K dX5_swap_102 ?_
      have a15 := addI (x := 40) (y := v6) (by omega) (by omega)
      refine q_iald (pc := 103) (a := 0) K (by rw [wna_f hG]; decide) (vinN (wlm (n := 80) hG 0 rfl) (by omega) (by omega)) dX5_swap_103 ?_
      have w16 := wm_shelf hw14 (show 0 < 4 by decide) v6 (by omega) (by omega)
      have a17 := addI (x := 40) (y := v5) (by omega) (by omega)
      refine q_iast (pc := 104) (a := 2) K (by rw [wna_f hG]; decide) (vinN (wlm (n := 80) hG 2 rfl) (by omega) (by omega)) dX5_swap_104 (fun s18 e19 => ?_)
      have hw20 : WM s18 := by rw [e19]; exact wmRs hw14 (show 2 < 4 by decide) (by omega) (by omega) (by omega) (by omega)
      have m21 := mKeep e19 (by omega)
      have m22 := many6 e19 (show 0 ≠ 2 by decide)
      refine q_aload_n (pc := 105) K dX5_swap_105 rfl rfl ?_
      refine q_get (pc := 106) (o := 0) (f := 2) (v := .ref (gad G 2)) K (wO_m hG) vw_4 iwX5_swap_X5 (by decide) mX5_swap_f16 rfl dX5_swap_106 ?_
      refine q_bipush (pc := 109) (v := 40) K dX5_swap_109 (by decide) ?_
      refine q_iload (pc := 111) K dX5_swap_111 rfl ?_
      refine q_iadd (pc := 113) K dX5_swap_113 ?_
      refine q_aload_n (pc := 114) K dX5_swap_114 rfl rfl ?_
      refine q_get (pc := 115) (o := 0) (f := 0) (v := .ref (gad G 0)) K (wO_m hG) vw_4 iwX5_swap_X5 (by decide) mX5_swap_f9 rfl dX5_swap_115 ?_
      refine q_bipush (pc := 118) (v := 40) K dX5_swap_118 (by decide) ?_
      refine q_iload (pc := 120) K dX5_swap_120 rfl ?_
      refine q_iadd (pc := 122) K dX5_swap_122 ?_
      refine q_iald (pc := 123) (a := 0) K (by rw [wna_f hG]; decide) (vinN (wlm (n := 80) hG 0 rfl) (by omega) (by omega)) dX5_swap_123 ?_
      have w23 := wm_shelf hw20 (show 0 < 4 by decide) v5 (by omega) (by omega)
      refine q_iast (pc := 124) (a := 2) K (by rw [wna_f hG]; decide) (vinN (wlm (n := 80) hG 2 rfl) (by omega) (by omega)) dX5_swap_124 (fun s24 e25 => ?_)
      have hw26 : WM s24 := by rw [e25]; exact wmRs hw20 (show 2 < 4 by decide) (by omega) (by omega) (by omega) (by omega)
      have m27 := mKeep e25 (by omega)
      have m28 := many6 e25 (show 0 ≠ 2 by decide)
      refine q_aload_n (pc := 125) K dX5_swap_125 rfl rfl ?_
      refine q_iload_n (pc := 126) K dX5_swap_126 rfl rfl ?_
      refine q_callVi (pc := 127) (o := 0) (rm := rmX5_holdingBehind) K (kX5_holdingBehind l hN hG v1 s24 hw26 (by omega)) gX5_swap_X5_holdingBehind rfl hdV_X5_holdingBehind ⟨Nat.le_of_ble_eq_true rfl, Nat.le_of_ble_eq_true rfl⟩ rfl rfl ⟨Nat.zero_le _, Nat.zero_le _⟩ (wO_m hG) vw_4 rfl rfl (Nat.le_of_ble_eq_true rfl) dX5_swap_127 ?_
      refine qq_nmI (fun r29 e30 => ?_)
      have hw31 : WM r29.2 := by rw [e30]; exact wX5_holdingBehind v1 hw26 (by omega)
      have hbe30 := hbB hw31 e30
      have hme30 := hbm e30
      refine q_callSi (pc := 130) (rm := rmX5_bits) K (kX5_bits l hN r29.1 r29.2 (by omega)) gX5_swap_X5_bits rfl hdS_X5_bits ⟨Nat.le_of_ble_eq_true rfl, Nat.le_of_ble_eq_true rfl⟩ rfl rfl ⟨Nat.zero_le _, Nat.zero_le _⟩ rfl rfl (Nat.le_of_ble_eq_true rfl) dX5_swap_130 ?_
      refine q_istore (pc := 133) (lv' := [some (.ref (gob G 0)), some (.int v1), none, some (.int v3), some (.int v4), some (.int v5), some (.int v6), some (.int (fX5_bits r29.1))]) K dX5_swap_133 (by decide) (Nat.le_of_ble_eq_true rfl) rfl ?_
      refine q_iload (pc := 135) K dX5_swap_135 rfl ?_
      refine q_iload_n (pc := 137) K dX5_swap_137 rfl rfl ?_
      refine q_icmp_le (pc := 138) (tgt := 154) K dX5_swap_138 (by decide) (fun c32 => ?_) (fun c32 => ?_)
      · have i35 := leI c32
        refine q_iinc (pc := 154) (v := (v6 + 1)) (lv' := [some (.ref (gob G 0)), some (.int v1), none, some (.int v3), some (.int v4), some (.int v5), some (.int (v6 + 1)), some (.int (fX5_bits r29.1))]) K dX5_swap_154 rfl rfl (by decide) rfl ?_
        refine q_goto (pc := 157) (tgt := 63) K dX5_swap_157 (by decide) ?_
        refine qq_drop 7 (lv' := [some (.ref (gob G 0)), some (.int v1), none, some (.int v3), some (.int v4), some (.int v5), some (.int (v6 + 1)), none]) rfl ?_
        have a33 := addI (x := v6) (y := 1) (by omega) (by omega)
        exact qq_out (ih v1 v3 v4 v5 (v6 + 1) r29.2 hw31 (by omega) (by omega) (by omega) (by omega) hk)
      · have i36 := nleI c32
        refine q_bipush (pc := 141) (v := 10) K dX5_swap_141 (by decide) ?_
        refine q_iload (pc := 143) K dX5_swap_143 rfl ?_
        refine q_imul (pc := 145) K dX5_swap_145 ?_
        refine q_iload (pc := 146) K dX5_swap_146 rfl ?_
        refine q_iadd (pc := 148) K dX5_swap_148 ?_
        refine q_istore (pc := 149) (lv' := [some (.ref (gob G 0)), some (.int v1), none, some (.int v3), some (.int ((10 * v5) + v6)), some (.int v5), some (.int v6), some (.int (fX5_bits r29.1))]) K dX5_swap_149 (by decide) (Nat.le_of_ble_eq_true rfl) rfl ?_
        refine q_iload (pc := 151) K dX5_swap_151 rfl ?_
        refine q_istore_n (pc := 153) (lv' := [some (.ref (gob G 0)), some (.int v1), none, some (.int (fX5_bits r29.1)), some (.int ((10 * v5) + v6)), some (.int v5), some (.int v6), some (.int (fX5_bits r29.1))]) K dX5_swap_153 rfl (by decide) (Nat.le_of_ble_eq_true rfl) rfl ?_
        refine q_iinc (pc := 154) (v := (v6 + 1)) (lv' := [some (.ref (gob G 0)), some (.int v1), none, some (.int (fX5_bits r29.1)), some (.int ((10 * v5) + v6)), some (.int v5), some (.int (v6 + 1)), some (.int (fX5_bits r29.1))]) K dX5_swap_154 rfl rfl (by decide) rfl ?_
        refine q_goto (pc := 157) (tgt := 63) K dX5_swap_157 (by decide) ?_
        refine qq_drop 7 (lv' := [some (.ref (gob G 0)), some (.int v1), none, some (.int (fX5_bits r29.1)), some (.int ((10 * v5) + v6)), some (.int v5), some (.int (v6 + 1)), none]) rfl ?_
        have a34 := addI (x := v6) (y := 1) (by omega) (by omega)
        exact qq_out (ih v1 (fX5_bits r29.1) ((10 * v5) + v6) v5 (v6 + 1) r29.2 hw31 (by omega) (by omega) (by omega) (by omega) hk)
set_option maxRecDepth 100000 in
set_option maxHeartbeats 4000000 in
theorem lX5_swap_46 {p : Program} (l : Launch) {e : Env} {s : State} {m : MethodId} {args : Array Value} {below : List Frame} {meth : Method} {c : Code} {Q : State → Prop} {G : gT} (hN : wN G) (hG : gfl G = false) (K : qK p s m args meth c cX5_swap 8 RX5 wsX5_swap G) : ∀ (k : Nat) (v1 v3 v4 v5 : Int32) (σ : sg) (hw : WM σ) (hv5 : 0 ≤ v5.toInt ∧ v5.toInt ≤ 8) (hnv1 : v1.toInt ≤ 100) (hmu : (8 - v5.toInt).toNat < k) {ρ : Type} {E : ρ → Prop} {f : Int32 × sg → ρ} (hk : ∀ r : Int32 × sg, (WM r.2) → qq p l e (headSpec wsX5_swap rmX5_swap).room s m args below meth c Q 8 G E (f r) 166 [some (.ref (gob G 0)), none, none, none, some (.int r.1), none, none, none] [] r.2), qq p l e (headSpec wsX5_swap rmX5_swap).room s m args below meth c Q 8 G E (bnd (LX5_swap_46 k v1 v3 v4 v5 σ) f) 46 [some (.ref (gob G 0)), some (.int v1), none, some (.int v3), some (.int v4), some (.int v5), none, none] [] σ := by
  intro k
  induction k with
  | zero => intro v1 v3 v4 v5 σ hw hv5 hnv1 hmu ρ E f hk; exact absurd hmu (Nat.not_lt_zero _)
  | succ k ih =>
    intro v1 v3 v4 v5 σ hw hv5 hnv1 hmu ρ E f hk
    have k0 : (0 : Int32).toInt = 0 := rfl
    have k1 : (1 : Int32).toInt = 1 := rfl
    refine qq_in ?_
    refine qq_T (LX5_swap_46.eq_2 ..) ?_
    refine q_iload (pc := 46) K dX5_swap_46 rfl ?_
    refine q_aload_n (pc := 48) K dX5_swap_48 rfl rfl ?_
    refine q_get (pc := 49) (o := 0) (f := 0) (v := .ref (gad G 0)) K (wO_m hG) vw_4 iwX5_swap_X5 (by decide) mX5_swap_f9 rfl dX5_swap_49 ?_
    refine q_iconst (pc := 52) (v := 0) K dX5_swap_52 (by decide) ?_
    refine q_iald (pc := 53) (a := 0) K (by rw [wna_f hG]; decide) (vinN (wlm (n := 80) hG 0 rfl) (by omega) (by omega)) dX5_swap_53 ?_
    have w8 := wm_many hw (show 0 < 4 by decide)
    refine q_icmp_ge (pc := 54) (tgt := 166) K dX5_swap_54 (by decide) (fun c9 => ?_) (fun c9 => ?_)
    · have i43 := leI c9
      refine qq_drop 1 (lv' := [some (.ref (gob G 0)), none, none, some (.int v3), some (.int v4), some (.int v5), none, none]) rfl ?_
      refine qq_drop 3 (lv' := [some (.ref (gob G 0)), none, none, none, some (.int v4), some (.int v5), none, none]) rfl ?_
      refine qq_drop 5 (lv' := [some (.ref (gob G 0)), none, none, none, some (.int v4), none, none, none]) rfl ?_
      exact qq_leaf (hk (v4, σ) hw)
    · have i44 := nleI c9
      refine q_iload (pc := 57) K dX5_swap_57 rfl ?_
      refine q_iconst (pc := 59) (v := 1) K dX5_swap_59 (by decide) ?_
      refine q_iadd (pc := 60) K dX5_swap_60 ?_
      refine q_istore (pc := 61) (lv' := [some (.ref (gob G 0)), some (.int v1), none, some (.int v3), some (.int v4), some (.int v5), some (.int (v5 + 1)), none]) K dX5_swap_61 (by decide) (Nat.le_of_ble_eq_true rfl) rfl ?_
      have a39 := addI (x := v5) (y := 1) (by omega) (by omega)
      refine lX5_swap_63 l hN hG K 9 v1 v3 v4 v5 (v5 + 1) σ hw (by omega) (by omega) (by omega) (by omega) (fun r40 hw42 => ?_)
      refine q_iinc (pc := 160) (v := (v5 + 1)) (lv' := [some (.ref (gob G 0)), some (.int v1), none, some (.int r40.1), some (.int r40.2.1), some (.int (v5 + 1)), none, none]) K dX5_swap_160 rfl rfl (by decide) rfl ?_
      refine q_goto (pc := 163) (tgt := 46) K dX5_swap_163 (by decide) ?_
      exact qq_out (ih v1 r40.1 r40.2.1 (v5 + 1) r40.2.2 hw42 (by omega) (by omega) (by omega) hk)
set_option maxRecDepth 100000 in
set_option maxHeartbeats 4000000 in
theorem kX5_swap (l : Launch) {G : gT} (hN : wN G) (hG : gfl G = false) (v1 : Int32) (σ : sg) (hw : WM σ) : cM l yX5_swap wsX5_swap rmX5_swap G [.ref (gob G 0), .int v1] σ (some (.int (fX5_swap v1 σ).1)) (fX5_swap v1 σ).2 := by
  refine cM_of (maxL := 8) (ret := (some .int)) (cc := cX5_swap) (fX5_swap v1 σ) RX5 hN (by decide +kernel) rfl rfl (Nat.le_of_ble_eq_true rfl) rfl ?_
  intro p e s m args below meth c K hr
  have km1 : ((-1) : Int32).toInt = -1 := rfl
  have k0 : (0 : Int32).toInt = 0 := rfl
  have k3 : (3 : Int32).toInt = 3 := rfl
  refine qq_st (lv' := [some (.ref (gob G 0)), some (.int v1), none, none, none, none, none, none]) rfl rfl rfl ?_
  refine qq_T (fX5_swap.eq_1 ..) ?_
  refine q_aload_n (pc := 0) K dX5_swap_0 rfl rfl ?_
  refine q_iload_n (pc := 1) K dX5_swap_1 rfl rfl ?_
  refine q_callSi (pc := 2) (rm := rmX5_isAhead) K (kX5_isAhead l hN v1 σ) gX5_swap_X5_isAhead rfl hdS_X5_isAhead ⟨Nat.le_of_ble_eq_true rfl, Nat.le_of_ble_eq_true rfl⟩ rfl rfl ⟨Nat.zero_le _, Nat.zero_le _⟩ rfl rfl (Nat.le_of_ble_eq_true rfl) dX5_swap_2 ?_
  refine q_iload_n (pc := 5) K dX5_swap_5 rfl rfl ?_
  refine q_callVi (pc := 6) (o := 0) (rm := rmX5_lacks) K (kX5_lacks l hN hG (fX5_isAhead v1) v1 σ hw) gX5_swap_X5_lacks rfl hdV_X5_lacks ⟨Nat.le_of_ble_eq_true rfl, Nat.le_of_ble_eq_true rfl⟩ rfl rfl ⟨Nat.zero_le _, Nat.zero_le _⟩ (wO_m hG) vw_4 rfl rfl (Nat.le_of_ble_eq_true rfl) dX5_swap_6 ?_
  have lr := lkR (fX5_isAhead v1) v1 σ
  refine q_istore_n (pc := 9) (lv' := [some (.ref (gob G 0)), some (.int v1), some (.int (fX5_lacks (fX5_isAhead v1) v1 σ)), none, none, none, none, none]) K dX5_swap_9 rfl (by decide) (Nat.le_of_ble_eq_true rfl) rfl ?_
  refine q_iload_n (pc := 10) K dX5_swap_10 rfl rfl ?_
  refine q_if_lt (pc := 11) (tgt := 20) K dX5_swap_11 (by decide) (fun c1 => ?_) (fun c1 => ?_)
  · have i57 := ltI c1
    have b58 := lkA_t c1
    refine q_aload_n (pc := 20) K dX5_swap_20 rfl rfl ?_
    refine q_get (pc := 21) (o := 0) (f := 0) (v := .ref (gad G 0)) K (wO_m hG) vw_4 iwX5_swap_X5 (by decide) mX5_swap_f9 rfl dX5_swap_21 ?_
    refine q_aload_n (pc := 24) K dX5_swap_24 rfl rfl ?_
    refine q_get (pc := 25) (o := 0) (f := 2) (v := .ref (gad G 2)) K (wO_m hG) vw_4 iwX5_swap_X5 (by decide) mX5_swap_f16 rfl dX5_swap_25 ?_
    refine q_callSv (pc := 28) (rm := rmX5_row) K (kX5_row l hN hG 0 (by decide) 2 (by decide) σ (by omega)) gX5_swap_X5_row rfl hdS_X5_row ⟨Nat.le_of_ble_eq_true rfl, Nat.le_of_ble_eq_true rfl⟩ rfl rfl ⟨Nat.zero_le _, Nat.zero_le _⟩ rfl rfl (Nat.le_of_ble_eq_true rfl) dX5_swap_28 ?_
    refine qq_nmV (fun r2 e3 => ?_)
    have hw4 : WM r2 := by rw [e3]; exact wX5_row 0 (by decide) 2 (by decide) hw (by omega)
    have me3 := row0 (show 0 ≠ 2 by decide) e3
    refine q_aload_n (pc := 31) K dX5_swap_31 rfl rfl ?_
    refine q_iload_n (pc := 32) K dX5_swap_32 rfl rfl ?_
    refine q_callVi (pc := 33) (o := 0) (rm := rmX5_holdingBehind) K (kX5_holdingBehind l hN hG v1 r2 hw4 (by omega)) gX5_swap_X5_holdingBehind rfl hdV_X5_holdingBehind ⟨Nat.le_of_ble_eq_true rfl, Nat.le_of_ble_eq_true rfl⟩ rfl rfl ⟨Nat.zero_le _, Nat.zero_le _⟩ (wO_m hG) vw_4 rfl rfl (Nat.le_of_ble_eq_true rfl) dX5_swap_33 ?_
    refine qq_nmI (fun r5 e6 => ?_)
    have hw7 : WM r5.2 := by rw [e6]; exact wX5_holdingBehind v1 hw4 (by omega)
    have hbe6 := hbB hw7 e6
    have hme6 := hbm e6
    refine q_callSi (pc := 36) (rm := rmX5_bits) K (kX5_bits l hN r5.1 r5.2 (by omega)) gX5_swap_X5_bits rfl hdS_X5_bits ⟨Nat.le_of_ble_eq_true rfl, Nat.le_of_ble_eq_true rfl⟩ rfl rfl ⟨Nat.zero_le _, Nat.zero_le _⟩ rfl rfl (Nat.le_of_ble_eq_true rfl) dX5_swap_36 ?_
    refine q_istore_n (pc := 39) (lv' := [some (.ref (gob G 0)), some (.int v1), some (.int (fX5_lacks (fX5_isAhead v1) v1 σ)), some (.int (fX5_bits r5.1)), none, none, none, none]) K dX5_swap_39 rfl (by decide) (Nat.le_of_ble_eq_true rfl) rfl ?_
    refine q_iconst (pc := 40) (v := (-1)) K dX5_swap_40 (by decide) ?_
    refine q_istore (pc := 41) (lv' := [some (.ref (gob G 0)), some (.int v1), some (.int (fX5_lacks (fX5_isAhead v1) v1 σ)), some (.int (fX5_bits r5.1)), some (.int (-1)), none, none, none]) K dX5_swap_41 (by decide) (Nat.le_of_ble_eq_true rfl) rfl ?_
    refine q_iconst (pc := 43) (v := 0) K dX5_swap_43 (by decide) ?_
    refine q_istore (pc := 44) (lv' := [some (.ref (gob G 0)), some (.int v1), some (.int (fX5_lacks (fX5_isAhead v1) v1 σ)), some (.int (fX5_bits r5.1)), some (.int (-1)), some (.int 0), none, none]) K dX5_swap_44 (by decide) (Nat.le_of_ble_eq_true rfl) rfl ?_
    refine qq_drop 2 (lv' := [some (.ref (gob G 0)), some (.int v1), none, some (.int (fX5_bits r5.1)), some (.int (-1)), some (.int 0), none, none]) rfl ?_
    refine lX5_swap_46 l hN hG K 9 v1 (fX5_bits r5.1) (-1) 0 r5.2 hw7 (by omega) (by omega) (by omega) (fun r45 hw47 => ?_)
    refine q_iload (pc := 166) K dX5_swap_166 rfl ?_
    refine q_if_ge (pc := 168) (tgt := 179) K dX5_swap_168 (by decide) (fun c48 => ?_) (fun c48 => ?_)
    · have i52 := leI c48
      refine q_iload (pc := 179) K dX5_swap_179 rfl ?_
      exact q_iret K hr dX5_swap_181
    · have i53 := nleI c48
      refine q_aload_n (pc := 171) K dX5_swap_171 rfl rfl ?_
      refine q_iconst (pc := 172) (v := 3) K dX5_swap_172 (by decide) ?_
      refine q_callVi (pc := 173) (o := 0) (rm := rmX5_finding) K (kX5_finding l hN hG 3 r45.2 hw47 (by omega)) gX5_swap_X5_finding rfl hdV_X5_finding ⟨Nat.le_of_ble_eq_true rfl, Nat.le_of_ble_eq_true rfl⟩ rfl rfl ⟨Nat.zero_le _, Nat.zero_le _⟩ (wO_m hG) vw_4 rfl rfl (Nat.le_of_ble_eq_true rfl) dX5_swap_173 ?_
      refine qq_nmI (fun r49 e50 => ?_)
      have hw51 : WM r49.2 := by rw [e50]; exact wX5_finding 3 hw47 (by omega)
      refine q_goto (pc := 176) (tgt := 181) K dX5_swap_176 (by decide) ?_
      exact q_iret K hr dX5_swap_181
  · have i59 := nltI c1
    refine q_aload_n (pc := 14) K dX5_swap_14 rfl rfl ?_
    refine q_iload_n (pc := 15) K dX5_swap_15 rfl rfl ?_
    refine q_callVi (pc := 16) (o := 0) (rm := rmX5_finding) K (kX5_finding l hN hG (fX5_lacks (fX5_isAhead v1) v1 σ) σ hw (by omega)) gX5_swap_X5_finding rfl hdV_X5_finding ⟨Nat.le_of_ble_eq_true rfl, Nat.le_of_ble_eq_true rfl⟩ rfl rfl ⟨Nat.zero_le _, Nat.zero_le _⟩ (wO_m hG) vw_4 rfl rfl (Nat.le_of_ble_eq_true rfl) dX5_swap_16 ?_
    refine qq_nmI (fun r54 e55 => ?_)
    have hw56 : WM r54.2 := by rw [e55]; exact wX5_finding (fX5_lacks (fX5_isAhead v1) v1 σ) hw (by omega)
    exact q_iret K hr dX5_swap_19
theorem hdV_X5_law : yX5_law.cls = RX5 ∧ yX5_law.cls ≠ "java/lang/invoke/MethodHandle" ∧ yX5_law.cls ≠ "java/lang/invoke/VarHandle" ∧ (parseMethodDescriptor yX5_law.desc).map (fun d => d.parameters.length) = some 1 := by decide +kernel
theorem mX5_law_f9 : Cond.fieldLink RX5 9 "WaxTreatiesModel" "now" "[I" ∈ wsX5_law := List.mem_of_getElem? (i := 1) rfl
theorem iwX5_law_X5 : ∀ w ∈ wsX50, w ∈ wsX5_law := fun w h => List.mem_cons_of_mem _ (List.mem_append_right _ h)
theorem mX5_law_f16 : Cond.fieldLink RX5 16 "WaxTreatiesModel" "tried" "[I" ∈ wsX5_law := List.mem_of_getElem? (i := 2) rfl
set_option maxRecDepth 100000 in
set_option maxHeartbeats 4000000 in
theorem lX5_law_49 {p : Program} (l : Launch) {e : Env} {s : State} {m : MethodId} {args : Array Value} {below : List Frame} {meth : Method} {c : Code} {Q : State → Prop} {G : gT} (hN : wN G) (hG : gfl G = false) (K : qK p s m args meth c cX5_law 7 RX5 wsX5_law G) : ∀ (k : Nat) (v1 v3 v4 v5 v6 : Int32) (σ : sg) (hw : WM σ) (hv6 : 0 ≤ v6.toInt ∧ v6.toInt ≤ 8) (hmu : (8 - v6.toInt).toNat < k) {ρ : Type} {E : ρ → Prop} {f : sg → ρ} (hk : ∀ r : sg, (WM r) → qq p l e (headSpec wsX5_law rmX5_law).room s m args below meth c Q 7 G E (f r) 78 [some (.ref (gob G 0)), some (.int v1), none, some (.int v3), some (.int v4), some (.int v5), none] [] r), qq p l e (headSpec wsX5_law rmX5_law).room s m args below meth c Q 7 G E (bnd (LX5_law_49 k v1 v3 v4 v5 v6 σ) f) 49 [some (.ref (gob G 0)), some (.int v1), none, some (.int v3), some (.int v4), some (.int v5), some (.int v6)] [] σ := by
  intro k
  induction k with
  | zero => intro v1 v3 v4 v5 v6 σ hw hv6 hmu ρ E f hk; exact absurd hmu (Nat.not_lt_zero _)
  | succ k ih =>
    intro v1 v3 v4 v5 v6 σ hw hv6 hmu ρ E f hk
    have k0 : (0 : Int32).toInt = 0 := rfl
    have k1 : (1 : Int32).toInt = 1 := rfl
    have k32 : (32 : Int32).toInt = 32 := rfl
    refine qq_in ?_
    refine qq_T (LX5_law_49.eq_2 ..) ?_
    refine q_iload (pc := 49) K dX5_law_49 rfl ?_
    refine q_aload_n (pc := 51) K dX5_law_51 rfl rfl ?_
    refine q_get (pc := 52) (o := 0) (f := 0) (v := .ref (gad G 0)) K (wO_m hG) vw_4 iwX5_law_X5 (by decide) mX5_law_f9 rfl dX5_law_52 ?_
    refine q_iconst (pc := 55) (v := 0) K dX5_law_55 (by decide) ?_
    refine q_iald (pc := 56) (a := 0) K (by rw [wna_f hG]; decide) (vinN (wlm (n := 80) hG 0 rfl) (by omega) (by omega)) dX5_law_56 ?_
    have w6 := wm_many hw (show 0 < 4 by decide)
    refine q_icmp_ge (pc := 57) (tgt := 78) K dX5_law_57 (by decide) (fun c7 => ?_) (fun c7 => ?_)
    · have i15 := leI c7
      refine qq_drop 6 (lv' := [some (.ref (gob G 0)), some (.int v1), none, some (.int v3), some (.int v4), some (.int v5), none]) rfl ?_
      exact qq_leaf (hk σ hw)
    · have i16 := nleI c7
      refine q_aload_n (pc := 60) K dX5_law_60 rfl rfl ?_
      refine q_get (pc := 61) (o := 0) (f := 2) (v := .ref (gad G 2)) K (wO_m hG) vw_4 iwX5_law_X5 (by decide) mX5_law_f16 rfl dX5_law_61 ?_
      refine q_bipush (pc := 64) (v := 32) K dX5_law_64 (by decide) ?_
      refine q_iload (pc := 66) K dX5_law_66 rfl ?_
      refine q_iadd (pc := 68) K dX5_law_68 ?_
      refine q_iload (pc := 69) K dX5_law_69 rfl ?_
      have a8 := addI (x := 32) (y := v6) (by omega) (by omega)
      refine q_iast (pc := 71) (a := 2) K (by rw [wna_f hG]; decide) (vinN (wlm (n := 80) hG 2 rfl) (by omega) (by omega)) dX5_law_71 (fun s9 e10 => ?_)
      have hw11 : WM s9 := by rw [e10]; exact wmRn hw (by decide) (by omega) (by omega) (by omega) (by omega)
      have m12 := mKeep e10 (by omega)
      have m13 := many6 e10 (show 0 ≠ 2 by decide)
      refine q_iinc (pc := 72) (v := (v6 + 1)) (lv' := [some (.ref (gob G 0)), some (.int v1), none, some (.int v3), some (.int v4), some (.int v5), some (.int (v6 + 1))]) K dX5_law_72 rfl rfl (by decide) rfl ?_
      refine q_goto (pc := 75) (tgt := 49) K dX5_law_75 (by decide) ?_
      have a14 := addI (x := v6) (y := 1) (by omega) (by omega)
      exact qq_out (ih v1 v3 v4 v5 (v6 + 1) s9 hw11 (by omega) (by omega) hk)
set_option maxRecDepth 100000 in
set_option maxHeartbeats 4000000 in
theorem lX5_law_28 {p : Program} (l : Launch) {e : Env} {s : State} {m : MethodId} {args : Array Value} {below : List Frame} {meth : Method} {c : Code} {Q : State → Prop} {G : gT} (hN : wN G) (hG : gfl G = false) (K : qK p s m args meth c cX5_law 7 RX5 wsX5_law G) : ∀ (k : Nat) (v1 v3 v4 v5 : Int32) (σ : sg) (hw : WM σ) (hv5 : 0 ≤ v5.toInt ∧ v5.toInt ≤ 7) (hnv1 : v1.toInt ≤ 100) (hmu : (7 - v5.toInt).toNat < k) {ρ : Type} {E : ρ → Prop} {f : Int32 × sg → ρ} (hk : ∀ r : Int32 × sg, (WM r.2) → qq p l e (headSpec wsX5_law rmX5_law).room s m args below meth c Q 7 G E (f r) 108 [none, none, none, some (.int r.1), none, none, none] [] r.2), qq p l e (headSpec wsX5_law rmX5_law).room s m args below meth c Q 7 G E (bnd (LX5_law_28 k v1 v3 v4 v5 σ) f) 28 [some (.ref (gob G 0)), some (.int v1), none, some (.int v3), some (.int v4), some (.int v5), none] [] σ := by
  intro k
  induction k with
  | zero => intro v1 v3 v4 v5 σ hw hv5 hnv1 hmu ρ E f hk; exact absurd hmu (Nat.not_lt_zero _)
  | succ k ih =>
    intro v1 v3 v4 v5 σ hw hv5 hnv1 hmu ρ E f hk
    have k0 : (0 : Int32).toInt = 0 := rfl
    have k1 : (1 : Int32).toInt = 1 := rfl
    have k7 : (7 : Int32).toInt = 7 := rfl
    refine qq_in ?_
    refine qq_T (LX5_law_28.eq_2 ..) ?_
    refine q_iload (pc := 28) K dX5_law_28 rfl ?_
    refine q_bipush (pc := 30) (v := 7) K dX5_law_30 (by decide) ?_
    refine q_icmp_ge (pc := 32) (tgt := 108) K dX5_law_32 (by decide) (fun c2 => ?_) (fun c2 => ?_)
    · have i28 := leI c2
      refine qq_drop 0 (lv' := [none, some (.int v1), none, some (.int v3), some (.int v4), some (.int v5), none]) rfl ?_
      refine qq_drop 1 (lv' := [none, none, none, some (.int v3), some (.int v4), some (.int v5), none]) rfl ?_
      refine qq_drop 4 (lv' := [none, none, none, some (.int v3), none, some (.int v5), none]) rfl ?_
      refine qq_drop 5 (lv' := [none, none, none, some (.int v3), none, none, none]) rfl ?_
      exact qq_leaf (hk (v3, σ) hw)
    · have i29 := nleI c2
      refine q_aload_n (pc := 35) K dX5_law_35 rfl rfl ?_
      refine q_get (pc := 36) (o := 0) (f := 0) (v := .ref (gad G 0)) K (wO_m hG) vw_4 iwX5_law_X5 (by decide) mX5_law_f9 rfl dX5_law_36 ?_
      refine q_aload_n (pc := 39) K dX5_law_39 rfl rfl ?_
      refine q_get (pc := 40) (o := 0) (f := 2) (v := .ref (gad G 2)) K (wO_m hG) vw_4 iwX5_law_X5 (by decide) mX5_law_f16 rfl dX5_law_40 ?_
      refine q_callSv (pc := 43) (rm := rmX5_row) K (kX5_row l hN hG 0 (by decide) 2 (by decide) σ (by omega)) gX5_law_X5_row rfl hdS_X5_row ⟨Nat.le_of_ble_eq_true rfl, Nat.le_of_ble_eq_true rfl⟩ rfl rfl ⟨Nat.zero_le _, Nat.zero_le _⟩ rfl rfl (Nat.le_of_ble_eq_true rfl) dX5_law_43 ?_
      refine qq_nmV (fun r3 e4 => ?_)
      have hw5 : WM r3 := by rw [e4]; exact wX5_row 0 (by decide) 2 (by decide) hw (by omega)
      have me4 := row0 (show 0 ≠ 2 by decide) e4
      refine q_iconst (pc := 46) (v := 0) K dX5_law_46 (by decide) ?_
      refine q_istore (pc := 47) (lv' := [some (.ref (gob G 0)), some (.int v1), none, some (.int v3), some (.int v4), some (.int v5), some (.int 0)]) K dX5_law_47 (by decide) (Nat.le_of_ble_eq_true rfl) rfl ?_
      refine lX5_law_49 l hN hG K 9 v1 v3 v4 v5 0 r3 hw5 (by omega) (by omega) (fun r17 hw19 => ?_)
      refine q_aload_n (pc := 78) K dX5_law_78 rfl rfl ?_
      refine q_iload_n (pc := 79) K dX5_law_79 rfl rfl ?_
      refine q_callVi (pc := 80) (o := 0) (rm := rmX5_holdingBehind) K (kX5_holdingBehind l hN hG v1 r17 hw19 (by omega)) gX5_law_X5_holdingBehind rfl hdV_X5_holdingBehind ⟨Nat.le_of_ble_eq_true rfl, Nat.le_of_ble_eq_true rfl⟩ rfl rfl ⟨Nat.zero_le _, Nat.zero_le _⟩ (wO_m hG) vw_4 rfl rfl (Nat.le_of_ble_eq_true rfl) dX5_law_80 ?_
      refine qq_nmI (fun r20 e21 => ?_)
      have hw22 : WM r20.2 := by rw [e21]; exact wX5_holdingBehind v1 hw19 (by omega)
      have hbe21 := hbB hw22 e21
      have hme21 := hbm e21
      refine q_callSi (pc := 83) (rm := rmX5_bits) K (kX5_bits l hN r20.1 r20.2 (by omega)) gX5_law_X5_bits rfl hdS_X5_bits ⟨Nat.le_of_ble_eq_true rfl, Nat.le_of_ble_eq_true rfl⟩ rfl rfl ⟨Nat.zero_le _, Nat.zero_le _⟩ rfl rfl (Nat.le_of_ble_eq_true rfl) dX5_law_83 ?_
      refine q_istore (pc := 86) (lv' := [some (.ref (gob G 0)), some (.int v1), none, some (.int v3), some (.int v4), some (.int v5), some (.int (fX5_bits r20.1))]) K dX5_law_86 (by decide) (Nat.le_of_ble_eq_true rfl) rfl ?_
      refine q_iload (pc := 88) K dX5_law_88 rfl ?_
      refine q_iload (pc := 90) K dX5_law_90 rfl ?_
      refine q_icmp_le (pc := 92) (tgt := 102) K dX5_law_92 (by decide) (fun c23 => ?_) (fun c23 => ?_)
      · have i26 := leI c23
        refine q_iinc (pc := 102) (v := (v5 + 1)) (lv' := [some (.ref (gob G 0)), some (.int v1), none, some (.int v3), some (.int v4), some (.int (v5 + 1)), some (.int (fX5_bits r20.1))]) K dX5_law_102 rfl rfl (by decide) rfl ?_
        refine q_goto (pc := 105) (tgt := 28) K dX5_law_105 (by decide) ?_
        refine qq_drop 6 (lv' := [some (.ref (gob G 0)), some (.int v1), none, some (.int v3), some (.int v4), some (.int (v5 + 1)), none]) rfl ?_
        have a24 := addI (x := v5) (y := 1) (by omega) (by omega)
        exact qq_out (ih v1 v3 v4 (v5 + 1) r20.2 hw22 (by omega) (by omega) (by omega) hk)
      · have i27 := nleI c23
        refine q_iload (pc := 95) K dX5_law_95 rfl ?_
        refine q_istore_n (pc := 97) (lv' := [some (.ref (gob G 0)), some (.int v1), none, some (.int v5), some (.int v4), some (.int v5), some (.int (fX5_bits r20.1))]) K dX5_law_97 rfl (by decide) (Nat.le_of_ble_eq_true rfl) rfl ?_
        refine q_iload (pc := 98) K dX5_law_98 rfl ?_
        refine q_istore (pc := 100) (lv' := [some (.ref (gob G 0)), some (.int v1), none, some (.int v5), some (.int (fX5_bits r20.1)), some (.int v5), some (.int (fX5_bits r20.1))]) K dX5_law_100 (by decide) (Nat.le_of_ble_eq_true rfl) rfl ?_
        refine q_iinc (pc := 102) (v := (v5 + 1)) (lv' := [some (.ref (gob G 0)), some (.int v1), none, some (.int v5), some (.int (fX5_bits r20.1)), some (.int (v5 + 1)), some (.int (fX5_bits r20.1))]) K dX5_law_102 rfl rfl (by decide) rfl ?_
        refine q_goto (pc := 105) (tgt := 28) K dX5_law_105 (by decide) ?_
        refine qq_drop 6 (lv' := [some (.ref (gob G 0)), some (.int v1), none, some (.int v5), some (.int (fX5_bits r20.1)), some (.int (v5 + 1)), none]) rfl ?_
        have a25 := addI (x := v5) (y := 1) (by omega) (by omega)
        exact qq_out (ih v1 v5 (fX5_bits r20.1) (v5 + 1) r20.2 hw22 (by omega) (by omega) (by omega) hk)
set_option maxRecDepth 100000 in
set_option maxHeartbeats 4000000 in
theorem kX5_law (l : Launch) {G : gT} (hN : wN G) (hG : gfl G = false) (v1 : Int32) (σ : sg) (hw : WM σ) : cM l yX5_law wsX5_law rmX5_law G [.ref (gob G 0), .int v1] σ (some (.int (fX5_law v1 σ).1)) (fX5_law v1 σ).2 := by
  refine cM_of (maxL := 7) (ret := (some .int)) (cc := cX5_law) (fX5_law v1 σ) RX5 hN (by decide +kernel) rfl rfl (Nat.le_of_ble_eq_true rfl) rfl ?_
  intro p e s m args below meth c K hr
  have km1 : ((-1) : Int32).toInt = -1 := rfl
  have k0 : (0 : Int32).toInt = 0 := rfl
  refine qq_st (lv' := [some (.ref (gob G 0)), some (.int v1), none, none, none, none, none]) rfl rfl rfl ?_
  refine qq_T (fX5_law.eq_1 ..) ?_
  refine q_aload_n (pc := 0) K dX5_law_0 rfl rfl ?_
  refine q_iload_n (pc := 1) K dX5_law_1 rfl rfl ?_
  refine q_callSi (pc := 2) (rm := rmX5_isAhead) K (kX5_isAhead l hN v1 σ) gX5_law_X5_isAhead rfl hdS_X5_isAhead ⟨Nat.le_of_ble_eq_true rfl, Nat.le_of_ble_eq_true rfl⟩ rfl rfl ⟨Nat.zero_le _, Nat.zero_le _⟩ rfl rfl (Nat.le_of_ble_eq_true rfl) dX5_law_2 ?_
  refine q_iload_n (pc := 5) K dX5_law_5 rfl rfl ?_
  refine q_callVi (pc := 6) (o := 0) (rm := rmX5_lacks) K (kX5_lacks l hN hG (fX5_isAhead v1) v1 σ hw) gX5_law_X5_lacks rfl hdV_X5_lacks ⟨Nat.le_of_ble_eq_true rfl, Nat.le_of_ble_eq_true rfl⟩ rfl rfl ⟨Nat.zero_le _, Nat.zero_le _⟩ (wO_m hG) vw_4 rfl rfl (Nat.le_of_ble_eq_true rfl) dX5_law_6 ?_
  have lr := lkR (fX5_isAhead v1) v1 σ
  refine q_istore_n (pc := 9) (lv' := [some (.ref (gob G 0)), some (.int v1), some (.int (fX5_lacks (fX5_isAhead v1) v1 σ)), none, none, none, none]) K dX5_law_9 rfl (by decide) (Nat.le_of_ble_eq_true rfl) rfl ?_
  refine q_iload_n (pc := 10) K dX5_law_10 rfl rfl ?_
  refine q_if_lt (pc := 11) (tgt := 20) K dX5_law_11 (by decide) (fun c1 => ?_) (fun c1 => ?_)
  · have i36 := ltI c1
    have b37 := lkA_t c1
    refine q_iconst (pc := 20) (v := 0) K dX5_law_20 (by decide) ?_
    refine q_istore_n (pc := 21) (lv' := [some (.ref (gob G 0)), some (.int v1), some (.int (fX5_lacks (fX5_isAhead v1) v1 σ)), some (.int 0), none, none, none]) K dX5_law_21 rfl (by decide) (Nat.le_of_ble_eq_true rfl) rfl ?_
    refine q_iconst (pc := 22) (v := (-1)) K dX5_law_22 (by decide) ?_
    refine q_istore (pc := 23) (lv' := [some (.ref (gob G 0)), some (.int v1), some (.int (fX5_lacks (fX5_isAhead v1) v1 σ)), some (.int 0), some (.int (-1)), none, none]) K dX5_law_23 (by decide) (Nat.le_of_ble_eq_true rfl) rfl ?_
    refine q_iconst (pc := 25) (v := 0) K dX5_law_25 (by decide) ?_
    refine q_istore (pc := 26) (lv' := [some (.ref (gob G 0)), some (.int v1), some (.int (fX5_lacks (fX5_isAhead v1) v1 σ)), some (.int 0), some (.int (-1)), some (.int 0), none]) K dX5_law_26 (by decide) (Nat.le_of_ble_eq_true rfl) rfl ?_
    refine qq_drop 2 (lv' := [some (.ref (gob G 0)), some (.int v1), none, some (.int 0), some (.int (-1)), some (.int 0), none]) rfl ?_
    refine lX5_law_28 l hN hG K 8 v1 0 (-1) 0 σ hw (by omega) (by omega) (by omega) (fun r30 hw32 => ?_)
    refine q_iload_n (pc := 108) K dX5_law_108 rfl rfl ?_
    exact q_iret K hr dX5_law_109
  · have i38 := nltI c1
    refine q_aload_n (pc := 14) K dX5_law_14 rfl rfl ?_
    refine q_iload_n (pc := 15) K dX5_law_15 rfl rfl ?_
    refine q_callVi (pc := 16) (o := 0) (rm := rmX5_finding) K (kX5_finding l hN hG (fX5_lacks (fX5_isAhead v1) v1 σ) σ hw (by omega)) gX5_law_X5_finding rfl hdV_X5_finding ⟨Nat.le_of_ble_eq_true rfl, Nat.le_of_ble_eq_true rfl⟩ rfl rfl ⟨Nat.zero_le _, Nat.zero_le _⟩ (wO_m hG) vw_4 rfl rfl (Nat.le_of_ble_eq_true rfl) dX5_law_16 ?_
    refine qq_nmI (fun r33 e34 => ?_)
    have hw35 : WM r33.2 := by rw [e34]; exact wX5_finding (fX5_lacks (fX5_isAhead v1) v1 σ) hw (by omega)
    exact q_iret K hr dX5_law_19
theorem hdV_X5_shut : yX5_shut.cls = RX5 ∧ yX5_shut.cls ≠ "java/lang/invoke/MethodHandle" ∧ yX5_shut.cls ≠ "java/lang/invoke/VarHandle" ∧ (parseMethodDescriptor yX5_shut.desc).map (fun d => d.parameters.length) = some 0 := by decide +kernel
theorem mX5_shut_f9 : Cond.fieldLink RX5 9 "WaxTreatiesModel" "now" "[I" ∈ wsX5_shut := List.mem_of_getElem? (i := 1) rfl
theorem iwX5_shut_X5 : ∀ w ∈ wsX50, w ∈ wsX5_shut := fun w h => List.mem_cons_of_mem _ (List.mem_append_right _ h)
set_option maxRecDepth 100000 in
set_option maxHeartbeats 4000000 in
theorem lX5_shut_4 {p : Program} (l : Launch) {e : Env} {s : State} {m : MethodId} {args : Array Value} {below : List Frame} {meth : Method} {c : Code} {Q : State → Prop} {G : gT} (hN : wN G) (hG : gfl G = false) (K : qK p s m args meth c cX5_shut 3 RX5 wsX5_shut G) : ∀ (k : Nat) (v1 v2 : Int32) (σ : sg) (hw : WM σ) (hv2 : 0 ≤ v2.toInt ∧ v2.toInt ≤ 6) (hmu : (6 - v2.toInt).toNat < k) {ρ : Type} {E : ρ → Prop} {f : Int32 → ρ} (hk : ∀ r : Int32, qq p l e (headSpec wsX5_shut rmX5_shut).room s m args below meth c Q 3 G E (f r) 37 [none, some (.int r), none] [] σ), qq p l e (headSpec wsX5_shut rmX5_shut).room s m args below meth c Q 3 G E (bnd (LX5_shut_4 k v1 v2 σ) f) 4 [some (.ref (gob G 0)), some (.int v1), some (.int v2)] [] σ := by
  intro k
  induction k with
  | zero => intro v1 v2 σ hw hv2 hmu ρ E f hk; exact absurd hmu (Nat.not_lt_zero _)
  | succ k ih =>
    intro v1 v2 σ hw hv2 hmu ρ E f hk
    have k0 : (0 : Int32).toInt = 0 := rfl
    have k1 : (1 : Int32).toInt = 1 := rfl
    have k4 : (4 : Int32).toInt = 4 := rfl
    have k6 : (6 : Int32).toInt = 6 := rfl
    refine qq_in ?_
    refine qq_T (LX5_shut_4.eq_2 ..) ?_
    refine q_iload_n (pc := 4) K dX5_shut_4 rfl rfl ?_
    refine q_bipush (pc := 5) (v := 6) K dX5_shut_5 (by decide) ?_
    refine q_icmp_ge (pc := 7) (tgt := 37) K dX5_shut_7 (by decide) (fun c1 => ?_) (fun c1 => ?_)
    · have i8 := leI c1
      refine qq_drop 0 (lv' := [none, some (.int v1), some (.int v2)]) rfl ?_
      refine qq_drop 2 (lv' := [none, some (.int v1), none]) rfl ?_
      exact qq_leaf (hk v1)
    · have i9 := nleI c1
      refine q_iload_n (pc := 10) K dX5_shut_10 rfl rfl ?_
      refine q_aload_n (pc := 11) K dX5_shut_11 rfl rfl ?_
      refine q_get (pc := 12) (o := 0) (f := 0) (v := .ref (gad G 0)) K (wO_m hG) vw_4 iwX5_shut_X5 (by decide) mX5_shut_f9 rfl dX5_shut_12 ?_
      refine q_iconst (pc := 15) (v := 4) K dX5_shut_15 (by decide) ?_
      refine q_iload_n (pc := 16) K dX5_shut_16 rfl rfl ?_
      refine q_iadd (pc := 17) K dX5_shut_17 ?_
      have a2 := addI (x := 4) (y := v2) (by omega) (by omega)
      refine q_iald (pc := 18) (a := 0) K (by rw [wna_f hG]; decide) (vinN (wlm (n := 80) hG 0 rfl) (by omega) (by omega)) dX5_shut_18 ?_
      refine q_if_ne (pc := 19) (tgt := 28) K dX5_shut_19 (by decide) (fun c3 => ?_) (fun c3 => ?_)
      · have i6 := neI c3
        refine q_iconst (pc := 28) (v := 0) K dX5_shut_28 (by decide) ?_
        refine q_ior (pc := 29) K dX5_shut_29 ?_
        refine q_istore_n (pc := 30) (lv' := [some (.ref (gob G 0)), some (.int (v1 ||| 0)), some (.int v2)]) K dX5_shut_30 rfl (by decide) (Nat.le_of_ble_eq_true rfl) rfl ?_
        refine q_iinc (pc := 31) (v := (v2 + 1)) (lv' := [some (.ref (gob G 0)), some (.int (v1 ||| 0)), some (.int (v2 + 1))]) K dX5_shut_31 rfl rfl (by decide) rfl ?_
        refine q_goto (pc := 34) (tgt := 4) K dX5_shut_34 (by decide) ?_
        have a4 := addI (x := v2) (y := 1) (by omega) (by omega)
        exact qq_out (ih (v1 ||| 0) (v2 + 1) σ hw (by omega) (by omega) hk)
      · have i7 := eqI c3
        refine q_iconst (pc := 22) (v := 1) K dX5_shut_22 (by decide) ?_
        refine q_iload_n (pc := 23) K dX5_shut_23 rfl rfl ?_
        refine q_ishl (pc := 24) K dX5_shut_24 ?_
        refine q_goto (pc := 25) (tgt := 29) K dX5_shut_25 (by decide) ?_
        refine q_ior (pc := 29) K dX5_shut_29 ?_
        refine q_istore_n (pc := 30) (lv' := [some (.ref (gob G 0)), some (.int (v1 ||| (jshl 1 v2))), some (.int v2)]) K dX5_shut_30 rfl (by decide) (Nat.le_of_ble_eq_true rfl) rfl ?_
        refine q_iinc (pc := 31) (v := (v2 + 1)) (lv' := [some (.ref (gob G 0)), some (.int (v1 ||| (jshl 1 v2))), some (.int (v2 + 1))]) K dX5_shut_31 rfl rfl (by decide) rfl ?_
        refine q_goto (pc := 34) (tgt := 4) K dX5_shut_34 (by decide) ?_
        have a5 := addI (x := v2) (y := 1) (by omega) (by omega)
        exact qq_out (ih (v1 ||| (jshl 1 v2)) (v2 + 1) σ hw (by omega) (by omega) hk)
set_option maxRecDepth 100000 in
set_option maxHeartbeats 4000000 in
theorem kX5_shut (l : Launch) {G : gT} (hN : wN G) (hG : gfl G = false) (σ : sg) (hw : WM σ) : cM l yX5_shut wsX5_shut rmX5_shut G [.ref (gob G 0)] σ (some (.int (fX5_shut σ))) σ := by
  refine cM_of (maxL := 3) (ret := (some .int)) (cc := cX5_shut) (fX5_shut σ) RX5 hN (by decide +kernel) rfl rfl (Nat.le_of_ble_eq_true rfl) rfl ?_
  intro p e s m args below meth c K hr
  have k0 : (0 : Int32).toInt = 0 := rfl
  refine qq_st (lv' := [some (.ref (gob G 0)), none, none]) rfl rfl rfl ?_
  refine qq_T (fX5_shut.eq_1 ..) ?_
  refine q_iconst (pc := 0) (v := 0) K dX5_shut_0 (by decide) ?_
  refine q_istore_n (pc := 1) (lv' := [some (.ref (gob G 0)), some (.int 0), none]) K dX5_shut_1 rfl (by decide) (Nat.le_of_ble_eq_true rfl) rfl ?_
  refine q_iconst (pc := 2) (v := 0) K dX5_shut_2 (by decide) ?_
  refine q_istore_n (pc := 3) (lv' := [some (.ref (gob G 0)), some (.int 0), some (.int 0)]) K dX5_shut_3 rfl (by decide) (Nat.le_of_ble_eq_true rfl) rfl ?_
  refine lX5_shut_4 l hN hG K 7 0 0 σ hw (by omega) (by omega) (fun r10 => ?_)
  refine q_iload_n (pc := 37) K dX5_shut_37 rfl rfl ?_
  exact q_iretP K hr dX5_shut_38
theorem hdV_X5_holdingWith : yX5_holdingWith.cls = RX5 ∧ yX5_holdingWith.cls ≠ "java/lang/invoke/MethodHandle" ∧ yX5_holdingWith.cls ≠ "java/lang/invoke/VarHandle" ∧ (parseMethodDescriptor yX5_holdingWith.desc).map (fun d => d.parameters.length) = some 2 := by decide +kernel
theorem mX5_holdingWith_f9 : Cond.fieldLink RX5 9 "WaxTreatiesModel" "now" "[I" ∈ wsX5_holdingWith := List.mem_of_getElem? (i := 1) rfl
theorem iwX5_holdingWith_X5 : ∀ w ∈ wsX50, w ∈ wsX5_holdingWith := fun w h => List.mem_cons_of_mem _ (List.mem_append_right _ h)
theorem mX5_holdingWith_f16 : Cond.fieldLink RX5 16 "WaxTreatiesModel" "tried" "[I" ∈ wsX5_holdingWith := List.mem_of_getElem? (i := 2) rfl
set_option maxRecDepth 100000 in
set_option maxHeartbeats 4000000 in
theorem lX5_holdingWith_13 {p : Program} (l : Launch) {e : Env} {s : State} {m : MethodId} {args : Array Value} {below : List Frame} {meth : Method} {c : Code} {Q : State → Prop} {G : gT} (hN : wN G) (hG : gfl G = false) (K : qK p s m args meth c cX5_holdingWith 4 RX5 wsX5_holdingWith G) : ∀ (k : Nat) (v1 v2 v3 : Int32) (σ : sg) (hw : WM σ) (hv3 : 0 ≤ v3.toInt ∧ v3.toInt ≤ 6) (hmu : (6 - v3.toInt).toNat < k) {ρ : Type} {E : ρ → Prop} {f : sg → ρ} (hk : ∀ r : sg, (WM r) → qq p l e (headSpec wsX5_holdingWith rmX5_holdingWith).room s m args below meth c Q 4 G E (f r) 54 [some (.ref (gob G 0)), none, some (.int v2), none] [] r), qq p l e (headSpec wsX5_holdingWith rmX5_holdingWith).room s m args below meth c Q 4 G E (bnd (LX5_holdingWith_13 k v1 v2 v3 σ) f) 13 [some (.ref (gob G 0)), some (.int v1), some (.int v2), some (.int v3)] [] σ := by
  intro k
  induction k with
  | zero => intro v1 v2 v3 σ hw hv3 hmu ρ E f hk; exact absurd hmu (Nat.not_lt_zero _)
  | succ k ih =>
    intro v1 v2 v3 σ hw hv3 hmu ρ E f hk
    have k0 : (0 : Int32).toInt = 0 := rfl
    have k1 : (1 : Int32).toInt = 1 := rfl
    have k4 : (4 : Int32).toInt = 4 := rfl
    have k6 : (6 : Int32).toInt = 6 := rfl
    refine qq_in ?_
    refine qq_T (LX5_holdingWith_13.eq_2 ..) ?_
    refine q_iload_n (pc := 13) K dX5_holdingWith_13 rfl rfl ?_
    refine q_bipush (pc := 14) (v := 6) K dX5_holdingWith_14 (by decide) ?_
    refine q_icmp_ge (pc := 16) (tgt := 54) K dX5_holdingWith_16 (by decide) (fun c4 => ?_) (fun c4 => ?_)
    · have i22 := leI c4
      refine qq_drop 1 (lv' := [some (.ref (gob G 0)), none, some (.int v2), some (.int v3)]) rfl ?_
      refine qq_drop 3 (lv' := [some (.ref (gob G 0)), none, some (.int v2), none]) rfl ?_
      exact qq_leaf (hk σ hw)
    · have i23 := nleI c4
      refine q_aload_n (pc := 19) K dX5_holdingWith_19 rfl rfl ?_
      refine q_get (pc := 20) (o := 0) (f := 2) (v := .ref (gad G 2)) K (wO_m hG) vw_4 iwX5_holdingWith_X5 (by decide) mX5_holdingWith_f16 rfl dX5_holdingWith_20 ?_
      refine q_iconst (pc := 23) (v := 4) K dX5_holdingWith_23 (by decide) ?_
      refine q_iload_n (pc := 24) K dX5_holdingWith_24 rfl rfl ?_
      refine q_iadd (pc := 25) K dX5_holdingWith_25 ?_
      refine q_iload_n (pc := 26) K dX5_holdingWith_26 rfl rfl ?_
      refine q_iload_n (pc := 27) K dX5_holdingWith_27 rfl rfl ?_
      refine q_ishr (pc := 28) K dX5_holdingWith_28 ?_
      refine q_iconst (pc := 29) (v := 1) K dX5_holdingWith_29 (by decide) ?_
      refine q_iand (pc := 30) K dX5_holdingWith_30 ?_
      refine q_iconst (pc := 31) (v := 1) K dX5_holdingWith_31 (by decide) ?_
      refine q_icmp_ne (pc := 32) (tgt := 39) K dX5_holdingWith_32 (by decide) (fun c5 => ?_) (fun c5 => ?_)
      · have i20 := neI c5
        refine q_aload_n (pc := 39) K dX5_holdingWith_39 rfl rfl ?_
        refine q_get (pc := 40) (o := 0) (f := 2) (v := .ref (gad G 2)) K (wO_m hG) vw_4 iwX5_holdingWith_X5 (by decide) mX5_holdingWith_f16 rfl dX5_holdingWith_40 ?_
        refine q_iconst (pc := 43) (v := 4) K dX5_holdingWith_43 (by decide) ?_
        refine q_iload_n (pc := 44) K dX5_holdingWith_44 rfl rfl ?_
        refine q_iadd (pc := 45) K dX5_holdingWith_45 ?_
        have a6 := addI (x := 4) (y := v3) (by omega) (by omega)
        refine q_iald (pc := 46) (a := 2) K (by rw [wna_f hG]; decide) (vinN (wlm (n := 80) hG 2 rfl) (by omega) (by omega)) dX5_holdingWith_46 ?_
        refine q_iast (pc := 47) (a := 2) K (by rw [wna_f hG]; decide) (vinN (wlm (n := 80) hG 2 rfl) (by omega) (by omega)) dX5_holdingWith_47 (fun s7 e8 => ?_)
        have hw9 : WM s7 := by rw [e8]; exact wmRn hw (by decide) (by omega) (by omega) (by omega) (by omega)
        have m10 := mKeep e8 (by omega)
        have m11 := many6 e8 (show 0 ≠ 2 by decide)
        refine q_iinc (pc := 48) (v := (v3 + 1)) (lv' := [some (.ref (gob G 0)), some (.int v1), some (.int v2), some (.int (v3 + 1))]) K dX5_holdingWith_48 rfl rfl (by decide) rfl ?_
        refine q_goto (pc := 51) (tgt := 13) K dX5_holdingWith_51 (by decide) ?_
        have a12 := addI (x := v3) (y := 1) (by omega) (by omega)
        exact qq_out (ih v1 v2 (v3 + 1) s7 hw9 (by omega) (by omega) hk)
      · have i21 := eqI c5
        refine q_iconst (pc := 35) (v := 1) K dX5_holdingWith_35 (by decide) ?_
        refine q_goto (pc := 36) (tgt := 47) K dX5_holdingWith_36 (by decide) ?_
        have a13 := addI (x := 4) (y := v3) (by omega) (by omega)
        refine q_iast (pc := 47) (a := 2) K (by rw [wna_f hG]; decide) (vinN (wlm (n := 80) hG 2 rfl) (by omega) (by omega)) dX5_holdingWith_47 (fun s14 e15 => ?_)
        have hw16 : WM s14 := by rw [e15]; exact wmRn hw (by decide) (by omega) (by omega) (by omega) (by omega)
        have m17 := mKeep e15 (by omega)
        have m18 := many6 e15 (show 0 ≠ 2 by decide)
        refine q_iinc (pc := 48) (v := (v3 + 1)) (lv' := [some (.ref (gob G 0)), some (.int v1), some (.int v2), some (.int (v3 + 1))]) K dX5_holdingWith_48 rfl rfl (by decide) rfl ?_
        refine q_goto (pc := 51) (tgt := 13) K dX5_holdingWith_51 (by decide) ?_
        have a19 := addI (x := v3) (y := 1) (by omega) (by omega)
        exact qq_out (ih v1 v2 (v3 + 1) s14 hw16 (by omega) (by omega) hk)
set_option maxRecDepth 100000 in
set_option maxHeartbeats 4000000 in
theorem kX5_holdingWith (l : Launch) {G : gT} (hN : wN G) (hG : gfl G = false) (v1 : Int32) (v2 : Int32) (σ : sg) (hw : WM σ) (hn : v2.toInt ≤ 100) : cM l yX5_holdingWith wsX5_holdingWith rmX5_holdingWith G [.ref (gob G 0), .int v1, .int v2] σ (some (.int (fX5_holdingWith v1 v2 σ).1)) (fX5_holdingWith v1 v2 σ).2 := by
  refine cM_of (maxL := 4) (ret := (some .int)) (cc := cX5_holdingWith) (fX5_holdingWith v1 v2 σ) RX5 hN (by decide +kernel) rfl rfl (Nat.le_of_ble_eq_true rfl) rfl ?_
  intro p e s m args below meth c K hr
  have k0 : (0 : Int32).toInt = 0 := rfl
  refine qq_st (lv' := [some (.ref (gob G 0)), some (.int v1), some (.int v2), none]) rfl rfl rfl ?_
  refine qq_T (fX5_holdingWith.eq_1 ..) ?_
  refine q_aload_n (pc := 0) K dX5_holdingWith_0 rfl rfl ?_
  refine q_get (pc := 1) (o := 0) (f := 0) (v := .ref (gad G 0)) K (wO_m hG) vw_4 iwX5_holdingWith_X5 (by decide) mX5_holdingWith_f9 rfl dX5_holdingWith_1 ?_
  refine q_aload_n (pc := 4) K dX5_holdingWith_4 rfl rfl ?_
  refine q_get (pc := 5) (o := 0) (f := 2) (v := .ref (gad G 2)) K (wO_m hG) vw_4 iwX5_holdingWith_X5 (by decide) mX5_holdingWith_f16 rfl dX5_holdingWith_5 ?_
  refine q_callSv (pc := 8) (rm := rmX5_row) K (kX5_row l hN hG 0 (by decide) 2 (by decide) σ (by omega)) gX5_holdingWith_X5_row rfl hdS_X5_row ⟨Nat.le_of_ble_eq_true rfl, Nat.le_of_ble_eq_true rfl⟩ rfl rfl ⟨Nat.zero_le _, Nat.zero_le _⟩ rfl rfl (Nat.le_of_ble_eq_true rfl) dX5_holdingWith_8 ?_
  refine qq_nmV (fun r1 e2 => ?_)
  have hw3 : WM r1 := by rw [e2]; exact wX5_row 0 (by decide) 2 (by decide) hw (by omega)
  have me2 := row0 (show 0 ≠ 2 by decide) e2
  refine q_iconst (pc := 11) (v := 0) K dX5_holdingWith_11 (by decide) ?_
  refine q_istore_n (pc := 12) (lv' := [some (.ref (gob G 0)), some (.int v1), some (.int v2), some (.int 0)]) K dX5_holdingWith_12 rfl (by decide) (Nat.le_of_ble_eq_true rfl) rfl ?_
  refine lX5_holdingWith_13 l hN hG K 7 v1 v2 0 r1 hw3 (by omega) (by omega) (fun r24 hw26 => ?_)
  refine q_aload_n (pc := 54) K dX5_holdingWith_54 rfl rfl ?_
  refine q_iload_n (pc := 55) K dX5_holdingWith_55 rfl rfl ?_
  refine q_callVi (pc := 56) (o := 0) (rm := rmX5_holdingBehind) K (kX5_holdingBehind l hN hG v2 r24 hw26 (by omega)) gX5_holdingWith_X5_holdingBehind rfl hdV_X5_holdingBehind ⟨Nat.le_of_ble_eq_true rfl, Nat.le_of_ble_eq_true rfl⟩ rfl rfl ⟨Nat.zero_le _, Nat.zero_le _⟩ (wO_m hG) vw_4 rfl rfl (Nat.le_of_ble_eq_true rfl) dX5_holdingWith_56 ?_
  refine qq_nmI (fun r27 e28 => ?_)
  have hw29 : WM r27.2 := by rw [e28]; exact wX5_holdingBehind v2 hw26 (by omega)
  have hbe28 := hbB hw29 e28
  have hme28 := hbm e28
  exact q_iret K hr dX5_holdingWith_59
theorem hdV_X5_worstOf : yX5_worstOf.cls = RX5 ∧ yX5_worstOf.cls ≠ "java/lang/invoke/MethodHandle" ∧ yX5_worstOf.cls ≠ "java/lang/invoke/VarHandle" ∧ (parseMethodDescriptor yX5_worstOf.desc).map (fun d => d.parameters.length) = some 3 := by decide +kernel
theorem mX5_worstOf_f159 : Cond.fieldLink RX5 159 "WaxTreatiesModel" "worstLeft" "I" ∈ wsX5_worstOf := List.mem_of_getElem? (i := 1) rfl
theorem iwX5_worstOf_X5 : ∀ w ∈ wsX50, w ∈ wsX5_worstOf := fun w h => List.mem_cons_of_mem _ (List.mem_append_right _ h)
set_option maxRecDepth 100000 in
set_option maxHeartbeats 4000000 in
theorem lX5_worstOf_12 {p : Program} (l : Launch) {e : Env} {s : State} {m : MethodId} {args : Array Value} {below : List Frame} {meth : Method} {c : Code} {Q : State → Prop} {G : gT} (hN : wN G) (hG : gfl G = false) (K : qK p s m args meth c cX5_worstOf 7 RX5 wsX5_worstOf G) : ∀ (k : Nat) (v1 v2 v3 v4 v5 : Int32) (σ : sg) (hw : WM σ) (hv5 : 0 ≤ v5.toInt ∧ v5.toInt ≤ 64) (hnv3 : v3.toInt ≤ 100) (hmu : (64 - v5.toInt).toNat < k) {ρ : Type} {E : ρ → Prop} {f : Int32 × sg → ρ} (hk : ∀ r : Int32 × sg, (WM r.2) → qq p l e (headSpec wsX5_worstOf rmX5_worstOf).room s m args below meth c Q 7 G E (f r) 74 [none, none, none, none, some (.int r.1), none, none] [] r.2), qq p l e (headSpec wsX5_worstOf rmX5_worstOf).room s m args below meth c Q 7 G E (bnd (LX5_worstOf_12 k v1 v2 v3 v4 v5 σ) f) 12 [some (.ref (gob G 0)), some (.int v1), some (.int v2), some (.int v3), some (.int v4), some (.int v5), none] [] σ := by
  intro k
  induction k with
  | zero => intro v1 v2 v3 v4 v5 σ hw hv5 hnv3 hmu ρ E f hk; exact absurd hmu (Nat.not_lt_zero _)
  | succ k ih =>
    intro v1 v2 v3 v4 v5 σ hw hv5 hnv3 hmu ρ E f hk
    have km1 : ((-1) : Int32).toInt = -1 := rfl
    have k0 : (0 : Int32).toInt = 0 := rfl
    have k1 : (1 : Int32).toInt = 1 := rfl
    have k64 : (64 : Int32).toInt = 64 := rfl
    refine qq_in ?_
    refine qq_T (LX5_worstOf_12.eq_2 ..) ?_
    refine q_iload (pc := 12) K dX5_worstOf_12 rfl ?_
    refine q_bipush (pc := 14) (v := 64) K dX5_worstOf_14 (by decide) ?_
    refine q_icmp_ge (pc := 16) (tgt := 74) K dX5_worstOf_16 (by decide) (fun c4 => ?_) (fun c4 => ?_)
    · have i24 := leI c4
      refine qq_drop 0 (lv' := [none, some (.int v1), some (.int v2), some (.int v3), some (.int v4), some (.int v5), none]) rfl ?_
      refine qq_drop 1 (lv' := [none, none, some (.int v2), some (.int v3), some (.int v4), some (.int v5), none]) rfl ?_
      refine qq_drop 2 (lv' := [none, none, none, some (.int v3), some (.int v4), some (.int v5), none]) rfl ?_
      refine qq_drop 3 (lv' := [none, none, none, none, some (.int v4), some (.int v5), none]) rfl ?_
      refine qq_drop 5 (lv' := [none, none, none, none, some (.int v4), none, none]) rfl ?_
      exact qq_leaf (hk (v4, σ) hw)
    · have i25 := nleI c4
      refine q_iload (pc := 19) K dX5_worstOf_19 rfl ?_
      refine q_iload_n (pc := 21) K dX5_worstOf_21 rfl rfl ?_
      refine q_iconst (pc := 22) (v := (-1)) K dX5_worstOf_22 (by decide) ?_
      refine q_ixor (pc := 23) K dX5_worstOf_23 ?_
      refine q_iand (pc := 24) K dX5_worstOf_24 ?_
      refine q_if_ne (pc := 25) (tgt := 68) K dX5_worstOf_25 (by decide) (fun c5 => ?_) (fun c5 => ?_)
      · have i22 := neI c5
        refine q_iinc (pc := 68) (v := (v5 + 1)) (lv' := [some (.ref (gob G 0)), some (.int v1), some (.int v2), some (.int v3), some (.int v4), some (.int (v5 + 1)), none]) K dX5_worstOf_68 rfl rfl (by decide) rfl ?_
        refine q_goto (pc := 71) (tgt := 12) K dX5_worstOf_71 (by decide) ?_
        have a6 := addI (x := v5) (y := 1) (by omega) (by omega)
        exact qq_out (ih v1 v2 v3 v4 (v5 + 1) σ hw (by omega) (by omega) (by omega) hk)
      · have i23 := eqI c5
        refine q_iload (pc := 28) K dX5_worstOf_28 rfl ?_
        refine q_callSi (pc := 30) (rm := rmX5_bits) K (kX5_bits l hN v5 σ (by omega)) gX5_worstOf_X5_bits rfl hdS_X5_bits ⟨Nat.le_of_ble_eq_true rfl, Nat.le_of_ble_eq_true rfl⟩ rfl rfl ⟨Nat.zero_le _, Nat.zero_le _⟩ rfl rfl (Nat.le_of_ble_eq_true rfl) dX5_worstOf_30 ?_
        refine q_iload_n (pc := 33) K dX5_worstOf_33 rfl rfl ?_
        refine q_icmp_ne (pc := 34) (tgt := 68) K dX5_worstOf_34 (by decide) (fun c7 => ?_) (fun c7 => ?_)
        · have i20 := neI c7
          refine q_iinc (pc := 68) (v := (v5 + 1)) (lv' := [some (.ref (gob G 0)), some (.int v1), some (.int v2), some (.int v3), some (.int v4), some (.int (v5 + 1)), none]) K dX5_worstOf_68 rfl rfl (by decide) rfl ?_
          refine q_goto (pc := 71) (tgt := 12) K dX5_worstOf_71 (by decide) ?_
          have a8 := addI (x := v5) (y := 1) (by omega) (by omega)
          exact qq_out (ih v1 v2 v3 v4 (v5 + 1) σ hw (by omega) (by omega) (by omega) hk)
        · have i21 := eqI c7
          refine q_aload_n (pc := 37) K dX5_worstOf_37 rfl rfl ?_
          refine q_iload (pc := 38) K dX5_worstOf_38 rfl ?_
          refine q_iload_n (pc := 40) K dX5_worstOf_40 rfl rfl ?_
          refine q_callVi (pc := 41) (o := 0) (rm := rmX5_holdingWith) K (kX5_holdingWith l hN hG v5 v3 σ hw (by omega)) gX5_worstOf_X5_holdingWith rfl hdV_X5_holdingWith ⟨Nat.le_of_ble_eq_true rfl, Nat.le_of_ble_eq_true rfl⟩ rfl rfl ⟨Nat.zero_le _, Nat.zero_le _⟩ (wO_m hG) vw_4 rfl rfl (Nat.le_of_ble_eq_true rfl) dX5_worstOf_41 ?_
          refine qq_nmI (fun r9 e10 => ?_)
          have hw11 : WM r9.2 := by rw [e10]; exact wX5_holdingWith v5 v3 hw (by omega)
          have hbe10 := hwB hw11 e10
          refine q_callSi (pc := 44) (rm := rmX5_bits) K (kX5_bits l hN r9.1 r9.2 (by omega)) gX5_worstOf_X5_bits rfl hdS_X5_bits ⟨Nat.le_of_ble_eq_true rfl, Nat.le_of_ble_eq_true rfl⟩ rfl rfl ⟨Nat.zero_le _, Nat.zero_le _⟩ rfl rfl (Nat.le_of_ble_eq_true rfl) dX5_worstOf_44 ?_
          refine q_istore (pc := 47) (lv' := [some (.ref (gob G 0)), some (.int v1), some (.int v2), some (.int v3), some (.int v4), some (.int v5), some (.int (fX5_bits r9.1))]) K dX5_worstOf_47 (by decide) (Nat.le_of_ble_eq_true rfl) rfl ?_
          refine q_iload (pc := 49) K dX5_worstOf_49 rfl ?_
          refine q_aload_n (pc := 51) K dX5_worstOf_51 rfl rfl ?_
          refine q_get (pc := 52) (o := 0) (f := 9) (v := .int (rF r9.2 2)) K (wO_m hG) vw_4 iwX5_worstOf_X5 (by decide) mX5_worstOf_f159 rfl dX5_worstOf_52 ?_
          refine q_icmp_ge (pc := 55) (tgt := 68) K dX5_worstOf_55 (by decide) (fun c12 => ?_) (fun c12 => ?_)
          · have i18 := leI c12
            refine q_iinc (pc := 68) (v := (v5 + 1)) (lv' := [some (.ref (gob G 0)), some (.int v1), some (.int v2), some (.int v3), some (.int v4), some (.int (v5 + 1)), some (.int (fX5_bits r9.1))]) K dX5_worstOf_68 rfl rfl (by decide) rfl ?_
            refine q_goto (pc := 71) (tgt := 12) K dX5_worstOf_71 (by decide) ?_
            refine qq_drop 6 (lv' := [some (.ref (gob G 0)), some (.int v1), some (.int v2), some (.int v3), some (.int v4), some (.int (v5 + 1)), none]) rfl ?_
            have a13 := addI (x := v5) (y := 1) (by omega) (by omega)
            exact qq_out (ih v1 v2 v3 v4 (v5 + 1) r9.2 hw11 (by omega) (by omega) (by omega) hk)
          · have i19 := nleI c12
            refine q_iload (pc := 58) K dX5_worstOf_58 rfl ?_
            refine q_istore (pc := 60) (lv' := [some (.ref (gob G 0)), some (.int v1), some (.int v2), some (.int v3), some (.int v5), some (.int v5), some (.int (fX5_bits r9.1))]) K dX5_worstOf_60 (by decide) (Nat.le_of_ble_eq_true rfl) rfl ?_
            refine q_aload_n (pc := 62) K dX5_worstOf_62 rfl rfl ?_
            refine q_iload (pc := 63) K dX5_worstOf_63 rfl ?_
            refine q_put (pc := 65) (o := 0) (f := 9) (i := 2) (ty := .int) K tyX5 tyX5_ok nmX5 (wO_m hG) vw_4 iwX5_worstOf_X5 (by decide) mX5_worstOf_f159 rfl (tyX5_ok 9 (by decide)) rfl rfl (Nat.le_of_ble_eq_true rfl) (wP_m9 hG _) dX5_worstOf_65 (fun s14 e15 => ?_)
            have hw16 : WM s14 := by rw [e15]; exact wmF hw11 (by omega)
            refine q_iinc (pc := 68) (v := (v5 + 1)) (lv' := [some (.ref (gob G 0)), some (.int v1), some (.int v2), some (.int v3), some (.int v5), some (.int (v5 + 1)), some (.int (fX5_bits r9.1))]) K dX5_worstOf_68 rfl rfl (by decide) rfl ?_
            refine q_goto (pc := 71) (tgt := 12) K dX5_worstOf_71 (by decide) ?_
            refine qq_drop 6 (lv' := [some (.ref (gob G 0)), some (.int v1), some (.int v2), some (.int v3), some (.int v5), some (.int (v5 + 1)), none]) rfl ?_
            have a17 := addI (x := v5) (y := 1) (by omega) (by omega)
            exact qq_out (ih v1 v2 v3 v5 (v5 + 1) s14 hw16 (by omega) (by omega) (by omega) hk)
set_option maxRecDepth 100000 in
set_option maxHeartbeats 4000000 in
theorem kX5_worstOf (l : Launch) {G : gT} (hN : wN G) (hG : gfl G = false) (v1 : Int32) (v2 : Int32) (v3 : Int32) (σ : sg) (hw : WM σ) (hn : v3.toInt ≤ 100) : cM l yX5_worstOf wsX5_worstOf rmX5_worstOf G [.ref (gob G 0), .int v1, .int v2, .int v3] σ (some (.int (fX5_worstOf v1 v2 v3 σ).1)) (fX5_worstOf v1 v2 v3 σ).2 := by
  refine cM_of (maxL := 7) (ret := (some .int)) (cc := cX5_worstOf) (fX5_worstOf v1 v2 v3 σ) RX5 hN (by decide +kernel) rfl rfl (Nat.le_of_ble_eq_true rfl) rfl ?_
  intro p e s m args below meth c K hr
  have km1 : ((-1) : Int32).toInt = -1 := rfl
  have k0 : (0 : Int32).toInt = 0 := rfl
  have k9 : (9 : Int32).toInt = 9 := rfl
  refine qq_st (lv' := [some (.ref (gob G 0)), some (.int v1), some (.int v2), some (.int v3), none, none, none]) rfl rfl rfl ?_
  refine qq_T (fX5_worstOf.eq_1 ..) ?_
  refine q_iconst (pc := 0) (v := (-1)) K dX5_worstOf_0 (by decide) ?_
  refine q_istore (pc := 1) (lv' := [some (.ref (gob G 0)), some (.int v1), some (.int v2), some (.int v3), some (.int (-1)), none, none]) K dX5_worstOf_1 (by decide) (Nat.le_of_ble_eq_true rfl) rfl ?_
  refine q_aload_n (pc := 3) K dX5_worstOf_3 rfl rfl ?_
  refine q_bipush (pc := 4) (v := 9) K dX5_worstOf_4 (by decide) ?_
  refine q_put (pc := 6) (o := 0) (f := 9) (i := 2) (ty := .int) K tyX5 tyX5_ok nmX5 (wO_m hG) vw_4 iwX5_worstOf_X5 (by decide) mX5_worstOf_f159 rfl (tyX5_ok 9 (by decide)) rfl rfl (Nat.le_of_ble_eq_true rfl) (wP_m9 hG _) dX5_worstOf_6 (fun s1 e2 => ?_)
  have hw3 : WM s1 := by rw [e2]; exact wmF hw (by omega)
  refine q_iconst (pc := 9) (v := 0) K dX5_worstOf_9 (by decide) ?_
  refine q_istore (pc := 10) (lv' := [some (.ref (gob G 0)), some (.int v1), some (.int v2), some (.int v3), some (.int (-1)), some (.int 0), none]) K dX5_worstOf_10 (by decide) (Nat.le_of_ble_eq_true rfl) rfl ?_
  refine lX5_worstOf_12 l hN hG K 65 v1 v2 v3 (-1) 0 s1 hw3 (by omega) (by omega) (by omega) (fun r26 hw28 => ?_)
  refine q_iload (pc := 74) K dX5_worstOf_74 rfl ?_
  exact q_iret K hr dX5_worstOf_76
theorem hdV_X5_enemy : yX5_enemy.cls = RX5 ∧ yX5_enemy.cls ≠ "java/lang/invoke/MethodHandle" ∧ yX5_enemy.cls ≠ "java/lang/invoke/VarHandle" ∧ (parseMethodDescriptor yX5_enemy.desc).map (fun d => d.parameters.length) = some 2 := by decide +kernel
set_option maxRecDepth 100000 in
set_option maxHeartbeats 4000000 in
theorem kX5_enemy (l : Launch) {G : gT} (hN : wN G) (hG : gfl G = false) (v1 : Int32) (v2 : Int32) (σ : sg) (hw : WM σ) : cM l yX5_enemy wsX5_enemy rmX5_enemy G [.ref (gob G 0), .int v1, .int v2] σ (some (.int (fX5_enemy v1 v2 σ).1)) (fX5_enemy v1 v2 σ).2 := by
  refine cM_of (maxL := 5) (ret := (some .int)) (cc := cX5_enemy) (fX5_enemy v1 v2 σ) RX5 hN (by decide +kernel) rfl rfl (Nat.le_of_ble_eq_true rfl) rfl ?_
  intro p e s m args below meth c K hr
  have k0 : (0 : Int32).toInt = 0 := rfl
  have k1 : (1 : Int32).toInt = 1 := rfl
  have k3 : (3 : Int32).toInt = 3 := rfl
  have k6 : (6 : Int32).toInt = 6 := rfl
  refine qq_st (lv' := [some (.ref (gob G 0)), some (.int v1), some (.int v2), none, none]) rfl rfl rfl ?_
  refine qq_T (fX5_enemy.eq_1 ..) ?_
  refine q_aload_n (pc := 0) K dX5_enemy_0 rfl rfl ?_
  refine q_iload_n (pc := 1) K dX5_enemy_1 rfl rfl ?_
  refine q_iconst (pc := 2) (v := 0) K dX5_enemy_2 (by decide) ?_
  refine q_bipush (pc := 3) (v := 6) K dX5_enemy_3 (by decide) ?_
  refine q_callSi (pc := 5) (rm := rmX5_within) K (kX5_within l hN v1 0 6 σ) gX5_enemy_X5_within rfl hdS_X5_within ⟨Nat.le_of_ble_eq_true rfl, Nat.le_of_ble_eq_true rfl⟩ rfl rfl ⟨Nat.zero_le _, Nat.zero_le _⟩ rfl rfl (Nat.le_of_ble_eq_true rfl) dX5_enemy_5 ?_
  refine q_if_eq (pc := 8) (tgt := 22) K dX5_enemy_8 (by decide) (fun c1 => ?_) (fun c1 => ?_)
  · have i27 := eqI c1
    refine q_iconst (pc := 22) (v := 0) K dX5_enemy_22 (by decide) ?_
    refine q_iload_n (pc := 23) K dX5_enemy_23 rfl rfl ?_
    refine q_callVi (pc := 24) (o := 0) (rm := rmX5_lacks) K (kX5_lacks l hN hG 0 v2 σ hw) gX5_enemy_X5_lacks rfl hdV_X5_lacks ⟨Nat.le_of_ble_eq_true rfl, Nat.le_of_ble_eq_true rfl⟩ rfl rfl ⟨Nat.zero_le _, Nat.zero_le _⟩ (wO_m hG) vw_4 rfl rfl (Nat.le_of_ble_eq_true rfl) dX5_enemy_24 ?_
    have lr := lkR 0 v2 σ
    have lz := lkZ v2 σ
    refine q_istore_n (pc := 27) (lv' := [some (.ref (gob G 0)), some (.int v1), some (.int v2), some (.int (fX5_lacks 0 v2 σ)), none]) K dX5_enemy_27 rfl (by decide) (Nat.le_of_ble_eq_true rfl) rfl ?_
    refine q_iload_n (pc := 28) K dX5_enemy_28 rfl rfl ?_
    refine q_if_lt_f (pc := 29) (tgt := 38) K (lk0 _ _) dX5_enemy_29 (by decide) ?_
    refine q_aload_n (pc := 32) K dX5_enemy_32 rfl rfl ?_
    refine q_iload_n (pc := 33) K dX5_enemy_33 rfl rfl ?_
    refine q_callVi (pc := 34) (o := 0) (rm := rmX5_finding) K (kX5_finding l hN hG (fX5_lacks 0 v2 σ) σ hw (by omega)) gX5_enemy_X5_finding rfl hdV_X5_finding ⟨Nat.le_of_ble_eq_true rfl, Nat.le_of_ble_eq_true rfl⟩ rfl rfl ⟨Nat.zero_le _, Nat.zero_le _⟩ (wO_m hG) vw_4 rfl rfl (Nat.le_of_ble_eq_true rfl) dX5_enemy_34 ?_
    refine qq_nmI (fun r2 e3 => ?_)
    have hw4 : WM r2.2 := by rw [e3]; exact wX5_finding (fX5_lacks 0 v2 σ) hw (by omega)
    exact q_iret K hr dX5_enemy_37
  · have i28 := neI c1
    have b29 := wi_t c1
    refine q_iload_n (pc := 11) K dX5_enemy_11 rfl rfl ?_
    refine q_callSi (pc := 12) (rm := rmX5_isAhead) K (kX5_isAhead l hN v2 σ) gX5_enemy_X5_isAhead rfl hdS_X5_isAhead ⟨Nat.le_of_ble_eq_true rfl, Nat.le_of_ble_eq_true rfl⟩ rfl rfl ⟨Nat.zero_le _, Nat.zero_le _⟩ rfl rfl (Nat.le_of_ble_eq_true rfl) dX5_enemy_12 ?_
    refine q_if_eq (pc := 15) (tgt := 22) K dX5_enemy_15 (by decide) (fun c5 => ?_) (fun c5 => ?_)
    · have i24 := eqI c5
      refine q_iconst (pc := 22) (v := 0) K dX5_enemy_22 (by decide) ?_
      refine q_iload_n (pc := 23) K dX5_enemy_23 rfl rfl ?_
      refine q_callVi (pc := 24) (o := 0) (rm := rmX5_lacks) K (kX5_lacks l hN hG 0 v2 σ hw) gX5_enemy_X5_lacks rfl hdV_X5_lacks ⟨Nat.le_of_ble_eq_true rfl, Nat.le_of_ble_eq_true rfl⟩ rfl rfl ⟨Nat.zero_le _, Nat.zero_le _⟩ (wO_m hG) vw_4 rfl rfl (Nat.le_of_ble_eq_true rfl) dX5_enemy_24 ?_
      have lr := lkR 0 v2 σ
      have lz := lkZ v2 σ
      refine q_istore_n (pc := 27) (lv' := [some (.ref (gob G 0)), some (.int v1), some (.int v2), some (.int (fX5_lacks 0 v2 σ)), none]) K dX5_enemy_27 rfl (by decide) (Nat.le_of_ble_eq_true rfl) rfl ?_
      refine q_iload_n (pc := 28) K dX5_enemy_28 rfl rfl ?_
      refine q_if_lt_f (pc := 29) (tgt := 38) K (lk0 _ _) dX5_enemy_29 (by decide) ?_
      refine q_aload_n (pc := 32) K dX5_enemy_32 rfl rfl ?_
      refine q_iload_n (pc := 33) K dX5_enemy_33 rfl rfl ?_
      refine q_callVi (pc := 34) (o := 0) (rm := rmX5_finding) K (kX5_finding l hN hG (fX5_lacks 0 v2 σ) σ hw (by omega)) gX5_enemy_X5_finding rfl hdV_X5_finding ⟨Nat.le_of_ble_eq_true rfl, Nat.le_of_ble_eq_true rfl⟩ rfl rfl ⟨Nat.zero_le _, Nat.zero_le _⟩ (wO_m hG) vw_4 rfl rfl (Nat.le_of_ble_eq_true rfl) dX5_enemy_34 ?_
      refine qq_nmI (fun r6 e7 => ?_)
      have hw8 : WM r6.2 := by rw [e7]; exact wX5_finding (fX5_lacks 0 v2 σ) hw (by omega)
      exact q_iret K hr dX5_enemy_37
    · have i25 := neI c5
      have b26 := wiA_t c5
      refine q_iconst (pc := 18) (v := 1) K dX5_enemy_18 (by decide) ?_
      refine q_goto (pc := 19) (tgt := 23) K dX5_enemy_19 (by decide) ?_
      refine q_iload_n (pc := 23) K dX5_enemy_23 rfl rfl ?_
      refine q_callVi (pc := 24) (o := 0) (rm := rmX5_lacks) K (kX5_lacks l hN hG 1 v2 σ hw) gX5_enemy_X5_lacks rfl hdV_X5_lacks ⟨Nat.le_of_ble_eq_true rfl, Nat.le_of_ble_eq_true rfl⟩ rfl rfl ⟨Nat.zero_le _, Nat.zero_le _⟩ (wO_m hG) vw_4 rfl rfl (Nat.le_of_ble_eq_true rfl) dX5_enemy_24 ?_
      have lr := lkR 1 v2 σ
      refine q_istore_n (pc := 27) (lv' := [some (.ref (gob G 0)), some (.int v1), some (.int v2), some (.int (fX5_lacks 1 v2 σ)), none]) K dX5_enemy_27 rfl (by decide) (Nat.le_of_ble_eq_true rfl) rfl ?_
      refine q_iload_n (pc := 28) K dX5_enemy_28 rfl rfl ?_
      refine q_if_lt (pc := 29) (tgt := 38) K dX5_enemy_29 (by decide) (fun c9 => ?_) (fun c9 => ?_)
      · have i22 := ltI c9
        refine q_aload_n (pc := 38) K dX5_enemy_38 rfl rfl ?_
        refine q_aload_n (pc := 39) K dX5_enemy_39 rfl rfl ?_
        refine q_callVi (pc := 40) (o := 0) (rm := rmX5_shut) K (kX5_shut l hN hG  σ hw) gX5_enemy_X5_shut rfl hdV_X5_shut ⟨Nat.le_of_ble_eq_true rfl, Nat.le_of_ble_eq_true rfl⟩ rfl rfl ⟨Nat.zero_le _, Nat.zero_le _⟩ (wO_m hG) vw_4 rfl rfl (Nat.le_of_ble_eq_true rfl) dX5_enemy_40 ?_
        refine q_iload_n (pc := 43) K dX5_enemy_43 rfl rfl ?_
        refine q_iload_n (pc := 44) K dX5_enemy_44 rfl rfl ?_
        refine q_callVi (pc := 45) (o := 0) (rm := rmX5_worstOf) K (kX5_worstOf l hN hG (fX5_shut σ) v1 v2 σ hw (by omega)) gX5_enemy_X5_worstOf rfl hdV_X5_worstOf ⟨Nat.le_of_ble_eq_true rfl, Nat.le_of_ble_eq_true rfl⟩ rfl rfl ⟨Nat.zero_le _, Nat.zero_le _⟩ (wO_m hG) vw_4 rfl rfl (Nat.le_of_ble_eq_true rfl) dX5_enemy_45 ?_
        refine qq_nmI (fun r10 e11 => ?_)
        have hw12 : WM r10.2 := by rw [e11]; exact wX5_worstOf (fX5_shut σ) v1 v2 hw (by omega)
        refine q_istore (pc := 48) (lv' := [some (.ref (gob G 0)), some (.int v1), some (.int v2), some (.int (fX5_lacks 1 v2 σ)), some (.int r10.1)]) K dX5_enemy_48 (by decide) (Nat.le_of_ble_eq_true rfl) rfl ?_
        refine q_iload (pc := 50) K dX5_enemy_50 rfl ?_
        refine q_if_ge (pc := 52) (tgt := 63) K dX5_enemy_52 (by decide) (fun c13 => ?_) (fun c13 => ?_)
        · have i17 := leI c13
          refine q_iload (pc := 63) K dX5_enemy_63 rfl ?_
          exact q_iret K hr dX5_enemy_65
        · have i18 := nleI c13
          refine q_aload_n (pc := 55) K dX5_enemy_55 rfl rfl ?_
          refine q_iconst (pc := 56) (v := 3) K dX5_enemy_56 (by decide) ?_
          refine q_callVi (pc := 57) (o := 0) (rm := rmX5_finding) K (kX5_finding l hN hG 3 r10.2 hw12 (by omega)) gX5_enemy_X5_finding rfl hdV_X5_finding ⟨Nat.le_of_ble_eq_true rfl, Nat.le_of_ble_eq_true rfl⟩ rfl rfl ⟨Nat.zero_le _, Nat.zero_le _⟩ (wO_m hG) vw_4 rfl rfl (Nat.le_of_ble_eq_true rfl) dX5_enemy_57 ?_
          refine qq_nmI (fun r14 e15 => ?_)
          have hw16 : WM r14.2 := by rw [e15]; exact wX5_finding 3 hw12 (by omega)
          refine q_goto (pc := 60) (tgt := 65) K dX5_enemy_60 (by decide) ?_
          exact q_iret K hr dX5_enemy_65
      · have i23 := nltI c9
        refine q_aload_n (pc := 32) K dX5_enemy_32 rfl rfl ?_
        refine q_iload_n (pc := 33) K dX5_enemy_33 rfl rfl ?_
        refine q_callVi (pc := 34) (o := 0) (rm := rmX5_finding) K (kX5_finding l hN hG (fX5_lacks 1 v2 σ) σ hw (by omega)) gX5_enemy_X5_finding rfl hdV_X5_finding ⟨Nat.le_of_ble_eq_true rfl, Nat.le_of_ble_eq_true rfl⟩ rfl rfl ⟨Nat.zero_le _, Nat.zero_le _⟩ (wO_m hG) vw_4 rfl rfl (Nat.le_of_ble_eq_true rfl) dX5_enemy_34 ?_
        refine qq_nmI (fun r19 e20 => ?_)
        have hw21 : WM r19.2 := by rw [e20]; exact wX5_finding (fX5_lacks 1 v2 σ) hw (by omega)
        exact q_iret K hr dX5_enemy_37
theorem hdV_X5_worst : yX5_worst.cls = RX5 ∧ yX5_worst.cls ≠ "java/lang/invoke/MethodHandle" ∧ yX5_worst.cls ≠ "java/lang/invoke/VarHandle" ∧ (parseMethodDescriptor yX5_worst.desc).map (fun d => d.parameters.length) = some 2 := by decide +kernel
theorem mX5_worst_f159 : Cond.fieldLink RX5 159 "WaxTreatiesModel" "worstLeft" "I" ∈ wsX5_worst := List.mem_of_getElem? (i := 1) rfl
theorem iwX5_worst_X5 : ∀ w ∈ wsX50, w ∈ wsX5_worst := fun w h => List.mem_cons_of_mem _ (List.mem_append_right _ h)
set_option maxRecDepth 100000 in
set_option maxHeartbeats 4000000 in
theorem kX5_worst (l : Launch) {G : gT} (hN : wN G) (hG : gfl G = false) (v1 : Int32) (v2 : Int32) (σ : sg) (hw : WM σ) : cM l yX5_worst wsX5_worst rmX5_worst G [.ref (gob G 0), .int v1, .int v2] σ (some (.int (fX5_worst v1 v2 σ).1)) (fX5_worst v1 v2 σ).2 := by
  refine cM_of (maxL := 5) (ret := (some .int)) (cc := cX5_worst) (fX5_worst v1 v2 σ) RX5 hN (by decide +kernel) rfl rfl (Nat.le_of_ble_eq_true rfl) rfl ?_
  intro p e s m args below meth c K hr
  have k0 : (0 : Int32).toInt = 0 := rfl
  have k1 : (1 : Int32).toInt = 1 := rfl
  have k3 : (3 : Int32).toInt = 3 := rfl
  have k6 : (6 : Int32).toInt = 6 := rfl
  refine qq_st (lv' := [some (.ref (gob G 0)), some (.int v1), some (.int v2), none, none]) rfl rfl rfl ?_
  refine qq_T (fX5_worst.eq_1 ..) ?_
  refine q_aload_n (pc := 0) K dX5_worst_0 rfl rfl ?_
  refine q_iload_n (pc := 1) K dX5_worst_1 rfl rfl ?_
  refine q_iconst (pc := 2) (v := 0) K dX5_worst_2 (by decide) ?_
  refine q_bipush (pc := 3) (v := 6) K dX5_worst_3 (by decide) ?_
  refine q_callSi (pc := 5) (rm := rmX5_within) K (kX5_within l hN v1 0 6 σ) gX5_worst_X5_within rfl hdS_X5_within ⟨Nat.le_of_ble_eq_true rfl, Nat.le_of_ble_eq_true rfl⟩ rfl rfl ⟨Nat.zero_le _, Nat.zero_le _⟩ rfl rfl (Nat.le_of_ble_eq_true rfl) dX5_worst_5 ?_
  refine q_if_eq (pc := 8) (tgt := 22) K dX5_worst_8 (by decide) (fun c1 => ?_) (fun c1 => ?_)
  · have i27 := eqI c1
    refine q_iconst (pc := 22) (v := 0) K dX5_worst_22 (by decide) ?_
    refine q_iload_n (pc := 23) K dX5_worst_23 rfl rfl ?_
    refine q_callVi (pc := 24) (o := 0) (rm := rmX5_lacks) K (kX5_lacks l hN hG 0 v2 σ hw) gX5_worst_X5_lacks rfl hdV_X5_lacks ⟨Nat.le_of_ble_eq_true rfl, Nat.le_of_ble_eq_true rfl⟩ rfl rfl ⟨Nat.zero_le _, Nat.zero_le _⟩ (wO_m hG) vw_4 rfl rfl (Nat.le_of_ble_eq_true rfl) dX5_worst_24 ?_
    have lr := lkR 0 v2 σ
    have lz := lkZ v2 σ
    refine q_istore_n (pc := 27) (lv' := [some (.ref (gob G 0)), some (.int v1), some (.int v2), some (.int (fX5_lacks 0 v2 σ)), none]) K dX5_worst_27 rfl (by decide) (Nat.le_of_ble_eq_true rfl) rfl ?_
    refine q_iload_n (pc := 28) K dX5_worst_28 rfl rfl ?_
    refine q_if_lt_f (pc := 29) (tgt := 38) K (lk0 _ _) dX5_worst_29 (by decide) ?_
    refine q_aload_n (pc := 32) K dX5_worst_32 rfl rfl ?_
    refine q_iload_n (pc := 33) K dX5_worst_33 rfl rfl ?_
    refine q_callVi (pc := 34) (o := 0) (rm := rmX5_finding) K (kX5_finding l hN hG (fX5_lacks 0 v2 σ) σ hw (by omega)) gX5_worst_X5_finding rfl hdV_X5_finding ⟨Nat.le_of_ble_eq_true rfl, Nat.le_of_ble_eq_true rfl⟩ rfl rfl ⟨Nat.zero_le _, Nat.zero_le _⟩ (wO_m hG) vw_4 rfl rfl (Nat.le_of_ble_eq_true rfl) dX5_worst_34 ?_
    refine qq_nmI (fun r2 e3 => ?_)
    have hw4 : WM r2.2 := by rw [e3]; exact wX5_finding (fX5_lacks 0 v2 σ) hw (by omega)
    exact q_iret K hr dX5_worst_37
  · have i28 := neI c1
    have b29 := wi_t c1
    refine q_iload_n (pc := 11) K dX5_worst_11 rfl rfl ?_
    refine q_callSi (pc := 12) (rm := rmX5_isAhead) K (kX5_isAhead l hN v2 σ) gX5_worst_X5_isAhead rfl hdS_X5_isAhead ⟨Nat.le_of_ble_eq_true rfl, Nat.le_of_ble_eq_true rfl⟩ rfl rfl ⟨Nat.zero_le _, Nat.zero_le _⟩ rfl rfl (Nat.le_of_ble_eq_true rfl) dX5_worst_12 ?_
    refine q_if_eq (pc := 15) (tgt := 22) K dX5_worst_15 (by decide) (fun c5 => ?_) (fun c5 => ?_)
    · have i24 := eqI c5
      refine q_iconst (pc := 22) (v := 0) K dX5_worst_22 (by decide) ?_
      refine q_iload_n (pc := 23) K dX5_worst_23 rfl rfl ?_
      refine q_callVi (pc := 24) (o := 0) (rm := rmX5_lacks) K (kX5_lacks l hN hG 0 v2 σ hw) gX5_worst_X5_lacks rfl hdV_X5_lacks ⟨Nat.le_of_ble_eq_true rfl, Nat.le_of_ble_eq_true rfl⟩ rfl rfl ⟨Nat.zero_le _, Nat.zero_le _⟩ (wO_m hG) vw_4 rfl rfl (Nat.le_of_ble_eq_true rfl) dX5_worst_24 ?_
      have lr := lkR 0 v2 σ
      have lz := lkZ v2 σ
      refine q_istore_n (pc := 27) (lv' := [some (.ref (gob G 0)), some (.int v1), some (.int v2), some (.int (fX5_lacks 0 v2 σ)), none]) K dX5_worst_27 rfl (by decide) (Nat.le_of_ble_eq_true rfl) rfl ?_
      refine q_iload_n (pc := 28) K dX5_worst_28 rfl rfl ?_
      refine q_if_lt_f (pc := 29) (tgt := 38) K (lk0 _ _) dX5_worst_29 (by decide) ?_
      refine q_aload_n (pc := 32) K dX5_worst_32 rfl rfl ?_
      refine q_iload_n (pc := 33) K dX5_worst_33 rfl rfl ?_
      refine q_callVi (pc := 34) (o := 0) (rm := rmX5_finding) K (kX5_finding l hN hG (fX5_lacks 0 v2 σ) σ hw (by omega)) gX5_worst_X5_finding rfl hdV_X5_finding ⟨Nat.le_of_ble_eq_true rfl, Nat.le_of_ble_eq_true rfl⟩ rfl rfl ⟨Nat.zero_le _, Nat.zero_le _⟩ (wO_m hG) vw_4 rfl rfl (Nat.le_of_ble_eq_true rfl) dX5_worst_34 ?_
      refine qq_nmI (fun r6 e7 => ?_)
      have hw8 : WM r6.2 := by rw [e7]; exact wX5_finding (fX5_lacks 0 v2 σ) hw (by omega)
      exact q_iret K hr dX5_worst_37
    · have i25 := neI c5
      have b26 := wiA_t c5
      refine q_iconst (pc := 18) (v := 1) K dX5_worst_18 (by decide) ?_
      refine q_goto (pc := 19) (tgt := 23) K dX5_worst_19 (by decide) ?_
      refine q_iload_n (pc := 23) K dX5_worst_23 rfl rfl ?_
      refine q_callVi (pc := 24) (o := 0) (rm := rmX5_lacks) K (kX5_lacks l hN hG 1 v2 σ hw) gX5_worst_X5_lacks rfl hdV_X5_lacks ⟨Nat.le_of_ble_eq_true rfl, Nat.le_of_ble_eq_true rfl⟩ rfl rfl ⟨Nat.zero_le _, Nat.zero_le _⟩ (wO_m hG) vw_4 rfl rfl (Nat.le_of_ble_eq_true rfl) dX5_worst_24 ?_
      have lr := lkR 1 v2 σ
      refine q_istore_n (pc := 27) (lv' := [some (.ref (gob G 0)), some (.int v1), some (.int v2), some (.int (fX5_lacks 1 v2 σ)), none]) K dX5_worst_27 rfl (by decide) (Nat.le_of_ble_eq_true rfl) rfl ?_
      refine q_iload_n (pc := 28) K dX5_worst_28 rfl rfl ?_
      refine q_if_lt (pc := 29) (tgt := 38) K dX5_worst_29 (by decide) (fun c9 => ?_) (fun c9 => ?_)
      · have i22 := ltI c9
        refine q_aload_n (pc := 38) K dX5_worst_38 rfl rfl ?_
        refine q_aload_n (pc := 39) K dX5_worst_39 rfl rfl ?_
        refine q_callVi (pc := 40) (o := 0) (rm := rmX5_shut) K (kX5_shut l hN hG  σ hw) gX5_worst_X5_shut rfl hdV_X5_shut ⟨Nat.le_of_ble_eq_true rfl, Nat.le_of_ble_eq_true rfl⟩ rfl rfl ⟨Nat.zero_le _, Nat.zero_le _⟩ (wO_m hG) vw_4 rfl rfl (Nat.le_of_ble_eq_true rfl) dX5_worst_40 ?_
        refine q_iload_n (pc := 43) K dX5_worst_43 rfl rfl ?_
        refine q_iload_n (pc := 44) K dX5_worst_44 rfl rfl ?_
        refine q_callVi (pc := 45) (o := 0) (rm := rmX5_worstOf) K (kX5_worstOf l hN hG (fX5_shut σ) v1 v2 σ hw (by omega)) gX5_worst_X5_worstOf rfl hdV_X5_worstOf ⟨Nat.le_of_ble_eq_true rfl, Nat.le_of_ble_eq_true rfl⟩ rfl rfl ⟨Nat.zero_le _, Nat.zero_le _⟩ (wO_m hG) vw_4 rfl rfl (Nat.le_of_ble_eq_true rfl) dX5_worst_45 ?_
        refine qq_nmI (fun r10 e11 => ?_)
        have hw12 : WM r10.2 := by rw [e11]; exact wX5_worstOf (fX5_shut σ) v1 v2 hw (by omega)
        refine q_istore (pc := 48) (lv' := [some (.ref (gob G 0)), some (.int v1), some (.int v2), some (.int (fX5_lacks 1 v2 σ)), some (.int r10.1)]) K dX5_worst_48 (by decide) (Nat.le_of_ble_eq_true rfl) rfl ?_
        refine q_iload (pc := 50) K dX5_worst_50 rfl ?_
        refine q_if_ge (pc := 52) (tgt := 63) K dX5_worst_52 (by decide) (fun c13 => ?_) (fun c13 => ?_)
        · have i17 := leI c13
          refine q_aload_n (pc := 63) K dX5_worst_63 rfl rfl ?_
          refine q_get (pc := 64) (o := 0) (f := 9) (v := .int (rF r10.2 2)) K (wO_m hG) vw_4 iwX5_worst_X5 (by decide) mX5_worst_f159 rfl dX5_worst_64 ?_
          exact q_iret K hr dX5_worst_67
        · have i18 := nleI c13
          refine q_aload_n (pc := 55) K dX5_worst_55 rfl rfl ?_
          refine q_iconst (pc := 56) (v := 3) K dX5_worst_56 (by decide) ?_
          refine q_callVi (pc := 57) (o := 0) (rm := rmX5_finding) K (kX5_finding l hN hG 3 r10.2 hw12 (by omega)) gX5_worst_X5_finding rfl hdV_X5_finding ⟨Nat.le_of_ble_eq_true rfl, Nat.le_of_ble_eq_true rfl⟩ rfl rfl ⟨Nat.zero_le _, Nat.zero_le _⟩ (wO_m hG) vw_4 rfl rfl (Nat.le_of_ble_eq_true rfl) dX5_worst_57 ?_
          refine qq_nmI (fun r14 e15 => ?_)
          have hw16 : WM r14.2 := by rw [e15]; exact wX5_finding 3 hw12 (by omega)
          refine q_goto (pc := 60) (tgt := 67) K dX5_worst_60 (by decide) ?_
          exact q_iret K hr dX5_worst_67
      · have i23 := nltI c9
        refine q_aload_n (pc := 32) K dX5_worst_32 rfl rfl ?_
        refine q_iload_n (pc := 33) K dX5_worst_33 rfl rfl ?_
        refine q_callVi (pc := 34) (o := 0) (rm := rmX5_finding) K (kX5_finding l hN hG (fX5_lacks 1 v2 σ) σ hw (by omega)) gX5_worst_X5_finding rfl hdV_X5_finding ⟨Nat.le_of_ble_eq_true rfl, Nat.le_of_ble_eq_true rfl⟩ rfl rfl ⟨Nat.zero_le _, Nat.zero_le _⟩ (wO_m hG) vw_4 rfl rfl (Nat.le_of_ble_eq_true rfl) dX5_worst_34 ?_
        refine qq_nmI (fun r19 e20 => ?_)
        have hw21 : WM r19.2 := by rw [e20]; exact wX5_finding (fX5_lacks 1 v2 σ) hw (by omega)
        exact q_iret K hr dX5_worst_37
theorem hdV_X5_least : yX5_least.cls = RX5 ∧ yX5_least.cls ≠ "java/lang/invoke/MethodHandle" ∧ yX5_least.cls ≠ "java/lang/invoke/VarHandle" ∧ (parseMethodDescriptor yX5_least.desc).map (fun d => d.parameters.length) = some 2 := by decide +kernel
set_option maxRecDepth 100000 in
set_option maxHeartbeats 4000000 in
theorem lX5_least_43 {p : Program} (l : Launch) {e : Env} {s : State} {m : MethodId} {args : Array Value} {below : List Frame} {meth : Method} {c : Code} {Q : State → Prop} {G : gT} (hN : wN G) (hG : gfl G = false) (K : qK p s m args meth c cX5_least 7 RX5 wsX5_least G) : ∀ (k : Nat) (v1 v2 v4 v5 : Int32) (σ : sg) (hw : WM σ) (hv5 : 0 ≤ v5.toInt ∧ v5.toInt ≤ 64) (hnv2 : v2.toInt ≤ 100) (hmu : (64 - v5.toInt).toNat < k) {ρ : Type} {E : ρ → Prop} {f : Int32 × sg → ρ} (hk : ∀ r : Int32 × sg, (WM r.2) → qq p l e (headSpec wsX5_least rmX5_least).room s m args below meth c Q 7 G E (f r) 111 [some (.ref (gob G 0)), none, none, none, some (.int r.1), none, none] [] r.2), qq p l e (headSpec wsX5_least rmX5_least).room s m args below meth c Q 7 G E (bnd (LX5_least_43 k v1 v2 v4 v5 σ) f) 43 [some (.ref (gob G 0)), some (.int v1), some (.int v2), none, some (.int v4), some (.int v5), none] [] σ := by
  intro k
  induction k with
  | zero => intro v1 v2 v4 v5 σ hw hv5 hnv2 hmu ρ E f hk; exact absurd hmu (Nat.not_lt_zero _)
  | succ k ih =>
    intro v1 v2 v4 v5 σ hw hv5 hnv2 hmu ρ E f hk
    have km1 : ((-1) : Int32).toInt = -1 := rfl
    have k0 : (0 : Int32).toInt = 0 := rfl
    have k1 : (1 : Int32).toInt = 1 := rfl
    have k64 : (64 : Int32).toInt = 64 := rfl
    refine qq_in ?_
    refine qq_T (LX5_least_43.eq_2 ..) ?_
    refine q_iload (pc := 43) K dX5_least_43 rfl ?_
    refine q_bipush (pc := 45) (v := 64) K dX5_least_45 (by decide) ?_
    refine q_icmp_ge (pc := 47) (tgt := 111) K dX5_least_47 (by decide) (fun c10 => ?_) (fun c10 => ?_)
    · have i27 := leI c10
      refine qq_drop 1 (lv' := [some (.ref (gob G 0)), none, some (.int v2), none, some (.int v4), some (.int v5), none]) rfl ?_
      refine qq_drop 2 (lv' := [some (.ref (gob G 0)), none, none, none, some (.int v4), some (.int v5), none]) rfl ?_
      refine qq_drop 5 (lv' := [some (.ref (gob G 0)), none, none, none, some (.int v4), none, none]) rfl ?_
      exact qq_leaf (hk (v4, σ) hw)
    · have i28 := nleI c10
      refine q_iload (pc := 50) K dX5_least_50 rfl ?_
      refine q_aload_n (pc := 52) K dX5_least_52 rfl rfl ?_
      refine q_callVi (pc := 53) (o := 0) (rm := rmX5_shut) K (kX5_shut l hN hG  σ hw) gX5_least_X5_shut rfl hdV_X5_shut ⟨Nat.le_of_ble_eq_true rfl, Nat.le_of_ble_eq_true rfl⟩ rfl rfl ⟨Nat.zero_le _, Nat.zero_le _⟩ (wO_m hG) vw_4 rfl rfl (Nat.le_of_ble_eq_true rfl) dX5_least_53 ?_
      refine q_iconst (pc := 56) (v := (-1)) K dX5_least_56 (by decide) ?_
      refine q_ixor (pc := 57) K dX5_least_57 ?_
      refine q_iand (pc := 58) K dX5_least_58 ?_
      refine q_if_ne (pc := 59) (tgt := 76) K dX5_least_59 (by decide) (fun c11 => ?_) (fun c11 => ?_)
      · have i25 := neI c11
        refine q_iconst (pc := 76) (v := 0) K dX5_least_76 (by decide) ?_
        refine q_istore (pc := 77) (lv' := [some (.ref (gob G 0)), some (.int v1), some (.int v2), none, some (.int v4), some (.int v5), some (.int 0)]) K dX5_least_77 (by decide) (Nat.le_of_ble_eq_true rfl) rfl ?_
        refine q_iload (pc := 79) K dX5_least_79 rfl ?_
        refine q_if_eq_t (pc := 81) (tgt := 105) K (by decide) dX5_least_81 (by decide) ?_
        refine q_iinc (pc := 105) (v := (v5 + 1)) (lv' := [some (.ref (gob G 0)), some (.int v1), some (.int v2), none, some (.int v4), some (.int (v5 + 1)), some (.int 0)]) K dX5_least_105 rfl rfl (by decide) rfl ?_
        refine q_goto (pc := 108) (tgt := 43) K dX5_least_108 (by decide) ?_
        refine qq_drop 6 (lv' := [some (.ref (gob G 0)), some (.int v1), some (.int v2), none, some (.int v4), some (.int (v5 + 1)), none]) rfl ?_
        have a12 := addI (x := v5) (y := 1) (by omega) (by omega)
        exact qq_out (ih v1 v2 v4 (v5 + 1) σ hw (by omega) (by omega) (by omega) hk)
      · have i26 := eqI c11
        refine q_iload (pc := 62) K dX5_least_62 rfl ?_
        refine q_callSi (pc := 64) (rm := rmX5_bits) K (kX5_bits l hN v5 σ (by omega)) gX5_least_X5_bits rfl hdS_X5_bits ⟨Nat.le_of_ble_eq_true rfl, Nat.le_of_ble_eq_true rfl⟩ rfl rfl ⟨Nat.zero_le _, Nat.zero_le _⟩ rfl rfl (Nat.le_of_ble_eq_true rfl) dX5_least_64 ?_
        refine q_iload (pc := 67) K dX5_least_67 rfl ?_
        refine q_icmp_ge (pc := 69) (tgt := 76) K dX5_least_69 (by decide) (fun c13 => ?_) (fun c13 => ?_)
        · have i23 := leI c13
          refine q_iconst (pc := 76) (v := 0) K dX5_least_76 (by decide) ?_
          refine q_istore (pc := 77) (lv' := [some (.ref (gob G 0)), some (.int v1), some (.int v2), none, some (.int v4), some (.int v5), some (.int 0)]) K dX5_least_77 (by decide) (Nat.le_of_ble_eq_true rfl) rfl ?_
          refine q_iload (pc := 79) K dX5_least_79 rfl ?_
          refine q_if_eq_t (pc := 81) (tgt := 105) K (by decide) dX5_least_81 (by decide) ?_
          refine q_iinc (pc := 105) (v := (v5 + 1)) (lv' := [some (.ref (gob G 0)), some (.int v1), some (.int v2), none, some (.int v4), some (.int (v5 + 1)), some (.int 0)]) K dX5_least_105 rfl rfl (by decide) rfl ?_
          refine q_goto (pc := 108) (tgt := 43) K dX5_least_108 (by decide) ?_
          refine qq_drop 6 (lv' := [some (.ref (gob G 0)), some (.int v1), some (.int v2), none, some (.int v4), some (.int (v5 + 1)), none]) rfl ?_
          have a14 := addI (x := v5) (y := 1) (by omega) (by omega)
          exact qq_out (ih v1 v2 v4 (v5 + 1) σ hw (by omega) (by omega) (by omega) hk)
        · have i24 := nleI c13
          refine q_iconst (pc := 72) (v := 1) K dX5_least_72 (by decide) ?_
          refine q_goto (pc := 73) (tgt := 77) K dX5_least_73 (by decide) ?_
          refine q_istore (pc := 77) (lv' := [some (.ref (gob G 0)), some (.int v1), some (.int v2), none, some (.int v4), some (.int v5), some (.int 1)]) K dX5_least_77 (by decide) (Nat.le_of_ble_eq_true rfl) rfl ?_
          refine q_iload (pc := 79) K dX5_least_79 rfl ?_
          refine q_if_eq_f (pc := 81) (tgt := 105) K (by decide) dX5_least_81 (by decide) ?_
          refine q_aload_n (pc := 84) K dX5_least_84 rfl rfl ?_
          refine q_iload (pc := 85) K dX5_least_85 rfl ?_
          refine q_iload_n (pc := 87) K dX5_least_87 rfl rfl ?_
          refine q_callVi (pc := 88) (o := 0) (rm := rmX5_holdingWith) K (kX5_holdingWith l hN hG v5 v2 σ hw (by omega)) gX5_least_X5_holdingWith rfl hdV_X5_holdingWith ⟨Nat.le_of_ble_eq_true rfl, Nat.le_of_ble_eq_true rfl⟩ rfl rfl ⟨Nat.zero_le _, Nat.zero_le _⟩ (wO_m hG) vw_4 rfl rfl (Nat.le_of_ble_eq_true rfl) dX5_least_88 ?_
          refine qq_nmI (fun r15 e16 => ?_)
          have hw17 : WM r15.2 := by rw [e16]; exact wX5_holdingWith v5 v2 hw (by omega)
          have hbe16 := hwB hw17 e16
          refine q_iload_n (pc := 91) K dX5_least_91 rfl rfl ?_
          refine q_ishr (pc := 92) K dX5_least_92 ?_
          refine q_iconst (pc := 93) (v := 1) K dX5_least_93 (by decide) ?_
          refine q_iand (pc := 94) K dX5_least_94 ?_
          refine q_if_ne (pc := 95) (tgt := 105) K dX5_least_95 (by decide) (fun c18 => ?_) (fun c18 => ?_)
          · have i21 := neI c18
            refine q_iinc (pc := 105) (v := (v5 + 1)) (lv' := [some (.ref (gob G 0)), some (.int v1), some (.int v2), none, some (.int v4), some (.int (v5 + 1)), some (.int 1)]) K dX5_least_105 rfl rfl (by decide) rfl ?_
            refine q_goto (pc := 108) (tgt := 43) K dX5_least_108 (by decide) ?_
            refine qq_drop 6 (lv' := [some (.ref (gob G 0)), some (.int v1), some (.int v2), none, some (.int v4), some (.int (v5 + 1)), none]) rfl ?_
            have a19 := addI (x := v5) (y := 1) (by omega) (by omega)
            exact qq_out (ih v1 v2 v4 (v5 + 1) r15.2 hw17 (by omega) (by omega) (by omega) hk)
          · have i22 := eqI c18
            refine q_iload (pc := 98) K dX5_least_98 rfl ?_
            refine q_callSi (pc := 100) (rm := rmX5_bits) K (kX5_bits l hN v5 r15.2 (by omega)) gX5_least_X5_bits rfl hdS_X5_bits ⟨Nat.le_of_ble_eq_true rfl, Nat.le_of_ble_eq_true rfl⟩ rfl rfl ⟨Nat.zero_le _, Nat.zero_le _⟩ rfl rfl (Nat.le_of_ble_eq_true rfl) dX5_least_100 ?_
            refine q_istore (pc := 103) (lv' := [some (.ref (gob G 0)), some (.int v1), some (.int v2), none, some (.int (fX5_bits v5)), some (.int v5), some (.int 1)]) K dX5_least_103 (by decide) (Nat.le_of_ble_eq_true rfl) rfl ?_
            refine q_iinc (pc := 105) (v := (v5 + 1)) (lv' := [some (.ref (gob G 0)), some (.int v1), some (.int v2), none, some (.int (fX5_bits v5)), some (.int (v5 + 1)), some (.int 1)]) K dX5_least_105 rfl rfl (by decide) rfl ?_
            refine q_goto (pc := 108) (tgt := 43) K dX5_least_108 (by decide) ?_
            refine qq_drop 6 (lv' := [some (.ref (gob G 0)), some (.int v1), some (.int v2), none, some (.int (fX5_bits v5)), some (.int (v5 + 1)), none]) rfl ?_
            have a20 := addI (x := v5) (y := 1) (by omega) (by omega)
            exact qq_out (ih v1 v2 (fX5_bits v5) (v5 + 1) r15.2 hw17 (by omega) (by omega) (by omega) hk)
set_option maxRecDepth 100000 in
set_option maxHeartbeats 4000000 in
theorem kX5_least (l : Launch) {G : gT} (hN : wN G) (hG : gfl G = false) (v1 : Int32) (v2 : Int32) (σ : sg) (hw : WM σ) : cM l yX5_least wsX5_least rmX5_least G [.ref (gob G 0), .int v1, .int v2] σ (some (.int (fX5_least v1 v2 σ).1)) (fX5_least v1 v2 σ).2 := by
  refine cM_of (maxL := 7) (ret := (some .int)) (cc := cX5_least) (fX5_least v1 v2 σ) RX5 hN (by decide +kernel) rfl rfl (Nat.le_of_ble_eq_true rfl) rfl ?_
  intro p e s m args below meth c K hr
  have k0 : (0 : Int32).toInt = 0 := rfl
  have k1 : (1 : Int32).toInt = 1 := rfl
  have k3 : (3 : Int32).toInt = 3 := rfl
  have k6 : (6 : Int32).toInt = 6 := rfl
  have k7 : (7 : Int32).toInt = 7 := rfl
  refine qq_st (lv' := [some (.ref (gob G 0)), some (.int v1), some (.int v2), none, none, none, none]) rfl rfl rfl ?_
  refine qq_T (fX5_least.eq_1 ..) ?_
  refine q_aload_n (pc := 0) K dX5_least_0 rfl rfl ?_
  refine q_aload_n (pc := 1) K dX5_least_1 rfl rfl ?_
  refine q_iload_n (pc := 2) K dX5_least_2 rfl rfl ?_
  refine q_callVi (pc := 3) (o := 0) (rm := rmX5_isDeed) K (kX5_isDeed l hN hG v1 σ hw) gX5_least_X5_isDeed rfl hdV_X5_isDeed ⟨Nat.le_of_ble_eq_true rfl, Nat.le_of_ble_eq_true rfl⟩ rfl rfl ⟨Nat.zero_le _, Nat.zero_le _⟩ (wO_m hG) vw_4 rfl rfl (Nat.le_of_ble_eq_true rfl) dX5_least_3 ?_
  refine q_if_eq (pc := 6) (tgt := 20) K dX5_least_6 (by decide) (fun c1 => ?_) (fun c1 => ?_)
  · have i46 := eqI c1
    refine q_iconst (pc := 20) (v := 0) K dX5_least_20 (by decide) ?_
    refine q_iload_n (pc := 21) K dX5_least_21 rfl rfl ?_
    refine q_callVi (pc := 22) (o := 0) (rm := rmX5_lacks) K (kX5_lacks l hN hG 0 v2 σ hw) gX5_least_X5_lacks rfl hdV_X5_lacks ⟨Nat.le_of_ble_eq_true rfl, Nat.le_of_ble_eq_true rfl⟩ rfl rfl ⟨Nat.zero_le _, Nat.zero_le _⟩ (wO_m hG) vw_4 rfl rfl (Nat.le_of_ble_eq_true rfl) dX5_least_22 ?_
    have lr := lkR 0 v2 σ
    have lz := lkZ v2 σ
    refine q_istore_n (pc := 25) (lv' := [some (.ref (gob G 0)), some (.int v1), some (.int v2), some (.int (fX5_lacks 0 v2 σ)), none, none, none]) K dX5_least_25 rfl (by decide) (Nat.le_of_ble_eq_true rfl) rfl ?_
    refine q_iload_n (pc := 26) K dX5_least_26 rfl rfl ?_
    refine q_if_lt_f (pc := 27) (tgt := 36) K (lk0 _ _) dX5_least_27 (by decide) ?_
    refine q_aload_n (pc := 30) K dX5_least_30 rfl rfl ?_
    refine q_iload_n (pc := 31) K dX5_least_31 rfl rfl ?_
    refine q_callVi (pc := 32) (o := 0) (rm := rmX5_finding) K (kX5_finding l hN hG (fX5_lacks 0 v2 σ) σ hw (by omega)) gX5_least_X5_finding rfl hdV_X5_finding ⟨Nat.le_of_ble_eq_true rfl, Nat.le_of_ble_eq_true rfl⟩ rfl rfl ⟨Nat.zero_le _, Nat.zero_le _⟩ (wO_m hG) vw_4 rfl rfl (Nat.le_of_ble_eq_true rfl) dX5_least_32 ?_
    refine qq_nmI (fun r2 e3 => ?_)
    have hw4 : WM r2.2 := by rw [e3]; exact wX5_finding (fX5_lacks 0 v2 σ) hw (by omega)
    exact q_iret K hr dX5_least_35
  · have i47 := neI c1
    have b48 := wiD_t hw c1
    refine q_iload_n (pc := 9) K dX5_least_9 rfl rfl ?_
    refine q_callSi (pc := 10) (rm := rmX5_isAhead) K (kX5_isAhead l hN v2 σ) gX5_least_X5_isAhead rfl hdS_X5_isAhead ⟨Nat.le_of_ble_eq_true rfl, Nat.le_of_ble_eq_true rfl⟩ rfl rfl ⟨Nat.zero_le _, Nat.zero_le _⟩ rfl rfl (Nat.le_of_ble_eq_true rfl) dX5_least_10 ?_
    refine q_if_eq (pc := 13) (tgt := 20) K dX5_least_13 (by decide) (fun c5 => ?_) (fun c5 => ?_)
    · have i43 := eqI c5
      refine q_iconst (pc := 20) (v := 0) K dX5_least_20 (by decide) ?_
      refine q_iload_n (pc := 21) K dX5_least_21 rfl rfl ?_
      refine q_callVi (pc := 22) (o := 0) (rm := rmX5_lacks) K (kX5_lacks l hN hG 0 v2 σ hw) gX5_least_X5_lacks rfl hdV_X5_lacks ⟨Nat.le_of_ble_eq_true rfl, Nat.le_of_ble_eq_true rfl⟩ rfl rfl ⟨Nat.zero_le _, Nat.zero_le _⟩ (wO_m hG) vw_4 rfl rfl (Nat.le_of_ble_eq_true rfl) dX5_least_22 ?_
      have lr := lkR 0 v2 σ
      have lz := lkZ v2 σ
      refine q_istore_n (pc := 25) (lv' := [some (.ref (gob G 0)), some (.int v1), some (.int v2), some (.int (fX5_lacks 0 v2 σ)), none, none, none]) K dX5_least_25 rfl (by decide) (Nat.le_of_ble_eq_true rfl) rfl ?_
      refine q_iload_n (pc := 26) K dX5_least_26 rfl rfl ?_
      refine q_if_lt_f (pc := 27) (tgt := 36) K (lk0 _ _) dX5_least_27 (by decide) ?_
      refine q_aload_n (pc := 30) K dX5_least_30 rfl rfl ?_
      refine q_iload_n (pc := 31) K dX5_least_31 rfl rfl ?_
      refine q_callVi (pc := 32) (o := 0) (rm := rmX5_finding) K (kX5_finding l hN hG (fX5_lacks 0 v2 σ) σ hw (by omega)) gX5_least_X5_finding rfl hdV_X5_finding ⟨Nat.le_of_ble_eq_true rfl, Nat.le_of_ble_eq_true rfl⟩ rfl rfl ⟨Nat.zero_le _, Nat.zero_le _⟩ (wO_m hG) vw_4 rfl rfl (Nat.le_of_ble_eq_true rfl) dX5_least_32 ?_
      refine qq_nmI (fun r6 e7 => ?_)
      have hw8 : WM r6.2 := by rw [e7]; exact wX5_finding (fX5_lacks 0 v2 σ) hw (by omega)
      exact q_iret K hr dX5_least_35
    · have i44 := neI c5
      have b45 := wiA_t c5
      refine q_iconst (pc := 16) (v := 1) K dX5_least_16 (by decide) ?_
      refine q_goto (pc := 17) (tgt := 21) K dX5_least_17 (by decide) ?_
      refine q_iload_n (pc := 21) K dX5_least_21 rfl rfl ?_
      refine q_callVi (pc := 22) (o := 0) (rm := rmX5_lacks) K (kX5_lacks l hN hG 1 v2 σ hw) gX5_least_X5_lacks rfl hdV_X5_lacks ⟨Nat.le_of_ble_eq_true rfl, Nat.le_of_ble_eq_true rfl⟩ rfl rfl ⟨Nat.zero_le _, Nat.zero_le _⟩ (wO_m hG) vw_4 rfl rfl (Nat.le_of_ble_eq_true rfl) dX5_least_22 ?_
      have lr := lkR 1 v2 σ
      refine q_istore_n (pc := 25) (lv' := [some (.ref (gob G 0)), some (.int v1), some (.int v2), some (.int (fX5_lacks 1 v2 σ)), none, none, none]) K dX5_least_25 rfl (by decide) (Nat.le_of_ble_eq_true rfl) rfl ?_
      refine q_iload_n (pc := 26) K dX5_least_26 rfl rfl ?_
      refine q_if_lt (pc := 27) (tgt := 36) K dX5_least_27 (by decide) (fun c9 => ?_) (fun c9 => ?_)
      · have i41 := ltI c9
        refine q_bipush (pc := 36) (v := 7) K dX5_least_36 (by decide) ?_
        refine q_istore (pc := 38) (lv' := [some (.ref (gob G 0)), some (.int v1), some (.int v2), some (.int (fX5_lacks 1 v2 σ)), some (.int 7), none, none]) K dX5_least_38 (by decide) (Nat.le_of_ble_eq_true rfl) rfl ?_
        refine q_iconst (pc := 40) (v := 0) K dX5_least_40 (by decide) ?_
        refine q_istore (pc := 41) (lv' := [some (.ref (gob G 0)), some (.int v1), some (.int v2), some (.int (fX5_lacks 1 v2 σ)), some (.int 7), some (.int 0), none]) K dX5_least_41 (by decide) (Nat.le_of_ble_eq_true rfl) rfl ?_
        refine qq_drop 3 (lv' := [some (.ref (gob G 0)), some (.int v1), some (.int v2), none, some (.int 7), some (.int 0), none]) rfl ?_
        refine lX5_least_43 l hN hG K 65 v1 v2 7 0 σ hw (by omega) (by omega) (by omega) (fun r29 hw31 => ?_)
        refine q_iload (pc := 111) K dX5_least_111 rfl ?_
        refine q_bipush (pc := 113) (v := 6) K dX5_least_113 (by decide) ?_
        refine q_icmp_le (pc := 115) (tgt := 126) K dX5_least_115 (by decide) (fun c32 => ?_) (fun c32 => ?_)
        · have i36 := leI c32
          refine q_iload (pc := 126) K dX5_least_126 rfl ?_
          exact q_iret K hr dX5_least_128
        · have i37 := nleI c32
          refine q_aload_n (pc := 118) K dX5_least_118 rfl rfl ?_
          refine q_iconst (pc := 119) (v := 3) K dX5_least_119 (by decide) ?_
          refine q_callVi (pc := 120) (o := 0) (rm := rmX5_finding) K (kX5_finding l hN hG 3 r29.2 hw31 (by omega)) gX5_least_X5_finding rfl hdV_X5_finding ⟨Nat.le_of_ble_eq_true rfl, Nat.le_of_ble_eq_true rfl⟩ rfl rfl ⟨Nat.zero_le _, Nat.zero_le _⟩ (wO_m hG) vw_4 rfl rfl (Nat.le_of_ble_eq_true rfl) dX5_least_120 ?_
          refine qq_nmI (fun r33 e34 => ?_)
          have hw35 : WM r33.2 := by rw [e34]; exact wX5_finding 3 hw31 (by omega)
          refine q_goto (pc := 123) (tgt := 128) K dX5_least_123 (by decide) ?_
          exact q_iret K hr dX5_least_128
      · have i42 := nltI c9
        refine q_aload_n (pc := 30) K dX5_least_30 rfl rfl ?_
        refine q_iload_n (pc := 31) K dX5_least_31 rfl rfl ?_
        refine q_callVi (pc := 32) (o := 0) (rm := rmX5_finding) K (kX5_finding l hN hG (fX5_lacks 1 v2 σ) σ hw (by omega)) gX5_least_X5_finding rfl hdV_X5_finding ⟨Nat.le_of_ble_eq_true rfl, Nat.le_of_ble_eq_true rfl⟩ rfl rfl ⟨Nat.zero_le _, Nat.zero_le _⟩ (wO_m hG) vw_4 rfl rfl (Nat.le_of_ble_eq_true rfl) dX5_least_32 ?_
        refine qq_nmI (fun r38 e39 => ?_)
        have hw40 : WM r38.2 := by rw [e39]; exact wX5_finding (fX5_lacks 1 v2 σ) hw (by omega)
        exact q_iret K hr dX5_least_35
theorem hdV_X5_nail : yX5_nail.cls = RX5 ∧ yX5_nail.cls ≠ "java/lang/invoke/MethodHandle" ∧ yX5_nail.cls ≠ "java/lang/invoke/VarHandle" ∧ (parseMethodDescriptor yX5_nail.desc).map (fun d => d.parameters.length) = some 1 := by decide +kernel
theorem mX5_nail_f159 : Cond.fieldLink RX5 159 "WaxTreatiesModel" "worstLeft" "I" ∈ wsX5_nail := List.mem_of_getElem? (i := 1) rfl
theorem iwX5_nail_X5 : ∀ w ∈ wsX50, w ∈ wsX5_nail := fun w h => List.mem_cons_of_mem _ (List.mem_append_right _ h)
set_option maxRecDepth 100000 in
set_option maxHeartbeats 4000000 in
theorem lX5_nail_28 {p : Program} (l : Launch) {e : Env} {s : State} {m : MethodId} {args : Array Value} {below : List Frame} {meth : Method} {c : Code} {Q : State → Prop} {G : gT} (hN : wN G) (hG : gfl G = false) (K : qK p s m args meth c cX5_nail 8 RX5 wsX5_nail G) : ∀ (k : Nat) (v1 v3 v4 v5 : Int32) (σ : sg) (hw : WM σ) (hv5 : 0 ≤ v5.toInt ∧ v5.toInt ≤ 6) (hnv1 : v1.toInt ≤ 100) (hmu : (6 - v5.toInt).toNat < k) {ρ : Type} {E : ρ → Prop} {f : Int32 × sg → ρ} (hk : ∀ r : Int32 × sg, (WM r.2) → qq p l e (headSpec wsX5_nail rmX5_nail).room s m args below meth c Q 8 G E (f r) 104 [some (.ref (gob G 0)), none, none, some (.int r.1), none, none, none, none] [] r.2), qq p l e (headSpec wsX5_nail rmX5_nail).room s m args below meth c Q 8 G E (bnd (LX5_nail_28 k v1 v3 v4 v5 σ) f) 28 [some (.ref (gob G 0)), some (.int v1), none, some (.int v3), some (.int v4), some (.int v5), none, none] [] σ := by
  intro k
  induction k with
  | zero => intro v1 v3 v4 v5 σ hw hv5 hnv1 hmu ρ E f hk; exact absurd hmu (Nat.not_lt_zero _)
  | succ k ih =>
    intro v1 v3 v4 v5 σ hw hv5 hnv1 hmu ρ E f hk
    have km1 : ((-1) : Int32).toInt = -1 := rfl
    have k0 : (0 : Int32).toInt = 0 := rfl
    have k1 : (1 : Int32).toInt = 1 := rfl
    have k6 : (6 : Int32).toInt = 6 := rfl
    refine qq_in ?_
    refine qq_T (LX5_nail_28.eq_2 ..) ?_
    refine q_iload (pc := 28) K dX5_nail_28 rfl ?_
    refine q_bipush (pc := 30) (v := 6) K dX5_nail_30 (by decide) ?_
    refine q_icmp_ge (pc := 32) (tgt := 104) K dX5_nail_32 (by decide) (fun c2 => ?_) (fun c2 => ?_)
    · have i26 := leI c2
      refine qq_drop 1 (lv' := [some (.ref (gob G 0)), none, none, some (.int v3), some (.int v4), some (.int v5), none, none]) rfl ?_
      refine qq_drop 4 (lv' := [some (.ref (gob G 0)), none, none, some (.int v3), none, some (.int v5), none, none]) rfl ?_
      refine qq_drop 5 (lv' := [some (.ref (gob G 0)), none, none, some (.int v3), none, none, none, none]) rfl ?_
      exact qq_leaf (hk (v3, σ) hw)
    · have i27 := nleI c2
      refine q_aload_n (pc := 35) K dX5_nail_35 rfl rfl ?_
      refine q_callVi (pc := 36) (o := 0) (rm := rmX5_shut) K (kX5_shut l hN hG  σ hw) gX5_nail_X5_shut rfl hdV_X5_shut ⟨Nat.le_of_ble_eq_true rfl, Nat.le_of_ble_eq_true rfl⟩ rfl rfl ⟨Nat.zero_le _, Nat.zero_le _⟩ (wO_m hG) vw_4 rfl rfl (Nat.le_of_ble_eq_true rfl) dX5_nail_36 ?_
      refine q_iload (pc := 39) K dX5_nail_39 rfl ?_
      refine q_ishr (pc := 41) K dX5_nail_41 ?_
      refine q_iconst (pc := 42) (v := 1) K dX5_nail_42 (by decide) ?_
      refine q_iand (pc := 43) K dX5_nail_43 ?_
      refine q_iconst (pc := 44) (v := 1) K dX5_nail_44 (by decide) ?_
      refine q_icmp_ne (pc := 45) (tgt := 98) K dX5_nail_45 (by decide) (fun c3 => ?_) (fun c3 => ?_)
      · have i24 := neI c3
        refine q_iinc (pc := 98) (v := (v5 + 1)) (lv' := [some (.ref (gob G 0)), some (.int v1), none, some (.int v3), some (.int v4), some (.int (v5 + 1)), none, none]) K dX5_nail_98 rfl rfl (by decide) rfl ?_
        refine q_goto (pc := 101) (tgt := 28) K dX5_nail_101 (by decide) ?_
        have a4 := addI (x := v5) (y := 1) (by omega) (by omega)
        exact qq_out (ih v1 v3 v4 (v5 + 1) σ hw (by omega) (by omega) (by omega) hk)
      · have i25 := eqI c3
        refine q_aload_n (pc := 48) K dX5_nail_48 rfl rfl ?_
        refine q_callVi (pc := 49) (o := 0) (rm := rmX5_shut) K (kX5_shut l hN hG  σ hw) gX5_nail_X5_shut rfl hdV_X5_shut ⟨Nat.le_of_ble_eq_true rfl, Nat.le_of_ble_eq_true rfl⟩ rfl rfl ⟨Nat.zero_le _, Nat.zero_le _⟩ (wO_m hG) vw_4 rfl rfl (Nat.le_of_ble_eq_true rfl) dX5_nail_49 ?_
        refine q_iconst (pc := 52) (v := 1) K dX5_nail_52 (by decide) ?_
        refine q_iload (pc := 53) K dX5_nail_53 rfl ?_
        refine q_ishl (pc := 55) K dX5_nail_55 ?_
        refine q_iconst (pc := 56) (v := (-1)) K dX5_nail_56 (by decide) ?_
        refine q_ixor (pc := 57) K dX5_nail_57 ?_
        refine q_iand (pc := 58) K dX5_nail_58 ?_
        refine q_istore (pc := 59) (lv' := [some (.ref (gob G 0)), some (.int v1), none, some (.int v3), some (.int v4), some (.int v5), some (.int ((fX5_shut σ) &&& ((jshl 1 v5) ^^^ (-1)))), none]) K dX5_nail_59 (by decide) (Nat.le_of_ble_eq_true rfl) rfl ?_
        refine q_aload_n (pc := 61) K dX5_nail_61 rfl rfl ?_
        refine q_iload (pc := 62) K dX5_nail_62 rfl ?_
        refine q_iload (pc := 64) K dX5_nail_64 rfl ?_
        refine q_if_ne (pc := 66) (tgt := 73) K dX5_nail_66 (by decide) (fun c5 => ?_) (fun c5 => ?_)
        · have i22 := neI c5
          refine q_iconst (pc := 73) (v := 1) K dX5_nail_73 (by decide) ?_
          refine q_iload_n (pc := 74) K dX5_nail_74 rfl rfl ?_
          refine q_callVi (pc := 75) (o := 0) (rm := rmX5_worstOf) K (kX5_worstOf l hN hG ((fX5_shut σ) &&& ((jshl 1 v5) ^^^ (-1))) 1 v1 σ hw (by omega)) gX5_nail_X5_worstOf rfl hdV_X5_worstOf ⟨Nat.le_of_ble_eq_true rfl, Nat.le_of_ble_eq_true rfl⟩ rfl rfl ⟨Nat.zero_le _, Nat.zero_le _⟩ (wO_m hG) vw_4 rfl rfl (Nat.le_of_ble_eq_true rfl) dX5_nail_75 ?_
          refine qq_nmI (fun r6 e7 => ?_)
          have hw8 : WM r6.2 := by rw [e7]; exact wX5_worstOf ((fX5_shut σ) &&& ((jshl 1 v5) ^^^ (-1))) 1 v1 hw (by omega)
          refine q_istore (pc := 78) (lv' := [some (.ref (gob G 0)), some (.int v1), none, some (.int v3), some (.int v4), some (.int v5), some (.int ((fX5_shut σ) &&& ((jshl 1 v5) ^^^ (-1)))), some (.int r6.1)]) K dX5_nail_78 (by decide) (Nat.le_of_ble_eq_true rfl) rfl ?_
          refine q_aload_n (pc := 80) K dX5_nail_80 rfl rfl ?_
          refine q_get (pc := 81) (o := 0) (f := 9) (v := .int (rF r6.2 2)) K (wO_m hG) vw_4 iwX5_nail_X5 (by decide) mX5_nail_f159 rfl dX5_nail_81 ?_
          refine q_iload (pc := 84) K dX5_nail_84 rfl ?_
          refine q_icmp_le (pc := 86) (tgt := 98) K dX5_nail_86 (by decide) (fun c9 => ?_) (fun c9 => ?_)
          · have i12 := leI c9
            refine q_iinc (pc := 98) (v := (v5 + 1)) (lv' := [some (.ref (gob G 0)), some (.int v1), none, some (.int v3), some (.int v4), some (.int (v5 + 1)), some (.int ((fX5_shut σ) &&& ((jshl 1 v5) ^^^ (-1)))), some (.int r6.1)]) K dX5_nail_98 rfl rfl (by decide) rfl ?_
            refine q_goto (pc := 101) (tgt := 28) K dX5_nail_101 (by decide) ?_
            refine qq_drop 6 (lv' := [some (.ref (gob G 0)), some (.int v1), none, some (.int v3), some (.int v4), some (.int (v5 + 1)), none, some (.int r6.1)]) rfl ?_
            refine qq_drop 7 (lv' := [some (.ref (gob G 0)), some (.int v1), none, some (.int v3), some (.int v4), some (.int (v5 + 1)), none, none]) rfl ?_
            have a10 := addI (x := v5) (y := 1) (by omega) (by omega)
            exact qq_out (ih v1 v3 v4 (v5 + 1) r6.2 hw8 (by omega) (by omega) (by omega) hk)
          · have i13 := nleI c9
            refine q_iload (pc := 89) K dX5_nail_89 rfl ?_
            refine q_istore_n (pc := 91) (lv' := [some (.ref (gob G 0)), some (.int v1), none, some (.int v5), some (.int v4), some (.int v5), some (.int ((fX5_shut σ) &&& ((jshl 1 v5) ^^^ (-1)))), some (.int r6.1)]) K dX5_nail_91 rfl (by decide) (Nat.le_of_ble_eq_true rfl) rfl ?_
            refine q_aload_n (pc := 92) K dX5_nail_92 rfl rfl ?_
            refine q_get (pc := 93) (o := 0) (f := 9) (v := .int (rF r6.2 2)) K (wO_m hG) vw_4 iwX5_nail_X5 (by decide) mX5_nail_f159 rfl dX5_nail_93 ?_
            refine q_istore (pc := 96) (lv' := [some (.ref (gob G 0)), some (.int v1), none, some (.int v5), some (.int (rF r6.2 2)), some (.int v5), some (.int ((fX5_shut σ) &&& ((jshl 1 v5) ^^^ (-1)))), some (.int r6.1)]) K dX5_nail_96 (by decide) (Nat.le_of_ble_eq_true rfl) rfl ?_
            refine q_iinc (pc := 98) (v := (v5 + 1)) (lv' := [some (.ref (gob G 0)), some (.int v1), none, some (.int v5), some (.int (rF r6.2 2)), some (.int (v5 + 1)), some (.int ((fX5_shut σ) &&& ((jshl 1 v5) ^^^ (-1)))), some (.int r6.1)]) K dX5_nail_98 rfl rfl (by decide) rfl ?_
            refine q_goto (pc := 101) (tgt := 28) K dX5_nail_101 (by decide) ?_
            refine qq_drop 6 (lv' := [some (.ref (gob G 0)), some (.int v1), none, some (.int v5), some (.int (rF r6.2 2)), some (.int (v5 + 1)), none, some (.int r6.1)]) rfl ?_
            refine qq_drop 7 (lv' := [some (.ref (gob G 0)), some (.int v1), none, some (.int v5), some (.int (rF r6.2 2)), some (.int (v5 + 1)), none, none]) rfl ?_
            have a11 := addI (x := v5) (y := 1) (by omega) (by omega)
            exact qq_out (ih v1 v5 (rF r6.2 2) (v5 + 1) r6.2 hw8 (by omega) (by omega) (by omega) hk)
        · have i23 := eqI c5
          refine q_iconst (pc := 69) (v := 0) K dX5_nail_69 (by decide) ?_
          refine q_goto (pc := 70) (tgt := 74) K dX5_nail_70 (by decide) ?_
          refine q_iload_n (pc := 74) K dX5_nail_74 rfl rfl ?_
          refine q_callVi (pc := 75) (o := 0) (rm := rmX5_worstOf) K (kX5_worstOf l hN hG ((fX5_shut σ) &&& ((jshl 1 v5) ^^^ (-1))) 0 v1 σ hw (by omega)) gX5_nail_X5_worstOf rfl hdV_X5_worstOf ⟨Nat.le_of_ble_eq_true rfl, Nat.le_of_ble_eq_true rfl⟩ rfl rfl ⟨Nat.zero_le _, Nat.zero_le _⟩ (wO_m hG) vw_4 rfl rfl (Nat.le_of_ble_eq_true rfl) dX5_nail_75 ?_
          refine qq_nmI (fun r14 e15 => ?_)
          have hw16 : WM r14.2 := by rw [e15]; exact wX5_worstOf ((fX5_shut σ) &&& ((jshl 1 v5) ^^^ (-1))) 0 v1 hw (by omega)
          refine q_istore (pc := 78) (lv' := [some (.ref (gob G 0)), some (.int v1), none, some (.int v3), some (.int v4), some (.int v5), some (.int ((fX5_shut σ) &&& ((jshl 1 v5) ^^^ (-1)))), some (.int r14.1)]) K dX5_nail_78 (by decide) (Nat.le_of_ble_eq_true rfl) rfl ?_
          refine q_aload_n (pc := 80) K dX5_nail_80 rfl rfl ?_
          refine q_get (pc := 81) (o := 0) (f := 9) (v := .int (rF r14.2 2)) K (wO_m hG) vw_4 iwX5_nail_X5 (by decide) mX5_nail_f159 rfl dX5_nail_81 ?_
          refine q_iload (pc := 84) K dX5_nail_84 rfl ?_
          refine q_icmp_le (pc := 86) (tgt := 98) K dX5_nail_86 (by decide) (fun c17 => ?_) (fun c17 => ?_)
          · have i20 := leI c17
            refine q_iinc (pc := 98) (v := (v5 + 1)) (lv' := [some (.ref (gob G 0)), some (.int v1), none, some (.int v3), some (.int v4), some (.int (v5 + 1)), some (.int ((fX5_shut σ) &&& ((jshl 1 v5) ^^^ (-1)))), some (.int r14.1)]) K dX5_nail_98 rfl rfl (by decide) rfl ?_
            refine q_goto (pc := 101) (tgt := 28) K dX5_nail_101 (by decide) ?_
            refine qq_drop 6 (lv' := [some (.ref (gob G 0)), some (.int v1), none, some (.int v3), some (.int v4), some (.int (v5 + 1)), none, some (.int r14.1)]) rfl ?_
            refine qq_drop 7 (lv' := [some (.ref (gob G 0)), some (.int v1), none, some (.int v3), some (.int v4), some (.int (v5 + 1)), none, none]) rfl ?_
            have a18 := addI (x := v5) (y := 1) (by omega) (by omega)
            exact qq_out (ih v1 v3 v4 (v5 + 1) r14.2 hw16 (by omega) (by omega) (by omega) hk)
          · have i21 := nleI c17
            refine q_iload (pc := 89) K dX5_nail_89 rfl ?_
            refine q_istore_n (pc := 91) (lv' := [some (.ref (gob G 0)), some (.int v1), none, some (.int v5), some (.int v4), some (.int v5), some (.int ((fX5_shut σ) &&& ((jshl 1 v5) ^^^ (-1)))), some (.int r14.1)]) K dX5_nail_91 rfl (by decide) (Nat.le_of_ble_eq_true rfl) rfl ?_
            refine q_aload_n (pc := 92) K dX5_nail_92 rfl rfl ?_
            refine q_get (pc := 93) (o := 0) (f := 9) (v := .int (rF r14.2 2)) K (wO_m hG) vw_4 iwX5_nail_X5 (by decide) mX5_nail_f159 rfl dX5_nail_93 ?_
            refine q_istore (pc := 96) (lv' := [some (.ref (gob G 0)), some (.int v1), none, some (.int v5), some (.int (rF r14.2 2)), some (.int v5), some (.int ((fX5_shut σ) &&& ((jshl 1 v5) ^^^ (-1)))), some (.int r14.1)]) K dX5_nail_96 (by decide) (Nat.le_of_ble_eq_true rfl) rfl ?_
            refine q_iinc (pc := 98) (v := (v5 + 1)) (lv' := [some (.ref (gob G 0)), some (.int v1), none, some (.int v5), some (.int (rF r14.2 2)), some (.int (v5 + 1)), some (.int ((fX5_shut σ) &&& ((jshl 1 v5) ^^^ (-1)))), some (.int r14.1)]) K dX5_nail_98 rfl rfl (by decide) rfl ?_
            refine q_goto (pc := 101) (tgt := 28) K dX5_nail_101 (by decide) ?_
            refine qq_drop 6 (lv' := [some (.ref (gob G 0)), some (.int v1), none, some (.int v5), some (.int (rF r14.2 2)), some (.int (v5 + 1)), none, some (.int r14.1)]) rfl ?_
            refine qq_drop 7 (lv' := [some (.ref (gob G 0)), some (.int v1), none, some (.int v5), some (.int (rF r14.2 2)), some (.int (v5 + 1)), none, none]) rfl ?_
            have a19 := addI (x := v5) (y := 1) (by omega) (by omega)
            exact qq_out (ih v1 v5 (rF r14.2 2) (v5 + 1) r14.2 hw16 (by omega) (by omega) (by omega) hk)
set_option maxRecDepth 100000 in
set_option maxHeartbeats 4000000 in
theorem kX5_nail (l : Launch) {G : gT} (hN : wN G) (hG : gfl G = false) (v1 : Int32) (σ : sg) (hw : WM σ) : cM l yX5_nail wsX5_nail rmX5_nail G [.ref (gob G 0), .int v1] σ (some (.int (fX5_nail v1 σ).1)) (fX5_nail v1 σ).2 := by
  refine cM_of (maxL := 8) (ret := (some .int)) (cc := cX5_nail) (fX5_nail v1 σ) RX5 hN (by decide +kernel) rfl rfl (Nat.le_of_ble_eq_true rfl) rfl ?_
  intro p e s m args below meth c K hr
  have km1 : ((-1) : Int32).toInt = -1 := rfl
  have k0 : (0 : Int32).toInt = 0 := rfl
  have k3 : (3 : Int32).toInt = 3 := rfl
  refine qq_st (lv' := [some (.ref (gob G 0)), some (.int v1), none, none, none, none, none, none]) rfl rfl rfl ?_
  refine qq_T (fX5_nail.eq_1 ..) ?_
  refine q_aload_n (pc := 0) K dX5_nail_0 rfl rfl ?_
  refine q_iload_n (pc := 1) K dX5_nail_1 rfl rfl ?_
  refine q_callSi (pc := 2) (rm := rmX5_isAhead) K (kX5_isAhead l hN v1 σ) gX5_nail_X5_isAhead rfl hdS_X5_isAhead ⟨Nat.le_of_ble_eq_true rfl, Nat.le_of_ble_eq_true rfl⟩ rfl rfl ⟨Nat.zero_le _, Nat.zero_le _⟩ rfl rfl (Nat.le_of_ble_eq_true rfl) dX5_nail_2 ?_
  refine q_iload_n (pc := 5) K dX5_nail_5 rfl rfl ?_
  refine q_callVi (pc := 6) (o := 0) (rm := rmX5_lacks) K (kX5_lacks l hN hG (fX5_isAhead v1) v1 σ hw) gX5_nail_X5_lacks rfl hdV_X5_lacks ⟨Nat.le_of_ble_eq_true rfl, Nat.le_of_ble_eq_true rfl⟩ rfl rfl ⟨Nat.zero_le _, Nat.zero_le _⟩ (wO_m hG) vw_4 rfl rfl (Nat.le_of_ble_eq_true rfl) dX5_nail_6 ?_
  have lr := lkR (fX5_isAhead v1) v1 σ
  refine q_istore_n (pc := 9) (lv' := [some (.ref (gob G 0)), some (.int v1), some (.int (fX5_lacks (fX5_isAhead v1) v1 σ)), none, none, none, none, none]) K dX5_nail_9 rfl (by decide) (Nat.le_of_ble_eq_true rfl) rfl ?_
  refine q_iload_n (pc := 10) K dX5_nail_10 rfl rfl ?_
  refine q_if_lt (pc := 11) (tgt := 20) K dX5_nail_11 (by decide) (fun c1 => ?_) (fun c1 => ?_)
  · have i40 := ltI c1
    have b41 := lkA_t c1
    refine q_iconst (pc := 20) (v := (-1)) K dX5_nail_20 (by decide) ?_
    refine q_istore_n (pc := 21) (lv' := [some (.ref (gob G 0)), some (.int v1), some (.int (fX5_lacks (fX5_isAhead v1) v1 σ)), some (.int (-1)), none, none, none, none]) K dX5_nail_21 rfl (by decide) (Nat.le_of_ble_eq_true rfl) rfl ?_
    refine q_iconst (pc := 22) (v := (-1)) K dX5_nail_22 (by decide) ?_
    refine q_istore (pc := 23) (lv' := [some (.ref (gob G 0)), some (.int v1), some (.int (fX5_lacks (fX5_isAhead v1) v1 σ)), some (.int (-1)), some (.int (-1)), none, none, none]) K dX5_nail_23 (by decide) (Nat.le_of_ble_eq_true rfl) rfl ?_
    refine q_iconst (pc := 25) (v := 0) K dX5_nail_25 (by decide) ?_
    refine q_istore (pc := 26) (lv' := [some (.ref (gob G 0)), some (.int v1), some (.int (fX5_lacks (fX5_isAhead v1) v1 σ)), some (.int (-1)), some (.int (-1)), some (.int 0), none, none]) K dX5_nail_26 (by decide) (Nat.le_of_ble_eq_true rfl) rfl ?_
    refine qq_drop 2 (lv' := [some (.ref (gob G 0)), some (.int v1), none, some (.int (-1)), some (.int (-1)), some (.int 0), none, none]) rfl ?_
    refine lX5_nail_28 l hN hG K 7 v1 (-1) (-1) 0 σ hw (by omega) (by omega) (by omega) (fun r28 hw30 => ?_)
    refine q_iload_n (pc := 104) K dX5_nail_104 rfl rfl ?_
    refine q_if_ge (pc := 105) (tgt := 116) K dX5_nail_105 (by decide) (fun c31 => ?_) (fun c31 => ?_)
    · have i35 := leI c31
      refine q_iload_n (pc := 116) K dX5_nail_116 rfl rfl ?_
      exact q_iret K hr dX5_nail_117
    · have i36 := nleI c31
      refine q_aload_n (pc := 108) K dX5_nail_108 rfl rfl ?_
      refine q_iconst (pc := 109) (v := 3) K dX5_nail_109 (by decide) ?_
      refine q_callVi (pc := 110) (o := 0) (rm := rmX5_finding) K (kX5_finding l hN hG 3 r28.2 hw30 (by omega)) gX5_nail_X5_finding rfl hdV_X5_finding ⟨Nat.le_of_ble_eq_true rfl, Nat.le_of_ble_eq_true rfl⟩ rfl rfl ⟨Nat.zero_le _, Nat.zero_le _⟩ (wO_m hG) vw_4 rfl rfl (Nat.le_of_ble_eq_true rfl) dX5_nail_110 ?_
      refine qq_nmI (fun r32 e33 => ?_)
      have hw34 : WM r32.2 := by rw [e33]; exact wX5_finding 3 hw30 (by omega)
      refine q_goto (pc := 113) (tgt := 117) K dX5_nail_113 (by decide) ?_
      exact q_iret K hr dX5_nail_117
  · have i42 := nltI c1
    refine q_aload_n (pc := 14) K dX5_nail_14 rfl rfl ?_
    refine q_iload_n (pc := 15) K dX5_nail_15 rfl rfl ?_
    refine q_callVi (pc := 16) (o := 0) (rm := rmX5_finding) K (kX5_finding l hN hG (fX5_lacks (fX5_isAhead v1) v1 σ) σ hw (by omega)) gX5_nail_X5_finding rfl hdV_X5_finding ⟨Nat.le_of_ble_eq_true rfl, Nat.le_of_ble_eq_true rfl⟩ rfl rfl ⟨Nat.zero_le _, Nat.zero_le _⟩ (wO_m hG) vw_4 rfl rfl (Nat.le_of_ble_eq_true rfl) dX5_nail_16 ?_
    refine qq_nmI (fun r37 e38 => ?_)
    have hw39 : WM r37.2 := by rw [e38]; exact wX5_finding (fX5_lacks (fX5_isAhead v1) v1 σ) hw (by omega)
    exact q_iret K hr dX5_nail_19
