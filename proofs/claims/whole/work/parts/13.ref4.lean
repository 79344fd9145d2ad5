def rmX5_hang : Room := { frames := 2, cells := 0, slots := 0, locals := 43 }
def LX5_hang_22 : Nat → Int32 → Int32 → Int32 → sg → Int32
  | 0, v1, v2, v3, σ => v2
  | k + 1, v1, v2, v3, σ => (if (rA σ 0 0) ≤ v3 then v2 else (if (rA σ 0 (72 + v3)) < 0 then LX5_hang_22 k v1 (v2 ||| 0) (v3 + 1) σ else (if ((jshr v2 (rA σ 0 (72 + v3))) &&& 1) = 1 then LX5_hang_22 k v1 (v2 ||| (jshl 1 v3)) (v3 + 1) σ else LX5_hang_22 k v1 (v2 ||| 0) (v3 + 1) σ)))
def fX5_hang (v1 : Int32) (σ : sg) : Int32 × sg := (if (fX5_isDeed v1 σ) = 0 then bnd (fX5_finding 0 σ) (fun r20 => (r20.1, r20.2)) else bnd (LX5_hang_22 9 v1 (jshl 1 v1) (v1 + 1) σ) (fun r18 => ((r18 &&& ((jshl 1 v1) ^^^ (-1))), σ)))
def rmX5_fallsWith : Room := { frames := 2, cells := 0, slots := 0, locals := 44 }
def fX5_fallsWith (v1 : Int32) (σ : sg) : Int32 × sg := bnd (fX5_row 0 2 σ) (fun r1 => bnd (sA r1 2 (64 + v1) 1) (fun s5 => (((fX5_holding 0 s5) &&& ((fX5_holding 2 s5) ^^^ (-1))), s5)))
theorem fwB {d : Int32} {σ : sg} {r : Int32 × sg} (hw : WM r.2) (e : r = fX5_fallsWith d σ) : 0 ≤ r.1.toInt ∧ r.1.toInt < 256 := by
  have e1 : r.1 = fX5_holding 0 r.2 &&& (fX5_holding 2 r.2 ^^^ (-1)) := by
    rw [e, fX5_fallsWith.eq_1]
    refine wf_bnd (P := fun T : Int32 × sg => T.1 = fX5_holding 0 T.2 &&& (fX5_holding 2 T.2 ^^^ (-1))) (fun r1 _ => ?_)
    exact wf_bnd (P := fun T : Int32 × sg => T.1 = fX5_holding 0 T.2 &&& (fX5_holding 2 T.2 ^^^ (-1))) (fun s2 _ => rfl)
  have h1 := holdB hw (show 0 < 4 by decide)
  have h2 := andLe (x := fX5_holding 0 r.2) (y := fX5_holding 2 r.2 ^^^ (-1)) h1.1
  rw [e1]
  omega
def rmX5_falls : Room := { frames := 3, cells := 0, slots := 0, locals := 65 }
def fX5_falls (v1 : Int32) (σ : sg) : Int32 × sg := (if (fX5_isDeed v1 σ) = 0 then bnd (fX5_finding 0 σ) (fun r2 => (r2.1, r2.2)) else bnd (fX5_fallsWith v1 σ) (fun r5 => (r5.1, r5.2)))
def rmX5_war : Room := { frames := 0, cells := 0, slots := 0, locals := 0 }
def LX5_war_4 : Nat → Int32 → Int32 → sg → Int32
  | 0, v1, v2, σ => v1
  | k + 1, v1, v2, σ => (if (rA σ 0 0) ≤ v2 then v1 else (if 0 ≤ (rA σ 0 (72 + v2)) then LX5_war_4 k (v1 + 0) (v2 + 1) σ else (if (rA σ 0 (64 + v2)) = 0 then LX5_war_4 k (v1 + 1) (v2 + 1) σ else LX5_war_4 k (v1 + 0) (v2 + 1) σ)))
def fX5_war (σ : sg) : Int32 := bnd (LX5_war_4 9 0 0 σ) (fun r17 => r17)
def rmX5_key : Room := { frames := 3, cells := 0, slots := 0, locals := 65 }
def LX5_key_6 : Nat → Int32 → Int32 → Int32 → sg → Int32 × sg
  | 0, v1, v2, v3, σ => (v1, σ)
  | k + 1, v1, v2, v3, σ => (if (rA σ 0 0) ≤ v3 then (v1, σ) else bnd (fX5_fallsWith v3 σ) (fun r3 => (if (fX5_bits r3.1) ≤ v2 then LX5_key_6 k v1 v2 (v3 + 1) r3.2 else LX5_key_6 k v3 (fX5_bits r3.1) (v3 + 1) r3.2)))
def fX5_key (σ : sg) : Int32 × sg := bnd (LX5_key_6 9 (-1) (-1) 0 σ) (fun r13 => (if 0 ≤ r13.1 then (r13.1, r13.2) else bnd (fX5_finding 3 r13.2) (fun r17 => (r17.1, r17.2))))
def rmX5_began : Room := { frames := 5, cells := 0, slots := 0, locals := 114 }
def LX5_began_50 : Nat → Int32 → Int32 → Int32 → sg → sg
  | 0, v1, v2, v3, σ => σ
  | k + 1, v1, v2, v3, σ => (if (rA σ 0 0) ≤ v3 then σ else bnd (sA σ 2 (56 + v3) 0) (fun s14 => bnd (sA s14 2 (64 + v3) 0) (fun s20 => LX5_began_50 k v1 v2 (v3 + 1) s20)))
def LX5_began_21 : Nat → Int32 → Int32 → sg → Int32 × sg
  | 0, v1, v2, σ => (v1, σ)
  | k + 1, v1, v2, σ => (if 24 < v2 then (v1, σ) else bnd (fX5_row 0 2 σ) (fun r3 => bnd (sA r3 2 2 ((rA r3 2 2) - v2)) (fun s6 => bnd (LX5_began_50 9 v1 v2 0 s6) (fun r28 => bnd (fX5_holdingBehind v2 r28) (fun r31 => (if (fX5_ran 2 r31.2) = (fX5_ran 0 r31.2) then LX5_began_21 k (v1 ||| (jshl 1 v2)) (v2 + 1) r31.2 else LX5_began_21 k (v1 ||| 0) (v2 + 1) r31.2))))))
def fX5_began (σ : sg) : Int32 × sg := (if 24 ≤ (rA σ 0 2) then bnd (LX5_began_21 26 0 1 σ) (fun r41 => (r41.1, r41.2)) else bnd (fX5_finding 4 σ) (fun r44 => (r44.1, r44.2)))
def rmX5_opened : Room := { frames := 5, cells := 0, slots := 0, locals := 114 }
def LX5_opened_74 : Nat → Int32 → Int32 → Int32 → Int32 → Int32 → sg → sg
  | 0, v1, v2, v4, v5, v6, σ => σ
  | k + 1, v1, v2, v4, v5, v6, σ => (if 6 ≤ v6 then σ else bnd (sA σ 2 (4 + v6) ((jshr v5 v6) &&& 1)) (fun s21 => LX5_opened_74 k v1 v2 v4 v5 (v6 + 1) s21))
def LX5_opened_53 : Nat → Int32 → Int32 → Int32 → Int32 → sg → Int32 × sg
  | 0, v1, v2, v4, v5, σ => (v4, σ)
  | k + 1, v1, v2, v4, v5, σ => (if 64 ≤ v5 then (v4, σ) else bnd (fX5_row 0 2 σ) (fun r16 => bnd (LX5_opened_74 7 v1 v2 v4 v5 0 r16) (fun r29 => bnd (fX5_holdingBehind v2 r29) (fun r32 => (if (fX5_ran 2 r32.2) = v1 then LX5_opened_53 k v1 v2 (v4 + 1) (v5 + 1) r32.2 else LX5_opened_53 k v1 v2 (v4 + 0) (v5 + 1) r32.2)))))
def fX5_opened (v1 : Int32) (v2 : Int32) (σ : sg) : Int32 × sg := (if v1 < 0 then bnd (fX5_finding (fX5_lacks 0 v2 σ) σ) (fun r2 => (r2.1, r2.2)) else (if (jshl 1 (rA σ 0 0)) ≤ v1 then bnd (fX5_finding (fX5_lacks 0 v2 σ) σ) (fun r7 => (r7.1, r7.2)) else (if (fX5_within v2 1 24) = 0 then bnd (fX5_finding (fX5_lacks 0 v2 σ) σ) (fun r11 => (r11.1, r11.2)) else (if (fX5_lacks 1 v2 σ) < 0 then bnd (LX5_opened_53 65 v1 v2 0 0 σ) (fun r42 => (r42.1, r42.2)) else bnd (fX5_finding (fX5_lacks 1 v2 σ) σ) (fun r45 => (r45.1, r45.2))))))
def rmX5_draw : Room := { frames := 0, cells := 0, slots := 0, locals := 0 }
def fX5_draw (σ : sg) : Int32 × sg := bnd (sA σ 0 3 (((rA σ 0 3) * 1103515245) + 12345)) (fun s1 => ((jushr (rA s1 0 3) 8), s1))
theorem drB {σ : sg} {r : Int32 × sg} (e : r = fX5_draw σ) : 0 ≤ r.1.toInt ∧ r.1.toInt < 16777216 := by
  subst e
  exact jushr8 _
def rmX5_days : Room := { frames := 4, cells := 0, slots := 0, locals := 91 }
def LX5_days_87 : Nat → Int32 → Int32 → Int32 → Int32 → sg → Int32 × sg
  | 0, v1, v2, v3, v5, σ => (v2, σ)
  | k + 1, v1, v2, v3, v5, σ => (if 24 ≤ v5 then (v2, σ) else bnd (fX5_anHour 0 σ) (fun r20 => LX5_days_87 k v1 (v2 + r20.1) v3 (v5 + 1) r20.2))
def LX5_days_37 : Nat → Int32 → Int32 → Int32 → sg → Int32 × sg
  | 0, v1, v2, v3, σ => (v2, σ)
  | k + 1, v1, v2, v3, σ => (if v1 ≤ v3 then (v2, σ) else bnd (fX5_draw σ) (fun r4 => bnd (sA r4.2 0 1 (jrem r4.1 41)) (fun s7 => bnd (fX5_draw s7) (fun r11 => bnd (sA r11.2 0 (4 + (jrem r11.1 6)) (1 - (rA r11.2 0 (4 + (jrem r11.1 6))))) (fun s15 => bnd (LX5_days_87 25 v1 v2 v3 0 s15) (fun r26 => LX5_days_37 k v1 r26.1 (v3 + 1) r26.2))))))
def fX5_days (v1 : Int32) (σ : sg) : Int32 × sg := (if (fX5_within v1 1 12) = 0 then bnd (fX5_finding 0 σ) (fun r40 => (r40.1, r40.2)) else (if (fX5_isTime (24 * v1) σ) = 0 then bnd (fX5_finding 4 σ) (fun r35 => (r35.1, r35.2)) else bnd (LX5_days_37 13 v1 0 0 σ) (fun r32 => (r32.1, r32.2))))
def rmX5_seed : Room := { frames := 0, cells := 0, slots := 0, locals := 0 }
def fX5_seed (v1 : Int32) (σ : sg) : Int32 × sg := bnd (sA σ 0 3 v1) (fun s1 => ((rA σ 0 3), s1))
def rmX5_wipe : Room := { frames := 0, cells := 0, slots := 0, locals := 0 }
def fX5_wipe (σ : sg) : Int32 × sg := bnd (sF9 σ 1 0) (fun s2 => ((rF σ 1), s2))
def rmX5_hold : Room := { frames := 1, cells := 0, slots := 0, locals := 22 }
def fX5_hold (v1 : Int32) (v2 : Int32) (σ : sg) : Int32 × sg := (if (fX5_within v1 0 9) = 0 then bnd (fX5_finding 0 σ) (fun r2 => (r2.1, r2.2)) else (if (fX5_within v2 (-1) ((rA σ 0 0) - 1)) = 0 then bnd (fX5_finding 0 σ) (fun r13 => (r13.1, r13.2)) else bnd (sA σ 0 (22 + v1) v2) (fun s9 => (1, s9))))
def rmX5_as : Room := { frames := 2, cells := 0, slots := 0, locals := 42 }
def fX5_as (v1 : Int32) (v2 : Int32) (σ : sg) : Int32 × sg := (if (fX5_within v1 0 9) = 0 then bnd (fX5_finding 0 σ) (fun r2 => (r2.1, r2.2)) else (if (fX5_isKind v2) = 0 then bnd (fX5_finding 0 σ) (fun r21 => (r21.1, r21.2)) else (if 0 ≤ (rA σ 0 (22 + v1)) then (if (fX5_isUnder (rA σ 0 (32 + (rA σ 0 (22 + v1)))) v2) = 0 then bnd (fX5_finding 2 σ) (fun r11 => (r11.1, r11.2)) else ((rA σ 0 (22 + v1)), σ)) else bnd (fX5_finding 5 σ) (fun r16 => (r16.1, r16.2)))))
def rmX5_sheet : Room := { frames := 2, cells := 0, slots := 0, locals := 42 }
def LX5_sheet_95 : Nat → Int32 → Int32 → sg → sg
  | 0, v1, v5, σ => σ
  | k + 1, v1, v5, σ => (if 40 ≤ v5 then σ else bnd (sA σ 9 ((40 * v1) + v5) 0) (fun s20 => LX5_sheet_95 k v1 (v5 + 1) s20))
def fX5_sheet (v1 : Int32) (v2 : Int32) (v3 : Int32) (σ : sg) : Int32 × sg := (if v2 = 0 then (if (fX5_isSheet v1) = 0 then bnd (fX5_finding 0 σ) (fun r3 => (r3.1, r3.2)) else (if 0 ≤ v3 then (if v3 ≤ 40 then bnd (sA σ 7 v1 v2) (fun s8 => (if v2 = 0 then bnd (sA s8 8 v1 0) (fun s31 => bnd (LX5_sheet_95 41 v1 0 s31) (fun r35 => ((rA r35 8 v1), r35))) else bnd (sA s8 8 v1 v3) (fun s13 => bnd (LX5_sheet_95 41 v1 0 s13) (fun r27 => ((rA r27 8 v1), r27))))) else bnd (fX5_finding 0 σ) (fun r41 => (r41.1, r41.2))) else bnd (fX5_finding 6 σ) (fun r46 => (r46.1, r46.2)))) else (if v2 = 8 then (if (fX5_isSheet v1) = 0 then bnd (fX5_finding 0 σ) (fun r56 => (r56.1, r56.2)) else (if 0 ≤ v3 then (if v3 ≤ 40 then bnd (sA σ 7 v1 v2) (fun s61 => (if v2 = 0 then bnd (sA s61 8 v1 0) (fun s74 => bnd (LX5_sheet_95 41 v1 0 s74) (fun r78 => ((rA r78 8 v1), r78))) else bnd (sA s61 8 v1 v3) (fun s66 => bnd (LX5_sheet_95 41 v1 0 s66) (fun r70 => ((rA r70 8 v1), r70))))) else bnd (fX5_finding 0 σ) (fun r84 => (r84.1, r84.2))) else bnd (fX5_finding 6 σ) (fun r89 => (r89.1, r89.2)))) else (if v2 = 16 then (if (fX5_isSheet v1) = 0 then bnd (fX5_finding 0 σ) (fun r99 => (r99.1, r99.2)) else (if 0 ≤ v3 then (if v3 ≤ 40 then bnd (sA σ 7 v1 v2) (fun s104 => (if v2 = 0 then bnd (sA s104 8 v1 0) (fun s117 => bnd (LX5_sheet_95 41 v1 0 s117) (fun r121 => ((rA r121 8 v1), r121))) else bnd (sA s104 8 v1 v3) (fun s109 => bnd (LX5_sheet_95 41 v1 0 s109) (fun r113 => ((rA r113 8 v1), r113))))) else bnd (fX5_finding 0 σ) (fun r127 => (r127.1, r127.2))) else bnd (fX5_finding 6 σ) (fun r132 => (r132.1, r132.2)))) else (if v2 = 32 then (if (fX5_isSheet v1) = 0 then bnd (fX5_finding 0 σ) (fun r152 => (r152.1, r152.2)) else (if 0 ≤ v3 then (if v3 ≤ 40 then bnd (sA σ 7 v1 v2) (fun s157 => (if v2 = 0 then bnd (sA s157 8 v1 0) (fun s170 => bnd (LX5_sheet_95 41 v1 0 s170) (fun r174 => ((rA r174 8 v1), r174))) else bnd (sA s157 8 v1 v3) (fun s162 => bnd (LX5_sheet_95 41 v1 0 s162) (fun r166 => ((rA r166 8 v1), r166))))) else bnd (fX5_finding 0 σ) (fun r180 => (r180.1, r180.2))) else bnd (fX5_finding 6 σ) (fun r185 => (r185.1, r185.2)))) else (if (fX5_isSheet v1) = 0 then bnd (fX5_finding 0 σ) (fun r142 => (r142.1, r142.2)) else bnd (fX5_finding 0 σ) (fun r145 => (r145.1, r145.2)))))))
def rmX5_lacksOf : Room := { frames := 2, cells := 0, slots := 0, locals := 42 }
def fX5_lacksOf (v1 : Int32) (σ : sg) : Int32 := (if (fX5_isSheet v1) = 0 then 0 else (if (rA σ 7 v1) = 0 then 5 else (-1)))
theorem lsR (s : Int32) (σ : sg) : (fX5_lacksOf s σ).toInt ≤ 5 := by
  unfold fX5_lacksOf
  split
  · decide
  · split <;> decide
theorem lsS_t {s : Int32} {σ : sg} (c : fX5_lacksOf s σ < 0) : 0 ≤ s.toInt ∧ s.toInt ≤ 3 := by
  unfold fX5_lacksOf at c
  split at c
  · exact absurd c (by decide)
  · rename_i c1; exact wiH_t c1
theorem cpF {a n z : Int32} (h1 : 0 ≤ a.toInt) (h2 : 0 ≤ n.toInt) (c : ¬ 0 < lg_cmp (a.toInt64 + n.toInt64) z.toInt64) : a.toInt + n.toInt ≤ z.toInt := by
  have hx : ¬ (z.toInt64 < a.toInt64 + n.toInt64) := fun q => c (by unfold lg_cmp; rw [if_pos q]; decide)
  have l1 := Int32.toInt_lt a
  have l2 := Int32.toInt_lt n
  have b : (a.toInt + n.toInt).bmod (2 ^ 64) = a.toInt + n.toInt := by
    rw [Int.bmod_def]
    split <;> omega
  rw [Int64.lt_iff_toInt_lt, Int64.toInt_add, Int32.toInt_toInt64, Int32.toInt_toInt64, Int32.toInt_toInt64, b] at hx
  omega
def rmX5_write : Room := { frames := 3, cells := 0, slots := 0, locals := 63 }
def fX5_write (v1 : Int32) (v2 : Int32) (v3 : Int32) (σ : sg) : Int32 × sg := (if (fX5_lacksOf v1 σ) < 0 then (if (fX5_within v2 0 ((rA σ 8 v1) - 1)) = 0 then bnd (fX5_finding 0 σ) (fun r11 => (r11.1, r11.2)) else bnd (sA σ 9 ((40 * v1) + v2) (fX5_cut v3 (rA σ 7 v1))) (fun s7 => (1, s7))) else bnd (fX5_finding (fX5_lacksOf v1 σ) σ) (fun r17 => (r17.1, r17.2)))
def rmX5_copy : Room := { frames := 2, cells := 0, slots := 0, locals := 42 }
def LX5_copy_135 : Nat → Int32 → Int32 → Int32 → Int32 → Int32 → Int32 → sg → sg
  | 0, v1, v2, v3, v4, v5, v7, σ => σ
  | k + 1, v1, v2, v3, v4, v5, v7, σ => (if v5 ≤ v7 then σ else bnd (sA σ 10 v7 (rA σ 9 (((40 * v1) + v2) + v7))) (fun s38 => LX5_copy_135 k v1 v2 v3 v4 v5 (v7 + 1) s38))
def LX5_copy_172 : Nat → Int32 → Int32 → Int32 → Int32 → sg → sg
  | 0, v3, v4, v5, v7, σ => σ
  | k + 1, v3, v4, v5, v7, σ => (if v5 ≤ v7 then σ else bnd (sA σ 9 (((40 * v3) + v4) + v7) (rA σ 10 v7)) (fun s52 => LX5_copy_172 k v3 v4 v5 (v7 + 1) s52))
def fX5_copy (v1 : Int32) (v2 : Int32) (v3 : Int32) (v4 : Int32) (v5 : Int32) (σ : sg) : Int32 × sg := (if (fX5_isSheet v1) = 0 then bnd (fX5_finding 0 σ) (fun r2 => (r2.1, r2.2)) else (if (fX5_isSheet v3) = 0 then bnd (fX5_finding 0 σ) (fun r84 => (r84.1, r84.2)) else (if (rA σ 7 v1) = 0 then bnd (fX5_finding 5 σ) (fun r7 => (r7.1, r7.2)) else (if (rA σ 7 v3) = 0 then bnd (fX5_finding 5 σ) (fun r77 => (r77.1, r77.2)) else (if (rA σ 7 v1) = (rA σ 7 v3) then (if v5 < 0 then bnd (fX5_finding 0 σ) (fun r13 => (r13.1, r13.2)) else (if v2 < 0 then bnd (fX5_finding 0 σ) (fun r17 => (r17.1, r17.2)) else (if v4 < 0 then bnd (fX5_finding 0 σ) (fun r21 => (r21.1, r21.2)) else (if 0 < (lg_cmp (v2.toInt64 + v5.toInt64) (rA σ 8 v1).toInt64) then bnd (fX5_finding 0 σ) (fun r26 => (r26.1, r26.2)) else (if 0 < (lg_cmp (v4.toInt64 + v5.toInt64) (rA σ 8 v3).toInt64) then bnd (fX5_finding 0 σ) (fun r31 => (r31.1, r31.2)) else bnd (LX5_copy_135 41 v1 v2 v3 v4 v5 0 σ) (fun r45 => bnd (LX5_copy_172 41 v3 v4 v5 0 r45) (fun r59 => (v5, r59)))))))) else bnd (fX5_finding 2 σ) (fun r72 => (r72.1, r72.2)))))))
def rmX5_load : Room := { frames := 3, cells := 0, slots := 0, locals := 63 }
def LX5_load_18 : Nat → Int32 → Int32 → sg → Int32 × sg
  | 0, v1, v3, σ => (v3, σ)
  | k + 1, v1, v3, σ => (if (rA σ 8 v1) ≤ v3 then (v3, σ) else (if (rA σ 0 0) ≤ v3 then (v3, σ) else (if (fX5_within (rA σ 9 ((40 * v1) + v3)) 1 99) = 0 then (v3, σ) else bnd (sA σ 0 (48 + v3) (rA σ 9 ((40 * v1) + v3))) (fun s10 => LX5_load_18 k v1 (v3 + 1) s10))))
def fX5_load (v1 : Int32) (σ : sg) : Int32 × sg := (if (fX5_lacksOf v1 σ) < 0 then bnd (LX5_load_18 9 v1 0 σ) (fun r22 => (r22.1, r22.2)) else bnd (fX5_finding (fX5_lacksOf v1 σ) σ) (fun r26 => (r26.1, r26.2)))
def rmX5_judge : Room := { frames := 4, cells := 0, slots := 0, locals := 91 }
def LX5_judge_59 : Nat → Int32 → Int32 → Int32 → sg → Int32 × sg
  | 0, v1, v2, v5, σ => (0, σ)
  | k + 1, v1, v2, v5, σ => (if (rA σ 8 v1) ≤ v5 then (0, σ) else bnd (fX5_anHour 2 σ) (fun r9 => (if (rA r9.2 9 ((40 * v1) + v5)) = (rA r9.2 2 (56 + v2)) then LX5_judge_59 k v1 v2 (v5 + 1) r9.2 else ((1 + v5), r9.2))))
def fX5_judge (v1 : Int32) (v2 : Int32) (σ : sg) : Int32 × sg := (if (fX5_lacksOf v1 σ) < 0 then (if (fX5_lacks (fX5_isDeed v2 σ) (rA σ 8 v1) σ) < 0 then bnd (fX5_row 0 2 σ) (fun r4 => LX5_judge_59 41 v1 v2 0 r4) else bnd (fX5_finding (fX5_lacks (fX5_isDeed v2 σ) (rA σ 8 v1) σ) σ) (fun r21 => (r21.1, r21.2))) else bnd (fX5_finding (fX5_lacksOf v1 σ) σ) (fun r27 => (r27.1, r27.2)))
def rmX5_image : Room := { frames := 1, cells := 0, slots := 0, locals := 22 }
def fX5_image (σ : sg) : Int32 × sg := bnd (fX5_row 0 1 σ) (fun r1 => bnd (sF9 r1 0 1) (fun s4 => (1, s4)))
def rmX5_undo : Room := { frames := 1, cells := 0, slots := 0, locals := 22 }
def fX5_undo (σ : sg) : Int32 × sg := (if (rF σ 0) = 0 then bnd (fX5_finding 3 σ) (fun r5 => (r5.1, r5.2)) else bnd (fX5_row 1 0 σ) (fun r2 => ((rA r2 0 2), r2)))
def rmX5_tear : Room := { frames := 0, cells := 0, slots := 0, locals := 0 }
def fX5_tear (σ : sg) : Int32 × sg := (if (rF σ 0) = 0 then bnd (sF9 σ 0 0) (fun s2 => (0, s2)) else bnd (sF9 σ 0 0) (fun s5 => (1, s5)))
def rmX5_holdingSpots : Room := { frames := 0, cells := 0, slots := 0, locals := 0 }
def LX5_holdingSpots_4 : Nat → Int32 → Int32 → sg → Int32
  | 0, v1, v2, σ => v1
  | k + 1, v1, v2, σ => (if 10 ≤ v2 then v1 else (if 0 ≤ (rA σ 0 (22 + v2)) then LX5_holdingSpots_4 k (v1 + 1) (v2 + 1) σ else LX5_holdingSpots_4 k (v1 + 0) (v2 + 1) σ))
def fX5_holdingSpots (σ : sg) : Int32 := bnd (LX5_holdingSpots_4 11 0 0 σ) (fun r11 => r11)
def rmX5_count : Room := { frames := 1, cells := 0, slots := 0, locals := 24 }
def fX5_count (v1 : Int32) (σ : sg) : Int32 × sg := (if v1 = 0 then ((rA σ 0 2), σ) else (if v1 = 1 then ((rA σ 0 0), σ) else (if v1 = 2 then ((rA σ 0 1), σ) else (if v1 = 3 then ((63 &&& ((fX5_shut σ) ^^^ (-1))), σ) else (if v1 = 4 then ((fX5_sumOf 0 10 6 σ), σ) else (if v1 = 5 then ((rF σ 1), σ) else (if v1 = 6 then ((rA σ 0 3), σ) else (if v1 = 7 then ((fX5_holdingSpots σ), σ) else bnd (fX5_finding 0 σ) (fun r11 => (r11.1, r11.2))))))))))
def rmX5_status : Room := { frames := 1, cells := 0, slots := 0, locals := 22 }
def LX5_status_20 : Nat → Int32 → Int32 → Int32 → sg → Int32
  | 0, v1, v2, v3, σ => v2
  | k + 1, v1, v2, v3, σ => (if 7 ≤ v3 then v2 else (if v1 < 0 then LX5_status_20 k v1 (v2 + (rA σ 5 v3)) (v3 + 1) σ else (if v1 = v3 then LX5_status_20 k v1 (v2 + (rA σ 5 v3)) (v3 + 1) σ else LX5_status_20 k v1 (v2 + 0) (v3 + 1) σ)))
def fX5_status (v1 : Int32) (σ : sg) : Int32 × sg := (if (fX5_within v1 (-1) 6) = 0 then bnd (fX5_finding 0 σ) (fun r16 => (r16.1, r16.2)) else bnd (LX5_status_20 8 v1 0 0 σ) (fun r14 => (r14, σ)))
def PLX5_hang_22 : Int32 → Prop := fun r => True
set_option maxRecDepth 100000 in
set_option maxHeartbeats 4000000 in
theorem wLX5_hang_22 : ∀ (k : Nat) (v1 v2 v3 : Int32) (σ : sg) (hw : WM σ) (hv3 : 0 ≤ v3.toInt ∧ v3.toInt ≤ 8) (hmu : (8 - v3.toInt).toNat < k), PLX5_hang_22 (LX5_hang_22 k v1 v2 v3 σ) := by
  intro k
  induction k with
  | zero => intro v1 v2 v3 σ hw hv3 hmu; exact absurd hmu (Nat.not_lt_zero _)
  | succ k ih =>
    intro v1 v2 v3 σ hw hv3 hmu
    have k0 : (0 : Int32).toInt = 0 := rfl
    have k1 : (1 : Int32).toInt = 1 := rfl
    have k72 : (72 : Int32).toInt = 72 := rfl
    rw [show LX5_hang_22 (k + 1) v1 v2 v3 σ = _ from LX5_hang_22.eq_2 ..]
    have w2 := wm_many hw (show 0 < 4 by decide)
    refine wf_ite (fun c3 => ?_) (fun c3 => ?_)
    · have i15 := leI c3
      exact trivial
    · have i16 := nleI c3
      have a4 := addI (x := 72) (y := v3) (by omega) (by omega)
      have w5 := wm_on hw (show 0 < 4 by decide) v3 (by omega) (by omega)
      refine wf_ite (fun c6 => ?_) (fun c6 => ?_)
      · have i13 := ltI c6
        have a7 := addI (x := v3) (y := 1) (by omega) (by omega)
        exact ih v1 (v2 ||| 0) (v3 + 1) σ hw (by omega) (by omega)
      · have i14 := nltI c6
        refine wf_ite (fun c8 => ?_) (fun c8 => ?_)
        · have i12 := eqI c8
          have a10 := addI (x := v3) (y := 1) (by omega) (by omega)
          exact ih v1 (v2 ||| (jshl 1 v3)) (v3 + 1) σ hw (by omega) (by omega)
        · have i11 := neI c8
          have a9 := addI (x := v3) (y := 1) (by omega) (by omega)
          exact ih v1 (v2 ||| 0) (v3 + 1) σ hw (by omega) (by omega)
set_option maxRecDepth 100000 in
set_option maxHeartbeats 4000000 in
theorem wX5_hang (v1 : Int32) {σ : sg} (hw : WM σ) : WMi (fX5_hang v1 σ) := by
  have km1 : ((-1) : Int32).toInt = -1 := rfl
  have k0 : (0 : Int32).toInt = 0 := rfl
  have k1 : (1 : Int32).toInt = 1 := rfl
  rw [show fX5_hang v1 σ = _ from fX5_hang.eq_1 ..]
  refine wf_ite (fun c1 => ?_) (fun c1 => ?_)
  · have i25 := eqI c1
    refine wf_bnd (fun r20 e21 => ?_)
    have hw22 : WM r20.2 := by rw [e21]; exact wX5_finding 0 hw (by omega)
    exact hw22
  · have i23 := neI c1
    have b24 := wiD_t hw c1
    have a17 := addI (x := v1) (y := 1) (by omega) (by omega)
    refine wf_bnd (fun r18 e19 => ?_)
    exact hw
set_option maxRecDepth 100000 in
set_option maxHeartbeats 4000000 in
theorem wX5_fallsWith (v1 : Int32) {σ : sg} (hw : WM σ) (hd : 0 ≤ v1.toInt ∧ v1.toInt ≤ 7) : WMi (fX5_fallsWith v1 σ) := by
  have km1 : ((-1) : Int32).toInt = -1 := rfl
  have k0 : (0 : Int32).toInt = 0 := rfl
  have k1 : (1 : Int32).toInt = 1 := rfl
  have k64 : (64 : Int32).toInt = 64 := rfl
  rw [show fX5_fallsWith v1 σ = _ from fX5_fallsWith.eq_1 ..]
  refine wf_bnd (fun r1 e2 => ?_)
  have hw3 : WM r1 := by rw [e2]; exact wX5_row 0 (by decide) 2 (by decide) hw (by omega)
  have me2 := row0 (show 0 ≠ 2 by decide) e2
  have a4 := addI (x := 64) (y := v1) (by omega) (by omega)
  refine wf_bnd (fun s5 e6 => ?_)
  have hw7 : WM s5 := by rw [e6]; exact wmRn hw3 (by decide) (by omega) (by omega) (by omega) (by omega)
  have m8 := mKeep e6 (by omega)
  have m9 := many6 e6 (show 0 ≠ 2 by decide)
  exact hw7
set_option maxRecDepth 100000 in
set_option maxHeartbeats 4000000 in
theorem wX5_falls (v1 : Int32) {σ : sg} (hw : WM σ) : WMi (fX5_falls v1 σ) := by
  have k0 : (0 : Int32).toInt = 0 := rfl
  rw [show fX5_falls v1 σ = _ from fX5_falls.eq_1 ..]
  refine wf_ite (fun c1 => ?_) (fun c1 => ?_)
  · have i8 := eqI c1
    refine wf_bnd (fun r2 e3 => ?_)
    have hw4 : WM r2.2 := by rw [e3]; exact wX5_finding 0 hw (by omega)
    exact hw4
  · have i9 := neI c1
    have b10 := wiD_t hw c1
    refine wf_bnd (fun r5 e6 => ?_)
    have hw7 : WM r5.2 := by rw [e6]; exact wX5_fallsWith v1 hw (by omega)
    have fbe6 := fwB hw7 e6
    exact hw7
def PLX5_key_6 : Int32 × sg → Prop := fun r => (WM r.2) ∧ True
set_option maxRecDepth 100000 in
set_option maxHeartbeats 4000000 in
theorem wLX5_key_6 : ∀ (k : Nat) (v1 v2 v3 : Int32) (σ : sg) (hw : WM σ) (hv3 : 0 ≤ v3.toInt ∧ v3.toInt ≤ 8) (hmu : (8 - v3.toInt).toNat < k), PLX5_key_6 (LX5_key_6 k v1 v2 v3 σ) := by
  intro k
  induction k with
  | zero => intro v1 v2 v3 σ hw hv3 hmu; exact absurd hmu (Nat.not_lt_zero _)
  | succ k ih =>
    intro v1 v2 v3 σ hw hv3 hmu
    have k0 : (0 : Int32).toInt = 0 := rfl
    have k1 : (1 : Int32).toInt = 1 := rfl
    rw [show LX5_key_6 (k + 1) v1 v2 v3 σ = _ from LX5_key_6.eq_2 ..]
    have w1 := wm_many hw (show 0 < 4 by decide)
    refine wf_ite (fun c2 => ?_) (fun c2 => ?_)
    · have i11 := leI c2
      exact ⟨hw, trivial⟩
    · have i12 := nleI c2
      refine wf_bnd (fun r3 e4 => ?_)
      have hw5 : WM r3.2 := by rw [e4]; exact wX5_fallsWith v3 hw (by omega)
      have fbe4 := fwB hw5 e4
      refine wf_ite (fun c6 => ?_) (fun c6 => ?_)
      · have i9 := leI c6
        have a7 := addI (x := v3) (y := 1) (by omega) (by omega)
        exact ih v1 v2 (v3 + 1) r3.2 hw5 (by omega) (by omega)
      · have i10 := nleI c6
        have a8 := addI (x := v3) (y := 1) (by omega) (by omega)
        exact ih v3 (fX5_bits r3.1) (v3 + 1) r3.2 hw5 (by omega) (by omega)
set_option maxRecDepth 100000 in
set_option maxHeartbeats 4000000 in
theorem wX5_key {σ : sg} (hw : WM σ) : WMi (fX5_key σ) := by
  have km1 : ((-1) : Int32).toInt = -1 := rfl
  have k0 : (0 : Int32).toInt = 0 := rfl
  have k3 : (3 : Int32).toInt = 3 := rfl
  rw [show fX5_key σ = _ from fX5_key.eq_1 ..]
  refine wf_bnd (fun r13 e14 => ?_)
  obtain ⟨hw15, _⟩ := (show PLX5_key_6 r13 from by rw [e14]; exact wLX5_key_6 9 (-1) (-1) 0 σ hw (by omega) (by omega))
  refine wf_ite (fun c16 => ?_) (fun c16 => ?_)
  · have i20 := leI c16
    exact hw15
  · have i21 := nleI c16
    refine wf_bnd (fun r17 e18 => ?_)
    have hw19 : WM r17.2 := by rw [e18]; exact wX5_finding 3 hw15 (by omega)
    exact hw19
def PLX5_began_50 : sg → Prop := fun r => (WM r) ∧ True
set_option maxRecDepth 100000 in
set_option maxHeartbeats 4000000 in
theorem wLX5_began_50 : ∀ (k : Nat) (v1 v2 v3 : Int32) (σ : sg) (hw : WM σ) (hv3 : 0 ≤ v3.toInt ∧ v3.toInt ≤ 8) (hmu : (8 - v3.toInt).toNat < k), PLX5_began_50 (LX5_began_50 k v1 v2 v3 σ) := by
  intro k
  induction k with
  | zero => intro v1 v2 v3 σ hw hv3 hmu; exact absurd hmu (Nat.not_lt_zero _)
  | succ k ih =>
    intro v1 v2 v3 σ hw hv3 hmu
    have k0 : (0 : Int32).toInt = 0 := rfl
    have k1 : (1 : Int32).toInt = 1 := rfl
    have k56 : (56 : Int32).toInt = 56 := rfl
    have k64 : (64 : Int32).toInt = 64 := rfl
    rw [show LX5_began_50 (k + 1) v1 v2 v3 σ = _ from LX5_began_50.eq_2 ..]
    have w11 := wm_many hw (show 0 < 4 by decide)
    refine wf_ite (fun c12 => ?_) (fun c12 => ?_)
    · have i26 := leI c12
      exact ⟨hw, trivial⟩
    · have i27 := nleI c12
      have a13 := addI (x := 56) (y := v3) (by omega) (by omega)
      refine wf_bnd (fun s14 e15 => ?_)
      have hw16 : WM s14 := by rw [e15]; exact wmRn hw (by decide) (by omega) (by omega) (by omega) (by omega)
      have m17 := mKeep e15 (by omega)
      have m18 := many6 e15 (show 0 ≠ 2 by decide)
      have a19 := addI (x := 64) (y := v3) (by omega) (by omega)
      refine wf_bnd (fun s20 e21 => ?_)
      have hw22 : WM s20 := by rw [e21]; exact wmRn hw16 (by decide) (by omega) (by omega) (by omega) (by omega)
      have m23 := mKeep e21 (by omega)
      have m24 := many6 e21 (show 0 ≠ 2 by decide)
      have a25 := addI (x := v3) (y := 1) (by omega) (by omega)
      exact ih v1 v2 (v3 + 1) s20 hw22 (by omega) (by omega)
def PLX5_began_21 : Int32 × sg → Prop := fun r => (WM r.2) ∧ True
set_option maxRecDepth 100000 in
set_option maxHeartbeats 4000000 in
theorem wLX5_began_21 : ∀ (k : Nat) (v1 v2 : Int32) (σ : sg) (hw : WM σ) (hv2 : 0 ≤ v2.toInt ∧ v2.toInt ≤ 25) (hmu : (25 - v2.toInt).toNat < k), PLX5_began_21 (LX5_began_21 k v1 v2 σ) := by
  intro k
  induction k with
  | zero => intro v1 v2 σ hw hv2 hmu; exact absurd hmu (Nat.not_lt_zero _)
  | succ k ih =>
    intro v1 v2 σ hw hv2 hmu
    have k0 : (0 : Int32).toInt = 0 := rfl
    have k1 : (1 : Int32).toInt = 1 := rfl
    have k2 : (2 : Int32).toInt = 2 := rfl
    have k24 : (24 : Int32).toInt = 24 := rfl
    rw [show LX5_began_21 (k + 1) v1 v2 σ = _ from LX5_began_21.eq_2 ..]
    refine wf_ite (fun c2 => ?_) (fun c2 => ?_)
    · have i39 := ltI c2
      exact ⟨hw, trivial⟩
    · have i40 := nltI c2
      refine wf_bnd (fun r3 e4 => ?_)
      have hw5 : WM r3 := by rw [e4]; exact wX5_row 0 (by decide) 2 (by decide) hw (by omega)
      have me4 := row0 (show 0 ≠ 2 by decide) e4
      refine wf_bnd (fun s6 e7 => ?_)
      have hw8 : WM s6 := by rw [e7]; exact wmRn hw5 (by decide) (by omega) (by omega) (by omega) (by omega)
      have m9 := mKeep e7 (by omega)
      have m10 := many6 e7 (show 0 ≠ 2 by decide)
      refine wf_bnd (fun r28 e29 => ?_)
      obtain ⟨hw30, _⟩ := (show PLX5_began_50 r28 from by rw [e29]; exact wLX5_began_50 9 v1 v2 0 s6 hw8 (by omega) (by omega))
      refine wf_bnd (fun r31 e32 => ?_)
      have hw33 : WM r31.2 := by rw [e32]; exact wX5_holdingBehind v2 hw30 (by omega)
      have hbe32 := hbB hw33 e32
      have hme32 := hbm e32
      refine wf_ite (fun c34 => ?_) (fun c34 => ?_)
      · have i38 := eqI c34
        have a36 := addI (x := v2) (y := 1) (by omega) (by omega)
        exact ih (v1 ||| (jshl 1 v2)) (v2 + 1) r31.2 hw33 (by omega) (by omega)
      · have i37 := neI c34
        have a35 := addI (x := v2) (y := 1) (by omega) (by omega)
        exact ih (v1 ||| 0) (v2 + 1) r31.2 hw33 (by omega) (by omega)
set_option maxRecDepth 100000 in
set_option maxHeartbeats 4000000 in
theorem wX5_began {σ : sg} (hw : WM σ) : WMi (fX5_began σ) := by
  have k0 : (0 : Int32).toInt = 0 := rfl
  have k1 : (1 : Int32).toInt = 1 := rfl
  have k2 : (2 : Int32).toInt = 2 := rfl
  have k4 : (4 : Int32).toInt = 4 := rfl
  have k24 : (24 : Int32).toInt = 24 := rfl
  rw [show fX5_began σ = _ from fX5_began.eq_1 ..]
  refine wf_ite (fun c1 => ?_) (fun c1 => ?_)
  · have i47 := leI c1
    refine wf_bnd (fun r41 e42 => ?_)
    obtain ⟨hw43, _⟩ := (show PLX5_began_21 r41 from by rw [e42]; exact wLX5_began_21 26 0 1 σ hw (by omega) (by omega))
    exact hw43
  · have i48 := nleI c1
    refine wf_bnd (fun r44 e45 => ?_)
    have hw46 : WM r44.2 := by rw [e45]; exact wX5_finding 4 hw (by omega)
    exact hw46
def PLX5_opened_74 : sg → Prop := fun r => (WM r) ∧ True
set_option maxRecDepth 100000 in
set_option maxHeartbeats 4000000 in
theorem wLX5_opened_74 : ∀ (k : Nat) (v1 v2 v4 v5 v6 : Int32) (σ : sg) (hw : WM σ) (hv6 : 0 ≤ v6.toInt ∧ v6.toInt ≤ 6) (hmu : (6 - v6.toInt).toNat < k), PLX5_opened_74 (LX5_opened_74 k v1 v2 v4 v5 v6 σ) := by
  intro k
  induction k with
  | zero => intro v1 v2 v4 v5 v6 σ hw hv6 hmu; exact absurd hmu (Nat.not_lt_zero _)
  | succ k ih =>
    intro v1 v2 v4 v5 v6 σ hw hv6 hmu
    have k0 : (0 : Int32).toInt = 0 := rfl
    have k1 : (1 : Int32).toInt = 1 := rfl
    have k4 : (4 : Int32).toInt = 4 := rfl
    have k6 : (6 : Int32).toInt = 6 := rfl
    rw [show LX5_opened_74 (k + 1) v1 v2 v4 v5 v6 σ = _ from LX5_opened_74.eq_2 ..]
    refine wf_ite (fun c19 => ?_) (fun c19 => ?_)
    · have i27 := leI c19
      exact ⟨hw, trivial⟩
    · have i28 := nleI c19
      have a20 := addI (x := 4) (y := v6) (by omega) (by omega)
      refine wf_bnd (fun s21 e22 => ?_)
      have hw23 : WM s21 := by rw [e22]; exact wmRn hw (by decide) (by omega) (by omega) (by omega) (by omega)
      have m24 := mKeep e22 (by omega)
      have m25 := many6 e22 (show 0 ≠ 2 by decide)
      have a26 := addI (x := v6) (y := 1) (by omega) (by omega)
      exact ih v1 v2 v4 v5 (v6 + 1) s21 hw23 (by omega) (by omega)
def PLX5_opened_53 : Int32 × sg → Prop := fun r => (WM r.2) ∧ True
set_option maxRecDepth 100000 in
set_option maxHeartbeats 4000000 in
theorem wLX5_opened_53 : ∀ (k : Nat) (v1 v2 v4 v5 : Int32) (σ : sg) (hw : WM σ) (hv5 : 0 ≤ v5.toInt ∧ v5.toInt ≤ 64) (hnv2 : v2.toInt ≤ 24) (hmu : (64 - v5.toInt).toNat < k), PLX5_opened_53 (LX5_opened_53 k v1 v2 v4 v5 σ) := by
  intro k
  induction k with
  | zero => intro v1 v2 v4 v5 σ hw hv5 hnv2 hmu; exact absurd hmu (Nat.not_lt_zero _)
  | succ k ih =>
    intro v1 v2 v4 v5 σ hw hv5 hnv2 hmu
    have k0 : (0 : Int32).toInt = 0 := rfl
    have k1 : (1 : Int32).toInt = 1 := rfl
    have k64 : (64 : Int32).toInt = 64 := rfl
    rw [show LX5_opened_53 (k + 1) v1 v2 v4 v5 σ = _ from LX5_opened_53.eq_2 ..]
    refine wf_ite (fun c15 => ?_) (fun c15 => ?_)
    · have i40 := leI c15
      exact ⟨hw, trivial⟩
    · have i41 := nleI c15
      refine wf_bnd (fun r16 e17 => ?_)
      have hw18 : WM r16 := by rw [e17]; exact wX5_row 0 (by decide) 2 (by decide) hw (by omega)
      have me17 := row0 (show 0 ≠ 2 by decide) e17
      refine wf_bnd (fun r29 e30 => ?_)
      obtain ⟨hw31, _⟩ := (show PLX5_opened_74 r29 from by rw [e30]; exact wLX5_opened_74 7 v1 v2 v4 v5 0 r16 hw18 (by omega) (by omega))
      refine wf_bnd (fun r32 e33 => ?_)
      have hw34 : WM r32.2 := by rw [e33]; exact wX5_holdingBehind v2 hw31 (by omega)
      have hbe33 := hbB hw34 e33
      have hme33 := hbm e33
      refine wf_ite (fun c35 => ?_) (fun c35 => ?_)
      · have i39 := eqI c35
        have a37 := addI (x := v5) (y := 1) (by omega) (by omega)
        exact ih v1 v2 (v4 + 1) (v5 + 1) r32.2 hw34 (by omega) (by omega) (by omega)
      · have i38 := neI c35
        have a36 := addI (x := v5) (y := 1) (by omega) (by omega)
        exact ih v1 v2 (v4 + 0) (v5 + 1) r32.2 hw34 (by omega) (by omega) (by omega)
set_option maxRecDepth 100000 in
set_option maxHeartbeats 4000000 in
theorem wX5_opened (v1 : Int32) (v2 : Int32) {σ : sg} (hw : WM σ) : WMi (fX5_opened v1 v2 σ) := by
  have k0 : (0 : Int32).toInt = 0 := rfl
  have k1 : (1 : Int32).toInt = 1 := rfl
  have k24 : (24 : Int32).toInt = 24 := rfl
  rw [show fX5_opened v1 v2 σ = _ from fX5_opened.eq_1 ..]
  refine wf_ite (fun c1 => ?_) (fun c1 => ?_)
  · have i55 := ltI c1
    have lr := lkR 0 v2 σ
    have lz := lkZ v2 σ
    refine wf_bnd (fun r2 e3 => ?_)
    have hw4 : WM r2.2 := by rw [e3]; exact wX5_finding (fX5_lacks 0 v2 σ) hw (by omega)
    exact hw4
  · have i56 := nltI c1
    have w5 := wm_many hw (show 0 < 4 by decide)
    refine wf_ite (fun c6 => ?_) (fun c6 => ?_)
    · have i53 := leI c6
      have lr := lkR 0 v2 σ
      have lz := lkZ v2 σ
      refine wf_bnd (fun r7 e8 => ?_)
      have hw9 : WM r7.2 := by rw [e8]; exact wX5_finding (fX5_lacks 0 v2 σ) hw (by omega)
      exact hw9
    · have i54 := nleI c6
      refine wf_ite (fun c10 => ?_) (fun c10 => ?_)
      · have i50 := eqI c10
        have lr := lkR 0 v2 σ
        have lz := lkZ v2 σ
        refine wf_bnd (fun r11 e12 => ?_)
        have hw13 : WM r11.2 := by rw [e12]; exact wX5_finding (fX5_lacks 0 v2 σ) hw (by omega)
        exact hw13
      · have i51 := neI c10
        have b52 := wi_t c10
        have lr := lkR 1 v2 σ
        refine wf_ite (fun c14 => ?_) (fun c14 => ?_)
        · have i48 := ltI c14
          refine wf_bnd (fun r42 e43 => ?_)
          obtain ⟨hw44, _⟩ := (show PLX5_opened_53 r42 from by rw [e43]; exact wLX5_opened_53 65 v1 v2 0 0 σ hw (by omega) (by omega) (by omega))
          exact hw44
        · have i49 := nltI c14
          refine wf_bnd (fun r45 e46 => ?_)
          have hw47 : WM r45.2 := by rw [e46]; exact wX5_finding (fX5_lacks 1 v2 σ) hw (by omega)
          exact hw47
set_option maxRecDepth 100000 in
set_option maxHeartbeats 4000000 in
theorem wX5_draw {σ : sg} (hw : WM σ) : WMi (fX5_draw σ) := by
  have k0 : (0 : Int32).toInt = 0 := rfl
  have k3 : (3 : Int32).toInt = 3 := rfl
  have k8 : (8 : Int32).toInt = 8 := rfl
  have k12345 : (12345 : Int32).toInt = 12345 := rfl
  have k1103515245 : (1103515245 : Int32).toInt = 1103515245 := rfl
  rw [show fX5_draw σ = _ from fX5_draw.eq_1 ..]
  refine wf_bnd (fun s1 e2 => ?_)
  have hw3 : WM s1 := by rw [e2]; exact wmRn hw (by decide) (by omega) (by omega) (by omega) (by omega)
  have m4 := mKeep e2 (by omega)
  exact hw3
def PLX5_days_87 : Int32 × sg → Prop := fun r => (WM r.2) ∧ True
set_option maxRecDepth 100000 in
set_option maxHeartbeats 4000000 in
theorem wLX5_days_87 : ∀ (k : Nat) (v1 v2 v3 v5 : Int32) (σ : sg) (hw : WM σ) (hv5 : 0 ≤ v5.toInt ∧ v5.toInt ≤ 24) (hmu : (24 - v5.toInt).toNat < k), PLX5_days_87 (LX5_days_87 k v1 v2 v3 v5 σ) := by
  intro k
  induction k with
  | zero => intro v1 v2 v3 v5 σ hw hv5 hmu; exact absurd hmu (Nat.not_lt_zero _)
  | succ k ih =>
    intro v1 v2 v3 v5 σ hw hv5 hmu
    have k0 : (0 : Int32).toInt = 0 := rfl
    have k1 : (1 : Int32).toInt = 1 := rfl
    have k24 : (24 : Int32).toInt = 24 := rfl
    rw [show LX5_days_87 (k + 1) v1 v2 v3 v5 σ = _ from LX5_days_87.eq_2 ..]
    refine wf_ite (fun c19 => ?_) (fun c19 => ?_)
    · have i24 := leI c19
      exact ⟨hw, trivial⟩
    · have i25 := nleI c19
      refine wf_bnd (fun r20 e21 => ?_)
      have hw22 : WM r20.2 := by rw [e21]; exact wX5_anHour 0 (by decide) hw 
      have me21 := manyA (show 0 < 4 by decide) e21
      have a23 := addI (x := v5) (y := 1) (by omega) (by omega)
      exact ih v1 (v2 + r20.1) v3 (v5 + 1) r20.2 hw22 (by omega) (by omega)
def PLX5_days_37 : Int32 × sg → Prop := fun r => (WM r.2) ∧ True
set_option maxRecDepth 100000 in
set_option maxHeartbeats 4000000 in
theorem wLX5_days_37 : ∀ (k : Nat) (v1 v2 v3 : Int32) (σ : sg) (hw : WM σ) (hv3 : 0 ≤ v3.toInt ∧ v3.toInt ≤ 12) (hnv1 : v1.toInt ≤ 12) (hmu : (12 - v3.toInt).toNat < k), PLX5_days_37 (LX5_days_37 k v1 v2 v3 σ) := by
  intro k
  induction k with
  | zero => intro v1 v2 v3 σ hw hv3 hnv1 hmu; exact absurd hmu (Nat.not_lt_zero _)
  | succ k ih =>
    intro v1 v2 v3 σ hw hv3 hnv1 hmu
    have k0 : (0 : Int32).toInt = 0 := rfl
    have k1 : (1 : Int32).toInt = 1 := rfl
    have k4 : (4 : Int32).toInt = 4 := rfl
    have k6 : (6 : Int32).toInt = 6 := rfl
    have k41 : (41 : Int32).toInt = 41 := rfl
    rw [show LX5_days_37 (k + 1) v1 v2 v3 σ = _ from LX5_days_37.eq_2 ..]
    refine wf_ite (fun c3 => ?_) (fun c3 => ?_)
    · have i30 := leI c3
      exact ⟨hw, trivial⟩
    · have i31 := nleI c3
      refine wf_bnd (fun r4 e5 => ?_)
      have hw6 : WM r4.2 := by rw [e5]; exact wX5_draw  hw 
      have dbe5 := drB e5
      have dje5 : 0 ≤ (jrem r4.1 6).toInt ∧ (jrem r4.1 6).toInt < 6 := jrem6 (x := r4.1) dbe5.1 (m := 6) (by decide) (by decide)
      refine wf_bnd (fun s7 e8 => ?_)
      have hw9 : WM s7 := by rw [e8]; exact wmRn hw6 (by decide) (by omega) (by omega) (by omega) (by omega)
      have m10 := mKeep e8 (by omega)
      refine wf_bnd (fun r11 e12 => ?_)
      have hw13 : WM r11.2 := by rw [e12]; exact wX5_draw  hw9 
      have dbe12 := drB e12
      have dje12 : 0 ≤ (jrem r11.1 6).toInt ∧ (jrem r11.1 6).toInt < 6 := jrem6 (x := r11.1) dbe12.1 (m := 6) (by decide) (by decide)
      have a14 := addI (x := 4) (y := (jrem r11.1 6)) (by omega) (by omega)
      refine wf_bnd (fun s15 e16 => ?_)
      have hw17 : WM s15 := by rw [e16]; exact wmRn hw13 (by decide) (by omega) (by omega) (by omega) (by omega)
      have m18 := mKeep e16 (by omega)
      refine wf_bnd (fun r26 e27 => ?_)
      obtain ⟨hw28, _⟩ := (show PLX5_days_87 r26 from by rw [e27]; exact wLX5_days_87 25 v1 v2 v3 0 s15 hw17 (by omega) (by omega))
      have a29 := addI (x := v3) (y := 1) (by omega) (by omega)
      exact ih v1 r26.1 (v3 + 1) r26.2 hw28 (by omega) (by omega) (by omega)
set_option maxRecDepth 100000 in
set_option maxHeartbeats 4000000 in
theorem wX5_days (v1 : Int32) {σ : sg} (hw : WM σ) : WMi (fX5_days v1 σ) := by
  have k0 : (0 : Int32).toInt = 0 := rfl
  have k1 : (1 : Int32).toInt = 1 := rfl
  have k4 : (4 : Int32).toInt = 4 := rfl
  have k12 : (12 : Int32).toInt = 12 := rfl
  have k24 : (24 : Int32).toInt = 24 := rfl
  rw [show fX5_days v1 σ = _ from fX5_days.eq_1 ..]
  refine wf_ite (fun c1 => ?_) (fun c1 => ?_)
  · have i45 := eqI c1
    refine wf_bnd (fun r40 e41 => ?_)
    have hw42 : WM r40.2 := by rw [e41]; exact wX5_finding 0 hw (by omega)
    exact hw42
  · have i43 := neI c1
    have b44 := wi_t c1
    refine wf_ite (fun c2 => ?_) (fun c2 => ?_)
    · have i39 := eqI c2
      refine wf_bnd (fun r35 e36 => ?_)
      have hw37 : WM r35.2 := by rw [e36]; exact wX5_finding 4 hw (by omega)
      exact hw37
    · have i38 := neI c2
      refine wf_bnd (fun r32 e33 => ?_)
      obtain ⟨hw34, _⟩ := (show PLX5_days_37 r32 from by rw [e33]; exact wLX5_days_37 13 v1 0 0 σ hw (by omega) (by omega) (by omega))
      exact hw34
set_option maxRecDepth 100000 in
set_option maxHeartbeats 4000000 in
theorem wX5_seed (v1 : Int32) {σ : sg} (hw : WM σ) : WMi (fX5_seed v1 σ) := by
  have k0 : (0 : Int32).toInt = 0 := rfl
  have k3 : (3 : Int32).toInt = 3 := rfl
  rw [show fX5_seed v1 σ = _ from fX5_seed.eq_1 ..]
  refine wf_bnd (fun s1 e2 => ?_)
  have hw3 : WM s1 := by rw [e2]; exact wmRn hw (by decide) (by omega) (by omega) (by omega) (by omega)
  have m4 := mKeep e2 (by omega)
  exact hw3
set_option maxRecDepth 100000 in
set_option maxHeartbeats 4000000 in
theorem wX5_wipe {σ : sg} (hw : WM σ) : WMi (fX5_wipe σ) := by
  have k0 : (0 : Int32).toInt = 0 := rfl
  rw [show fX5_wipe σ = _ from fX5_wipe.eq_1 ..]
  have w1 := wm_taped hw
  refine wf_bnd (fun s2 e3 => ?_)
  have hw4 : WM s2 := by rw [e3]; exact wmFt hw (by omega) (by omega)
  have f5 := congrArg Int32.toInt (show rF s2 1 = 0 by rw [e3]; exact sF_same9)
  exact hw4
set_option maxRecDepth 100000 in
set_option maxHeartbeats 4000000 in
theorem wX5_hold (v1 : Int32) (v2 : Int32) {σ : sg} (hw : WM σ) : WMi (fX5_hold v1 v2 σ) := by
  have km1 : ((-1) : Int32).toInt = -1 := rfl
  have k0 : (0 : Int32).toInt = 0 := rfl
  have k1 : (1 : Int32).toInt = 1 := rfl
  have k9 : (9 : Int32).toInt = 9 := rfl
  have k22 : (22 : Int32).toInt = 22 := rfl
  rw [show fX5_hold v1 v2 σ = _ from fX5_hold.eq_1 ..]
  refine wf_ite (fun c1 => ?_) (fun c1 => ?_)
  · have i19 := eqI c1
    refine wf_bnd (fun r2 e3 => ?_)
    have hw4 : WM r2.2 := by rw [e3]; exact wX5_finding 0 hw (by omega)
    exact hw4
  · have i20 := neI c1
    have b21 := wi_t c1
    have w5 := wm_many hw (show 0 < 4 by decide)
    have a6 := subI (x := (rA σ 0 0)) (y := 1) (by omega) (by omega)
    refine wf_ite (fun c7 => ?_) (fun c7 => ?_)
    · have i18 := eqI c7
      refine wf_bnd (fun r13 e14 => ?_)
      have hw15 : WM r13.2 := by rw [e14]; exact wX5_finding 0 hw (by omega)
      exact hw15
    · have i16 := neI c7
      have b17 := wi_t c7
      have a8 := addI (x := 22) (y := v1) (by omega) (by omega)
      refine wf_bnd (fun s9 e10 => ?_)
      have hw11 : WM s9 := by rw [e10]; exact wmRp hw (show 0 < 4 by decide) (by omega) (by omega) (by omega) (by omega)
      have m12 := mKeep e10 (by omega)
      exact hw11
set_option maxRecDepth 100000 in
set_option maxHeartbeats 4000000 in
theorem wX5_as (v1 : Int32) (v2 : Int32) {σ : sg} (hw : WM σ) : WMi (fX5_as v1 v2 σ) := by
  have k0 : (0 : Int32).toInt = 0 := rfl
  have k2 : (2 : Int32).toInt = 2 := rfl
  have k5 : (5 : Int32).toInt = 5 := rfl
  have k9 : (9 : Int32).toInt = 9 := rfl
  have k22 : (22 : Int32).toInt = 22 := rfl
  have k32 : (32 : Int32).toInt = 32 := rfl
  rw [show fX5_as v1 v2 σ = _ from fX5_as.eq_1 ..]
  refine wf_ite (fun c1 => ?_) (fun c1 => ?_)
  · have i27 := eqI c1
    refine wf_bnd (fun r2 e3 => ?_)
    have hw4 : WM r2.2 := by rw [e3]; exact wX5_finding 0 hw (by omega)
    exact hw4
  · have i28 := neI c1
    have b29 := wi_t c1
    refine wf_ite (fun c5 => ?_) (fun c5 => ?_)
    · have i26 := eqI c5
      refine wf_bnd (fun r21 e22 => ?_)
      have hw23 : WM r21.2 := by rw [e22]; exact wX5_finding 0 hw (by omega)
      exact hw23
    · have i24 := neI c5
      have b25 := wiK_t c5
      have a6 := addI (x := 22) (y := v1) (by omega) (by omega)
      have w7 := wm_spot hw (show 0 < 4 by decide) v1 (by omega) (by omega)
      refine wf_ite (fun c8 => ?_) (fun c8 => ?_)
      · have i19 := leI c8
        have a9 := addI (x := 32) (y := (rA σ 0 (22 + v1))) (by omega) (by omega)
        refine wf_ite (fun c10 => ?_) (fun c10 => ?_)
        · have i14 := eqI c10
          refine wf_bnd (fun r11 e12 => ?_)
          have hw13 : WM r11.2 := by rw [e12]; exact wX5_finding 2 hw (by omega)
          exact hw13
        · have i15 := neI c10
          exact hw
      · have i20 := nleI c8
        refine wf_bnd (fun r16 e17 => ?_)
        have hw18 : WM r16.2 := by rw [e17]; exact wX5_finding 5 hw (by omega)
        exact hw18
def PLX5_sheet_95 : sg → Prop := fun r => (WM r) ∧ True
set_option maxRecDepth 100000 in
set_option maxHeartbeats 4000000 in
theorem wLX5_sheet_95 : ∀ (k : Nat) (v1 v5 : Int32) (σ : sg) (hw : WM σ) (hv5 : 0 ≤ v5.toInt ∧ v5.toInt ≤ 40) (hs : 0 ≤ v1.toInt ∧ v1.toInt ≤ 3) (hmu : (40 - v5.toInt).toNat < k), PLX5_sheet_95 (LX5_sheet_95 k v1 v5 σ) := by
  intro k
  induction k with
  | zero => intro v1 v5 σ hw hv5 hs hmu; exact absurd hmu (Nat.not_lt_zero _)
  | succ k ih =>
    intro v1 v5 σ hw hv5 hs hmu
    have k0 : (0 : Int32).toInt = 0 := rfl
    have k1 : (1 : Int32).toInt = 1 := rfl
    have k40 : (40 : Int32).toInt = 40 := rfl
    rw [show LX5_sheet_95 (k + 1) v1 v5 σ = _ from LX5_sheet_95.eq_2 ..]
    refine wf_ite (fun c17 => ?_) (fun c17 => ?_)
    · have i25 := leI c17
      exact ⟨hw, trivial⟩
    · have i26 := nleI c17
      have a18 := mulI (x := 40) (y := v1) (by first | omega | (simp only [k40]; omega)) (by first | omega | (simp only [k40]; omega))
      simp only [k40] at a18
      have a19 := addI (x := (40 * v1)) (y := v5) (by omega) (by omega)
      refine wf_bnd (fun s20 e21 => ?_)
      have hw22 : WM s20 := by rw [e21]; exact wmA hw (by omega)
      have m23 := many6 e21 (show 0 ≠ 9 by decide)
      have a24 := addI (x := v5) (y := 1) (by omega) (by omega)
      exact ih v1 (v5 + 1) s20 hw22 (by omega) (by omega) (by omega)
set_option maxRecDepth 100000 in
set_option maxHeartbeats 4000000 in
theorem wX5_sheet (v1 : Int32) (v2 : Int32) (v3 : Int32) {σ : sg} (hw : WM σ) : WMi (fX5_sheet v1 v2 v3 σ) := by
  have k0 : (0 : Int32).toInt = 0 := rfl
  have k1 : (1 : Int32).toInt = 1 := rfl
  have k6 : (6 : Int32).toInt = 6 := rfl
  have k8 : (8 : Int32).toInt = 8 := rfl
  have k16 : (16 : Int32).toInt = 16 := rfl
  have k32 : (32 : Int32).toInt = 32 := rfl
  have k40 : (40 : Int32).toInt = 40 := rfl
  rw [show fX5_sheet v1 v2 v3 σ = _ from fX5_sheet.eq_1 ..]
  refine wf_ite (fun c1 => ?_) (fun c1 => ?_)
  · have i199 := eqI c1
    refine wf_ite (fun c2 => ?_) (fun c2 => ?_)
    · have i51 := eqI c2
      refine wf_bnd (fun r3 e4 => ?_)
      have hw5 : WM r3.2 := by rw [e4]; exact wX5_finding 0 hw (by omega)
      exact hw5
    · have i52 := neI c2
      have b53 := wiH_t c2
      refine wf_ite (fun c6 => ?_) (fun c6 => ?_)
      · have i49 := leI c6
        refine wf_ite (fun c7 => ?_) (fun c7 => ?_)
        · have i44 := leI c7
          refine wf_bnd (fun s8 e9 => ?_)
          have hw10 : WM s8 := by rw [e9]; exact wmA hw (by omega)
          have m11 := many6 e9 (show 0 ≠ 7 by decide)
          refine wf_ite (fun c12 => ?_) (fun c12 => ?_)
          · have i40 := eqI c12
            refine wf_bnd (fun s31 e32 => ?_)
            have hw33 : WM s31 := by rw [e32]; exact wmS hw10 (by omega) (by omega)
            have m34 := many6 e32 (show 0 ≠ 8 by decide)
            refine wf_bnd (fun r35 e36 => ?_)
            obtain ⟨hw37, _⟩ := (show PLX5_sheet_95 r35 from by rw [e36]; exact wLX5_sheet_95 41 v1 0 s31 hw33 (by omega) (by omega) (by omega))
            have w38 := wm_size hw37 v1
            exact hw37
          · have i39 := neI c12
            refine wf_bnd (fun s13 e14 => ?_)
            have hw15 : WM s13 := by rw [e14]; exact wmS hw10 (by omega) (by omega)
            have m16 := many6 e14 (show 0 ≠ 8 by decide)
            refine wf_bnd (fun r27 e28 => ?_)
            obtain ⟨hw29, _⟩ := (show PLX5_sheet_95 r27 from by rw [e28]; exact wLX5_sheet_95 41 v1 0 s13 hw15 (by omega) (by omega) (by omega))
            have w30 := wm_size hw29 v1
            exact hw29
        · have i45 := nleI c7
          refine wf_bnd (fun r41 e42 => ?_)
          have hw43 : WM r41.2 := by rw [e42]; exact wX5_finding 0 hw (by omega)
          exact hw43
      · have i50 := nleI c6
        refine wf_bnd (fun r46 e47 => ?_)
        have hw48 : WM r46.2 := by rw [e47]; exact wX5_finding 6 hw (by omega)
        exact hw48
  · have i200 := neI c1
    refine wf_ite (fun c54 => ?_) (fun c54 => ?_)
    · have i197 := eqI c54
      refine wf_ite (fun c55 => ?_) (fun c55 => ?_)
      · have i94 := eqI c55
        refine wf_bnd (fun r56 e57 => ?_)
        have hw58 : WM r56.2 := by rw [e57]; exact wX5_finding 0 hw (by omega)
        exact hw58
      · have i95 := neI c55
        have b96 := wiH_t c55
        refine wf_ite (fun c59 => ?_) (fun c59 => ?_)
        · have i92 := leI c59
          refine wf_ite (fun c60 => ?_) (fun c60 => ?_)
          · have i87 := leI c60
            refine wf_bnd (fun s61 e62 => ?_)
            have hw63 : WM s61 := by rw [e62]; exact wmA hw (by omega)
            have m64 := many6 e62 (show 0 ≠ 7 by decide)
            refine wf_ite (fun c65 => ?_) (fun c65 => ?_)
            · have i83 := eqI c65
              refine wf_bnd (fun s74 e75 => ?_)
              have hw76 : WM s74 := by rw [e75]; exact wmS hw63 (by omega) (by omega)
              have m77 := many6 e75 (show 0 ≠ 8 by decide)
              refine wf_bnd (fun r78 e79 => ?_)
              obtain ⟨hw80, _⟩ := (show PLX5_sheet_95 r78 from by rw [e79]; exact wLX5_sheet_95 41 v1 0 s74 hw76 (by omega) (by omega) (by omega))
              have w81 := wm_size hw80 v1
              exact hw80
            · have i82 := neI c65
              refine wf_bnd (fun s66 e67 => ?_)
              have hw68 : WM s66 := by rw [e67]; exact wmS hw63 (by omega) (by omega)
              have m69 := many6 e67 (show 0 ≠ 8 by decide)
              refine wf_bnd (fun r70 e71 => ?_)
              obtain ⟨hw72, _⟩ := (show PLX5_sheet_95 r70 from by rw [e71]; exact wLX5_sheet_95 41 v1 0 s66 hw68 (by omega) (by omega) (by omega))
              have w73 := wm_size hw72 v1
              exact hw72
          · have i88 := nleI c60
            refine wf_bnd (fun r84 e85 => ?_)
            have hw86 : WM r84.2 := by rw [e85]; exact wX5_finding 0 hw (by omega)
            exact hw86
        · have i93 := nleI c59
          refine wf_bnd (fun r89 e90 => ?_)
          have hw91 : WM r89.2 := by rw [e90]; exact wX5_finding 6 hw (by omega)
          exact hw91
    · have i198 := neI c54
      refine wf_ite (fun c97 => ?_) (fun c97 => ?_)
      · have i195 := eqI c97
        refine wf_ite (fun c98 => ?_) (fun c98 => ?_)
        · have i137 := eqI c98
          refine wf_bnd (fun r99 e100 => ?_)
          have hw101 : WM r99.2 := by rw [e100]; exact wX5_finding 0 hw (by omega)
          exact hw101
        · have i138 := neI c98
          have b139 := wiH_t c98
          refine wf_ite (fun c102 => ?_) (fun c102 => ?_)
          · have i135 := leI c102
            refine wf_ite (fun c103 => ?_) (fun c103 => ?_)
            · have i130 := leI c103
              refine wf_bnd (fun s104 e105 => ?_)
              have hw106 : WM s104 := by rw [e105]; exact wmA hw (by omega)
              have m107 := many6 e105 (show 0 ≠ 7 by decide)
              refine wf_ite (fun c108 => ?_) (fun c108 => ?_)
              · have i126 := eqI c108
                refine wf_bnd (fun s117 e118 => ?_)
                have hw119 : WM s117 := by rw [e118]; exact wmS hw106 (by omega) (by omega)
                have m120 := many6 e118 (show 0 ≠ 8 by decide)
                refine wf_bnd (fun r121 e122 => ?_)
                obtain ⟨hw123, _⟩ := (show PLX5_sheet_95 r121 from by rw [e122]; exact wLX5_sheet_95 41 v1 0 s117 hw119 (by omega) (by omega) (by omega))
                have w124 := wm_size hw123 v1
                exact hw123
              · have i125 := neI c108
                refine wf_bnd (fun s109 e110 => ?_)
                have hw111 : WM s109 := by rw [e110]; exact wmS hw106 (by omega) (by omega)
                have m112 := many6 e110 (show 0 ≠ 8 by decide)
                refine wf_bnd (fun r113 e114 => ?_)
                obtain ⟨hw115, _⟩ := (show PLX5_sheet_95 r113 from by rw [e114]; exact wLX5_sheet_95 41 v1 0 s109 hw111 (by omega) (by omega) (by omega))
                have w116 := wm_size hw115 v1
                exact hw115
            · have i131 := nleI c103
              refine wf_bnd (fun r127 e128 => ?_)
              have hw129 : WM r127.2 := by rw [e128]; exact wX5_finding 0 hw (by omega)
              exact hw129
          · have i136 := nleI c102
            refine wf_bnd (fun r132 e133 => ?_)
            have hw134 : WM r132.2 := by rw [e133]; exact wX5_finding 6 hw (by omega)
            exact hw134
      · have i196 := neI c97
        refine wf_ite (fun c140 => ?_) (fun c140 => ?_)
        · have i194 := eqI c140
          refine wf_ite (fun c151 => ?_) (fun c151 => ?_)
          · have i190 := eqI c151
            refine wf_bnd (fun r152 e153 => ?_)
            have hw154 : WM r152.2 := by rw [e153]; exact wX5_finding 0 hw (by omega)
            exact hw154
          · have i191 := neI c151
            have b192 := wiH_t c151
            refine wf_ite (fun c155 => ?_) (fun c155 => ?_)
            · have i188 := leI c155
              refine wf_ite (fun c156 => ?_) (fun c156 => ?_)
              · have i183 := leI c156
                refine wf_bnd (fun s157 e158 => ?_)
                have hw159 : WM s157 := by rw [e158]; exact wmA hw (by omega)
                have m160 := many6 e158 (show 0 ≠ 7 by decide)
                refine wf_ite (fun c161 => ?_) (fun c161 => ?_)
                · have i179 := eqI c161
                  refine wf_bnd (fun s170 e171 => ?_)
                  have hw172 : WM s170 := by rw [e171]; exact wmS hw159 (by omega) (by omega)
                  have m173 := many6 e171 (show 0 ≠ 8 by decide)
                  refine wf_bnd (fun r174 e175 => ?_)
                  obtain ⟨hw176, _⟩ := (show PLX5_sheet_95 r174 from by rw [e175]; exact wLX5_sheet_95 41 v1 0 s170 hw172 (by omega) (by omega) (by omega))
                  have w177 := wm_size hw176 v1
                  exact hw176
                · have i178 := neI c161
                  refine wf_bnd (fun s162 e163 => ?_)
                  have hw164 : WM s162 := by rw [e163]; exact wmS hw159 (by omega) (by omega)
                  have m165 := many6 e163 (show 0 ≠ 8 by decide)
                  refine wf_bnd (fun r166 e167 => ?_)
                  obtain ⟨hw168, _⟩ := (show PLX5_sheet_95 r166 from by rw [e167]; exact wLX5_sheet_95 41 v1 0 s162 hw164 (by omega) (by omega) (by omega))
                  have w169 := wm_size hw168 v1
                  exact hw168
              · have i184 := nleI c156
                refine wf_bnd (fun r180 e181 => ?_)
                have hw182 : WM r180.2 := by rw [e181]; exact wX5_finding 0 hw (by omega)
                exact hw182
            · have i189 := nleI c155
              refine wf_bnd (fun r185 e186 => ?_)
              have hw187 : WM r185.2 := by rw [e186]; exact wX5_finding 6 hw (by omega)
              exact hw187
        · have i193 := neI c140
          refine wf_ite (fun c141 => ?_) (fun c141 => ?_)
          · have i148 := eqI c141
            refine wf_bnd (fun r142 e143 => ?_)
            have hw144 : WM r142.2 := by rw [e143]; exact wX5_finding 0 hw (by omega)
            exact hw144
          · have i149 := neI c141
            have b150 := wiH_t c141
            refine wf_bnd (fun r145 e146 => ?_)
            have hw147 : WM r145.2 := by rw [e146]; exact wX5_finding 0 hw (by omega)
            exact hw147
set_option maxRecDepth 100000 in
set_option maxHeartbeats 4000000 in
theorem wX5_write (v1 : Int32) (v2 : Int32) (v3 : Int32) {σ : sg} (hw : WM σ) : WMi (fX5_write v1 v2 v3 σ) := by
  have k0 : (0 : Int32).toInt = 0 := rfl
  have k1 : (1 : Int32).toInt = 1 := rfl
  have k40 : (40 : Int32).toInt = 40 := rfl
  rw [show fX5_write v1 v2 v3 σ = _ from fX5_write.eq_1 ..]
  have ls := lsR v1 σ
  refine wf_ite (fun c1 => ?_) (fun c1 => ?_)
  · have i20 := ltI c1
    have b21 := lsS_t c1
    have w2 := wm_size hw v1
    have a3 := subI (x := (rA σ 8 v1)) (y := 1) (by omega) (by omega)
    refine wf_ite (fun c4 => ?_) (fun c4 => ?_)
    · have i16 := eqI c4
      refine wf_bnd (fun r11 e12 => ?_)
      have hw13 : WM r11.2 := by rw [e12]; exact wX5_finding 0 hw (by omega)
      exact hw13
    · have i14 := neI c4
      have b15 := wi_t c4
      have a5 := mulI (x := 40) (y := v1) (by first | omega | (simp only [k40]; omega)) (by first | omega | (simp only [k40]; omega))
      simp only [k40] at a5
      have a6 := addI (x := (40 * v1)) (y := v2) (by omega) (by omega)
      refine wf_bnd (fun s7 e8 => ?_)
      have hw9 : WM s7 := by rw [e8]; exact wmA hw (by omega)
      have m10 := many6 e8 (show 0 ≠ 9 by decide)
      exact hw9
  · have i22 := nltI c1
    refine wf_bnd (fun r17 e18 => ?_)
    have hw19 : WM r17.2 := by rw [e18]; exact wX5_finding (fX5_lacksOf v1 σ) hw (by omega)
    exact hw19
def PLX5_copy_135 : sg → Prop := fun r => (WM r) ∧ True
set_option maxRecDepth 100000 in
set_option maxHeartbeats 4000000 in
theorem wLX5_copy_135 : ∀ (k : Nat) (v1 v2 v3 v4 v5 v7 : Int32) (σ : sg) (hw : WM σ) (hv7 : 0 ≤ v7.toInt ∧ v7.toInt ≤ 40) (hn : v5.toInt ≤ 40) (hs : (0 ≤ v1.toInt ∧ v1.toInt ≤ 3) ∧ (0 ≤ v3.toInt ∧ v3.toInt ≤ 3)) (hr : (0 ≤ v2.toInt ∧ v2.toInt + v5.toInt ≤ 40) ∧ (0 ≤ v4.toInt ∧ v4.toInt + v5.toInt ≤ 40)) (hmu : (40 - v7.toInt).toNat < k), PLX5_copy_135 (LX5_copy_135 k v1 v2 v3 v4 v5 v7 σ) := by
  intro k
  induction k with
  | zero => intro v1 v2 v3 v4 v5 v7 σ hw hv7 hn hs hr hmu; exact absurd hmu (Nat.not_lt_zero _)
  | succ k ih =>
    intro v1 v2 v3 v4 v5 v7 σ hw hv7 hn hs hr hmu
    have k0 : (0 : Int32).toInt = 0 := rfl
    have k1 : (1 : Int32).toInt = 1 := rfl
    have k40 : (40 : Int32).toInt = 40 := rfl
    rw [show LX5_copy_135 (k + 1) v1 v2 v3 v4 v5 v7 σ = _ from LX5_copy_135.eq_2 ..]
    refine wf_ite (fun c34 => ?_) (fun c34 => ?_)
    · have i43 := leI c34
      exact ⟨hw, trivial⟩
    · have i44 := nleI c34
      have a35 := mulI (x := 40) (y := v1) (by first | omega | (simp only [k40]; omega)) (by first | omega | (simp only [k40]; omega))
      simp only [k40] at a35
      have a36 := addI (x := (40 * v1)) (y := v2) (by omega) (by omega)
      have a37 := addI (x := ((40 * v1) + v2)) (y := v7) (by omega) (by omega)
      refine wf_bnd (fun s38 e39 => ?_)
      have hw40 : WM s38 := by rw [e39]; exact wmA hw (by omega)
      have m41 := many6 e39 (show 0 ≠ 10 by decide)
      have a42 := addI (x := v7) (y := 1) (by omega) (by omega)
      exact ih v1 v2 v3 v4 v5 (v7 + 1) s38 hw40 (by omega) (by omega) (by omega) (by omega) (by omega)
def PLX5_copy_172 : sg → Prop := fun r => (WM r) ∧ True
set_option maxRecDepth 100000 in
set_option maxHeartbeats 4000000 in
theorem wLX5_copy_172 : ∀ (k : Nat) (v3 v4 v5 v7 : Int32) (σ : sg) (hw : WM σ) (hv7 : 0 ≤ v7.toInt ∧ v7.toInt ≤ 40) (hn : v5.toInt ≤ 40) (hs : 0 ≤ v3.toInt ∧ v3.toInt ≤ 3) (hr : 0 ≤ v4.toInt ∧ v4.toInt + v5.toInt ≤ 40) (hmu : (40 - v7.toInt).toNat < k), PLX5_copy_172 (LX5_copy_172 k v3 v4 v5 v7 σ) := by
  intro k
  induction k with
  | zero => intro v3 v4 v5 v7 σ hw hv7 hn hs hr hmu; exact absurd hmu (Nat.not_lt_zero _)
  | succ k ih =>
    intro v3 v4 v5 v7 σ hw hv7 hn hs hr hmu
    have k0 : (0 : Int32).toInt = 0 := rfl
    have k1 : (1 : Int32).toInt = 1 := rfl
    have k40 : (40 : Int32).toInt = 40 := rfl
    rw [show LX5_copy_172 (k + 1) v3 v4 v5 v7 σ = _ from LX5_copy_172.eq_2 ..]
    refine wf_ite (fun c48 => ?_) (fun c48 => ?_)
    · have i57 := leI c48
      exact ⟨hw, trivial⟩
    · have i58 := nleI c48
      have a49 := mulI (x := 40) (y := v3) (by first | omega | (simp only [k40]; omega)) (by first | omega | (simp only [k40]; omega))
      simp only [k40] at a49
      have a50 := addI (x := (40 * v3)) (y := v4) (by omega) (by omega)
      have a51 := addI (x := ((40 * v3) + v4)) (y := v7) (by omega) (by omega)
      refine wf_bnd (fun s52 e53 => ?_)
      have hw54 : WM s52 := by rw [e53]; exact wmA hw (by omega)
      have m55 := many6 e53 (show 0 ≠ 9 by decide)
      have a56 := addI (x := v7) (y := 1) (by omega) (by omega)
      exact ih v3 v4 v5 (v7 + 1) s52 hw54 (by omega) (by omega) (by omega) (by omega) (by omega)
set_option maxRecDepth 100000 in
set_option maxHeartbeats 4000000 in
theorem wX5_copy (v1 : Int32) (v2 : Int32) (v3 : Int32) (v4 : Int32) (v5 : Int32) {σ : sg} (hw : WM σ) : WMi (fX5_copy v1 v2 v3 v4 v5 σ) := by
  have k0 : (0 : Int32).toInt = 0 := rfl
  have k1 : (1 : Int32).toInt = 1 := rfl
  have k2 : (2 : Int32).toInt = 2 := rfl
  have k5 : (5 : Int32).toInt = 5 := rfl
  rw [show fX5_copy v1 v2 v3 v4 v5 σ = _ from fX5_copy.eq_1 ..]
  refine wf_ite (fun c1 => ?_) (fun c1 => ?_)
  · have i90 := eqI c1
    refine wf_bnd (fun r2 e3 => ?_)
    have hw4 : WM r2.2 := by rw [e3]; exact wX5_finding 0 hw (by omega)
    exact hw4
  · have i91 := neI c1
    have b92 := wiH_t c1
    refine wf_ite (fun c5 => ?_) (fun c5 => ?_)
    · have i89 := eqI c5
      refine wf_bnd (fun r84 e85 => ?_)
      have hw86 : WM r84.2 := by rw [e85]; exact wX5_finding 0 hw (by omega)
      exact hw86
    · have i87 := neI c5
      have b88 := wiH_t c5
      refine wf_ite (fun c6 => ?_) (fun c6 => ?_)
      · have i82 := eqI c6
        refine wf_bnd (fun r7 e8 => ?_)
        have hw9 : WM r7.2 := by rw [e8]; exact wX5_finding 5 hw (by omega)
        exact hw9
      · have i83 := neI c6
        refine wf_ite (fun c10 => ?_) (fun c10 => ?_)
        · have i81 := eqI c10
          refine wf_bnd (fun r77 e78 => ?_)
          have hw79 : WM r77.2 := by rw [e78]; exact wX5_finding 5 hw (by omega)
          exact hw79
        · have i80 := neI c10
          refine wf_ite (fun c11 => ?_) (fun c11 => ?_)
          · have i75 := eqI c11
            refine wf_ite (fun c12 => ?_) (fun c12 => ?_)
            · have i70 := ltI c12
              refine wf_bnd (fun r13 e14 => ?_)
              have hw15 : WM r13.2 := by rw [e14]; exact wX5_finding 0 hw (by omega)
              exact hw15
            · have i71 := nltI c12
              refine wf_ite (fun c16 => ?_) (fun c16 => ?_)
              · have i68 := ltI c16
                refine wf_bnd (fun r17 e18 => ?_)
                have hw19 : WM r17.2 := by rw [e18]; exact wX5_finding 0 hw (by omega)
                exact hw19
              · have i69 := nltI c16
                refine wf_ite (fun c20 => ?_) (fun c20 => ?_)
                · have i66 := ltI c20
                  refine wf_bnd (fun r21 e22 => ?_)
                  have hw23 : WM r21.2 := by rw [e22]; exact wX5_finding 0 hw (by omega)
                  exact hw23
                · have i67 := nltI c20
                  have w24 := wm_size hw v1
                  refine wf_ite (fun c25 => ?_) (fun c25 => ?_)
                  · have i64 := ltI c25
                    refine wf_bnd (fun r26 e27 => ?_)
                    have hw28 : WM r26.2 := by rw [e27]; exact wX5_finding 0 hw (by omega)
                    exact hw28
                  · have i65 := nltI c25
                    have q96 := cpF (a := v2) (n := v5) (z := rA σ 8 v1) (by omega) (by omega) (by assumption)
                    have w29 := wm_size hw v3
                    refine wf_ite (fun c30 => ?_) (fun c30 => ?_)
                    · have i62 := ltI c30
                      refine wf_bnd (fun r31 e32 => ?_)
                      have hw33 : WM r31.2 := by rw [e32]; exact wX5_finding 0 hw (by omega)
                      exact hw33
                    · have i63 := nltI c30
                      have q114 := cpF (a := v4) (n := v5) (z := rA σ 8 v3) (by omega) (by omega) (by assumption)
                      refine wf_bnd (fun r45 e46 => ?_)
                      obtain ⟨hw47, _⟩ := (show PLX5_copy_135 r45 from by rw [e46]; exact wLX5_copy_135 41 v1 v2 v3 v4 v5 0 σ hw (by omega) (by omega) (by omega) (by omega) (by omega))
                      refine wf_bnd (fun r59 e60 => ?_)
                      obtain ⟨hw61, _⟩ := (show PLX5_copy_172 r59 from by rw [e60]; exact wLX5_copy_172 41 v3 v4 v5 0 r45 hw47 (by omega) (by omega) (by omega) (by omega) (by omega))
                      exact hw61
          · have i76 := neI c11
            refine wf_bnd (fun r72 e73 => ?_)
            have hw74 : WM r72.2 := by rw [e73]; exact wX5_finding 2 hw (by omega)
            exact hw74
def PLX5_load_18 : Int32 × sg → Prop := fun r => (WM r.2) ∧ (0 ≤ r.1.toInt ∧ r.1.toInt ≤ 8) ∧ True
set_option maxRecDepth 100000 in
set_option maxHeartbeats 4000000 in
theorem wLX5_load_18 : ∀ (k : Nat) (v1 v3 : Int32) (σ : sg) (hw : WM σ) (hv3 : 0 ≤ v3.toInt ∧ v3.toInt ≤ 8) (hs : 0 ≤ v1.toInt ∧ v1.toInt ≤ 3) (hmu : (8 - v3.toInt).toNat < k), PLX5_load_18 (LX5_load_18 k v1 v3 σ) := by
  intro k
  induction k with
  | zero => intro v1 v3 σ hw hv3 hs hmu; exact absurd hmu (Nat.not_lt_zero _)
  | succ k ih =>
    intro v1 v3 σ hw hv3 hs hmu
    have k0 : (0 : Int32).toInt = 0 := rfl
    have k1 : (1 : Int32).toInt = 1 := rfl
    have k40 : (40 : Int32).toInt = 40 := rfl
    have k48 : (48 : Int32).toInt = 48 := rfl
    have k99 : (99 : Int32).toInt = 99 := rfl
    rw [show LX5_load_18 (k + 1) v1 v3 σ = _ from LX5_load_18.eq_2 ..]
    have w2 := wm_size hw v1
    refine wf_ite (fun c3 => ?_) (fun c3 => ?_)
    · have i20 := leI c3
      exact ⟨hw, (by omega), trivial⟩
    · have i21 := nleI c3
      have w4 := wm_many hw (show 0 < 4 by decide)
      refine wf_ite (fun c5 => ?_) (fun c5 => ?_)
      · have i18 := leI c5
        exact ⟨hw, (by omega), trivial⟩
      · have i19 := nleI c5
        have a6 := mulI (x := 40) (y := v1) (by first | omega | (simp only [k40]; omega)) (by first | omega | (simp only [k40]; omega))
        simp only [k40] at a6
        have a7 := addI (x := (40 * v1)) (y := v3) (by omega) (by omega)
        refine wf_ite (fun c8 => ?_) (fun c8 => ?_)
        · have i15 := eqI c8
          exact ⟨hw, (by omega), trivial⟩
        · have i16 := neI c8
          have b17 := wi_t c8
          have a9 := addI (x := 48) (y := v3) (by omega) (by omega)
          refine wf_bnd (fun s10 e11 => ?_)
          have hw12 : WM s10 := by rw [e11]; exact wmRn hw (by decide) (by omega) (by omega) (by omega) (by omega)
          have m13 := mKeep e11 (by omega)
          have a14 := addI (x := v3) (y := 1) (by omega) (by omega)
          exact ih v1 (v3 + 1) s10 hw12 (by omega) (by omega) (by omega)
set_option maxRecDepth 100000 in
set_option maxHeartbeats 4000000 in
theorem wX5_load (v1 : Int32) {σ : sg} (hw : WM σ) : WMi (fX5_load v1 σ) := by
  have k0 : (0 : Int32).toInt = 0 := rfl
  rw [show fX5_load v1 σ = _ from fX5_load.eq_1 ..]
  have ls := lsR v1 σ
  refine wf_ite (fun c1 => ?_) (fun c1 => ?_)
  · have i29 := ltI c1
    have b30 := lsS_t c1
    refine wf_bnd (fun r22 e23 => ?_)
    obtain ⟨hw24, x25, _⟩ := (show PLX5_load_18 r22 from by rw [e23]; exact wLX5_load_18 9 v1 0 σ hw (by omega) (by omega) (by omega))
    exact hw24
  · have i31 := nltI c1
    refine wf_bnd (fun r26 e27 => ?_)
    have hw28 : WM r26.2 := by rw [e27]; exact wX5_finding (fX5_lacksOf v1 σ) hw (by omega)
    exact hw28
set_option maxRecDepth 100000 in
set_option maxHeartbeats 4000000 in
theorem wLX5_judge_59 : ∀ (k : Nat) (v1 v2 v5 : Int32) (σ : sg) (hw : WM σ) (hv5 : 0 ≤ v5.toInt ∧ v5.toInt ≤ 40) (hs : 0 ≤ v1.toInt ∧ v1.toInt ≤ 3) (hd : 0 ≤ v2.toInt ∧ v2.toInt ≤ 7) (hmu : (40 - v5.toInt).toNat < k), WMi (LX5_judge_59 k v1 v2 v5 σ) := by
  intro k
  induction k with
  | zero => intro v1 v2 v5 σ hw hv5 hs hd hmu; exact absurd hmu (Nat.not_lt_zero _)
  | succ k ih =>
    intro v1 v2 v5 σ hw hv5 hs hd hmu
    have k0 : (0 : Int32).toInt = 0 := rfl
    have k1 : (1 : Int32).toInt = 1 := rfl
    have k40 : (40 : Int32).toInt = 40 := rfl
    have k56 : (56 : Int32).toInt = 56 := rfl
    rw [show LX5_judge_59 (k + 1) v1 v2 v5 σ = _ from LX5_judge_59.eq_2 ..]
    have w7 := wm_size hw v1
    refine wf_ite (fun c8 => ?_) (fun c8 => ?_)
    · have i19 := leI c8
      exact hw
    · have i20 := nleI c8
      refine wf_bnd (fun r9 e10 => ?_)
      have hw11 : WM r9.2 := by rw [e10]; exact wX5_anHour 2 (by decide) hw 
      have me10 := manyA (show 2 < 4 by decide) e10
      have ne10 := manyA0 e10
      have a12 := mulI (x := 40) (y := v1) (by first | omega | (simp only [k40]; omega)) (by first | omega | (simp only [k40]; omega))
      simp only [k40] at a12
      have a13 := addI (x := (40 * v1)) (y := v5) (by omega) (by omega)
      have a14 := addI (x := 56) (y := v2) (by omega) (by omega)
      refine wf_ite (fun c15 => ?_) (fun c15 => ?_)
      · have i17 := eqI c15
        have a16 := addI (x := v5) (y := 1) (by omega) (by omega)
        exact ih v1 v2 (v5 + 1) r9.2 hw11 (by omega) (by omega) (by omega) (by omega)
      · have i18 := neI c15
        exact hw11
set_option maxRecDepth 100000 in
set_option maxHeartbeats 4000000 in
theorem wX5_judge (v1 : Int32) (v2 : Int32) {σ : sg} (hw : WM σ) : WMi (fX5_judge v1 v2 σ) := by
  have k0 : (0 : Int32).toInt = 0 := rfl
  rw [show fX5_judge v1 v2 σ = _ from fX5_judge.eq_1 ..]
  have ls := lsR v1 σ
  refine wf_ite (fun c1 => ?_) (fun c1 => ?_)
  · have i30 := ltI c1
    have b31 := lsS_t c1
    have w2 := wm_size hw v1
    have lr := lkR (fX5_isDeed v2 σ) (rA σ 8 v1) σ
    refine wf_ite (fun c3 => ?_) (fun c3 => ?_)
    · have i24 := ltI c3
      have b25 := lkD_t hw c3
      refine wf_bnd (fun r4 e5 => ?_)
      have hw6 : WM r4 := by rw [e5]; exact wX5_row 0 (by decide) 2 (by decide) hw (by omega)
      have me5 := row0 (show 0 ≠ 2 by decide) e5
      exact wLX5_judge_59 41 v1 v2 0 r4 hw6 (by omega) (by omega) (by omega) (by omega)
    · have i26 := nltI c3
      refine wf_bnd (fun r21 e22 => ?_)
      have hw23 : WM r21.2 := by rw [e22]; exact wX5_finding (fX5_lacks (fX5_isDeed v2 σ) (rA σ 8 v1) σ) hw (by omega)
      exact hw23
  · have i32 := nltI c1
    refine wf_bnd (fun r27 e28 => ?_)
    have hw29 : WM r27.2 := by rw [e28]; exact wX5_finding (fX5_lacksOf v1 σ) hw (by omega)
    exact hw29
set_option maxRecDepth 100000 in
set_option maxHeartbeats 4000000 in
theorem wX5_image {σ : sg} (hw : WM σ) : WMi (fX5_image σ) := by
  have k0 : (0 : Int32).toInt = 0 := rfl
  have k1 : (1 : Int32).toInt = 1 := rfl
  rw [show fX5_image σ = _ from fX5_image.eq_1 ..]
  refine wf_bnd (fun r1 e2 => ?_)
  have hw3 : WM r1 := by rw [e2]; exact wX5_row 0 (by decide) 1 (by decide) hw (by omega)
  have me2 := row0 (show 0 ≠ 1 by decide) e2
  refine wf_bnd (fun s4 e5 => ?_)
  have hw6 : WM s4 := by rw [e5]; exact wmF hw3 (by omega)
  exact hw6
set_option maxRecDepth 100000 in
set_option maxHeartbeats 4000000 in
theorem wX5_undo {σ : sg} (hw : WM σ) : WMi (fX5_undo σ) := by
  have k0 : (0 : Int32).toInt = 0 := rfl
  have k2 : (2 : Int32).toInt = 2 := rfl
  have k3 : (3 : Int32).toInt = 3 := rfl
  rw [show fX5_undo σ = _ from fX5_undo.eq_1 ..]
  refine wf_ite (fun c1 => ?_) (fun c1 => ?_)
  · have i9 := eqI c1
    refine wf_bnd (fun r5 e6 => ?_)
    have hw7 : WM r5.2 := by rw [e6]; exact wX5_finding 3 hw (by omega)
    exact hw7
  · have i8 := neI c1
    refine wf_bnd (fun r2 e3 => ?_)
    have hw4 : WM r2 := by rw [e3]; exact wX5_row 1 (by decide) 0 (by decide) hw (by omega)
    have me3 := row0 (show 1 ≠ 0 by decide) e3
    exact hw4
set_option maxRecDepth 100000 in
set_option maxHeartbeats 4000000 in
theorem wX5_tear {σ : sg} (hw : WM σ) : WMi (fX5_tear σ) := by
  have k0 : (0 : Int32).toInt = 0 := rfl
  have k1 : (1 : Int32).toInt = 1 := rfl
  rw [show fX5_tear σ = _ from fX5_tear.eq_1 ..]
  refine wf_ite (fun c1 => ?_) (fun c1 => ?_)
  · have i8 := eqI c1
    refine wf_bnd (fun s2 e3 => ?_)
    have hw4 : WM s2 := by rw [e3]; exact wmF hw (by omega)
    exact hw4
  · have i9 := neI c1
    refine wf_bnd (fun s5 e6 => ?_)
    have hw7 : WM s5 := by rw [e6]; exact wmF hw (by omega)
    exact hw7
set_option maxRecDepth 100000 in
set_option maxHeartbeats 4000000 in
theorem wX5_count (v1 : Int32) {σ : sg} (hw : WM σ) : WMi (fX5_count v1 σ) := by
  have km1 : ((-1) : Int32).toInt = -1 := rfl
  have k0 : (0 : Int32).toInt = 0 := rfl
  have k1 : (1 : Int32).toInt = 1 := rfl
  have k2 : (2 : Int32).toInt = 2 := rfl
  have k3 : (3 : Int32).toInt = 3 := rfl
  have k4 : (4 : Int32).toInt = 4 := rfl
  have k5 : (5 : Int32).toInt = 5 := rfl
  have k6 : (6 : Int32).toInt = 6 := rfl
  have k7 : (7 : Int32).toInt = 7 := rfl
  have k10 : (10 : Int32).toInt = 10 := rfl
  have k63 : (63 : Int32).toInt = 63 := rfl
  rw [show fX5_count v1 σ = _ from fX5_count.eq_1 ..]
  refine wf_ite (fun c1 => ?_) (fun c1 => ?_)
  · have i28 := eqI c1
    exact hw
  · have i29 := neI c1
    refine wf_ite (fun c2 => ?_) (fun c2 => ?_)
    · have i26 := eqI c2
      have w3 := wm_many hw (show 0 < 4 by decide)
      exact hw
    · have i27 := neI c2
      refine wf_ite (fun c4 => ?_) (fun c4 => ?_)
      · have i24 := eqI c4
        exact hw
      · have i25 := neI c4
        refine wf_ite (fun c5 => ?_) (fun c5 => ?_)
        · have i22 := eqI c5
          exact hw
        · have i23 := neI c5
          refine wf_ite (fun c6 => ?_) (fun c6 => ?_)
          · have i20 := eqI c6
            exact hw
          · have i21 := neI c6
            refine wf_ite (fun c7 => ?_) (fun c7 => ?_)
            · have i18 := eqI c7
              have w8 := wm_taped hw
              exact hw
            · have i19 := neI c7
              refine wf_ite (fun c9 => ?_) (fun c9 => ?_)
              · have i16 := eqI c9
                exact hw
              · have i17 := neI c9
                refine wf_ite (fun c10 => ?_) (fun c10 => ?_)
                · have i14 := eqI c10
                  exact hw
                · have i15 := neI c10
                  refine wf_bnd (fun r11 e12 => ?_)
                  have hw13 : WM r11.2 := by rw [e12]; exact wX5_finding 0 hw (by omega)
                  exact hw13
def PLX5_status_20 : Int32 → Prop := fun r => True
set_option maxRecDepth 100000 in
set_option maxHeartbeats 4000000 in
theorem wLX5_status_20 : ∀ (k : Nat) (v1 v2 v3 : Int32) (σ : sg) (hw : WM σ) (hv3 : 0 ≤ v3.toInt ∧ v3.toInt ≤ 7) (hmu : (7 - v3.toInt).toNat < k), PLX5_status_20 (LX5_status_20 k v1 v2 v3 σ) := by
  intro k
  induction k with
  | zero => intro v1 v2 v3 σ hw hv3 hmu; exact absurd hmu (Nat.not_lt_zero _)
  | succ k ih =>
    intro v1 v2 v3 σ hw hv3 hmu
    have k0 : (0 : Int32).toInt = 0 := rfl
    have k1 : (1 : Int32).toInt = 1 := rfl
    have k7 : (7 : Int32).toInt = 7 := rfl
    rw [show LX5_status_20 (k + 1) v1 v2 v3 σ = _ from LX5_status_20.eq_2 ..]
    refine wf_ite (fun c2 => ?_) (fun c2 => ?_)
    · have i12 := leI c2
      exact trivial
    · have i13 := nleI c2
      refine wf_ite (fun c3 => ?_) (fun c3 => ?_)
      · have i10 := ltI c3
        have a4 := addI (x := v3) (y := 1) (by omega) (by omega)
        exact ih v1 (v2 + (rA σ 5 v3)) (v3 + 1) σ hw (by omega) (by omega)
      · have i11 := nltI c3
        refine wf_ite (fun c5 => ?_) (fun c5 => ?_)
        · have i9 := eqI c5
          have a7 := addI (x := v3) (y := 1) (by omega) (by omega)
          exact ih v1 (v2 + (rA σ 5 v3)) (v3 + 1) σ hw (by omega) (by omega)
        · have i8 := neI c5
          have a6 := addI (x := v3) (y := 1) (by omega) (by omega)
          exact ih v1 (v2 + 0) (v3 + 1) σ hw (by omega) (by omega)
set_option maxRecDepth 100000 in
set_option maxHeartbeats 4000000 in
theorem wX5_status (v1 : Int32) {σ : sg} (hw : WM σ) : WMi (fX5_status v1 σ) := by
  have km1 : ((-1) : Int32).toInt = -1 := rfl
  have k0 : (0 : Int32).toInt = 0 := rfl
  have k6 : (6 : Int32).toInt = 6 := rfl
  rw [show fX5_status v1 σ = _ from fX5_status.eq_1 ..]
  refine wf_ite (fun c1 => ?_) (fun c1 => ?_)
  · have i21 := eqI c1
    refine wf_bnd (fun r16 e17 => ?_)
    have hw18 : WM r16.2 := by rw [e17]; exact wX5_finding 0 hw (by omega)
    exact hw18
  · have i19 := neI c1
    have b20 := wi_t c1
    refine wf_bnd (fun r14 e15 => ?_)
    exact hw
theorem hdV_X5_hang : yX5_hang.cls = RX5 ∧ yX5_hang.cls ≠ "java/lang/invoke/MethodHandle" ∧ yX5_hang.cls ≠ "java/lang/invoke/VarHandle" ∧ (parseMethodDescriptor yX5_hang.desc).map (fun d => d.parameters.length) = some 1 := by decide +kernel
theorem mX5_hang_f9 : Cond.fieldLink RX5 9 "WaxTreatiesModel" "now" "[I" ∈ wsX5_hang := List.mem_of_getElem? (i := 1) rfl
theorem iwX5_hang_X5 : ∀ w ∈ wsX50, w ∈ wsX5_hang := fun w h => List.mem_cons_of_mem _ (List.mem_append_right _ h)
set_option maxRecDepth 100000 in
set_option maxHeartbeats 4000000 in
theorem lX5_hang_22 {p : Program} (l : Launch) {e : Env} {s : State} {m : MethodId} {args : Array Value} {below : List Frame} {meth : Method} {c : Code} {Q : State → Prop} {G : gT} (hN : wN G) (hG : gfl G = false) (K : qK p s m args meth c cX5_hang 4 RX5 wsX5_hang G) : ∀ (k : Nat) (v1 v2 v3 : Int32) (σ : sg) (hw : WM σ) (hv3 : 0 ≤ v3.toInt ∧ v3.toInt ≤ 8) (hmu : (8 - v3.toInt).toNat < k) {ρ : Type} {E : ρ → Prop} {f : Int32 → ρ} (hk : ∀ r : Int32, qq p l e (headSpec wsX5_hang rmX5_hang).room s m args below meth c Q 4 G E (f r) 77 [none, some (.int v1), some (.int r), none] [] σ), qq p l e (headSpec wsX5_hang rmX5_hang).room s m args below meth c Q 4 G E (bnd (LX5_hang_22 k v1 v2 v3 σ) f) 22 [some (.ref (gob G 0)), some (.int v1), some (.int v2), some (.int v3)] [] σ := by
  intro k
  induction k with
  | zero => intro v1 v2 v3 σ hw hv3 hmu ρ E f hk; exact absurd hmu (Nat.not_lt_zero _)
  | succ k ih =>
    intro v1 v2 v3 σ hw hv3 hmu ρ E f hk
    have k0 : (0 : Int32).toInt = 0 := rfl
    have k1 : (1 : Int32).toInt = 1 := rfl
    have k72 : (72 : Int32).toInt = 72 := rfl
    refine qq_in ?_
    refine qq_T (LX5_hang_22.eq_2 ..) ?_
    refine q_iload_n (pc := 22) K dX5_hang_22 rfl rfl ?_
    refine q_aload_n (pc := 23) K dX5_hang_23 rfl rfl ?_
    refine q_get (pc := 24) (o := 0) (f := 0) (v := .ref (gad G 0)) K (wO_m hG) vw_4 iwX5_hang_X5 (by decide) mX5_hang_f9 rfl dX5_hang_24 ?_
    refine q_iconst (pc := 27) (v := 0) K dX5_hang_27 (by decide) ?_
    refine q_iald (pc := 28) (a := 0) K (by rw [wna_f hG]; decide) (vinN (wlm (n := 80) hG 0 rfl) (by omega) (by omega)) dX5_hang_28 ?_
    have w2 := wm_many hw (show 0 < 4 by decide)
    refine q_icmp_ge (pc := 29) (tgt := 77) K dX5_hang_29 (by decide) (fun c3 => ?_) (fun c3 => ?_)
    · have i15 := leI c3
      refine qq_drop 0 (lv' := [none, some (.int v1), some (.int v2), some (.int v3)]) rfl ?_
      refine qq_drop 3 (lv' := [none, some (.int v1), some (.int v2), none]) rfl ?_
      exact qq_leaf (hk v2)
    · have i16 := nleI c3
      refine q_iload_n (pc := 32) K dX5_hang_32 rfl rfl ?_
      refine q_aload_n (pc := 33) K dX5_hang_33 rfl rfl ?_
      refine q_get (pc := 34) (o := 0) (f := 0) (v := .ref (gad G 0)) K (wO_m hG) vw_4 iwX5_hang_X5 (by decide) mX5_hang_f9 rfl dX5_hang_34 ?_
      refine q_bipush (pc := 37) (v := 72) K dX5_hang_37 (by decide) ?_
      refine q_iload_n (pc := 39) K dX5_hang_39 rfl rfl ?_
      refine q_iadd (pc := 40) K dX5_hang_40 ?_
      have a4 := addI (x := 72) (y := v3) (by omega) (by omega)
      refine q_iald (pc := 41) (a := 0) K (by rw [wna_f hG]; decide) (vinN (wlm (n := 80) hG 0 rfl) (by omega) (by omega)) dX5_hang_41 ?_
      have w5 := wm_on hw (show 0 < 4 by decide) v3 (by omega) (by omega)
      refine q_if_lt (pc := 42) (tgt := 68) K dX5_hang_42 (by decide) (fun c6 => ?_) (fun c6 => ?_)
      · have i13 := ltI c6
        refine q_iconst (pc := 68) (v := 0) K dX5_hang_68 (by decide) ?_
        refine q_ior (pc := 69) K dX5_hang_69 ?_
        refine q_istore_n (pc := 70) (lv' := [some (.ref (gob G 0)), some (.int v1), some (.int (v2 ||| 0)), some (.int v3)]) K dX5_hang_70 rfl (by decide) (Nat.le_of_ble_eq_true rfl) rfl ?_
        refine q_iinc (pc := 71) (v := (v3 + 1)) (lv' := [some (.ref (gob G 0)), some (.int v1), some (.int (v2 ||| 0)), some (.int (v3 + 1))]) K dX5_hang_71 rfl rfl (by decide) rfl ?_
        refine q_goto (pc := 74) (tgt := 22) K dX5_hang_74 (by decide) ?_
        have a7 := addI (x := v3) (y := 1) (by omega) (by omega)
        exact qq_out (ih v1 (v2 ||| 0) (v3 + 1) σ hw (by omega) (by omega) hk)
      · have i14 := nltI c6
        refine q_iload_n (pc := 45) K dX5_hang_45 rfl rfl ?_
        refine q_aload_n (pc := 46) K dX5_hang_46 rfl rfl ?_
        refine q_get (pc := 47) (o := 0) (f := 0) (v := .ref (gad G 0)) K (wO_m hG) vw_4 iwX5_hang_X5 (by decide) mX5_hang_f9 rfl dX5_hang_47 ?_
        refine q_bipush (pc := 50) (v := 72) K dX5_hang_50 (by decide) ?_
        refine q_iload_n (pc := 52) K dX5_hang_52 rfl rfl ?_
        refine q_iadd (pc := 53) K dX5_hang_53 ?_
        refine q_iald (pc := 54) (a := 0) K (by rw [wna_f hG]; decide) (vinN (wlm (n := 80) hG 0 rfl) (by omega) (by omega)) dX5_hang_54 ?_
        refine q_ishr (pc := 55) K dX5_hang_55 ?_
        refine q_iconst (pc := 56) (v := 1) K dX5_hang_56 (by decide) ?_
        refine q_iand (pc := 57) K dX5_hang_57 ?_
        refine q_iconst (pc := 58) (v := 1) K dX5_hang_58 (by decide) ?_
        refine q_icmp_ne (pc := 59) (tgt := 68) K dX5_hang_59 (by decide) (fun c8 => ?_) (fun c8 => ?_)
        · have i11 := neI c8
          refine q_iconst (pc := 68) (v := 0) K dX5_hang_68 (by decide) ?_
          refine q_ior (pc := 69) K dX5_hang_69 ?_
          refine q_istore_n (pc := 70) (lv' := [some (.ref (gob G 0)), some (.int v1), some (.int (v2 ||| 0)), some (.int v3)]) K dX5_hang_70 rfl (by decide) (Nat.le_of_ble_eq_true rfl) rfl ?_
          refine q_iinc (pc := 71) (v := (v3 + 1)) (lv' := [some (.ref (gob G 0)), some (.int v1), some (.int (v2 ||| 0)), some (.int (v3 + 1))]) K dX5_hang_71 rfl rfl (by decide) rfl ?_
          refine q_goto (pc := 74) (tgt := 22) K dX5_hang_74 (by decide) ?_
          have a9 := addI (x := v3) (y := 1) (by omega) (by omega)
          exact qq_out (ih v1 (v2 ||| 0) (v3 + 1) σ hw (by omega) (by omega) hk)
        · have i12 := eqI c8
          refine q_iconst (pc := 62) (v := 1) K dX5_hang_62 (by decide) ?_
          refine q_iload_n (pc := 63) K dX5_hang_63 rfl rfl ?_
          refine q_ishl (pc := 64) K dX5_hang_64 ?_
          refine q_goto (pc := 65) (tgt := 69) K dX5_hang_65 (by decide) ?_
          refine q_ior (pc := 69) K dX5_hang_69 ?_
          refine q_istore_n (pc := 70) (lv' := [some (.ref (gob G 0)), some (.int v1), some (.int (v2 ||| (jshl 1 v3))), some (.int v3)]) K dX5_hang_70 rfl (by decide) (Nat.le_of_ble_eq_true rfl) rfl ?_
          refine q_iinc (pc := 71) (v := (v3 + 1)) (lv' := [some (.ref (gob G 0)), some (.int v1), some (.int (v2 ||| (jshl 1 v3))), some (.int (v3 + 1))]) K dX5_hang_71 rfl rfl (by decide) rfl ?_
          refine q_goto (pc := 74) (tgt := 22) K dX5_hang_74 (by decide) ?_
          have a10 := addI (x := v3) (y := 1) (by omega) (by omega)
          exact qq_out (ih v1 (v2 ||| (jshl 1 v3)) (v3 + 1) σ hw (by omega) (by omega) hk)
set_option maxRecDepth 100000 in
set_option maxHeartbeats 4000000 in
theorem kX5_hang (l : Launch) {G : gT} (hN : wN G) (hG : gfl G = false) (v1 : Int32) (σ : sg) (hw : WM σ) : cM l yX5_hang wsX5_hang rmX5_hang G [.ref (gob G 0), .int v1] σ (some (.int (fX5_hang v1 σ).1)) (fX5_hang v1 σ).2 := by
  refine cM_of (maxL := 4) (ret := (some .int)) (cc := cX5_hang) (fX5_hang v1 σ) RX5 hN (by decide +kernel) rfl rfl (Nat.le_of_ble_eq_true rfl) rfl ?_
  intro p e s m args below meth c K hr
  have km1 : ((-1) : Int32).toInt = -1 := rfl
  have k0 : (0 : Int32).toInt = 0 := rfl
  have k1 : (1 : Int32).toInt = 1 := rfl
  refine qq_st (lv' := [some (.ref (gob G 0)), some (.int v1), none, none]) rfl rfl rfl ?_
  refine qq_T (fX5_hang.eq_1 ..) ?_
  refine q_aload_n (pc := 0) K dX5_hang_0 rfl rfl ?_
  refine q_iload_n (pc := 1) K dX5_hang_1 rfl rfl ?_
  refine q_callVi (pc := 2) (o := 0) (rm := rmX5_isDeed) K (kX5_isDeed l hN hG v1 σ hw) gX5_hang_X5_isDeed rfl hdV_X5_isDeed ⟨Nat.le_of_ble_eq_true rfl, Nat.le_of_ble_eq_true rfl⟩ rfl rfl ⟨Nat.zero_le _, Nat.zero_le _⟩ (wO_m hG) vw_4 rfl rfl (Nat.le_of_ble_eq_true rfl) dX5_hang_2 ?_
  refine q_if_ne (pc := 5) (tgt := 14) K dX5_hang_5 (by decide) (fun c1 => ?_) (fun c1 => ?_)
  · have i23 := neI c1
    have b24 := wiD_t hw c1
    refine q_iconst (pc := 14) (v := 1) K dX5_hang_14 (by decide) ?_
    refine q_iload_n (pc := 15) K dX5_hang_15 rfl rfl ?_
    refine q_ishl (pc := 16) K dX5_hang_16 ?_
    refine q_istore_n (pc := 17) (lv' := [some (.ref (gob G 0)), some (.int v1), some (.int (jshl 1 v1)), none]) K dX5_hang_17 rfl (by decide) (Nat.le_of_ble_eq_true rfl) rfl ?_
    refine q_iload_n (pc := 18) K dX5_hang_18 rfl rfl ?_
    refine q_iconst (pc := 19) (v := 1) K dX5_hang_19 (by decide) ?_
    refine q_iadd (pc := 20) K dX5_hang_20 ?_
    refine q_istore_n (pc := 21) (lv' := [some (.ref (gob G 0)), some (.int v1), some (.int (jshl 1 v1)), some (.int (v1 + 1))]) K dX5_hang_21 rfl (by decide) (Nat.le_of_ble_eq_true rfl) rfl ?_
    have a17 := addI (x := v1) (y := 1) (by omega) (by omega)
    refine lX5_hang_22 l hN hG K 9 v1 (jshl 1 v1) (v1 + 1) σ hw (by omega) (by omega) (fun r18 => ?_)
    refine q_iload_n (pc := 77) K dX5_hang_77 rfl rfl ?_
    refine q_iconst (pc := 78) (v := 1) K dX5_hang_78 (by decide) ?_
    refine q_iload_n (pc := 79) K dX5_hang_79 rfl rfl ?_
    refine q_ishl (pc := 80) K dX5_hang_80 ?_
    refine q_iconst (pc := 81) (v := (-1)) K dX5_hang_81 (by decide) ?_
    refine q_ixor (pc := 82) K dX5_hang_82 ?_
    refine q_iand (pc := 83) K dX5_hang_83 ?_
    exact q_iret K hr dX5_hang_84
  · have i25 := eqI c1
    refine q_aload_n (pc := 8) K dX5_hang_8 rfl rfl ?_
    refine q_iconst (pc := 9) (v := 0) K dX5_hang_9 (by decide) ?_
    refine q_callVi (pc := 10) (o := 0) (rm := rmX5_finding) K (kX5_finding l hN hG 0 σ hw (by omega)) gX5_hang_X5_finding rfl hdV_X5_finding ⟨Nat.le_of_ble_eq_true rfl, Nat.le_of_ble_eq_true rfl⟩ rfl rfl ⟨Nat.zero_le _, Nat.zero_le _⟩ (wO_m hG) vw_4 rfl rfl (Nat.le_of_ble_eq_true rfl) dX5_hang_10 ?_
    refine qq_nmI (fun r20 e21 => ?_)
    have hw22 : WM r20.2 := by rw [e21]; exact wX5_finding 0 hw (by omega)
    exact q_iret K hr dX5_hang_13
theorem hdV_X5_fallsWith : yX5_fallsWith.cls = RX5 ∧ yX5_fallsWith.cls ≠ "java/lang/invoke/MethodHandle" ∧ yX5_fallsWith.cls ≠ "java/lang/invoke/VarHandle" ∧ (parseMethodDescriptor yX5_fallsWith.desc).map (fun d => d.parameters.length) = some 1 := by decide +kernel
theorem mX5_fallsWith_f9 : Cond.fieldLink RX5 9 "WaxTreatiesModel" "now" "[I" ∈ wsX5_fallsWith := List.mem_of_getElem? (i := 1) rfl
theorem iwX5_fallsWith_X5 : ∀ w ∈ wsX50, w ∈ wsX5_fallsWith := fun w h => List.mem_cons_of_mem _ (List.mem_append_right _ h)
theorem mX5_fallsWith_f16 : Cond.fieldLink RX5 16 "WaxTreatiesModel" "tried" "[I" ∈ wsX5_fallsWith := List.mem_of_getElem? (i := 2) rfl
set_option maxRecDepth 100000 in
set_option maxHeartbeats 4000000 in
theorem kX5_fallsWith (l : Launch) {G : gT} (hN : wN G) (hG : gfl G = false) (v1 : Int32) (σ : sg) (hw : WM σ) (hd : 0 ≤ v1.toInt ∧ v1.toInt ≤ 7) : cM l yX5_fallsWith wsX5_fallsWith rmX5_fallsWith G [.ref (gob G 0), .int v1] σ (some (.int (fX5_fallsWith v1 σ).1)) (fX5_fallsWith v1 σ).2 := by
  refine cM_of (maxL := 2) (ret := (some .int)) (cc := cX5_fallsWith) (fX5_fallsWith v1 σ) RX5 hN (by decide +kernel) rfl rfl (Nat.le_of_ble_eq_true rfl) rfl ?_
  intro p e s m args below meth c K hr
  have km1 : ((-1) : Int32).toInt = -1 := rfl
  have k0 : (0 : Int32).toInt = 0 := rfl
  have k1 : (1 : Int32).toInt = 1 := rfl
  have k64 : (64 : Int32).toInt = 64 := rfl
  refine qq_st (lv' := [some (.ref (gob G 0)), some (.int v1)]) rfl rfl rfl ?_
  refine qq_T (fX5_fallsWith.eq_1 ..) ?_
  refine q_aload_n (pc := 0) K dX5_fallsWith_0 rfl rfl ?_
  refine q_get (pc := 1) (o := 0) (f := 0) (v := .ref (gad G 0)) K (wO_m hG) vw_4 iwX5_fallsWith_X5 (by decide) mX5_fallsWith_f9 rfl dX5_fallsWith_1 ?_
  refine q_aload_n (pc := 4) K dX5_fallsWith_4 rfl rfl ?_
  refine q_get (pc := 5) (o := 0) (f := 2) (v := .ref (gad G 2)) K (wO_m hG) vw_4 iwX5_fallsWith_X5 (by decide) mX5_fallsWith_f16 rfl dX5_fallsWith_5 ?_
  refine q_callSv (pc := 8) (rm := rmX5_row) K (kX5_row l hN hG 0 (by decide) 2 (by decide) σ (by omega)) gX5_fallsWith_X5_row rfl hdS_X5_row ⟨Nat.le_of_ble_eq_true rfl, Nat.le_of_ble_eq_true rfl⟩ rfl rfl ⟨Nat.zero_le _, Nat.zero_le _⟩ rfl rfl (Nat.le_of_ble_eq_true rfl) dX5_fallsWith_8 ?_
  refine qq_nmV (fun r1 e2 => ?_)
  have hw3 : WM r1 := by rw [e2]; exact wX5_row 0 (by decide) 2 (by decide) hw (by omega)
  have me2 := row0 (show 0 ≠ 2 by decide) e2
  refine q_aload_n (pc := 11) K dX5_fallsWith_11 rfl rfl ?_
  refine q_get (pc := 12) (o := 0) (f := 2) (v := .ref (gad G 2)) K (wO_m hG) vw_4 iwX5_fallsWith_X5 (by decide) mX5_fallsWith_f16 rfl dX5_fallsWith_12 ?_
  refine q_bipush (pc := 15) (v := 64) K dX5_fallsWith_15 (by decide) ?_
  refine q_iload_n (pc := 17) K dX5_fallsWith_17 rfl rfl ?_
  refine q_iadd (pc := 18) K dX5_fallsWith_18 ?_
  refine q_iconst (pc := 19) (v := 1) K dX5_fallsWith_19 (by decide) ?_
  have a4 := addI (x := 64) (y := v1) (by omega) (by omega)
  refine q_iast (pc := 20) (a := 2) K (by rw [wna_f hG]; decide) (vinN (wlm (n := 80) hG 2 rfl) (by omega) (by omega)) dX5_fallsWith_20 (fun s5 e6 => ?_)
  have hw7 : WM s5 := by rw [e6]; exact wmRn hw3 (by decide) (by omega) (by omega) (by omega) (by omega)
  have m8 := mKeep e6 (by omega)
  have m9 := many6 e6 (show 0 ≠ 2 by decide)
  refine q_aload_n (pc := 21) K dX5_fallsWith_21 rfl rfl ?_
  refine q_get (pc := 22) (o := 0) (f := 0) (v := .ref (gad G 0)) K (wO_m hG) vw_4 iwX5_fallsWith_X5 (by decide) mX5_fallsWith_f9 rfl dX5_fallsWith_22 ?_
  refine q_callSi (pc := 25) (rm := rmX5_holding) K (kX5_holding l hN hG 0 (by decide) s5 hw7) gX5_fallsWith_X5_holding rfl hdS_X5_holding ⟨Nat.le_of_ble_eq_true rfl, Nat.le_of_ble_eq_true rfl⟩ rfl rfl ⟨Nat.zero_le _, Nat.zero_le _⟩ rfl rfl (Nat.le_of_ble_eq_true rfl) dX5_fallsWith_25 ?_
  refine q_aload_n (pc := 28) K dX5_fallsWith_28 rfl rfl ?_
  refine q_get (pc := 29) (o := 0) (f := 2) (v := .ref (gad G 2)) K (wO_m hG) vw_4 iwX5_fallsWith_X5 (by decide) mX5_fallsWith_f16 rfl dX5_fallsWith_29 ?_
  refine q_callSi (pc := 32) (rm := rmX5_holding) K (kX5_holding l hN hG 2 (by decide) s5 hw7) gX5_fallsWith_X5_holding rfl hdS_X5_holding ⟨Nat.le_of_ble_eq_true rfl, Nat.le_of_ble_eq_true rfl⟩ rfl rfl ⟨Nat.zero_le _, Nat.zero_le _⟩ rfl rfl (Nat.le_of_ble_eq_true rfl) dX5_fallsWith_32 ?_
  refine q_iconst (pc := 35) (v := (-1)) K dX5_fallsWith_35 (by decide) ?_
  refine q_ixor (pc := 36) K dX5_fallsWith_36 ?_
  refine q_iand (pc := 37) K dX5_fallsWith_37 ?_
  exact q_iret K hr dX5_fallsWith_38
theorem hdV_X5_falls : yX5_falls.cls = RX5 ∧ yX5_falls.cls ≠ "java/lang/invoke/MethodHandle" ∧ yX5_falls.cls ≠ "java/lang/invoke/VarHandle" ∧ (parseMethodDescriptor yX5_falls.desc).map (fun d => d.parameters.length) = some 1 := by decide +kernel
set_option maxRecDepth 100000 in
set_option maxHeartbeats 4000000 in
theorem kX5_falls (l : Launch) {G : gT} (hN : wN G) (hG : gfl G = false) (v1 : Int32) (σ : sg) (hw : WM σ) : cM l yX5_falls wsX5_falls rmX5_falls G [.ref (gob G 0), .int v1] σ (some (.int (fX5_falls v1 σ).1)) (fX5_falls v1 σ).2 := by
  refine cM_of (maxL := 2) (ret := (some .int)) (cc := cX5_falls) (fX5_falls v1 σ) RX5 hN (by decide +kernel) rfl rfl (Nat.le_of_ble_eq_true rfl) rfl ?_
  intro p e s m args below meth c K hr
  have k0 : (0 : Int32).toInt = 0 := rfl
  refine qq_st (lv' := [some (.ref (gob G 0)), some (.int v1)]) rfl rfl rfl ?_
  refine qq_T (fX5_falls.eq_1 ..) ?_
  refine q_aload_n (pc := 0) K dX5_falls_0 rfl rfl ?_
  refine q_iload_n (pc := 1) K dX5_falls_1 rfl rfl ?_
  refine q_callVi (pc := 2) (o := 0) (rm := rmX5_isDeed) K (kX5_isDeed l hN hG v1 σ hw) gX5_falls_X5_isDeed rfl hdV_X5_isDeed ⟨Nat.le_of_ble_eq_true rfl, Nat.le_of_ble_eq_true rfl⟩ rfl rfl ⟨Nat.zero_le _, Nat.zero_le _⟩ (wO_m hG) vw_4 rfl rfl (Nat.le_of_ble_eq_true rfl) dX5_falls_2 ?_
  refine q_if_eq (pc := 5) (tgt := 16) K dX5_falls_5 (by decide) (fun c1 => ?_) (fun c1 => ?_)
  · have i8 := eqI c1
    refine q_aload_n (pc := 16) K dX5_falls_16 rfl rfl ?_
    refine q_iconst (pc := 17) (v := 0) K dX5_falls_17 (by decide) ?_
    refine q_callVi (pc := 18) (o := 0) (rm := rmX5_finding) K (kX5_finding l hN hG 0 σ hw (by omega)) gX5_falls_X5_finding rfl hdV_X5_finding ⟨Nat.le_of_ble_eq_true rfl, Nat.le_of_ble_eq_true rfl⟩ rfl rfl ⟨Nat.zero_le _, Nat.zero_le _⟩ (wO_m hG) vw_4 rfl rfl (Nat.le_of_ble_eq_true rfl) dX5_falls_18 ?_
    refine qq_nmI (fun r2 e3 => ?_)
    have hw4 : WM r2.2 := by rw [e3]; exact wX5_finding 0 hw (by omega)
    exact q_iret K hr dX5_falls_21
  · have i9 := neI c1
    have b10 := wiD_t hw c1
    refine q_aload_n (pc := 8) K dX5_falls_8 rfl rfl ?_
    refine q_iload_n (pc := 9) K dX5_falls_9 rfl rfl ?_
    refine q_callVi (pc := 10) (o := 0) (rm := rmX5_fallsWith) K (kX5_fallsWith l hN hG v1 σ hw (by omega)) gX5_falls_X5_fallsWith rfl hdV_X5_fallsWith ⟨Nat.le_of_ble_eq_true rfl, Nat.le_of_ble_eq_true rfl⟩ rfl rfl ⟨Nat.zero_le _, Nat.zero_le _⟩ (wO_m hG) vw_4 rfl rfl (Nat.le_of_ble_eq_true rfl) dX5_falls_10 ?_
    refine qq_nmI (fun r5 e6 => ?_)
    have hw7 : WM r5.2 := by rw [e6]; exact wX5_fallsWith v1 hw (by omega)
    have fbe6 := fwB hw7 e6
    refine q_goto (pc := 13) (tgt := 21) K dX5_falls_13 (by decide) ?_
    exact q_iret K hr dX5_falls_21
theorem hdV_X5_war : yX5_war.cls = RX5 ∧ yX5_war.cls ≠ "java/lang/invoke/MethodHandle" ∧ yX5_war.cls ≠ "java/lang/invoke/VarHandle" ∧ (parseMethodDescriptor yX5_war.desc).map (fun d => d.parameters.length) = some 0 := by decide +kernel
theorem mX5_war_f9 : Cond.fieldLink RX5 9 "WaxTreatiesModel" "now" "[I" ∈ wsX5_war := List.mem_of_getElem? (i := 1) rfl
theorem iwX5_war_X5 : ∀ w ∈ wsX50, w ∈ wsX5_war := fun w h => List.mem_cons_of_mem _ (List.mem_append_right _ h)
set_option maxRecDepth 100000 in
set_option maxHeartbeats 4000000 in
theorem lX5_war_4 {p : Program} (l : Launch) {e : Env} {s : State} {m : MethodId} {args : Array Value} {below : List Frame} {meth : Method} {c : Code} {Q : State → Prop} {G : gT} (hN : wN G) (hG : gfl G = false) (K : qK p s m args meth c cX5_war 3 RX5 wsX5_war G) : ∀ (k : Nat) (v1 v2 : Int32) (σ : sg) (hw : WM σ) (hv2 : 0 ≤ v2.toInt ∧ v2.toInt ≤ 8) (hmu : (8 - v2.toInt).toNat < k) {ρ : Type} {E : ρ → Prop} {f : Int32 → ρ} (hk : ∀ r : Int32, qq p l e (headSpec wsX5_war rmX5_war).room s m args below meth c Q 3 G E (f r) 52 [none, some (.int r), none] [] σ), qq p l e (headSpec wsX5_war rmX5_war).room s m args below meth c Q 3 G E (bnd (LX5_war_4 k v1 v2 σ) f) 4 [some (.ref (gob G 0)), some (.int v1), some (.int v2)] [] σ := by
  intro k
  induction k with
  | zero => intro v1 v2 σ hw hv2 hmu ρ E f hk; exact absurd hmu (Nat.not_lt_zero _)
  | succ k ih =>
    intro v1 v2 σ hw hv2 hmu ρ E f hk
    have k0 : (0 : Int32).toInt = 0 := rfl
    have k1 : (1 : Int32).toInt = 1 := rfl
    have k64 : (64 : Int32).toInt = 64 := rfl
    have k72 : (72 : Int32).toInt = 72 := rfl
    refine qq_in ?_
    refine qq_T (LX5_war_4.eq_2 ..) ?_
    refine q_iload_n (pc := 4) K dX5_war_4 rfl rfl ?_
    refine q_aload_n (pc := 5) K dX5_war_5 rfl rfl ?_
    refine q_get (pc := 6) (o := 0) (f := 0) (v := .ref (gad G 0)) K (wO_m hG) vw_4 iwX5_war_X5 (by decide) mX5_war_f9 rfl dX5_war_6 ?_
    refine q_iconst (pc := 9) (v := 0) K dX5_war_9 (by decide) ?_
    refine q_iald (pc := 10) (a := 0) K (by rw [wna_f hG]; decide) (vinN (wlm (n := 80) hG 0 rfl) (by omega) (by omega)) dX5_war_10 ?_
    have w1 := wm_many hw (show 0 < 4 by decide)
    refine q_icmp_ge (pc := 11) (tgt := 52) K dX5_war_11 (by decide) (fun c2 => ?_) (fun c2 => ?_)
    · have i15 := leI c2
      refine qq_drop 0 (lv' := [none, some (.int v1), some (.int v2)]) rfl ?_
      refine qq_drop 2 (lv' := [none, some (.int v1), none]) rfl ?_
      exact qq_leaf (hk v1)
    · have i16 := nleI c2
      refine q_iload_n (pc := 14) K dX5_war_14 rfl rfl ?_
      refine q_aload_n (pc := 15) K dX5_war_15 rfl rfl ?_
      refine q_get (pc := 16) (o := 0) (f := 0) (v := .ref (gad G 0)) K (wO_m hG) vw_4 iwX5_war_X5 (by decide) mX5_war_f9 rfl dX5_war_16 ?_
      refine q_bipush (pc := 19) (v := 72) K dX5_war_19 (by decide) ?_
      refine q_iload_n (pc := 21) K dX5_war_21 rfl rfl ?_
      refine q_iadd (pc := 22) K dX5_war_22 ?_
      have a3 := addI (x := 72) (y := v2) (by omega) (by omega)
      refine q_iald (pc := 23) (a := 0) K (by rw [wna_f hG]; decide) (vinN (wlm (n := 80) hG 0 rfl) (by omega) (by omega)) dX5_war_23 ?_
      have w4 := wm_on hw (show 0 < 4 by decide) v2 (by omega) (by omega)
      refine q_if_ge (pc := 24) (tgt := 43) K dX5_war_24 (by decide) (fun c5 => ?_) (fun c5 => ?_)
      · have i13 := leI c5
        refine q_iconst (pc := 43) (v := 0) K dX5_war_43 (by decide) ?_
        refine q_iadd (pc := 44) K dX5_war_44 ?_
        refine q_istore_n (pc := 45) (lv' := [some (.ref (gob G 0)), some (.int (v1 + 0)), some (.int v2)]) K dX5_war_45 rfl (by decide) (Nat.le_of_ble_eq_true rfl) rfl ?_
        refine q_iinc (pc := 46) (v := (v2 + 1)) (lv' := [some (.ref (gob G 0)), some (.int (v1 + 0)), some (.int (v2 + 1))]) K dX5_war_46 rfl rfl (by decide) rfl ?_
        refine q_goto (pc := 49) (tgt := 4) K dX5_war_49 (by decide) ?_
        have a6 := addI (x := v2) (y := 1) (by omega) (by omega)
        exact qq_out (ih (v1 + 0) (v2 + 1) σ hw (by omega) (by omega) hk)
      · have i14 := nleI c5
        refine q_aload_n (pc := 27) K dX5_war_27 rfl rfl ?_
        refine q_get (pc := 28) (o := 0) (f := 0) (v := .ref (gad G 0)) K (wO_m hG) vw_4 iwX5_war_X5 (by decide) mX5_war_f9 rfl dX5_war_28 ?_
        refine q_bipush (pc := 31) (v := 64) K dX5_war_31 (by decide) ?_
        refine q_iload_n (pc := 33) K dX5_war_33 rfl rfl ?_
        refine q_iadd (pc := 34) K dX5_war_34 ?_
        have a7 := addI (x := 64) (y := v2) (by omega) (by omega)
        refine q_iald (pc := 35) (a := 0) K (by rw [wna_f hG]; decide) (vinN (wlm (n := 80) hG 0 rfl) (by omega) (by omega)) dX5_war_35 ?_
        refine q_if_ne (pc := 36) (tgt := 43) K dX5_war_36 (by decide) (fun c8 => ?_) (fun c8 => ?_)
        · have i11 := neI c8
          refine q_iconst (pc := 43) (v := 0) K dX5_war_43 (by decide) ?_
          refine q_iadd (pc := 44) K dX5_war_44 ?_
          refine q_istore_n (pc := 45) (lv' := [some (.ref (gob G 0)), some (.int (v1 + 0)), some (.int v2)]) K dX5_war_45 rfl (by decide) (Nat.le_of_ble_eq_true rfl) rfl ?_
          refine q_iinc (pc := 46) (v := (v2 + 1)) (lv' := [some (.ref (gob G 0)), some (.int (v1 + 0)), some (.int (v2 + 1))]) K dX5_war_46 rfl rfl (by decide) rfl ?_
          refine q_goto (pc := 49) (tgt := 4) K dX5_war_49 (by decide) ?_
          have a9 := addI (x := v2) (y := 1) (by omega) (by omega)
          exact qq_out (ih (v1 + 0) (v2 + 1) σ hw (by omega) (by omega) hk)
        · have i12 := eqI c8
          refine q_iconst (pc := 39) (v := 1) K dX5_war_39 (by decide) ?_
          refine q_goto (pc := 40) (tgt := 44) K dX5_war_40 (by decide) ?_
          refine q_iadd (pc := 44) K dX5_war_44 ?_
          refine q_istore_n (pc := 45) (lv' := [some (.ref (gob G 0)), some (.int (v1 + 1)), some (.int v2)]) K dX5_war_45 rfl (by decide) (Nat.le_of_ble_eq_true rfl) rfl ?_
          refine q_iinc (pc := 46) (v := (v2 + 1)) (lv' := [some (.ref (gob G 0)), some (.int (v1 + 1)), some (.int (v2 + 1))]) K dX5_war_46 rfl rfl (by decide) rfl ?_
          refine q_goto (pc := 49) (tgt := 4) K dX5_war_49 (by decide) ?_
          have a10 := addI (x := v2) (y := 1) (by omega) (by omega)
          exact qq_out (ih (v1 + 1) (v2 + 1) σ hw (by omega) (by omega) hk)
set_option maxRecDepth 100000 in
set_option maxHeartbeats 4000000 in
theorem kX5_war (l : Launch) {G : gT} (hN : wN G) (hG : gfl G = false) (σ : sg) (hw : WM σ) : cM l yX5_war wsX5_war rmX5_war G [.ref (gob G 0)] σ (some (.int (fX5_war σ))) σ := by
  refine cM_of (maxL := 3) (ret := (some .int)) (cc := cX5_war) (fX5_war σ) RX5 hN (by decide +kernel) rfl rfl (Nat.le_of_ble_eq_true rfl) rfl ?_
  intro p e s m args below meth c K hr
  have k0 : (0 : Int32).toInt = 0 := rfl
  refine qq_st (lv' := [some (.ref (gob G 0)), none, none]) rfl rfl rfl ?_
  refine qq_T (fX5_war.eq_1 ..) ?_
  refine q_iconst (pc := 0) (v := 0) K dX5_war_0 (by decide) ?_
  refine q_istore_n (pc := 1) (lv' := [some (.ref (gob G 0)), some (.int 0), none]) K dX5_war_1 rfl (by decide) (Nat.le_of_ble_eq_true rfl) rfl ?_
  refine q_iconst (pc := 2) (v := 0) K dX5_war_2 (by decide) ?_
  refine q_istore_n (pc := 3) (lv' := [some (.ref (gob G 0)), some (.int 0), some (.int 0)]) K dX5_war_3 rfl (by decide) (Nat.le_of_ble_eq_true rfl) rfl ?_
  refine lX5_war_4 l hN hG K 9 0 0 σ hw (by omega) (by omega) (fun r17 => ?_)
  refine q_iload_n (pc := 52) K dX5_war_52 rfl rfl ?_
  exact q_iretP K hr dX5_war_53
theorem hdV_X5_key : yX5_key.cls = RX5 ∧ yX5_key.cls ≠ "java/lang/invoke/MethodHandle" ∧ yX5_key.cls ≠ "java/lang/invoke/VarHandle" ∧ (parseMethodDescriptor yX5_key.desc).map (fun d => d.parameters.length) = some 0 := by decide +kernel
theorem mX5_key_f9 : Cond.fieldLink RX5 9 "WaxTreatiesModel" "now" "[I" ∈ wsX5_key := List.mem_of_getElem? (i := 1) rfl
theorem iwX5_key_X5 : ∀ w ∈ wsX50, w ∈ wsX5_key := fun w h => List.mem_cons_of_mem _ (List.mem_append_right _ h)
set_option maxRecDepth 100000 in
set_option maxHeartbeats 4000000 in
theorem lX5_key_6 {p : Program} (l : Launch) {e : Env} {s : State} {m : MethodId} {args : Array Value} {below : List Frame} {meth : Method} {c : Code} {Q : State → Prop} {G : gT} (hN : wN G) (hG : gfl G = false) (K : qK p s m args meth c cX5_key 5 RX5 wsX5_key G) : ∀ (k : Nat) (v1 v2 v3 : Int32) (σ : sg) (hw : WM σ) (hv3 : 0 ≤ v3.toInt ∧ v3.toInt ≤ 8) (hmu : (8 - v3.toInt).toNat < k) {ρ : Type} {E : ρ → Prop} {f : Int32 × sg → ρ} (hk : ∀ r : Int32 × sg, (WM r.2) → qq p l e (headSpec wsX5_key rmX5_key).room s m args below meth c Q 5 G E (f r) 43 [some (.ref (gob G 0)), some (.int r.1), none, none, none] [] r.2), qq p l e (headSpec wsX5_key rmX5_key).room s m args below meth c Q 5 G E (bnd (LX5_key_6 k v1 v2 v3 σ) f) 6 [some (.ref (gob G 0)), some (.int v1), some (.int v2), some (.int v3), none] [] σ := by
  intro k
  induction k with
  | zero => intro v1 v2 v3 σ hw hv3 hmu ρ E f hk; exact absurd hmu (Nat.not_lt_zero _)
  | succ k ih =>
    intro v1 v2 v3 σ hw hv3 hmu ρ E f hk
    have k0 : (0 : Int32).toInt = 0 := rfl
    have k1 : (1 : Int32).toInt = 1 := rfl
    refine qq_in ?_
    refine qq_T (LX5_key_6.eq_2 ..) ?_
    refine q_iload_n (pc := 6) K dX5_key_6 rfl rfl ?_
    refine q_aload_n (pc := 7) K dX5_key_7 rfl rfl ?_
    refine q_get (pc := 8) (o := 0) (f := 0) (v := .ref (gad G 0)) K (wO_m hG) vw_4 iwX5_key_X5 (by decide) mX5_key_f9 rfl dX5_key_8 ?_
    refine q_iconst (pc := 11) (v := 0) K dX5_key_11 (by decide) ?_
    refine q_iald (pc := 12) (a := 0) K (by rw [wna_f hG]; decide) (vinN (wlm (n := 80) hG 0 rfl) (by omega) (by omega)) dX5_key_12 ?_
    have w1 := wm_many hw (show 0 < 4 by decide)
    refine q_icmp_ge (pc := 13) (tgt := 43) K dX5_key_13 (by decide) (fun c2 => ?_) (fun c2 => ?_)
    · have i11 := leI c2
      refine qq_drop 2 (lv' := [some (.ref (gob G 0)), some (.int v1), none, some (.int v3), none]) rfl ?_
      refine qq_drop 3 (lv' := [some (.ref (gob G 0)), some (.int v1), none, none, none]) rfl ?_
      exact qq_leaf (hk (v1, σ) hw)
    · have i12 := nleI c2
      refine q_aload_n (pc := 16) K dX5_key_16 rfl rfl ?_
      refine q_iload_n (pc := 17) K dX5_key_17 rfl rfl ?_
      refine q_callVi (pc := 18) (o := 0) (rm := rmX5_fallsWith) K (kX5_fallsWith l hN hG v3 σ hw (by omega)) gX5_key_X5_fallsWith rfl hdV_X5_fallsWith ⟨Nat.le_of_ble_eq_true rfl, Nat.le_of_ble_eq_true rfl⟩ rfl rfl ⟨Nat.zero_le _, Nat.zero_le _⟩ (wO_m hG) vw_4 rfl rfl (Nat.le_of_ble_eq_true rfl) dX5_key_18 ?_
      refine qq_nmI (fun r3 e4 => ?_)
      have hw5 : WM r3.2 := by rw [e4]; exact wX5_fallsWith v3 hw (by omega)
      have fbe4 := fwB hw5 e4
      refine q_callSi (pc := 21) (rm := rmX5_bits) K (kX5_bits l hN r3.1 r3.2 (by omega)) gX5_key_X5_bits rfl hdS_X5_bits ⟨Nat.le_of_ble_eq_true rfl, Nat.le_of_ble_eq_true rfl⟩ rfl rfl ⟨Nat.zero_le _, Nat.zero_le _⟩ rfl rfl (Nat.le_of_ble_eq_true rfl) dX5_key_21 ?_
      refine q_istore (pc := 24) (lv' := [some (.ref (gob G 0)), some (.int v1), some (.int v2), some (.int v3), some (.int (fX5_bits r3.1))]) K dX5_key_24 (by decide) (Nat.le_of_ble_eq_true rfl) rfl ?_
      refine q_iload (pc := 26) K dX5_key_26 rfl ?_
      refine q_iload_n (pc := 28) K dX5_key_28 rfl rfl ?_
      refine q_icmp_le (pc := 29) (tgt := 37) K dX5_key_29 (by decide) (fun c6 => ?_) (fun c6 => ?_)
      · have i9 := leI c6
        refine q_iinc (pc := 37) (v := (v3 + 1)) (lv' := [some (.ref (gob G 0)), some (.int v1), some (.int v2), some (.int (v3 + 1)), some (.int (fX5_bits r3.1))]) K dX5_key_37 rfl rfl (by decide) rfl ?_
        refine q_goto (pc := 40) (tgt := 6) K dX5_key_40 (by decide) ?_
        refine qq_drop 4 (lv' := [some (.ref (gob G 0)), some (.int v1), some (.int v2), some (.int (v3 + 1)), none]) rfl ?_
        have a7 := addI (x := v3) (y := 1) (by omega) (by omega)
        exact qq_out (ih v1 v2 (v3 + 1) r3.2 hw5 (by omega) (by omega) hk)
      · have i10 := nleI c6
        refine q_iload_n (pc := 32) K dX5_key_32 rfl rfl ?_
        refine q_istore_n (pc := 33) (lv' := [some (.ref (gob G 0)), some (.int v3), some (.int v2), some (.int v3), some (.int (fX5_bits r3.1))]) K dX5_key_33 rfl (by decide) (Nat.le_of_ble_eq_true rfl) rfl ?_
        refine q_iload (pc := 34) K dX5_key_34 rfl ?_
        refine q_istore_n (pc := 36) (lv' := [some (.ref (gob G 0)), some (.int v3), some (.int (fX5_bits r3.1)), some (.int v3), some (.int (fX5_bits r3.1))]) K dX5_key_36 rfl (by decide) (Nat.le_of_ble_eq_true rfl) rfl ?_
        refine q_iinc (pc := 37) (v := (v3 + 1)) (lv' := [some (.ref (gob G 0)), some (.int v3), some (.int (fX5_bits r3.1)), some (.int (v3 + 1)), some (.int (fX5_bits r3.1))]) K dX5_key_37 rfl rfl (by decide) rfl ?_
        refine q_goto (pc := 40) (tgt := 6) K dX5_key_40 (by decide) ?_
        refine qq_drop 4 (lv' := [some (.ref (gob G 0)), some (.int v3), some (.int (fX5_bits r3.1)), some (.int (v3 + 1)), none]) rfl ?_
        have a8 := addI (x := v3) (y := 1) (by omega) (by omega)
        exact qq_out (ih v3 (fX5_bits r3.1) (v3 + 1) r3.2 hw5 (by omega) (by omega) hk)
set_option maxRecDepth 100000 in
set_option maxHeartbeats 4000000 in
theorem kX5_key (l : Launch) {G : gT} (hN : wN G) (hG : gfl G = false) (σ : sg) (hw : WM σ) : cM l yX5_key wsX5_key rmX5_key G [.ref (gob G 0)] σ (some (.int (fX5_key σ).1)) (fX5_key σ).2 := by
  refine cM_of (maxL := 5) (ret := (some .int)) (cc := cX5_key) (fX5_key σ) RX5 hN (by decide +kernel) rfl rfl (Nat.le_of_ble_eq_true rfl) rfl ?_
  intro p e s m args below meth c K hr
  have km1 : ((-1) : Int32).toInt = -1 := rfl
  have k0 : (0 : Int32).toInt = 0 := rfl
  have k3 : (3 : Int32).toInt = 3 := rfl
  refine qq_st (lv' := [some (.ref (gob G 0)), none, none, none, none]) rfl rfl rfl ?_
  refine qq_T (fX5_key.eq_1 ..) ?_
  refine q_iconst (pc := 0) (v := (-1)) K dX5_key_0 (by decide) ?_
  refine q_istore_n (pc := 1) (lv' := [some (.ref (gob G 0)), some (.int (-1)), none, none, none]) K dX5_key_1 rfl (by decide) (Nat.le_of_ble_eq_true rfl) rfl ?_
  refine q_iconst (pc := 2) (v := (-1)) K dX5_key_2 (by decide) ?_
  refine q_istore_n (pc := 3) (lv' := [some (.ref (gob G 0)), some (.int (-1)), some (.int (-1)), none, none]) K dX5_key_3 rfl (by decide) (Nat.le_of_ble_eq_true rfl) rfl ?_
  refine q_iconst (pc := 4) (v := 0) K dX5_key_4 (by decide) ?_
  refine q_istore_n (pc := 5) (lv' := [some (.ref (gob G 0)), some (.int (-1)), some (.int (-1)), some (.int 0), none]) K dX5_key_5 rfl (by decide) (Nat.le_of_ble_eq_true rfl) rfl ?_
  refine lX5_key_6 l hN hG K 9 (-1) (-1) 0 σ hw (by omega) (by omega) (fun r13 hw15 => ?_)
  refine q_iload_n (pc := 43) K dX5_key_43 rfl rfl ?_
  refine q_if_ge (pc := 44) (tgt := 55) K dX5_key_44 (by decide) (fun c16 => ?_) (fun c16 => ?_)
  · have i20 := leI c16
    refine q_iload_n (pc := 55) K dX5_key_55 rfl rfl ?_
    exact q_iret K hr dX5_key_56
  · have i21 := nleI c16
    refine q_aload_n (pc := 47) K dX5_key_47 rfl rfl ?_
    refine q_iconst (pc := 48) (v := 3) K dX5_key_48 (by decide) ?_
    refine q_callVi (pc := 49) (o := 0) (rm := rmX5_finding) K (kX5_finding l hN hG 3 r13.2 hw15 (by omega)) gX5_key_X5_finding rfl hdV_X5_finding ⟨Nat.le_of_ble_eq_true rfl, Nat.le_of_ble_eq_true rfl⟩ rfl rfl ⟨Nat.zero_le _, Nat.zero_le _⟩ (wO_m hG) vw_4 rfl rfl (Nat.le_of_ble_eq_true rfl) dX5_key_49 ?_
    refine qq_nmI (fun r17 e18 => ?_)
    have hw19 : WM r17.2 := by rw [e18]; exact wX5_finding 3 hw15 (by omega)
    refine q_goto (pc := 52) (tgt := 56) K dX5_key_52 (by decide) ?_
    exact q_iret K hr dX5_key_56
theorem hdV_X5_began : yX5_began.cls = RX5 ∧ yX5_began.cls ≠ "java/lang/invoke/MethodHandle" ∧ yX5_began.cls ≠ "java/lang/invoke/VarHandle" ∧ (parseMethodDescriptor yX5_began.desc).map (fun d => d.parameters.length) = some 0 := by decide +kernel
theorem mX5_began_f9 : Cond.fieldLink RX5 9 "WaxTreatiesModel" "now" "[I" ∈ wsX5_began := List.mem_of_getElem? (i := 1) rfl
theorem iwX5_began_X5 : ∀ w ∈ wsX50, w ∈ wsX5_began := fun w h => List.mem_cons_of_mem _ (List.mem_append_right _ h)
theorem mX5_began_f16 : Cond.fieldLink RX5 16 "WaxTreatiesModel" "tried" "[I" ∈ wsX5_began := List.mem_of_getElem? (i := 2) rfl
set_option maxRecDepth 100000 in
set_option maxHeartbeats 4000000 in
theorem lX5_began_50 {p : Program} (l : Launch) {e : Env} {s : State} {m : MethodId} {args : Array Value} {below : List Frame} {meth : Method} {c : Code} {Q : State → Prop} {G : gT} (hN : wN G) (hG : gfl G = false) (K : qK p s m args meth c cX5_began 4 RX5 wsX5_began G) : ∀ (k : Nat) (v1 v2 v3 : Int32) (σ : sg) (hw : WM σ) (hv3 : 0 ≤ v3.toInt ∧ v3.toInt ≤ 8) (hmu : (8 - v3.toInt).toNat < k) {ρ : Type} {E : ρ → Prop} {f : sg → ρ} (hk : ∀ r : sg, (WM r) → qq p l e (headSpec wsX5_began rmX5_began).room s m args below meth c Q 4 G E (f r) 86 [some (.ref (gob G 0)), some (.int v1), some (.int v2), none] [] r), qq p l e (headSpec wsX5_began rmX5_began).room s m args below meth c Q 4 G E (bnd (LX5_began_50 k v1 v2 v3 σ) f) 50 [some (.ref (gob G 0)), some (.int v1), some (.int v2), some (.int v3)] [] σ := by
  intro k
  induction k with
  | zero => intro v1 v2 v3 σ hw hv3 hmu ρ E f hk; exact absurd hmu (Nat.not_lt_zero _)
  | succ k ih =>
    intro v1 v2 v3 σ hw hv3 hmu ρ E f hk
    have k0 : (0 : Int32).toInt = 0 := rfl
    have k1 : (1 : Int32).toInt = 1 := rfl
    have k56 : (56 : Int32).toInt = 56 := rfl
    have k64 : (64 : Int32).toInt = 64 := rfl
    refine qq_in ?_
    refine qq_T (LX5_began_50.eq_2 ..) ?_
    refine q_iload_n (pc := 50) K dX5_began_50 rfl rfl ?_
    refine q_aload_n (pc := 51) K dX5_began_51 rfl rfl ?_
    refine q_get (pc := 52) (o := 0) (f := 0) (v := .ref (gad G 0)) K (wO_m hG) vw_4 iwX5_began_X5 (by decide) mX5_began_f9 rfl dX5_began_52 ?_
    refine q_iconst (pc := 55) (v := 0) K dX5_began_55 (by decide) ?_
    refine q_iald (pc := 56) (a := 0) K (by rw [wna_f hG]; decide) (vinN (wlm (n := 80) hG 0 rfl) (by omega) (by omega)) dX5_began_56 ?_
    have w11 := wm_many hw (show 0 < 4 by decide)
    refine q_icmp_ge (pc := 57) (tgt := 86) K dX5_began_57 (by decide) (fun c12 => ?_) (fun c12 => ?_)
    · have i26 := leI c12
      refine qq_drop 3 (lv' := [some (.ref (gob G 0)), some (.int v1), some (.int v2), none]) rfl ?_
      exact qq_leaf (hk σ hw)
    · have i27 := nleI c12
      refine q_aload_n (pc := 60) K dX5_began_60 rfl rfl ?_
      refine q_get (pc := 61) (o := 0) (f := 2) (v := .ref (gad G 2)) K (wO_m hG) vw_4 iwX5_began_X5 (by decide) mX5_began_f16 rfl dX5_began_61 ?_
      refine q_bipush (pc := 64) (v := 56) K dX5_began_64 (by decide) ?_
      refine q_iload_n (pc := 66) K dX5_began_66 rfl rfl ?_
      refine q_iadd (pc := 67) K dX5_began_67 ?_
      refine q_iconst (pc := 68) (v := 0) K dX5_began_68 (by decide) ?_
      have a13 := addI (x := 56) (y := v3) (by omega) (by omega)
      refine q_iast (pc := 69) (a := 2) K (by rw [wna_f hG]; decide) (vinN (wlm (n := 80) hG 2 rfl) (by omega) (by omega)) dX5_began_69 (fun s14 e15 => ?_)
      have hw16 : WM s14 := by rw [e15]; exact wmRn hw (by decide) (by omega) (by omega) (by omega) (by omega)
      have m17 := mKeep e15 (by omega)
      have m18 := many6 e15 (show 0 ≠ 2 by decide)
      refine q_aload_n (pc := 70) K dX5_began_70 rfl rfl ?_
      refine q_get (pc := 71) (o := 0) (f := 2) (v := .ref (gad G 2)) K (wO_m hG) vw_4 iwX5_began_X5 (by decide) mX5_began_f16 rfl dX5_began_71 ?_
      refine q_bipush (pc := 74) (v := 64) K dX5_began_74 (by decide) ?_
      refine q_iload_n (pc := 76) K dX5_began_76 rfl rfl ?_
      refine q_iadd (pc := 77) K dX5_began_77 ?_
      refine q_iconst (pc := 78) (v := 0) K dX5_began_78 (by decide) ?_
      have a19 := addI (x := 64) (y := v3) (by omega) (by omega)
      refine q_iast (pc := 79) (a := 2) K (by rw [wna_f hG]; decide) (vinN (wlm (n := 80) hG 2 rfl) (by omega) (by omega)) dX5_began_79 (fun s20 e21 => ?_)
      have hw22 : WM s20 := by rw [e21]; exact wmRn hw16 (by decide) (by omega) (by omega) (by omega) (by omega)
      have m23 := mKeep e21 (by omega)
      have m24 := many6 e21 (show 0 ≠ 2 by decide)
      refine q_iinc (pc := 80) (v := (v3 + 1)) (lv' := [some (.ref (gob G 0)), some (.int v1), some (.int v2), some (.int (v3 + 1))]) K dX5_began_80 rfl rfl (by decide) rfl ?_
      refine q_goto (pc := 83) (tgt := 50) K dX5_began_83 (by decide) ?_
      have a25 := addI (x := v3) (y := 1) (by omega) (by omega)
      exact qq_out (ih v1 v2 (v3 + 1) s20 hw22 (by omega) (by omega) hk)
set_option maxRecDepth 100000 in
set_option maxHeartbeats 4000000 in
theorem lX5_began_21 {p : Program} (l : Launch) {e : Env} {s : State} {m : MethodId} {args : Array Value} {below : List Frame} {meth : Method} {c : Code} {Q : State → Prop} {G : gT} (hN : wN G) (hG : gfl G = false) (K : qK p s m args meth c cX5_began 4 RX5 wsX5_began G) : ∀ (k : Nat) (v1 v2 : Int32) (σ : sg) (hw : WM σ) (hv2 : 0 ≤ v2.toInt ∧ v2.toInt ≤ 25) (hmu : (25 - v2.toInt).toNat < k) {ρ : Type} {E : ρ → Prop} {f : Int32 × sg → ρ} (hk : ∀ r : Int32 × sg, (WM r.2) → qq p l e (headSpec wsX5_began rmX5_began).room s m args below meth c Q 4 G E (f r) 125 [none, some (.int r.1), none, none] [] r.2), qq p l e (headSpec wsX5_began rmX5_began).room s m args below meth c Q 4 G E (bnd (LX5_began_21 k v1 v2 σ) f) 21 [some (.ref (gob G 0)), some (.int v1), some (.int v2), none] [] σ := by
  intro k
  induction k with
  | zero => intro v1 v2 σ hw hv2 hmu ρ E f hk; exact absurd hmu (Nat.not_lt_zero _)
  | succ k ih =>
    intro v1 v2 σ hw hv2 hmu ρ E f hk
    have k0 : (0 : Int32).toInt = 0 := rfl
    have k1 : (1 : Int32).toInt = 1 := rfl
    have k2 : (2 : Int32).toInt = 2 := rfl
    have k24 : (24 : Int32).toInt = 24 := rfl
    refine qq_in ?_
    refine qq_T (LX5_began_21.eq_2 ..) ?_
    refine q_iload_n (pc := 21) K dX5_began_21 rfl rfl ?_
    refine q_bipush (pc := 22) (v := 24) K dX5_began_22 (by decide) ?_
    refine q_icmp_gt (pc := 24) (tgt := 125) K dX5_began_24 (by decide) (fun c2 => ?_) (fun c2 => ?_)
    · have i39 := ltI c2
      refine qq_drop 0 (lv' := [none, some (.int v1), some (.int v2), none]) rfl ?_
      refine qq_drop 2 (lv' := [none, some (.int v1), none, none]) rfl ?_
      exact qq_leaf (hk (v1, σ) hw)
    · have i40 := nltI c2
      refine q_aload_n (pc := 27) K dX5_began_27 rfl rfl ?_
      refine q_get (pc := 28) (o := 0) (f := 0) (v := .ref (gad G 0)) K (wO_m hG) vw_4 iwX5_began_X5 (by decide) mX5_began_f9 rfl dX5_began_28 ?_
      refine q_aload_n (pc := 31) K dX5_began_31 rfl rfl ?_
      refine q_get (pc := 32) (o := 0) (f := 2) (v := .ref (gad G 2)) K (wO_m hG) vw_4 iwX5_began_X5 (by decide) mX5_began_f16 rfl dX5_began_32 ?_
      refine q_callSv (pc := 35) (rm := rmX5_row) K (kX5_row l hN hG 0 (by decide) 2 (by decide) σ (by omega)) gX5_began_X5_row rfl hdS_X5_row ⟨Nat.le_of_ble_eq_true rfl, Nat.le_of_ble_eq_true rfl⟩ rfl rfl ⟨Nat.zero_le _, Nat.zero_le _⟩ rfl rfl (Nat.le_of_ble_eq_true rfl) dX5_began_35 ?_
      refine qq_nmV (fun r3 e4 => ?_)
      have hw5 : WM r3 := by rw [e4]; exact wX5_row 0 (by decide) 2 (by decide) hw (by omega)
      have me4 := row0 (show 0 ≠ 2 by decide) e4
      refine q_aload_n (pc := 38) K dX5_began_38 rfl rfl ?_
      refine q_get (pc := 39) (o := 0) (f := 2) (v := .ref (gad G 2)) K (wO_m hG) vw_4 iwX5_began_X5 (by decide) mX5_began_f16 rfl dX5_began_39 ?_
      refine q_iconst (pc := 42) (v := 2) K dX5_began_42 (by decide) ?_
      refine q_dup2 (pc := 43) K dX5_began_43 rfl rfl ?_
      refine q_iald (pc := 44) (a := 2) K (by rw [wna_f hG]; decide) (vinN (wlm (n := 80) hG 2 rfl) (by omega) (by omega)) dX5_began_44 ?_
      refine q_iload_n (pc := 45) K dX5_began_45 rfl rfl ?_
      refine q_isub (pc := 46) K dX5_began_46 ?_
      refine q_iast (pc := 47) (a := 2) K (by rw [wna_f hG]; decide) (vinN (wlm (n := 80) hG 2 rfl) (by omega) (by omega)) dX5_began_47 (fun s6 e7 => ?_)
      have hw8 : WM s6 := by rw [e7]; exact wmRn hw5 (by decide) (by omega) (by omega) (by omega) (by omega)
      have m9 := mKeep e7 (by omega)
      have m10 := many6 e7 (show 0 ≠ 2 by decide)
      refine q_iconst (pc := 48) (v := 0) K dX5_began_48 (by decide) ?_
      refine q_istore_n (pc := 49) (lv' := [some (.ref (gob G 0)), some (.int v1), some (.int v2), some (.int 0)]) K dX5_began_49 rfl (by decide) (Nat.le_of_ble_eq_true rfl) rfl ?_
      refine lX5_began_50 l hN hG K 9 v1 v2 0 s6 hw8 (by omega) (by omega) (fun r28 hw30 => ?_)
      refine q_aload_n (pc := 86) K dX5_began_86 rfl rfl ?_
      refine q_iload_n (pc := 87) K dX5_began_87 rfl rfl ?_
      refine q_callVi (pc := 88) (o := 0) (rm := rmX5_holdingBehind) K (kX5_holdingBehind l hN hG v2 r28 hw30 (by omega)) gX5_began_X5_holdingBehind rfl hdV_X5_holdingBehind ⟨Nat.le_of_ble_eq_true rfl, Nat.le_of_ble_eq_true rfl⟩ rfl rfl ⟨Nat.zero_le _, Nat.zero_le _⟩ (wO_m hG) vw_4 rfl rfl (Nat.le_of_ble_eq_true rfl) dX5_began_88 ?_
      refine qq_nmI (fun r31 e32 => ?_)
      have hw33 : WM r31.2 := by rw [e32]; exact wX5_holdingBehind v2 hw30 (by omega)
      have hbe32 := hbB hw33 e32
      have hme32 := hbm e32
      refine q_istore_n (pc := 91) (lv' := [some (.ref (gob G 0)), some (.int v1), some (.int v2), some (.int r31.1)]) K dX5_began_91 rfl (by decide) (Nat.le_of_ble_eq_true rfl) rfl ?_
      refine q_iload_n (pc := 92) K dX5_began_92 rfl rfl ?_
      refine q_aload_n (pc := 93) K dX5_began_93 rfl rfl ?_
      refine q_get (pc := 94) (o := 0) (f := 2) (v := .ref (gad G 2)) K (wO_m hG) vw_4 iwX5_began_X5 (by decide) mX5_began_f16 rfl dX5_began_94 ?_
      refine q_callSi (pc := 97) (rm := rmX5_ran) K (kX5_ran l hN hG 2 (by decide) r31.2 hw33) gX5_began_X5_ran rfl hdS_X5_ran ⟨Nat.le_of_ble_eq_true rfl, Nat.le_of_ble_eq_true rfl⟩ rfl rfl ⟨Nat.zero_le _, Nat.zero_le _⟩ rfl rfl (Nat.le_of_ble_eq_true rfl) dX5_began_97 ?_
      refine q_aload_n (pc := 100) K dX5_began_100 rfl rfl ?_
      refine q_get (pc := 101) (o := 0) (f := 0) (v := .ref (gad G 0)) K (wO_m hG) vw_4 iwX5_began_X5 (by decide) mX5_began_f9 rfl dX5_began_101 ?_
      refine q_callSi (pc := 104) (rm := rmX5_ran) K (kX5_ran l hN hG 0 (by decide) r31.2 hw33) gX5_began_X5_ran rfl hdS_X5_ran ⟨Nat.le_of_ble_eq_true rfl, Nat.le_of_ble_eq_true rfl⟩ rfl rfl ⟨Nat.zero_le _, Nat.zero_le _⟩ rfl rfl (Nat.le_of_ble_eq_true rfl) dX5_began_104 ?_
      refine q_icmp_ne (pc := 107) (tgt := 116) K dX5_began_107 (by decide) (fun c34 => ?_) (fun c34 => ?_)
      · have i37 := neI c34
        refine q_iconst (pc := 116) (v := 0) K dX5_began_116 (by decide) ?_
        refine q_ior (pc := 117) K dX5_began_117 ?_
        refine q_istore_n (pc := 118) (lv' := [some (.ref (gob G 0)), some (.int (v1 ||| 0)), some (.int v2), some (.int r31.1)]) K dX5_began_118 rfl (by decide) (Nat.le_of_ble_eq_true rfl) rfl ?_
        refine q_iinc (pc := 119) (v := (v2 + 1)) (lv' := [some (.ref (gob G 0)), some (.int (v1 ||| 0)), some (.int (v2 + 1)), some (.int r31.1)]) K dX5_began_119 rfl rfl (by decide) rfl ?_
        refine q_goto (pc := 122) (tgt := 21) K dX5_began_122 (by decide) ?_
        refine qq_drop 3 (lv' := [some (.ref (gob G 0)), some (.int (v1 ||| 0)), some (.int (v2 + 1)), none]) rfl ?_
        have a35 := addI (x := v2) (y := 1) (by omega) (by omega)
        exact qq_out (ih (v1 ||| 0) (v2 + 1) r31.2 hw33 (by omega) (by omega) hk)
      · have i38 := eqI c34
        refine q_iconst (pc := 110) (v := 1) K dX5_began_110 (by decide) ?_
        refine q_iload_n (pc := 111) K dX5_began_111 rfl rfl ?_
        refine q_ishl (pc := 112) K dX5_began_112 ?_
        refine q_goto (pc := 113) (tgt := 117) K dX5_began_113 (by decide) ?_
        refine q_ior (pc := 117) K dX5_began_117 ?_
        refine q_istore_n (pc := 118) (lv' := [some (.ref (gob G 0)), some (.int (v1 ||| (jshl 1 v2))), some (.int v2), some (.int r31.1)]) K dX5_began_118 rfl (by decide) (Nat.le_of_ble_eq_true rfl) rfl ?_
        refine q_iinc (pc := 119) (v := (v2 + 1)) (lv' := [some (.ref (gob G 0)), some (.int (v1 ||| (jshl 1 v2))), some (.int (v2 + 1)), some (.int r31.1)]) K dX5_began_119 rfl rfl (by decide) rfl ?_
        refine q_goto (pc := 122) (tgt := 21) K dX5_began_122 (by decide) ?_
        refine qq_drop 3 (lv' := [some (.ref (gob G 0)), some (.int (v1 ||| (jshl 1 v2))), some (.int (v2 + 1)), none]) rfl ?_
        have a36 := addI (x := v2) (y := 1) (by omega) (by omega)
        exact qq_out (ih (v1 ||| (jshl 1 v2)) (v2 + 1) r31.2 hw33 (by omega) (by omega) hk)
set_option maxRecDepth 100000 in
set_option maxHeartbeats 4000000 in
theorem kX5_began (l : Launch) {G : gT} (hN : wN G) (hG : gfl G = false) (σ : sg) (hw : WM σ) : cM l yX5_began wsX5_began rmX5_began G [.ref (gob G 0)] σ (some (.int (fX5_began σ).1)) (fX5_began σ).2 := by
  refine cM_of (maxL := 4) (ret := (some .int)) (cc := cX5_began) (fX5_began σ) RX5 hN (by decide +kernel) rfl rfl (Nat.le_of_ble_eq_true rfl) rfl ?_
  intro p e s m args below meth c K hr
  have k0 : (0 : Int32).toInt = 0 := rfl
  have k1 : (1 : Int32).toInt = 1 := rfl
  have k2 : (2 : Int32).toInt = 2 := rfl
  have k4 : (4 : Int32).toInt = 4 := rfl
  have k24 : (24 : Int32).toInt = 24 := rfl
  refine qq_st (lv' := [some (.ref (gob G 0)), none, none, none]) rfl rfl rfl ?_
  refine qq_T (fX5_began.eq_1 ..) ?_
  refine q_aload_n (pc := 0) K dX5_began_0 rfl rfl ?_
  refine q_get (pc := 1) (o := 0) (f := 0) (v := .ref (gad G 0)) K (wO_m hG) vw_4 iwX5_began_X5 (by decide) mX5_began_f9 rfl dX5_began_1 ?_
  refine q_iconst (pc := 4) (v := 2) K dX5_began_4 (by decide) ?_
  refine q_iald (pc := 5) (a := 0) K (by rw [wna_f hG]; decide) (vinN (wlm (n := 80) hG 0 rfl) (by omega) (by omega)) dX5_began_5 ?_
  refine q_bipush (pc := 6) (v := 24) K dX5_began_6 (by decide) ?_
  refine q_icmp_ge (pc := 8) (tgt := 17) K dX5_began_8 (by decide) (fun c1 => ?_) (fun c1 => ?_)
  · have i47 := leI c1
    refine q_iconst (pc := 17) (v := 0) K dX5_began_17 (by decide) ?_
    refine q_istore_n (pc := 18) (lv' := [some (.ref (gob G 0)), some (.int 0), none, none]) K dX5_began_18 rfl (by decide) (Nat.le_of_ble_eq_true rfl) rfl ?_
    refine q_iconst (pc := 19) (v := 1) K dX5_began_19 (by decide) ?_
    refine q_istore_n (pc := 20) (lv' := [some (.ref (gob G 0)), some (.int 0), some (.int 1), none]) K dX5_began_20 rfl (by decide) (Nat.le_of_ble_eq_true rfl) rfl ?_
    refine lX5_began_21 l hN hG K 26 0 1 σ hw (by omega) (by omega) (fun r41 hw43 => ?_)
    refine q_iload_n (pc := 125) K dX5_began_125 rfl rfl ?_
    exact q_iret K hr dX5_began_126
  · have i48 := nleI c1
    refine q_aload_n (pc := 11) K dX5_began_11 rfl rfl ?_
    refine q_iconst (pc := 12) (v := 4) K dX5_began_12 (by decide) ?_
    refine q_callVi (pc := 13) (o := 0) (rm := rmX5_finding) K (kX5_finding l hN hG 4 σ hw (by omega)) gX5_began_X5_finding rfl hdV_X5_finding ⟨Nat.le_of_ble_eq_true rfl, Nat.le_of_ble_eq_true rfl⟩ rfl rfl ⟨Nat.zero_le _, Nat.zero_le _⟩ (wO_m hG) vw_4 rfl rfl (Nat.le_of_ble_eq_true rfl) dX5_began_13 ?_
    refine qq_nmI (fun r44 e45 => ?_)
    have hw46 : WM r44.2 := by rw [e45]; exact wX5_finding 4 hw (by omega)
    exact q_iret K hr dX5_began_16
theorem hdV_X5_opened : yX5_opened.cls = RX5 ∧ yX5_opened.cls ≠ "java/lang/invoke/MethodHandle" ∧ yX5_opened.cls ≠ "java/lang/invoke/VarHandle" ∧ (parseMethodDescriptor yX5_opened.desc).map (fun d => d.parameters.length) = some 2 := by decide +kernel
theorem mX5_opened_f9 : Cond.fieldLink RX5 9 "WaxTreatiesModel" "now" "[I" ∈ wsX5_opened := List.mem_of_getElem? (i := 1) rfl
theorem iwX5_opened_X5 : ∀ w ∈ wsX50, w ∈ wsX5_opened := fun w h => List.mem_cons_of_mem _ (List.mem_append_right _ h)
theorem mX5_opened_f16 : Cond.fieldLink RX5 16 "WaxTreatiesModel" "tried" "[I" ∈ wsX5_opened := List.mem_of_getElem? (i := 2) rfl
set_option maxRecDepth 100000 in
set_option maxHeartbeats 4000000 in
theorem lX5_opened_74 {p : Program} (l : Launch) {e : Env} {s : State} {m : MethodId} {args : Array Value} {below : List Frame} {meth : Method} {c : Code} {Q : State → Prop} {G : gT} (hN : wN G) (hG : gfl G = false) (K : qK p s m args meth c cX5_opened 7 RX5 wsX5_opened G) : ∀ (k : Nat) (v1 v2 v4 v5 v6 : Int32) (σ : sg) (hw : WM σ) (hv6 : 0 ≤ v6.toInt ∧ v6.toInt ≤ 6) (hmu : (6 - v6.toInt).toNat < k) {ρ : Type} {E : ρ → Prop} {f : sg → ρ} (hk : ∀ r : sg, (WM r) → qq p l e (headSpec wsX5_opened rmX5_opened).room s m args below meth c Q 7 G E (f r) 103 [some (.ref (gob G 0)), some (.int v1), some (.int v2), none, some (.int v4), some (.int v5), none] [] r), qq p l e (headSpec wsX5_opened rmX5_opened).room s m args below meth c Q 7 G E (bnd (LX5_opened_74 k v1 v2 v4 v5 v6 σ) f) 74 [some (.ref (gob G 0)), some (.int v1), some (.int v2), none, some (.int v4), some (.int v5), some (.int v6)] [] σ := by
  intro k
  induction k with
  | zero => intro v1 v2 v4 v5 v6 σ hw hv6 hmu ρ E f hk; exact absurd hmu (Nat.not_lt_zero _)
  | succ k ih =>
    intro v1 v2 v4 v5 v6 σ hw hv6 hmu ρ E f hk
    have k0 : (0 : Int32).toInt = 0 := rfl
    have k1 : (1 : Int32).toInt = 1 := rfl
    have k4 : (4 : Int32).toInt = 4 := rfl
    have k6 : (6 : Int32).toInt = 6 := rfl
    refine qq_in ?_
    refine qq_T (LX5_opened_74.eq_2 ..) ?_
    refine q_iload (pc := 74) K dX5_opened_74 rfl ?_
    refine q_bipush (pc := 76) (v := 6) K dX5_opened_76 (by decide) ?_
    refine q_icmp_ge (pc := 78) (tgt := 103) K dX5_opened_78 (by decide) (fun c19 => ?_) (fun c19 => ?_)
    · have i27 := leI c19
      refine qq_drop 6 (lv' := [some (.ref (gob G 0)), some (.int v1), some (.int v2), none, some (.int v4), some (.int v5), none]) rfl ?_
      exact qq_leaf (hk σ hw)
    · have i28 := nleI c19
      refine q_aload_n (pc := 81) K dX5_opened_81 rfl rfl ?_
      refine q_get (pc := 82) (o := 0) (f := 2) (v := .ref (gad G 2)) K (wO_m hG) vw_4 iwX5_opened_X5 (by decide) mX5_opened_f16 rfl dX5_opened_82 ?_
      refine q_iconst (pc := 85) (v := 4) K dX5_opened_85 (by decide) ?_
      refine q_iload (pc := 86) K dX5_opened_86 rfl ?_
      refine q_iadd (pc := 88) K dX5_opened_88 ?_
      refine q_iload (pc := 89) K dX5_opened_89 rfl ?_
      refine q_iload (pc := 91) K dX5_opened_91 rfl ?_
      refine q_ishr (pc := 93) K dX5_opened_93 ?_
      refine q_iconst (pc := 94) (v := 1) K dX5_opened_94 (by decide) ?_
      refine q_iand (pc := 95) K dX5_opened_95 ?_
      have a20 := addI (x := 4) (y := v6) (by omega) (by omega)
      refine q_iast (pc := 96) (a := 2) K (by rw [wna_f hG]; decide) (vinN (wlm (n := 80) hG 2 rfl) (by omega) (by omega)) dX5_opened_96 (fun s21 e22 => ?_)
      have hw23 : WM s21 := by rw [e22]; exact wmRn hw (by decide) (by omega) (by omega) (by omega) (by omega)
      have m24 := mKeep e22 (by omega)
      have m25 := many6 e22 (show 0 ≠ 2 by decide)
      refine q_iinc (pc := 97) (v := (v6 + 1)) (lv' := [some (.ref (gob G 0)), some (.int v1), some (.int v2), none, some (.int v4), some (.int v5), some (.int (v6 + 1))]) K dX5_opened_97 rfl rfl (by decide) rfl ?_
      refine q_goto (pc := 100) (tgt := 74) K dX5_opened_100 (by decide) ?_
      have a26 := addI (x := v6) (y := 1) (by omega) (by omega)
      exact qq_out (ih v1 v2 v4 v5 (v6 + 1) s21 hw23 (by omega) (by omega) hk)
set_option maxRecDepth 100000 in
set_option maxHeartbeats 4000000 in
theorem lX5_opened_53 {p : Program} (l : Launch) {e : Env} {s : State} {m : MethodId} {args : Array Value} {below : List Frame} {meth : Method} {c : Code} {Q : State → Prop} {G : gT} (hN : wN G) (hG : gfl G = false) (K : qK p s m args meth c cX5_opened 7 RX5 wsX5_opened G) : ∀ (k : Nat) (v1 v2 v4 v5 : Int32) (σ : sg) (hw : WM σ) (hv5 : 0 ≤ v5.toInt ∧ v5.toInt ≤ 64) (hnv2 : v2.toInt ≤ 24) (hmu : (64 - v5.toInt).toNat < k) {ρ : Type} {E : ρ → Prop} {f : Int32 × sg → ρ} (hk : ∀ r : Int32 × sg, (WM r.2) → qq p l e (headSpec wsX5_opened rmX5_opened).room s m args below meth c Q 7 G E (f r) 137 [none, none, none, none, some (.int r.1), none, none] [] r.2), qq p l e (headSpec wsX5_opened rmX5_opened).room s m args below meth c Q 7 G E (bnd (LX5_opened_53 k v1 v2 v4 v5 σ) f) 53 [some (.ref (gob G 0)), some (.int v1), some (.int v2), none, some (.int v4), some (.int v5), none] [] σ := by
  intro k
  induction k with
  | zero => intro v1 v2 v4 v5 σ hw hv5 hnv2 hmu ρ E f hk; exact absurd hmu (Nat.not_lt_zero _)
  | succ k ih =>
    intro v1 v2 v4 v5 σ hw hv5 hnv2 hmu ρ E f hk
    have k0 : (0 : Int32).toInt = 0 := rfl
    have k1 : (1 : Int32).toInt = 1 := rfl
    have k64 : (64 : Int32).toInt = 64 := rfl
    refine qq_in ?_
    refine qq_T (LX5_opened_53.eq_2 ..) ?_
    refine q_iload (pc := 53) K dX5_opened_53 rfl ?_
    refine q_bipush (pc := 55) (v := 64) K dX5_opened_55 (by decide) ?_
    refine q_icmp_ge (pc := 57) (tgt := 137) K dX5_opened_57 (by decide) (fun c15 => ?_) (fun c15 => ?_)
    · have i40 := leI c15
      refine qq_drop 0 (lv' := [none, some (.int v1), some (.int v2), none, some (.int v4), some (.int v5), none]) rfl ?_
      refine qq_drop 1 (lv' := [none, none, some (.int v2), none, some (.int v4), some (.int v5), none]) rfl ?_
      refine qq_drop 2 (lv' := [none, none, none, none, some (.int v4), some (.int v5), none]) rfl ?_
      refine qq_drop 5 (lv' := [none, none, none, none, some (.int v4), none, none]) rfl ?_
      exact qq_leaf (hk (v4, σ) hw)
    · have i41 := nleI c15
      refine q_aload_n (pc := 60) K dX5_opened_60 rfl rfl ?_
      refine q_get (pc := 61) (o := 0) (f := 0) (v := .ref (gad G 0)) K (wO_m hG) vw_4 iwX5_opened_X5 (by decide) mX5_opened_f9 rfl dX5_opened_61 ?_
      refine q_aload_n (pc := 64) K dX5_opened_64 rfl rfl ?_
      refine q_get (pc := 65) (o := 0) (f := 2) (v := .ref (gad G 2)) K (wO_m hG) vw_4 iwX5_opened_X5 (by decide) mX5_opened_f16 rfl dX5_opened_65 ?_
      refine q_callSv (pc := 68) (rm := rmX5_row) K (kX5_row l hN hG 0 (by decide) 2 (by decide) σ (by omega)) gX5_opened_X5_row rfl hdS_X5_row ⟨Nat.le_of_ble_eq_true rfl, Nat.le_of_ble_eq_true rfl⟩ rfl rfl ⟨Nat.zero_le _, Nat.zero_le _⟩ rfl rfl (Nat.le_of_ble_eq_true rfl) dX5_opened_68 ?_
      refine qq_nmV (fun r16 e17 => ?_)
      have hw18 : WM r16 := by rw [e17]; exact wX5_row 0 (by decide) 2 (by decide) hw (by omega)
      have me17 := row0 (show 0 ≠ 2 by decide) e17
      refine q_iconst (pc := 71) (v := 0) K dX5_opened_71 (by decide) ?_
      refine q_istore (pc := 72) (lv' := [some (.ref (gob G 0)), some (.int v1), some (.int v2), none, some (.int v4), some (.int v5), some (.int 0)]) K dX5_opened_72 (by decide) (Nat.le_of_ble_eq_true rfl) rfl ?_
      refine lX5_opened_74 l hN hG K 7 v1 v2 v4 v5 0 r16 hw18 (by omega) (by omega) (fun r29 hw31 => ?_)
      refine q_aload_n (pc := 103) K dX5_opened_103 rfl rfl ?_
      refine q_iload_n (pc := 104) K dX5_opened_104 rfl rfl ?_
      refine q_callVi (pc := 105) (o := 0) (rm := rmX5_holdingBehind) K (kX5_holdingBehind l hN hG v2 r29 hw31 (by omega)) gX5_opened_X5_holdingBehind rfl hdV_X5_holdingBehind ⟨Nat.le_of_ble_eq_true rfl, Nat.le_of_ble_eq_true rfl⟩ rfl rfl ⟨Nat.zero_le _, Nat.zero_le _⟩ (wO_m hG) vw_4 rfl rfl (Nat.le_of_ble_eq_true rfl) dX5_opened_105 ?_
      refine qq_nmI (fun r32 e33 => ?_)
      have hw34 : WM r32.2 := by rw [e33]; exact wX5_holdingBehind v2 hw31 (by omega)
      have hbe33 := hbB hw34 e33
      have hme33 := hbm e33
      refine q_istore (pc := 108) (lv' := [some (.ref (gob G 0)), some (.int v1), some (.int v2), none, some (.int v4), some (.int v5), some (.int r32.1)]) K dX5_opened_108 (by decide) (Nat.le_of_ble_eq_true rfl) rfl ?_
      refine q_iload (pc := 110) K dX5_opened_110 rfl ?_
      refine q_aload_n (pc := 112) K dX5_opened_112 rfl rfl ?_
      refine q_get (pc := 113) (o := 0) (f := 2) (v := .ref (gad G 2)) K (wO_m hG) vw_4 iwX5_opened_X5 (by decide) mX5_opened_f16 rfl dX5_opened_113 ?_
      refine q_callSi (pc := 116) (rm := rmX5_ran) K (kX5_ran l hN hG 2 (by decide) r32.2 hw34) gX5_opened_X5_ran rfl hdS_X5_ran ⟨Nat.le_of_ble_eq_true rfl, Nat.le_of_ble_eq_true rfl⟩ rfl rfl ⟨Nat.zero_le _, Nat.zero_le _⟩ rfl rfl (Nat.le_of_ble_eq_true rfl) dX5_opened_116 ?_
      refine q_iload_n (pc := 119) K dX5_opened_119 rfl rfl ?_
      refine q_icmp_ne (pc := 120) (tgt := 127) K dX5_opened_120 (by decide) (fun c35 => ?_) (fun c35 => ?_)
      · have i38 := neI c35
        refine q_iconst (pc := 127) (v := 0) K dX5_opened_127 (by decide) ?_
        refine q_iadd (pc := 128) K dX5_opened_128 ?_
        refine q_istore (pc := 129) (lv' := [some (.ref (gob G 0)), some (.int v1), some (.int v2), none, some (.int (v4 + 0)), some (.int v5), some (.int r32.1)]) K dX5_opened_129 (by decide) (Nat.le_of_ble_eq_true rfl) rfl ?_
        refine q_iinc (pc := 131) (v := (v5 + 1)) (lv' := [some (.ref (gob G 0)), some (.int v1), some (.int v2), none, some (.int (v4 + 0)), some (.int (v5 + 1)), some (.int r32.1)]) K dX5_opened_131 rfl rfl (by decide) rfl ?_
        refine q_goto (pc := 134) (tgt := 53) K dX5_opened_134 (by decide) ?_
        refine qq_drop 6 (lv' := [some (.ref (gob G 0)), some (.int v1), some (.int v2), none, some (.int (v4 + 0)), some (.int (v5 + 1)), none]) rfl ?_
        have a36 := addI (x := v5) (y := 1) (by omega) (by omega)
        exact qq_out (ih v1 v2 (v4 + 0) (v5 + 1) r32.2 hw34 (by omega) (by omega) (by omega) hk)
      · have i39 := eqI c35
        refine q_iconst (pc := 123) (v := 1) K dX5_opened_123 (by decide) ?_
        refine q_goto (pc := 124) (tgt := 128) K dX5_opened_124 (by decide) ?_
        refine q_iadd (pc := 128) K dX5_opened_128 ?_
        refine q_istore (pc := 129) (lv' := [some (.ref (gob G 0)), some (.int v1), some (.int v2), none, some (.int (v4 + 1)), some (.int v5), some (.int r32.1)]) K dX5_opened_129 (by decide) (Nat.le_of_ble_eq_true rfl) rfl ?_
        refine q_iinc (pc := 131) (v := (v5 + 1)) (lv' := [some (.ref (gob G 0)), some (.int v1), some (.int v2), none, some (.int (v4 + 1)), some (.int (v5 + 1)), some (.int r32.1)]) K dX5_opened_131 rfl rfl (by decide) rfl ?_
        refine q_goto (pc := 134) (tgt := 53) K dX5_opened_134 (by decide) ?_
        refine qq_drop 6 (lv' := [some (.ref (gob G 0)), some (.int v1), some (.int v2), none, some (.int (v4 + 1)), some (.int (v5 + 1)), none]) rfl ?_
        have a37 := addI (x := v5) (y := 1) (by omega) (by omega)
        exact qq_out (ih v1 v2 (v4 + 1) (v5 + 1) r32.2 hw34 (by omega) (by omega) (by omega) hk)
set_option maxRecDepth 100000 in
set_option maxHeartbeats 4000000 in
theorem kX5_opened (l : Launch) {G : gT} (hN : wN G) (hG : gfl G = false) (v1 : Int32) (v2 : Int32) (σ : sg) (hw : WM σ) : cM l yX5_opened wsX5_opened rmX5_opened G [.ref (gob G 0), .int v1, .int v2] σ (some (.int (fX5_opened v1 v2 σ).1)) (fX5_opened v1 v2 σ).2 := by
  refine cM_of (maxL := 7) (ret := (some .int)) (cc := cX5_opened) (fX5_opened v1 v2 σ) RX5 hN (by decide +kernel) rfl rfl (Nat.le_of_ble_eq_true rfl) rfl ?_
  intro p e s m args below meth c K hr
  have k0 : (0 : Int32).toInt = 0 := rfl
  have k1 : (1 : Int32).toInt = 1 := rfl
  have k24 : (24 : Int32).toInt = 24 := rfl
  refine qq_st (lv' := [some (.ref (gob G 0)), some (.int v1), some (.int v2), none, none, none, none]) rfl rfl rfl ?_
  refine qq_T (fX5_opened.eq_1 ..) ?_
  refine q_aload_n (pc := 0) K dX5_opened_0 rfl rfl ?_
  refine q_iload_n (pc := 1) K dX5_opened_1 rfl rfl ?_
  refine q_if_lt (pc := 2) (tgt := 31) K dX5_opened_2 (by decide) (fun c1 => ?_) (fun c1 => ?_)
  · have i55 := ltI c1
    refine q_iconst (pc := 31) (v := 0) K dX5_opened_31 (by decide) ?_
    refine q_iload_n (pc := 32) K dX5_opened_32 rfl rfl ?_
    refine q_callVi (pc := 33) (o := 0) (rm := rmX5_lacks) K (kX5_lacks l hN hG 0 v2 σ hw) gX5_opened_X5_lacks rfl hdV_X5_lacks ⟨Nat.le_of_ble_eq_true rfl, Nat.le_of_ble_eq_true rfl⟩ rfl rfl ⟨Nat.zero_le _, Nat.zero_le _⟩ (wO_m hG) vw_4 rfl rfl (Nat.le_of_ble_eq_true rfl) dX5_opened_33 ?_
    have lr := lkR 0 v2 σ
    have lz := lkZ v2 σ
    refine q_istore_n (pc := 36) (lv' := [some (.ref (gob G 0)), some (.int v1), some (.int v2), some (.int (fX5_lacks 0 v2 σ)), none, none, none]) K dX5_opened_36 rfl (by decide) (Nat.le_of_ble_eq_true rfl) rfl ?_
    refine q_iload_n (pc := 37) K dX5_opened_37 rfl rfl ?_
    refine q_if_lt_f (pc := 38) (tgt := 47) K (lk0 _ _) dX5_opened_38 (by decide) ?_
    refine q_aload_n (pc := 41) K dX5_opened_41 rfl rfl ?_
    refine q_iload_n (pc := 42) K dX5_opened_42 rfl rfl ?_
    refine q_callVi (pc := 43) (o := 0) (rm := rmX5_finding) K (kX5_finding l hN hG (fX5_lacks 0 v2 σ) σ hw (by omega)) gX5_opened_X5_finding rfl hdV_X5_finding ⟨Nat.le_of_ble_eq_true rfl, Nat.le_of_ble_eq_true rfl⟩ rfl rfl ⟨Nat.zero_le _, Nat.zero_le _⟩ (wO_m hG) vw_4 rfl rfl (Nat.le_of_ble_eq_true rfl) dX5_opened_43 ?_
    refine qq_nmI (fun r2 e3 => ?_)
    have hw4 : WM r2.2 := by rw [e3]; exact wX5_finding (fX5_lacks 0 v2 σ) hw (by omega)
    exact q_iret K hr dX5_opened_46
  · have i56 := nltI c1
    refine q_iload_n (pc := 5) K dX5_opened_5 rfl rfl ?_
    refine q_iconst (pc := 6) (v := 1) K dX5_opened_6 (by decide) ?_
    refine q_aload_n (pc := 7) K dX5_opened_7 rfl rfl ?_
    refine q_get (pc := 8) (o := 0) (f := 0) (v := .ref (gad G 0)) K (wO_m hG) vw_4 iwX5_opened_X5 (by decide) mX5_opened_f9 rfl dX5_opened_8 ?_
    refine q_iconst (pc := 11) (v := 0) K dX5_opened_11 (by decide) ?_
    refine q_iald (pc := 12) (a := 0) K (by rw [wna_f hG]; decide) (vinN (wlm (n := 80) hG 0 rfl) (by omega) (by omega)) dX5_opened_12 ?_
    have w5 := wm_many hw (show 0 < 4 by decide)
    refine q_ishl (pc := 13) K dX5_opened_13 ?_
    refine q_icmp_ge (pc := 14) (tgt := 31) K dX5_opened_14 (by decide) (fun c6 => ?_) (fun c6 => ?_)
    · have i53 := leI c6
      refine q_iconst (pc := 31) (v := 0) K dX5_opened_31 (by decide) ?_
      refine q_iload_n (pc := 32) K dX5_opened_32 rfl rfl ?_
      refine q_callVi (pc := 33) (o := 0) (rm := rmX5_lacks) K (kX5_lacks l hN hG 0 v2 σ hw) gX5_opened_X5_lacks rfl hdV_X5_lacks ⟨Nat.le_of_ble_eq_true rfl, Nat.le_of_ble_eq_true rfl⟩ rfl rfl ⟨Nat.zero_le _, Nat.zero_le _⟩ (wO_m hG) vw_4 rfl rfl (Nat.le_of_ble_eq_true rfl) dX5_opened_33 ?_
      have lr := lkR 0 v2 σ
      have lz := lkZ v2 σ
      refine q_istore_n (pc := 36) (lv' := [some (.ref (gob G 0)), some (.int v1), some (.int v2), some (.int (fX5_lacks 0 v2 σ)), none, none, none]) K dX5_opened_36 rfl (by decide) (Nat.le_of_ble_eq_true rfl) rfl ?_
      refine q_iload_n (pc := 37) K dX5_opened_37 rfl rfl ?_
      refine q_if_lt_f (pc := 38) (tgt := 47) K (lk0 _ _) dX5_opened_38 (by decide) ?_
      refine q_aload_n (pc := 41) K dX5_opened_41 rfl rfl ?_
      refine q_iload_n (pc := 42) K dX5_opened_42 rfl rfl ?_
      refine q_callVi (pc := 43) (o := 0) (rm := rmX5_finding) K (kX5_finding l hN hG (fX5_lacks 0 v2 σ) σ hw (by omega)) gX5_opened_X5_finding rfl hdV_X5_finding ⟨Nat.le_of_ble_eq_true rfl, Nat.le_of_ble_eq_true rfl⟩ rfl rfl ⟨Nat.zero_le _, Nat.zero_le _⟩ (wO_m hG) vw_4 rfl rfl (Nat.le_of_ble_eq_true rfl) dX5_opened_43 ?_
      refine qq_nmI (fun r7 e8 => ?_)
      have hw9 : WM r7.2 := by rw [e8]; exact wX5_finding (fX5_lacks 0 v2 σ) hw (by omega)
      exact q_iret K hr dX5_opened_46
    · have i54 := nleI c6
      refine q_iload_n (pc := 17) K dX5_opened_17 rfl rfl ?_
      refine q_iconst (pc := 18) (v := 1) K dX5_opened_18 (by decide) ?_
      refine q_bipush (pc := 19) (v := 24) K dX5_opened_19 (by decide) ?_
      refine q_callSi (pc := 21) (rm := rmX5_within) K (kX5_within l hN v2 1 24 σ) gX5_opened_X5_within rfl hdS_X5_within ⟨Nat.le_of_ble_eq_true rfl, Nat.le_of_ble_eq_true rfl⟩ rfl rfl ⟨Nat.zero_le _, Nat.zero_le _⟩ rfl rfl (Nat.le_of_ble_eq_true rfl) dX5_opened_21 ?_
      refine q_if_eq (pc := 24) (tgt := 31) K dX5_opened_24 (by decide) (fun c10 => ?_) (fun c10 => ?_)
      · have i50 := eqI c10
        refine q_iconst (pc := 31) (v := 0) K dX5_opened_31 (by decide) ?_
        refine q_iload_n (pc := 32) K dX5_opened_32 rfl rfl ?_
        refine q_callVi (pc := 33) (o := 0) (rm := rmX5_lacks) K (kX5_lacks l hN hG 0 v2 σ hw) gX5_opened_X5_lacks rfl hdV_X5_lacks ⟨Nat.le_of_ble_eq_true rfl, Nat.le_of_ble_eq_true rfl⟩ rfl rfl ⟨Nat.zero_le _, Nat.zero_le _⟩ (wO_m hG) vw_4 rfl rfl (Nat.le_of_ble_eq_true rfl) dX5_opened_33 ?_
        have lr := lkR 0 v2 σ
        have lz := lkZ v2 σ
        refine q_istore_n (pc := 36) (lv' := [some (.ref (gob G 0)), some (.int v1), some (.int v2), some (.int (fX5_lacks 0 v2 σ)), none, none, none]) K dX5_opened_36 rfl (by decide) (Nat.le_of_ble_eq_true rfl) rfl ?_
        refine q_iload_n (pc := 37) K dX5_opened_37 rfl rfl ?_
        refine q_if_lt_f (pc := 38) (tgt := 47) K (lk0 _ _) dX5_opened_38 (by decide) ?_
        refine q_aload_n (pc := 41) K dX5_opened_41 rfl rfl ?_
        refine q_iload_n (pc := 42) K dX5_opened_42 rfl rfl ?_
        refine q_callVi (pc := 43) (o := 0) (rm := rmX5_finding) K (kX5_finding l hN hG (fX5_lacks 0 v2 σ) σ hw (by omega)) gX5_opened_X5_finding rfl hdV_X5_finding ⟨Nat.le_of_ble_eq_true rfl, Nat.le_of_ble_eq_true rfl⟩ rfl rfl ⟨Nat.zero_le _, Nat.zero_le _⟩ (wO_m hG) vw_4 rfl rfl (Nat.le_of_ble_eq_true rfl) dX5_opened_43 ?_
        refine qq_nmI (fun r11 e12 => ?_)
        have hw13 : WM r11.2 := by rw [e12]; exact wX5_finding (fX5_lacks 0 v2 σ) hw (by omega)
        exact q_iret K hr dX5_opened_46
      · have i51 := neI c10
        have b52 := wi_t c10
        refine q_iconst (pc := 27) (v := 1) K dX5_opened_27 (by decide) ?_
        refine q_goto (pc := 28) (tgt := 32) K dX5_opened_28 (by decide) ?_
        refine q_iload_n (pc := 32) K dX5_opened_32 rfl rfl ?_
        refine q_callVi (pc := 33) (o := 0) (rm := rmX5_lacks) K (kX5_lacks l hN hG 1 v2 σ hw) gX5_opened_X5_lacks rfl hdV_X5_lacks ⟨Nat.le_of_ble_eq_true rfl, Nat.le_of_ble_eq_true rfl⟩ rfl rfl ⟨Nat.zero_le _, Nat.zero_le _⟩ (wO_m hG) vw_4 rfl rfl (Nat.le_of_ble_eq_true rfl) dX5_opened_33 ?_
        have lr := lkR 1 v2 σ
        refine q_istore_n (pc := 36) (lv' := [some (.ref (gob G 0)), some (.int v1), some (.int v2), some (.int (fX5_lacks 1 v2 σ)), none, none, none]) K dX5_opened_36 rfl (by decide) (Nat.le_of_ble_eq_true rfl) rfl ?_
        refine q_iload_n (pc := 37) K dX5_opened_37 rfl rfl ?_
        refine q_if_lt (pc := 38) (tgt := 47) K dX5_opened_38 (by decide) (fun c14 => ?_) (fun c14 => ?_)
        · have i48 := ltI c14
          refine q_iconst (pc := 47) (v := 0) K dX5_opened_47 (by decide) ?_
          refine q_istore (pc := 48) (lv' := [some (.ref (gob G 0)), some (.int v1), some (.int v2), some (.int (fX5_lacks 1 v2 σ)), some (.int 0), none, none]) K dX5_opened_48 (by decide) (Nat.le_of_ble_eq_true rfl) rfl ?_
          refine q_iconst (pc := 50) (v := 0) K dX5_opened_50 (by decide) ?_
          refine q_istore (pc := 51) (lv' := [some (.ref (gob G 0)), some (.int v1), some (.int v2), some (.int (fX5_lacks 1 v2 σ)), some (.int 0), some (.int 0), none]) K dX5_opened_51 (by decide) (Nat.le_of_ble_eq_true rfl) rfl ?_
          refine qq_drop 3 (lv' := [some (.ref (gob G 0)), some (.int v1), some (.int v2), none, some (.int 0), some (.int 0), none]) rfl ?_
          refine lX5_opened_53 l hN hG K 65 v1 v2 0 0 σ hw (by omega) (by omega) (by omega) (fun r42 hw44 => ?_)
          refine q_iload (pc := 137) K dX5_opened_137 rfl ?_
          exact q_iret K hr dX5_opened_139
        · have i49 := nltI c14
          refine q_aload_n (pc := 41) K dX5_opened_41 rfl rfl ?_
          refine q_iload_n (pc := 42) K dX5_opened_42 rfl rfl ?_
          refine q_callVi (pc := 43) (o := 0) (rm := rmX5_finding) K (kX5_finding l hN hG (fX5_lacks 1 v2 σ) σ hw (by omega)) gX5_opened_X5_finding rfl hdV_X5_finding ⟨Nat.le_of_ble_eq_true rfl, Nat.le_of_ble_eq_true rfl⟩ rfl rfl ⟨Nat.zero_le _, Nat.zero_le _⟩ (wO_m hG) vw_4 rfl rfl (Nat.le_of_ble_eq_true rfl) dX5_opened_43 ?_
          refine qq_nmI (fun r45 e46 => ?_)
          have hw47 : WM r45.2 := by rw [e46]; exact wX5_finding (fX5_lacks 1 v2 σ) hw (by omega)
          exact q_iret K hr dX5_opened_46
theorem hdV_X5_draw : yX5_draw.cls = RX5 ∧ yX5_draw.cls ≠ "java/lang/invoke/MethodHandle" ∧ yX5_draw.cls ≠ "java/lang/invoke/VarHandle" ∧ (parseMethodDescriptor yX5_draw.desc).map (fun d => d.parameters.length) = some 0 := by decide +kernel
theorem mX5_draw_f9 : Cond.fieldLink RX5 9 "WaxTreatiesModel" "now" "[I" ∈ wsX5_draw := List.mem_of_getElem? (i := 1) rfl
theorem iwX5_draw_X5 : ∀ w ∈ wsX50, w ∈ wsX5_draw := fun w h => List.mem_cons_of_mem _ (List.mem_append_right _ h)
theorem mX5_draw_c175 : Cond.constant RX5 175 (1103515245) ∈ wsX5_draw := List.mem_of_getElem? (i := 2) rfl
set_option maxRecDepth 100000 in
set_option maxHeartbeats 4000000 in
theorem kX5_draw (l : Launch) {G : gT} (hN : wN G) (hG : gfl G = false) (σ : sg) (hw : WM σ) : cM l yX5_draw wsX5_draw rmX5_draw G [.ref (gob G 0)] σ (some (.int (fX5_draw σ).1)) (fX5_draw σ).2 := by
  refine cM_of (maxL := 1) (ret := (some .int)) (cc := cX5_draw) (fX5_draw σ) RX5 hN (by decide +kernel) rfl rfl (Nat.le_of_ble_eq_true rfl) rfl ?_
  intro p e s m args below meth c K hr
  have k0 : (0 : Int32).toInt = 0 := rfl
  have k3 : (3 : Int32).toInt = 3 := rfl
  have k8 : (8 : Int32).toInt = 8 := rfl
  have k12345 : (12345 : Int32).toInt = 12345 := rfl
  have k1103515245 : (1103515245 : Int32).toInt = 1103515245 := rfl
  refine qq_st (lv' := [some (.ref (gob G 0))]) rfl rfl rfl ?_
  refine qq_T (fX5_draw.eq_1 ..) ?_
  refine q_aload_n (pc := 0) K dX5_draw_0 rfl rfl ?_
  refine q_get (pc := 1) (o := 0) (f := 0) (v := .ref (gad G 0)) K (wO_m hG) vw_4 iwX5_draw_X5 (by decide) mX5_draw_f9 rfl dX5_draw_1 ?_
  refine q_iconst (pc := 4) (v := 3) K dX5_draw_4 (by decide) ?_
  refine q_aload_n (pc := 5) K dX5_draw_5 rfl rfl ?_
  refine q_get (pc := 6) (o := 0) (f := 0) (v := .ref (gad G 0)) K (wO_m hG) vw_4 iwX5_draw_X5 (by decide) mX5_draw_f9 rfl dX5_draw_6 ?_
  refine q_iconst (pc := 9) (v := 3) K dX5_draw_9 (by decide) ?_
  refine q_iald (pc := 10) (a := 0) K (by rw [wna_f hG]; decide) (vinN (wlm (n := 80) hG 0 rfl) (by omega) (by omega)) dX5_draw_10 ?_
  refine q_ldc (pc := 11) (v := 1103515245) K dX5_draw_11 mX5_draw_c175 ?_
  refine q_imul (pc := 13) K dX5_draw_13 ?_
  refine q_sipush (pc := 14) (v := 12345) K dX5_draw_14 (by decide) ?_
  refine q_iadd (pc := 17) K dX5_draw_17 ?_
  refine q_iast (pc := 18) (a := 0) K (by rw [wna_f hG]; decide) (vinN (wlm (n := 80) hG 0 rfl) (by omega) (by omega)) dX5_draw_18 (fun s1 e2 => ?_)
  have hw3 : WM s1 := by rw [e2]; exact wmRn hw (by decide) (by omega) (by omega) (by omega) (by omega)
  have m4 := mKeep e2 (by omega)
  refine q_aload_n (pc := 19) K dX5_draw_19 rfl rfl ?_
  refine q_get (pc := 20) (o := 0) (f := 0) (v := .ref (gad G 0)) K (wO_m hG) vw_4 iwX5_draw_X5 (by decide) mX5_draw_f9 rfl dX5_draw_20 ?_
  refine q_iconst (pc := 23) (v := 3) K dX5_draw_23 (by decide) ?_
  refine q_iald (pc := 24) (a := 0) K (by rw [wna_f hG]; decide) (vinN (wlm (n := 80) hG 0 rfl) (by omega) (by omega)) dX5_draw_24 ?_
  refine q_bipush (pc := 25) (v := 8) K dX5_draw_25 (by decide) ?_
  refine q_iushr (pc := 27) K dX5_draw_27 ?_
  exact q_iret K hr dX5_draw_28
theorem hdV_X5_days : yX5_days.cls = RX5 ∧ yX5_days.cls ≠ "java/lang/invoke/MethodHandle" ∧ yX5_days.cls ≠ "java/lang/invoke/VarHandle" ∧ (parseMethodDescriptor yX5_days.desc).map (fun d => d.parameters.length) = some 1 := by decide +kernel
theorem mX5_days_f9 : Cond.fieldLink RX5 9 "WaxTreatiesModel" "now" "[I" ∈ wsX5_days := List.mem_of_getElem? (i := 1) rfl
theorem iwX5_days_X5 : ∀ w ∈ wsX50, w ∈ wsX5_days := fun w h => List.mem_cons_of_mem _ (List.mem_append_right _ h)
set_option maxRecDepth 100000 in
set_option maxHeartbeats 4000000 in
theorem lX5_days_87 {p : Program} (l : Launch) {e : Env} {s : State} {m : MethodId} {args : Array Value} {below : List Frame} {meth : Method} {c : Code} {Q : State → Prop} {G : gT} (hN : wN G) (hG : gfl G = false) (K : qK p s m args meth c cX5_days 6 RX5 wsX5_days G) : ∀ (k : Nat) (v1 v2 v3 v5 : Int32) (σ : sg) (hw : WM σ) (hv5 : 0 ≤ v5.toInt ∧ v5.toInt ≤ 24) (hmu : (24 - v5.toInt).toNat < k) {ρ : Type} {E : ρ → Prop} {f : Int32 × sg → ρ} (hk : ∀ r : Int32 × sg, (WM r.2) → qq p l e (headSpec wsX5_days rmX5_days).room s m args below meth c Q 6 G E (f r) 111 [some (.ref (gob G 0)), some (.int v1), some (.int r.1), some (.int v3), none, none] [] r.2), qq p l e (headSpec wsX5_days rmX5_days).room s m args below meth c Q 6 G E (bnd (LX5_days_87 k v1 v2 v3 v5 σ) f) 87 [some (.ref (gob G 0)), some (.int v1), some (.int v2), some (.int v3), none, some (.int v5)] [] σ := by
  intro k
  induction k with
  | zero => intro v1 v2 v3 v5 σ hw hv5 hmu ρ E f hk; exact absurd hmu (Nat.not_lt_zero _)
  | succ k ih =>
    intro v1 v2 v3 v5 σ hw hv5 hmu ρ E f hk
    have k0 : (0 : Int32).toInt = 0 := rfl
    have k1 : (1 : Int32).toInt = 1 := rfl
    have k24 : (24 : Int32).toInt = 24 := rfl
    refine qq_in ?_
    refine qq_T (LX5_days_87.eq_2 ..) ?_
    refine q_iload (pc := 87) K dX5_days_87 rfl ?_
    refine q_bipush (pc := 89) (v := 24) K dX5_days_89 (by decide) ?_
    refine q_icmp_ge (pc := 91) (tgt := 111) K dX5_days_91 (by decide) (fun c19 => ?_) (fun c19 => ?_)
    · have i24 := leI c19
      refine qq_drop 5 (lv' := [some (.ref (gob G 0)), some (.int v1), some (.int v2), some (.int v3), none, none]) rfl ?_
      exact qq_leaf (hk (v2, σ) hw)
    · have i25 := nleI c19
      refine q_iload_n (pc := 94) K dX5_days_94 rfl rfl ?_
      refine q_aload_n (pc := 95) K dX5_days_95 rfl rfl ?_
      refine q_aload_n (pc := 96) K dX5_days_96 rfl rfl ?_
      refine q_get (pc := 97) (o := 0) (f := 0) (v := .ref (gad G 0)) K (wO_m hG) vw_4 iwX5_days_X5 (by decide) mX5_days_f9 rfl dX5_days_97 ?_
      refine q_callVi (pc := 100) (o := 0) (rm := rmX5_anHour) K (kX5_anHour l hN hG 0 (by decide) σ hw) gX5_days_X5_anHour rfl hdV_X5_anHour ⟨Nat.le_of_ble_eq_true rfl, Nat.le_of_ble_eq_true rfl⟩ rfl rfl ⟨Nat.zero_le _, Nat.zero_le _⟩ (wO_m hG) vw_4 rfl rfl (Nat.le_of_ble_eq_true rfl) dX5_days_100 ?_
      refine qq_nmI (fun r20 e21 => ?_)
      have hw22 : WM r20.2 := by rw [e21]; exact wX5_anHour 0 (by decide) hw 
      have me21 := manyA (show 0 < 4 by decide) e21
      refine q_iadd (pc := 103) K dX5_days_103 ?_
      refine q_istore_n (pc := 104) (lv' := [some (.ref (gob G 0)), some (.int v1), some (.int (v2 + r20.1)), some (.int v3), none, some (.int v5)]) K dX5_days_104 rfl (by decide) (Nat.le_of_ble_eq_true rfl) rfl ?_
      refine q_iinc (pc := 105) (v := (v5 + 1)) (lv' := [some (.ref (gob G 0)), some (.int v1), some (.int (v2 + r20.1)), some (.int v3), none, some (.int (v5 + 1))]) K dX5_days_105 rfl rfl (by decide) rfl ?_
      refine q_goto (pc := 108) (tgt := 87) K dX5_days_108 (by decide) ?_
      have a23 := addI (x := v5) (y := 1) (by omega) (by omega)
      exact qq_out (ih v1 (v2 + r20.1) v3 (v5 + 1) r20.2 hw22 (by omega) (by omega) hk)
set_option maxRecDepth 100000 in
set_option maxHeartbeats 4000000 in
theorem lX5_days_37 {p : Program} (l : Launch) {e : Env} {s : State} {m : MethodId} {args : Array Value} {below : List Frame} {meth : Method} {c : Code} {Q : State → Prop} {G : gT} (hN : wN G) (hG : gfl G = false) (K : qK p s m args meth c cX5_days 6 RX5 wsX5_days G) : ∀ (k : Nat) (v1 v2 v3 : Int32) (σ : sg) (hw : WM σ) (hv3 : 0 ≤ v3.toInt ∧ v3.toInt ≤ 12) (hnv1 : v1.toInt ≤ 12) (hmu : (12 - v3.toInt).toNat < k) {ρ : Type} {E : ρ → Prop} {f : Int32 × sg → ρ} (hk : ∀ r : Int32 × sg, (WM r.2) → qq p l e (headSpec wsX5_days rmX5_days).room s m args below meth c Q 6 G E (f r) 117 [none, none, some (.int r.1), none, none, none] [] r.2), qq p l e (headSpec wsX5_days rmX5_days).room s m args below meth c Q 6 G E (bnd (LX5_days_37 k v1 v2 v3 σ) f) 37 [some (.ref (gob G 0)), some (.int v1), some (.int v2), some (.int v3), none, none] [] σ := by
  intro k
  induction k with
  | zero => intro v1 v2 v3 σ hw hv3 hnv1 hmu ρ E f hk; exact absurd hmu (Nat.not_lt_zero _)
  | succ k ih =>
    intro v1 v2 v3 σ hw hv3 hnv1 hmu ρ E f hk
    have k0 : (0 : Int32).toInt = 0 := rfl
    have k1 : (1 : Int32).toInt = 1 := rfl
    have k4 : (4 : Int32).toInt = 4 := rfl
    have k6 : (6 : Int32).toInt = 6 := rfl
    have k41 : (41 : Int32).toInt = 41 := rfl
    refine qq_in ?_
    refine qq_T (LX5_days_37.eq_2 ..) ?_
    refine q_iload_n (pc := 37) K dX5_days_37 rfl rfl ?_
    refine q_iload_n (pc := 38) K dX5_days_38 rfl rfl ?_
    refine q_icmp_ge (pc := 39) (tgt := 117) K dX5_days_39 (by decide) (fun c3 => ?_) (fun c3 => ?_)
    · have i30 := leI c3
      refine qq_drop 0 (lv' := [none, some (.int v1), some (.int v2), some (.int v3), none, none]) rfl ?_
      refine qq_drop 1 (lv' := [none, none, some (.int v2), some (.int v3), none, none]) rfl ?_
      refine qq_drop 3 (lv' := [none, none, some (.int v2), none, none, none]) rfl ?_
      exact qq_leaf (hk (v2, σ) hw)
    · have i31 := nleI c3
      refine q_aload_n (pc := 42) K dX5_days_42 rfl rfl ?_
      refine q_get (pc := 43) (o := 0) (f := 0) (v := .ref (gad G 0)) K (wO_m hG) vw_4 iwX5_days_X5 (by decide) mX5_days_f9 rfl dX5_days_43 ?_
      refine q_iconst (pc := 46) (v := 1) K dX5_days_46 (by decide) ?_
      refine q_aload_n (pc := 47) K dX5_days_47 rfl rfl ?_
      refine q_callVi (pc := 48) (o := 0) (rm := rmX5_draw) K (kX5_draw l hN hG  σ hw) gX5_days_X5_draw rfl hdV_X5_draw ⟨Nat.le_of_ble_eq_true rfl, Nat.le_of_ble_eq_true rfl⟩ rfl rfl ⟨Nat.zero_le _, Nat.zero_le _⟩ (wO_m hG) vw_4 rfl rfl (Nat.le_of_ble_eq_true rfl) dX5_days_48 ?_
      refine qq_nmI (fun r4 e5 => ?_)
      have hw6 : WM r4.2 := by rw [e5]; exact wX5_draw  hw 
      have dbe5 := drB e5
      have dje5 : 0 ≤ (jrem r4.1 6).toInt ∧ (jrem r4.1 6).toInt < 6 := jrem6 (x := r4.1) dbe5.1 (m := 6) (by decide) (by decide)
      refine q_bipush (pc := 51) (v := 41) K dX5_days_51 (by decide) ?_
      refine q_irem (pc := 53) K dX5_days_53 (by decide) ?_
      refine q_iast (pc := 54) (a := 0) K (by rw [wna_f hG]; decide) (vinN (wlm (n := 80) hG 0 rfl) (by omega) (by omega)) dX5_days_54 (fun s7 e8 => ?_)
      have hw9 : WM s7 := by rw [e8]; exact wmRn hw6 (by decide) (by omega) (by omega) (by omega) (by omega)
      have m10 := mKeep e8 (by omega)
      refine q_aload_n (pc := 55) K dX5_days_55 rfl rfl ?_
      refine q_callVi (pc := 56) (o := 0) (rm := rmX5_draw) K (kX5_draw l hN hG  s7 hw9) gX5_days_X5_draw rfl hdV_X5_draw ⟨Nat.le_of_ble_eq_true rfl, Nat.le_of_ble_eq_true rfl⟩ rfl rfl ⟨Nat.zero_le _, Nat.zero_le _⟩ (wO_m hG) vw_4 rfl rfl (Nat.le_of_ble_eq_true rfl) dX5_days_56 ?_
      refine qq_nmI (fun r11 e12 => ?_)
      have hw13 : WM r11.2 := by rw [e12]; exact wX5_draw  hw9 
      have dbe12 := drB e12
      have dje12 : 0 ≤ (jrem r11.1 6).toInt ∧ (jrem r11.1 6).toInt < 6 := jrem6 (x := r11.1) dbe12.1 (m := 6) (by decide) (by decide)
      refine q_bipush (pc := 59) (v := 6) K dX5_days_59 (by decide) ?_
      refine q_irem (pc := 61) K dX5_days_61 (by decide) ?_
      refine q_istore (pc := 62) (lv' := [some (.ref (gob G 0)), some (.int v1), some (.int v2), some (.int v3), some (.int (jrem r11.1 6)), none]) K dX5_days_62 (by decide) (Nat.le_of_ble_eq_true rfl) rfl ?_
      refine q_aload_n (pc := 64) K dX5_days_64 rfl rfl ?_
      refine q_get (pc := 65) (o := 0) (f := 0) (v := .ref (gad G 0)) K (wO_m hG) vw_4 iwX5_days_X5 (by decide) mX5_days_f9 rfl dX5_days_65 ?_
      refine q_iconst (pc := 68) (v := 4) K dX5_days_68 (by decide) ?_
      refine q_iload (pc := 69) K dX5_days_69 rfl ?_
      refine q_iadd (pc := 71) K dX5_days_71 ?_
      refine q_iconst (pc := 72) (v := 1) K dX5_days_72 (by decide) ?_
      refine q_aload_n (pc := 73) K dX5_days_73 rfl rfl ?_
      refine q_get (pc := 74) (o := 0) (f := 0) (v := .ref (gad G 0)) K (wO_m hG) vw_4 iwX5_days_X5 (by decide) mX5_days_f9 rfl dX5_days_74 ?_
      refine q_iconst (pc := 77) (v := 4) K dX5_days_77 (by decide) ?_
      refine q_iload (pc := 78) K dX5_days_78 rfl ?_
      refine q_iadd (pc := 80) K dX5_days_80 ?_
      have a14 := addI (x := 4) (y := (jrem r11.1 6)) (by omega) (by omega)
      refine q_iald (pc := 81) (a := 0) K (by rw [wna_f hG]; decide) (vinN (wlm (n := 80) hG 0 rfl) (by omega) (by omega)) dX5_days_81 ?_
      refine q_isub (pc := 82) K dX5_days_82 ?_
      refine q_iast (pc := 83) (a := 0) K (by rw [wna_f hG]; decide) (vinN (wlm (n := 80) hG 0 rfl) (by omega) (by omega)) dX5_days_83 (fun s15 e16 => ?_)
      have hw17 : WM s15 := by rw [e16]; exact wmRn hw13 (by decide) (by omega) (by omega) (by omega) (by omega)
      have m18 := mKeep e16 (by omega)
      refine q_iconst (pc := 84) (v := 0) K dX5_days_84 (by decide) ?_
      refine q_istore (pc := 85) (lv' := [some (.ref (gob G 0)), some (.int v1), some (.int v2), some (.int v3), some (.int (jrem r11.1 6)), some (.int 0)]) K dX5_days_85 (by decide) (Nat.le_of_ble_eq_true rfl) rfl ?_
      refine qq_drop 4 (lv' := [some (.ref (gob G 0)), some (.int v1), some (.int v2), some (.int v3), none, some (.int 0)]) rfl ?_
      refine lX5_days_87 l hN hG K 25 v1 v2 v3 0 s15 hw17 (by omega) (by omega) (fun r26 hw28 => ?_)
      refine q_iinc (pc := 111) (v := (v3 + 1)) (lv' := [some (.ref (gob G 0)), some (.int v1), some (.int r26.1), some (.int (v3 + 1)), none, none]) K dX5_days_111 rfl rfl (by decide) rfl ?_
      refine q_goto (pc := 114) (tgt := 37) K dX5_days_114 (by decide) ?_
      have a29 := addI (x := v3) (y := 1) (by omega) (by omega)
      exact qq_out (ih v1 r26.1 (v3 + 1) r26.2 hw28 (by omega) (by omega) (by omega) hk)
set_option maxRecDepth 100000 in
set_option maxHeartbeats 4000000 in
theorem kX5_days (l : Launch) {G : gT} (hN : wN G) (hG : gfl G = false) (v1 : Int32) (σ : sg) (hw : WM σ) : cM l yX5_days wsX5_days rmX5_days G [.ref (gob G 0), .int v1] σ (some (.int (fX5_days v1 σ).1)) (fX5_days v1 σ).2 := by
  refine cM_of (maxL := 6) (ret := (some .int)) (cc := cX5_days) (fX5_days v1 σ) RX5 hN (by decide +kernel) rfl rfl (Nat.le_of_ble_eq_true rfl) rfl ?_
  intro p e s m args below meth c K hr
  have k0 : (0 : Int32).toInt = 0 := rfl
  have k1 : (1 : Int32).toInt = 1 := rfl
  have k4 : (4 : Int32).toInt = 4 := rfl
  have k12 : (12 : Int32).toInt = 12 := rfl
  have k24 : (24 : Int32).toInt = 24 := rfl
  refine qq_st (lv' := [some (.ref (gob G 0)), some (.int v1), none, none, none, none]) rfl rfl rfl ?_
  refine qq_T (fX5_days.eq_1 ..) ?_
  refine q_iload_n (pc := 0) K dX5_days_0 rfl rfl ?_
  refine q_iconst (pc := 1) (v := 1) K dX5_days_1 (by decide) ?_
  refine q_bipush (pc := 2) (v := 12) K dX5_days_2 (by decide) ?_
  refine q_callSi (pc := 4) (rm := rmX5_within) K (kX5_within l hN v1 1 12 σ) gX5_days_X5_within rfl hdS_X5_within ⟨Nat.le_of_ble_eq_true rfl, Nat.le_of_ble_eq_true rfl⟩ rfl rfl ⟨Nat.zero_le _, Nat.zero_le _⟩ rfl rfl (Nat.le_of_ble_eq_true rfl) dX5_days_4 ?_
  refine q_if_ne (pc := 7) (tgt := 16) K dX5_days_7 (by decide) (fun c1 => ?_) (fun c1 => ?_)
  · have i43 := neI c1
    have b44 := wi_t c1
    refine q_aload_n (pc := 16) K dX5_days_16 rfl rfl ?_
    refine q_bipush (pc := 17) (v := 24) K dX5_days_17 (by decide) ?_
    refine q_iload_n (pc := 19) K dX5_days_19 rfl rfl ?_
    refine q_imul (pc := 20) K dX5_days_20 ?_
    refine q_callVi (pc := 21) (o := 0) (rm := rmX5_isTime) K (kX5_isTime l hN hG (24 * v1) σ hw) gX5_days_X5_isTime rfl hdV_X5_isTime ⟨Nat.le_of_ble_eq_true rfl, Nat.le_of_ble_eq_true rfl⟩ rfl rfl ⟨Nat.zero_le _, Nat.zero_le _⟩ (wO_m hG) vw_4 rfl rfl (Nat.le_of_ble_eq_true rfl) dX5_days_21 ?_
    refine q_if_ne (pc := 24) (tgt := 33) K dX5_days_24 (by decide) (fun c2 => ?_) (fun c2 => ?_)
    · have i38 := neI c2
      refine q_iconst (pc := 33) (v := 0) K dX5_days_33 (by decide) ?_
      refine q_istore_n (pc := 34) (lv' := [some (.ref (gob G 0)), some (.int v1), some (.int 0), none, none, none]) K dX5_days_34 rfl (by decide) (Nat.le_of_ble_eq_true rfl) rfl ?_
      refine q_iconst (pc := 35) (v := 0) K dX5_days_35 (by decide) ?_
      refine q_istore_n (pc := 36) (lv' := [some (.ref (gob G 0)), some (.int v1), some (.int 0), some (.int 0), none, none]) K dX5_days_36 rfl (by decide) (Nat.le_of_ble_eq_true rfl) rfl ?_
      refine lX5_days_37 l hN hG K 13 v1 0 0 σ hw (by omega) (by omega) (by omega) (fun r32 hw34 => ?_)
      refine q_iload_n (pc := 117) K dX5_days_117 rfl rfl ?_
      exact q_iret K hr dX5_days_118
    · have i39 := eqI c2
      refine q_aload_n (pc := 27) K dX5_days_27 rfl rfl ?_
      refine q_iconst (pc := 28) (v := 4) K dX5_days_28 (by decide) ?_
      refine q_callVi (pc := 29) (o := 0) (rm := rmX5_finding) K (kX5_finding l hN hG 4 σ hw (by omega)) gX5_days_X5_finding rfl hdV_X5_finding ⟨Nat.le_of_ble_eq_true rfl, Nat.le_of_ble_eq_true rfl⟩ rfl rfl ⟨Nat.zero_le _, Nat.zero_le _⟩ (wO_m hG) vw_4 rfl rfl (Nat.le_of_ble_eq_true rfl) dX5_days_29 ?_
      refine qq_nmI (fun r35 e36 => ?_)
      have hw37 : WM r35.2 := by rw [e36]; exact wX5_finding 4 hw (by omega)
      exact q_iret K hr dX5_days_32
  · have i45 := eqI c1
    refine q_aload_n (pc := 10) K dX5_days_10 rfl rfl ?_
    refine q_iconst (pc := 11) (v := 0) K dX5_days_11 (by decide) ?_
    refine q_callVi (pc := 12) (o := 0) (rm := rmX5_finding) K (kX5_finding l hN hG 0 σ hw (by omega)) gX5_days_X5_finding rfl hdV_X5_finding ⟨Nat.le_of_ble_eq_true rfl, Nat.le_of_ble_eq_true rfl⟩ rfl rfl ⟨Nat.zero_le _, Nat.zero_le _⟩ (wO_m hG) vw_4 rfl rfl (Nat.le_of_ble_eq_true rfl) dX5_days_12 ?_
    refine qq_nmI (fun r40 e41 => ?_)
    have hw42 : WM r40.2 := by rw [e41]; exact wX5_finding 0 hw (by omega)
    exact q_iret K hr dX5_days_15
theorem hdV_X5_seed : yX5_seed.cls = RX5 ∧ yX5_seed.cls ≠ "java/lang/invoke/MethodHandle" ∧ yX5_seed.cls ≠ "java/lang/invoke/VarHandle" ∧ (parseMethodDescriptor yX5_seed.desc).map (fun d => d.parameters.length) = some 1 := by decide +kernel
theorem mX5_seed_f9 : Cond.fieldLink RX5 9 "WaxTreatiesModel" "now" "[I" ∈ wsX5_seed := List.mem_of_getElem? (i := 1) rfl
theorem iwX5_seed_X5 : ∀ w ∈ wsX50, w ∈ wsX5_seed := fun w h => List.mem_cons_of_mem _ (List.mem_append_right _ h)
set_option maxRecDepth 100000 in
set_option maxHeartbeats 4000000 in
theorem kX5_seed (l : Launch) {G : gT} (hN : wN G) (hG : gfl G = false) (v1 : Int32) (σ : sg) (hw : WM σ) : cM l yX5_seed wsX5_seed rmX5_seed G [.ref (gob G 0), .int v1] σ (some (.int (fX5_seed v1 σ).1)) (fX5_seed v1 σ).2 := by
  refine cM_of (maxL := 3) (ret := (some .int)) (cc := cX5_seed) (fX5_seed v1 σ) RX5 hN (by decide +kernel) rfl rfl (Nat.le_of_ble_eq_true rfl) rfl ?_
  intro p e s m args below meth c K hr
  have k0 : (0 : Int32).toInt = 0 := rfl
  have k3 : (3 : Int32).toInt = 3 := rfl
  refine qq_st (lv' := [some (.ref (gob G 0)), some (.int v1), none]) rfl rfl rfl ?_
  refine qq_T (fX5_seed.eq_1 ..) ?_
  refine q_aload_n (pc := 0) K dX5_seed_0 rfl rfl ?_
  refine q_get (pc := 1) (o := 0) (f := 0) (v := .ref (gad G 0)) K (wO_m hG) vw_4 iwX5_seed_X5 (by decide) mX5_seed_f9 rfl dX5_seed_1 ?_
  refine q_iconst (pc := 4) (v := 3) K dX5_seed_4 (by decide) ?_
  refine q_iald (pc := 5) (a := 0) K (by rw [wna_f hG]; decide) (vinN (wlm (n := 80) hG 0 rfl) (by omega) (by omega)) dX5_seed_5 ?_
  refine q_istore_n (pc := 6) (lv' := [some (.ref (gob G 0)), some (.int v1), some (.int (rA σ 0 3))]) K dX5_seed_6 rfl (by decide) (Nat.le_of_ble_eq_true rfl) rfl ?_
  refine q_aload_n (pc := 7) K dX5_seed_7 rfl rfl ?_
  refine q_get (pc := 8) (o := 0) (f := 0) (v := .ref (gad G 0)) K (wO_m hG) vw_4 iwX5_seed_X5 (by decide) mX5_seed_f9 rfl dX5_seed_8 ?_
  refine q_iconst (pc := 11) (v := 3) K dX5_seed_11 (by decide) ?_
  refine q_iload_n (pc := 12) K dX5_seed_12 rfl rfl ?_
  refine q_iast (pc := 13) (a := 0) K (by rw [wna_f hG]; decide) (vinN (wlm (n := 80) hG 0 rfl) (by omega) (by omega)) dX5_seed_13 (fun s1 e2 => ?_)
  have hw3 : WM s1 := by rw [e2]; exact wmRn hw (by decide) (by omega) (by omega) (by omega) (by omega)
  have m4 := mKeep e2 (by omega)
  refine q_iload_n (pc := 14) K dX5_seed_14 rfl rfl ?_
  exact q_iret K hr dX5_seed_15
theorem hdV_X5_wipe : yX5_wipe.cls = RX5 ∧ yX5_wipe.cls ≠ "java/lang/invoke/MethodHandle" ∧ yX5_wipe.cls ≠ "java/lang/invoke/VarHandle" ∧ (parseMethodDescriptor yX5_wipe.desc).map (fun d => d.parameters.length) = some 0 := by decide +kernel
theorem mX5_wipe_f179 : Cond.fieldLink RX5 179 "WaxTreatiesModel" "taped" "I" ∈ wsX5_wipe := List.mem_of_getElem? (i := 1) rfl
theorem iwX5_wipe_X5 : ∀ w ∈ wsX50, w ∈ wsX5_wipe := fun w h => List.mem_cons_of_mem _ (List.mem_append_right _ h)
set_option maxRecDepth 100000 in
set_option maxHeartbeats 4000000 in
theorem kX5_wipe (l : Launch) {G : gT} (hN : wN G) (hG : gfl G = false) (σ : sg) (hw : WM σ) : cM l yX5_wipe wsX5_wipe rmX5_wipe G [.ref (gob G 0)] σ (some (.int (fX5_wipe σ).1)) (fX5_wipe σ).2 := by
  refine cM_of (maxL := 2) (ret := (some .int)) (cc := cX5_wipe) (fX5_wipe σ) RX5 hN (by decide +kernel) rfl rfl (Nat.le_of_ble_eq_true rfl) rfl ?_
  intro p e s m args below meth c K hr
  have k0 : (0 : Int32).toInt = 0 := rfl
  refine qq_st (lv' := [some (.ref (gob G 0)), none]) rfl rfl rfl ?_
  refine qq_T (fX5_wipe.eq_1 ..) ?_
  refine q_aload_n (pc := 0) K dX5_wipe_0 rfl rfl ?_
  refine q_get (pc := 1) (o := 0) (f := 6) (v := .int (rF σ 1)) K (wO_m hG) vw_4 iwX5_wipe_X5 (by decide) mX5_wipe_f179 rfl dX5_wipe_1 ?_
  have w1 := wm_taped hw
  refine q_istore_n (pc := 4) (lv' := [some (.ref (gob G 0)), some (.int (rF σ 1))]) K dX5_wipe_4 rfl (by decide) (Nat.le_of_ble_eq_true rfl) rfl ?_
  refine q_aload_n (pc := 5) K dX5_wipe_5 rfl rfl ?_
  refine q_iconst (pc := 6) (v := 0) K dX5_wipe_6 (by decide) ?_
  refine q_put (pc := 7) (o := 0) (f := 6) (i := 1) (ty := .int) K tyX5 tyX5_ok nmX5 (wO_m hG) vw_4 iwX5_wipe_X5 (by decide) mX5_wipe_f179 rfl (tyX5_ok 6 (by decide)) rfl rfl (Nat.le_of_ble_eq_true rfl) (wP_m6 hG _) dX5_wipe_7 (fun s2 e3 => ?_)
  have hw4 : WM s2 := by rw [e3]; exact wmFt hw (by omega) (by omega)
  have f5 := congrArg Int32.toInt (show rF s2 1 = 0 by rw [e3]; exact sF_same9)
  refine q_iload_n (pc := 10) K dX5_wipe_10 rfl rfl ?_
  exact q_iret K hr dX5_wipe_11
theorem hdV_X5_hold : yX5_hold.cls = RX5 ∧ yX5_hold.cls ≠ "java/lang/invoke/MethodHandle" ∧ yX5_hold.cls ≠ "java/lang/invoke/VarHandle" ∧ (parseMethodDescriptor yX5_hold.desc).map (fun d => d.parameters.length) = some 2 := by decide +kernel
theorem mX5_hold_f9 : Cond.fieldLink RX5 9 "WaxTreatiesModel" "now" "[I" ∈ wsX5_hold := List.mem_of_getElem? (i := 1) rfl
theorem iwX5_hold_X5 : ∀ w ∈ wsX50, w ∈ wsX5_hold := fun w h => List.mem_cons_of_mem _ (List.mem_append_right _ h)
set_option maxRecDepth 100000 in
set_option maxHeartbeats 4000000 in
theorem kX5_hold (l : Launch) {G : gT} (hN : wN G) (hG : gfl G = false) (v1 : Int32) (v2 : Int32) (σ : sg) (hw : WM σ) : cM l yX5_hold wsX5_hold rmX5_hold G [.ref (gob G 0), .int v1, .int v2] σ (some (.int (fX5_hold v1 v2 σ).1)) (fX5_hold v1 v2 σ).2 := by
  refine cM_of (maxL := 3) (ret := (some .int)) (cc := cX5_hold) (fX5_hold v1 v2 σ) RX5 hN (by decide +kernel) rfl rfl (Nat.le_of_ble_eq_true rfl) rfl ?_
  intro p e s m args below meth c K hr
  have km1 : ((-1) : Int32).toInt = -1 := rfl
  have k0 : (0 : Int32).toInt = 0 := rfl
  have k1 : (1 : Int32).toInt = 1 := rfl
  have k9 : (9 : Int32).toInt = 9 := rfl
  have k22 : (22 : Int32).toInt = 22 := rfl
  refine qq_st (lv' := [some (.ref (gob G 0)), some (.int v1), some (.int v2)]) rfl rfl rfl ?_
  refine qq_T (fX5_hold.eq_1 ..) ?_
  refine q_iload_n (pc := 0) K dX5_hold_0 rfl rfl ?_
  refine q_iconst (pc := 1) (v := 0) K dX5_hold_1 (by decide) ?_
  refine q_bipush (pc := 2) (v := 9) K dX5_hold_2 (by decide) ?_
  refine q_callSi (pc := 4) (rm := rmX5_within) K (kX5_within l hN v1 0 9 σ) gX5_hold_X5_within rfl hdS_X5_within ⟨Nat.le_of_ble_eq_true rfl, Nat.le_of_ble_eq_true rfl⟩ rfl rfl ⟨Nat.zero_le _, Nat.zero_le _⟩ rfl rfl (Nat.le_of_ble_eq_true rfl) dX5_hold_4 ?_
  refine q_if_eq (pc := 7) (tgt := 26) K dX5_hold_7 (by decide) (fun c1 => ?_) (fun c1 => ?_)
  · have i19 := eqI c1
    refine q_aload_n (pc := 26) K dX5_hold_26 rfl rfl ?_
    refine q_iconst (pc := 27) (v := 0) K dX5_hold_27 (by decide) ?_
    refine q_callVi (pc := 28) (o := 0) (rm := rmX5_finding) K (kX5_finding l hN hG 0 σ hw (by omega)) gX5_hold_X5_finding rfl hdV_X5_finding ⟨Nat.le_of_ble_eq_true rfl, Nat.le_of_ble_eq_true rfl⟩ rfl rfl ⟨Nat.zero_le _, Nat.zero_le _⟩ (wO_m hG) vw_4 rfl rfl (Nat.le_of_ble_eq_true rfl) dX5_hold_28 ?_
    refine qq_nmI (fun r2 e3 => ?_)
    have hw4 : WM r2.2 := by rw [e3]; exact wX5_finding 0 hw (by omega)
    exact q_iret K hr dX5_hold_31
  · have i20 := neI c1
    have b21 := wi_t c1
    refine q_iload_n (pc := 10) K dX5_hold_10 rfl rfl ?_
    refine q_iconst (pc := 11) (v := (-1)) K dX5_hold_11 (by decide) ?_
    refine q_aload_n (pc := 12) K dX5_hold_12 rfl rfl ?_
    refine q_get (pc := 13) (o := 0) (f := 0) (v := .ref (gad G 0)) K (wO_m hG) vw_4 iwX5_hold_X5 (by decide) mX5_hold_f9 rfl dX5_hold_13 ?_
    refine q_iconst (pc := 16) (v := 0) K dX5_hold_16 (by decide) ?_
    refine q_iald (pc := 17) (a := 0) K (by rw [wna_f hG]; decide) (vinN (wlm (n := 80) hG 0 rfl) (by omega) (by omega)) dX5_hold_17 ?_
    have w5 := wm_many hw (show 0 < 4 by decide)
    refine q_iconst (pc := 18) (v := 1) K dX5_hold_18 (by decide) ?_
    refine q_isub (pc := 19) K dX5_hold_19 ?_
    have a6 := subI (x := (rA σ 0 0)) (y := 1) (by omega) (by omega)
    refine q_callSi (pc := 20) (rm := rmX5_within) K (kX5_within l hN v2 (-1) ((rA σ 0 0) - 1) σ) gX5_hold_X5_within rfl hdS_X5_within ⟨Nat.le_of_ble_eq_true rfl, Nat.le_of_ble_eq_true rfl⟩ rfl rfl ⟨Nat.zero_le _, Nat.zero_le _⟩ rfl rfl (Nat.le_of_ble_eq_true rfl) dX5_hold_20 ?_
    refine q_if_ne (pc := 23) (tgt := 32) K dX5_hold_23 (by decide) (fun c7 => ?_) (fun c7 => ?_)
    · have i16 := neI c7
      have b17 := wi_t c7
      refine q_aload_n (pc := 32) K dX5_hold_32 rfl rfl ?_
      refine q_get (pc := 33) (o := 0) (f := 0) (v := .ref (gad G 0)) K (wO_m hG) vw_4 iwX5_hold_X5 (by decide) mX5_hold_f9 rfl dX5_hold_33 ?_
      refine q_bipush (pc := 36) (v := 22) K dX5_hold_36 (by decide) ?_
      refine q_iload_n (pc := 38) K dX5_hold_38 rfl rfl ?_
      refine q_iadd (pc := 39) K dX5_hold_39 ?_
      refine q_iload_n (pc := 40) K dX5_hold_40 rfl rfl ?_
      have a8 := addI (x := 22) (y := v1) (by omega) (by omega)
      refine q_iast (pc := 41) (a := 0) K (by rw [wna_f hG]; decide) (vinN (wlm (n := 80) hG 0 rfl) (by omega) (by omega)) dX5_hold_41 (fun s9 e10 => ?_)
      have hw11 : WM s9 := by rw [e10]; exact wmRp hw (show 0 < 4 by decide) (by omega) (by omega) (by omega) (by omega)
      have m12 := mKeep e10 (by omega)
      refine q_iconst (pc := 42) (v := 1) K dX5_hold_42 (by decide) ?_
      exact q_iret K hr dX5_hold_43
    · have i18 := eqI c7
      refine q_aload_n (pc := 26) K dX5_hold_26 rfl rfl ?_
      refine q_iconst (pc := 27) (v := 0) K dX5_hold_27 (by decide) ?_
      refine q_callVi (pc := 28) (o := 0) (rm := rmX5_finding) K (kX5_finding l hN hG 0 σ hw (by omega)) gX5_hold_X5_finding rfl hdV_X5_finding ⟨Nat.le_of_ble_eq_true rfl, Nat.le_of_ble_eq_true rfl⟩ rfl rfl ⟨Nat.zero_le _, Nat.zero_le _⟩ (wO_m hG) vw_4 rfl rfl (Nat.le_of_ble_eq_true rfl) dX5_hold_28 ?_
      refine qq_nmI (fun r13 e14 => ?_)
      have hw15 : WM r13.2 := by rw [e14]; exact wX5_finding 0 hw (by omega)
      exact q_iret K hr dX5_hold_31
theorem hdV_X5_as : yX5_as.cls = RX5 ∧ yX5_as.cls ≠ "java/lang/invoke/MethodHandle" ∧ yX5_as.cls ≠ "java/lang/invoke/VarHandle" ∧ (parseMethodDescriptor yX5_as.desc).map (fun d => d.parameters.length) = some 2 := by decide +kernel
theorem mX5_as_f9 : Cond.fieldLink RX5 9 "WaxTreatiesModel" "now" "[I" ∈ wsX5_as := List.mem_of_getElem? (i := 1) rfl
theorem iwX5_as_X5 : ∀ w ∈ wsX50, w ∈ wsX5_as := fun w h => List.mem_cons_of_mem _ (List.mem_append_right _ h)
set_option maxRecDepth 100000 in
set_option maxHeartbeats 4000000 in
theorem kX5_as (l : Launch) {G : gT} (hN : wN G) (hG : gfl G = false) (v1 : Int32) (v2 : Int32) (σ : sg) (hw : WM σ) : cM l yX5_as wsX5_as rmX5_as G [.ref (gob G 0), .int v1, .int v2] σ (some (.int (fX5_as v1 v2 σ).1)) (fX5_as v1 v2 σ).2 := by
  refine cM_of (maxL := 4) (ret := (some .int)) (cc := cX5_as) (fX5_as v1 v2 σ) RX5 hN (by decide +kernel) rfl rfl (Nat.le_of_ble_eq_true rfl) rfl ?_
  intro p e s m args below meth c K hr
  have k0 : (0 : Int32).toInt = 0 := rfl
  have k2 : (2 : Int32).toInt = 2 := rfl
  have k5 : (5 : Int32).toInt = 5 := rfl
  have k9 : (9 : Int32).toInt = 9 := rfl
  have k22 : (22 : Int32).toInt = 22 := rfl
  have k32 : (32 : Int32).toInt = 32 := rfl
  refine qq_st (lv' := [some (.ref (gob G 0)), some (.int v1), some (.int v2), none]) rfl rfl rfl ?_
  refine qq_T (fX5_as.eq_1 ..) ?_
  refine q_iload_n (pc := 0) K dX5_as_0 rfl rfl ?_
  refine q_iconst (pc := 1) (v := 0) K dX5_as_1 (by decide) ?_
  refine q_bipush (pc := 2) (v := 9) K dX5_as_2 (by decide) ?_
  refine q_callSi (pc := 4) (rm := rmX5_within) K (kX5_within l hN v1 0 9 σ) gX5_as_X5_within rfl hdS_X5_within ⟨Nat.le_of_ble_eq_true rfl, Nat.le_of_ble_eq_true rfl⟩ rfl rfl ⟨Nat.zero_le _, Nat.zero_le _⟩ rfl rfl (Nat.le_of_ble_eq_true rfl) dX5_as_4 ?_
  refine q_if_eq (pc := 7) (tgt := 17) K dX5_as_7 (by decide) (fun c1 => ?_) (fun c1 => ?_)
  · have i27 := eqI c1
    refine q_aload_n (pc := 17) K dX5_as_17 rfl rfl ?_
    refine q_iconst (pc := 18) (v := 0) K dX5_as_18 (by decide) ?_
    refine q_callVi (pc := 19) (o := 0) (rm := rmX5_finding) K (kX5_finding l hN hG 0 σ hw (by omega)) gX5_as_X5_finding rfl hdV_X5_finding ⟨Nat.le_of_ble_eq_true rfl, Nat.le_of_ble_eq_true rfl⟩ rfl rfl ⟨Nat.zero_le _, Nat.zero_le _⟩ (wO_m hG) vw_4 rfl rfl (Nat.le_of_ble_eq_true rfl) dX5_as_19 ?_
    refine qq_nmI (fun r2 e3 => ?_)
    have hw4 : WM r2.2 := by rw [e3]; exact wX5_finding 0 hw (by omega)
    exact q_iret K hr dX5_as_22
  · have i28 := neI c1
    have b29 := wi_t c1
    refine q_iload_n (pc := 10) K dX5_as_10 rfl rfl ?_
    refine q_callSi (pc := 11) (rm := rmX5_isKind) K (kX5_isKind l hN v2 σ) gX5_as_X5_isKind rfl hdS_X5_isKind ⟨Nat.le_of_ble_eq_true rfl, Nat.le_of_ble_eq_true rfl⟩ rfl rfl ⟨Nat.zero_le _, Nat.zero_le _⟩ rfl rfl (Nat.le_of_ble_eq_true rfl) dX5_as_11 ?_
    refine q_if_ne (pc := 14) (tgt := 23) K dX5_as_14 (by decide) (fun c5 => ?_) (fun c5 => ?_)
    · have i24 := neI c5
      have b25 := wiK_t c5
      refine q_aload_n (pc := 23) K dX5_as_23 rfl rfl ?_
      refine q_get (pc := 24) (o := 0) (f := 0) (v := .ref (gad G 0)) K (wO_m hG) vw_4 iwX5_as_X5 (by decide) mX5_as_f9 rfl dX5_as_24 ?_
      refine q_bipush (pc := 27) (v := 22) K dX5_as_27 (by decide) ?_
      refine q_iload_n (pc := 29) K dX5_as_29 rfl rfl ?_
      refine q_iadd (pc := 30) K dX5_as_30 ?_
      have a6 := addI (x := 22) (y := v1) (by omega) (by omega)
      refine q_iald (pc := 31) (a := 0) K (by rw [wna_f hG]; decide) (vinN (wlm (n := 80) hG 0 rfl) (by omega) (by omega)) dX5_as_31 ?_
      have w7 := wm_spot hw (show 0 < 4 by decide) v1 (by omega) (by omega)
      refine q_istore_n (pc := 32) (lv' := [some (.ref (gob G 0)), some (.int v1), some (.int v2), some (.int (rA σ 0 (22 + v1)))]) K dX5_as_32 rfl (by decide) (Nat.le_of_ble_eq_true rfl) rfl ?_
      refine q_iload_n (pc := 33) K dX5_as_33 rfl rfl ?_
      refine q_if_ge (pc := 34) (tgt := 43) K dX5_as_34 (by decide) (fun c8 => ?_) (fun c8 => ?_)
      · have i19 := leI c8
        refine q_aload_n (pc := 43) K dX5_as_43 rfl rfl ?_
        refine q_get (pc := 44) (o := 0) (f := 0) (v := .ref (gad G 0)) K (wO_m hG) vw_4 iwX5_as_X5 (by decide) mX5_as_f9 rfl dX5_as_44 ?_
        refine q_bipush (pc := 47) (v := 32) K dX5_as_47 (by decide) ?_
        refine q_iload_n (pc := 49) K dX5_as_49 rfl rfl ?_
        refine q_iadd (pc := 50) K dX5_as_50 ?_
        have a9 := addI (x := 32) (y := (rA σ 0 (22 + v1))) (by omega) (by omega)
        refine q_iald (pc := 51) (a := 0) K (by rw [wna_f hG]; decide) (vinN (wlm (n := 80) hG 0 rfl) (by omega) (by omega)) dX5_as_51 ?_
        refine q_iload_n (pc := 52) K dX5_as_52 rfl rfl ?_
        refine q_callSi (pc := 53) (rm := rmX5_isUnder) K (kX5_isUnder l hN (rA σ 0 (32 + (rA σ 0 (22 + v1)))) v2 σ) gX5_as_X5_isUnder rfl hdS_X5_isUnder ⟨Nat.le_of_ble_eq_true rfl, Nat.le_of_ble_eq_true rfl⟩ rfl rfl ⟨Nat.zero_le _, Nat.zero_le _⟩ rfl rfl (Nat.le_of_ble_eq_true rfl) dX5_as_53 ?_
        refine q_if_eq (pc := 56) (tgt := 63) K dX5_as_56 (by decide) (fun c10 => ?_) (fun c10 => ?_)
        · have i14 := eqI c10
          refine q_aload_n (pc := 63) K dX5_as_63 rfl rfl ?_
          refine q_iconst (pc := 64) (v := 2) K dX5_as_64 (by decide) ?_
          refine q_callVi (pc := 65) (o := 0) (rm := rmX5_finding) K (kX5_finding l hN hG 2 σ hw (by omega)) gX5_as_X5_finding rfl hdV_X5_finding ⟨Nat.le_of_ble_eq_true rfl, Nat.le_of_ble_eq_true rfl⟩ rfl rfl ⟨Nat.zero_le _, Nat.zero_le _⟩ (wO_m hG) vw_4 rfl rfl (Nat.le_of_ble_eq_true rfl) dX5_as_65 ?_
          refine qq_nmI (fun r11 e12 => ?_)
          have hw13 : WM r11.2 := by rw [e12]; exact wX5_finding 2 hw (by omega)
          exact q_iret K hr dX5_as_68
        · have i15 := neI c10
          refine q_iload_n (pc := 59) K dX5_as_59 rfl rfl ?_
          refine q_goto (pc := 60) (tgt := 68) K dX5_as_60 (by decide) ?_
          exact q_iret K hr dX5_as_68
      · have i20 := nleI c8
        refine q_aload_n (pc := 37) K dX5_as_37 rfl rfl ?_
        refine q_iconst (pc := 38) (v := 5) K dX5_as_38 (by decide) ?_
        refine q_callVi (pc := 39) (o := 0) (rm := rmX5_finding) K (kX5_finding l hN hG 5 σ hw (by omega)) gX5_as_X5_finding rfl hdV_X5_finding ⟨Nat.le_of_ble_eq_true rfl, Nat.le_of_ble_eq_true rfl⟩ rfl rfl ⟨Nat.zero_le _, Nat.zero_le _⟩ (wO_m hG) vw_4 rfl rfl (Nat.le_of_ble_eq_true rfl) dX5_as_39 ?_
        refine qq_nmI (fun r16 e17 => ?_)
        have hw18 : WM r16.2 := by rw [e17]; exact wX5_finding 5 hw (by omega)
        exact q_iret K hr dX5_as_42
    · have i26 := eqI c5
      refine q_aload_n (pc := 17) K dX5_as_17 rfl rfl ?_
      refine q_iconst (pc := 18) (v := 0) K dX5_as_18 (by decide) ?_
      refine q_callVi (pc := 19) (o := 0) (rm := rmX5_finding) K (kX5_finding l hN hG 0 σ hw (by omega)) gX5_as_X5_finding rfl hdV_X5_finding ⟨Nat.le_of_ble_eq_true rfl, Nat.le_of_ble_eq_true rfl⟩ rfl rfl ⟨Nat.zero_le _, Nat.zero_le _⟩ (wO_m hG) vw_4 rfl rfl (Nat.le_of_ble_eq_true rfl) dX5_as_19 ?_
      refine qq_nmI (fun r21 e22 => ?_)
      have hw23 : WM r21.2 := by rw [e22]; exact wX5_finding 0 hw (by omega)
      exact q_iret K hr dX5_as_22
theorem hdV_X5_sheet : yX5_sheet.cls = RX5 ∧ yX5_sheet.cls ≠ "java/lang/invoke/MethodHandle" ∧ yX5_sheet.cls ≠ "java/lang/invoke/VarHandle" ∧ (parseMethodDescriptor yX5_sheet.desc).map (fun d => d.parameters.length) = some 3 := by decide +kernel
theorem mX5_sheet_f31 : Cond.fieldLink RX5 31 "WaxTreatiesModel" "bitsOf" "[I" ∈ wsX5_sheet := List.mem_of_getElem? (i := 1) rfl
theorem iwX5_sheet_X5 : ∀ w ∈ wsX50, w ∈ wsX5_sheet := fun w h => List.mem_cons_of_mem _ (List.mem_append_right _ h)
theorem mX5_sheet_f34 : Cond.fieldLink RX5 34 "WaxTreatiesModel" "sizeOf" "[I" ∈ wsX5_sheet := List.mem_of_getElem? (i := 2) rfl
theorem mX5_sheet_f37 : Cond.fieldLink RX5 37 "WaxTreatiesModel" "number" "[I" ∈ wsX5_sheet := List.mem_of_getElem? (i := 3) rfl
set_option maxRecDepth 100000 in
set_option maxHeartbeats 4000000 in
theorem lX5_sheet_95 {p : Program} (l : Launch) {e : Env} {s : State} {m : MethodId} {args : Array Value} {below : List Frame} {meth : Method} {c : Code} {Q : State → Prop} {G : gT} (hN : wN G) (hG : gfl G = false) (K : qK p s m args meth c cX5_sheet 6 RX5 wsX5_sheet G) : ∀ (k : Nat) (v1 v5 : Int32) (σ : sg) (hw : WM σ) (hv5 : 0 ≤ v5.toInt ∧ v5.toInt ≤ 40) (hs : 0 ≤ v1.toInt ∧ v1.toInt ≤ 3) (hmu : (40 - v5.toInt).toNat < k) {ρ : Type} {E : ρ → Prop} {f : sg → ρ} (hk : ∀ r : sg, (WM r) → qq p l e (headSpec wsX5_sheet rmX5_sheet).room s m args below meth c Q 6 G E (f r) 121 [some (.ref (gob G 0)), some (.int v1), none, none, none, none] [] r), qq p l e (headSpec wsX5_sheet rmX5_sheet).room s m args below meth c Q 6 G E (bnd (LX5_sheet_95 k v1 v5 σ) f) 95 [some (.ref (gob G 0)), some (.int v1), none, none, none, some (.int v5)] [] σ := by
  intro k
  induction k with
  | zero => intro v1 v5 σ hw hv5 hs hmu ρ E f hk; exact absurd hmu (Nat.not_lt_zero _)
  | succ k ih =>
    intro v1 v5 σ hw hv5 hs hmu ρ E f hk
    have k0 : (0 : Int32).toInt = 0 := rfl
    have k1 : (1 : Int32).toInt = 1 := rfl
    have k40 : (40 : Int32).toInt = 40 := rfl
    refine qq_in ?_
    refine qq_T (LX5_sheet_95.eq_2 ..) ?_
    refine q_iload (pc := 95) K dX5_sheet_95 rfl ?_
    refine q_bipush (pc := 97) (v := 40) K dX5_sheet_97 (by decide) ?_
    refine q_icmp_ge (pc := 99) (tgt := 121) K dX5_sheet_99 (by decide) (fun c17 => ?_) (fun c17 => ?_)
    · have i25 := leI c17
      refine qq_drop 5 (lv' := [some (.ref (gob G 0)), some (.int v1), none, none, none, none]) rfl ?_
      exact qq_leaf (hk σ hw)
    · have i26 := nleI c17
      refine q_aload_n (pc := 102) K dX5_sheet_102 rfl rfl ?_
      refine q_get (pc := 103) (o := 0) (f := 15) (v := .ref (gad G 9)) K (wO_m hG) vw_4 iwX5_sheet_X5 (by decide) mX5_sheet_f37 rfl dX5_sheet_103 ?_
      refine q_bipush (pc := 106) (v := 40) K dX5_sheet_106 (by decide) ?_
      refine q_iload_n (pc := 108) K dX5_sheet_108 rfl rfl ?_
      refine q_imul (pc := 109) K dX5_sheet_109 ?_
      refine q_iload (pc := 110) K dX5_sheet_110 rfl ?_
      refine q_iadd (pc := 112) K dX5_sheet_112 ?_
      refine q_iconst (pc := 113) (v := 0) K dX5_sheet_113 (by decide) ?_
      have a18 := mulI (x := 40) (y := v1) (by first | omega | (simp only [k40]; omega)) (by first | omega | (simp only [k40]; omega))
      simp only [k40] at a18
      have a19 := addI (x := (40 * v1)) (y := v5) (by omega) (by omega)
      refine q_iast (pc := 114) (a := 9) K (by rw [wna_f hG]; decide) (vinN (wlm (n := 160) hG 9 rfl) (by omega) (by omega)) dX5_sheet_114 (fun s20 e21 => ?_)
      have hw22 : WM s20 := by rw [e21]; exact wmA hw (by omega)
      have m23 := many6 e21 (show 0 ≠ 9 by decide)
      refine q_iinc (pc := 115) (v := (v5 + 1)) (lv' := [some (.ref (gob G 0)), some (.int v1), none, none, none, some (.int (v5 + 1))]) K dX5_sheet_115 rfl rfl (by decide) rfl ?_
      refine q_goto (pc := 118) (tgt := 95) K dX5_sheet_118 (by decide) ?_
      have a24 := addI (x := v5) (y := 1) (by omega) (by omega)
      exact qq_out (ih v1 (v5 + 1) s20 hw22 (by omega) (by omega) (by omega) hk)
set_option maxRecDepth 100000 in
set_option maxHeartbeats 4000000 in
theorem kX5_sheet (l : Launch) {G : gT} (hN : wN G) (hG : gfl G = false) (v1 : Int32) (v2 : Int32) (v3 : Int32) (σ : sg) (hw : WM σ) : cM l yX5_sheet wsX5_sheet rmX5_sheet G [.ref (gob G 0), .int v1, .int v2, .int v3] σ (some (.int (fX5_sheet v1 v2 v3 σ).1)) (fX5_sheet v1 v2 v3 σ).2 := by
  refine cM_of (maxL := 6) (ret := (some .int)) (cc := cX5_sheet) (fX5_sheet v1 v2 v3 σ) RX5 hN (by decide +kernel) rfl rfl (Nat.le_of_ble_eq_true rfl) rfl ?_
  intro p e s m args below meth c K hr
  have k0 : (0 : Int32).toInt = 0 := rfl
  have k1 : (1 : Int32).toInt = 1 := rfl
  have k6 : (6 : Int32).toInt = 6 := rfl
  have k8 : (8 : Int32).toInt = 8 := rfl
  have k16 : (16 : Int32).toInt = 16 := rfl
  have k32 : (32 : Int32).toInt = 32 := rfl
  have k40 : (40 : Int32).toInt = 40 := rfl
  refine qq_st (lv' := [some (.ref (gob G 0)), some (.int v1), some (.int v2), some (.int v3), none, none]) rfl rfl rfl ?_
  refine qq_T (fX5_sheet.eq_1 ..) ?_
  refine q_iload_n (pc := 0) K dX5_sheet_0 rfl rfl ?_
  refine q_if_eq (pc := 1) (tgt := 22) K dX5_sheet_1 (by decide) (fun c1 => ?_) (fun c1 => ?_)
  · have i199 := eqI c1
    refine q_iconst (pc := 22) (v := 1) K dX5_sheet_22 (by decide) ?_
    refine q_goto (pc := 23) (tgt := 27) K dX5_sheet_23 (by decide) ?_
    refine q_istore (pc := 27) (lv' := [some (.ref (gob G 0)), some (.int v1), some (.int v2), some (.int v3), some (.int 1), none]) K dX5_sheet_27 (by decide) (Nat.le_of_ble_eq_true rfl) rfl ?_
    refine q_iload_n (pc := 29) K dX5_sheet_29 rfl rfl ?_
    refine q_callSi (pc := 30) (rm := rmX5_isSheet) K (kX5_isSheet l hN v1 σ) gX5_sheet_X5_isSheet rfl hdS_X5_isSheet ⟨Nat.le_of_ble_eq_true rfl, Nat.le_of_ble_eq_true rfl⟩ rfl rfl ⟨Nat.zero_le _, Nat.zero_le _⟩ rfl rfl (Nat.le_of_ble_eq_true rfl) dX5_sheet_30 ?_
    refine q_if_eq (pc := 33) (tgt := 41) K dX5_sheet_33 (by decide) (fun c2 => ?_) (fun c2 => ?_)
    · have i51 := eqI c2
      refine q_aload_n (pc := 41) K dX5_sheet_41 rfl rfl ?_
      refine q_iconst (pc := 42) (v := 0) K dX5_sheet_42 (by decide) ?_
      refine q_callVi (pc := 43) (o := 0) (rm := rmX5_finding) K (kX5_finding l hN hG 0 σ hw (by omega)) gX5_sheet_X5_finding rfl hdV_X5_finding ⟨Nat.le_of_ble_eq_true rfl, Nat.le_of_ble_eq_true rfl⟩ rfl rfl ⟨Nat.zero_le _, Nat.zero_le _⟩ (wO_m hG) vw_4 rfl rfl (Nat.le_of_ble_eq_true rfl) dX5_sheet_43 ?_
      refine qq_nmI (fun r3 e4 => ?_)
      have hw5 : WM r3.2 := by rw [e4]; exact wX5_finding 0 hw (by omega)
      exact q_iret K hr dX5_sheet_46
    · have i52 := neI c2
      have b53 := wiH_t c2
      refine q_iload (pc := 36) K dX5_sheet_36 rfl ?_
      refine q_if_ne_t (pc := 38) (tgt := 47) K (by decide) dX5_sheet_38 (by decide) ?_
      refine q_iload_n (pc := 47) K dX5_sheet_47 rfl rfl ?_
      refine q_if_ge (pc := 48) (tgt := 58) K dX5_sheet_48 (by decide) (fun c6 => ?_) (fun c6 => ?_)
      · have i49 := leI c6
        refine q_iload_n (pc := 58) K dX5_sheet_58 rfl rfl ?_
        refine q_bipush (pc := 59) (v := 40) K dX5_sheet_59 (by decide) ?_
        refine q_icmp_le (pc := 61) (tgt := 70) K dX5_sheet_61 (by decide) (fun c7 => ?_) (fun c7 => ?_)
        · have i44 := leI c7
          refine q_aload_n (pc := 70) K dX5_sheet_70 rfl rfl ?_
          refine q_get (pc := 71) (o := 0) (f := 13) (v := .ref (gad G 7)) K (wO_m hG) vw_4 iwX5_sheet_X5 (by decide) mX5_sheet_f31 rfl dX5_sheet_71 ?_
          refine q_iload_n (pc := 74) K dX5_sheet_74 rfl rfl ?_
          refine q_iload_n (pc := 75) K dX5_sheet_75 rfl rfl ?_
          refine q_iast (pc := 76) (a := 7) K (by rw [wna_f hG]; decide) (vinN (wlm (n := 4) hG 7 rfl) (by omega) (by omega)) dX5_sheet_76 (fun s8 e9 => ?_)
          have hw10 : WM s8 := by rw [e9]; exact wmA hw (by omega)
          have m11 := many6 e9 (show 0 ≠ 7 by decide)
          refine q_aload_n (pc := 77) K dX5_sheet_77 rfl rfl ?_
          refine q_get (pc := 78) (o := 0) (f := 14) (v := .ref (gad G 8)) K (wO_m hG) vw_4 iwX5_sheet_X5 (by decide) mX5_sheet_f34 rfl dX5_sheet_78 ?_
          refine q_iload_n (pc := 81) K dX5_sheet_81 rfl rfl ?_
          refine q_iload_n (pc := 82) K dX5_sheet_82 rfl rfl ?_
          refine q_if_ne (pc := 83) (tgt := 90) K dX5_sheet_83 (by decide) (fun c12 => ?_) (fun c12 => ?_)
          · have i39 := neI c12
            refine q_iload_n (pc := 90) K dX5_sheet_90 rfl rfl ?_
            refine q_iast (pc := 91) (a := 8) K (by rw [wna_f hG]; decide) (vinN (wlm (n := 4) hG 8 rfl) (by omega) (by omega)) dX5_sheet_91 (fun s13 e14 => ?_)
            have hw15 : WM s13 := by rw [e14]; exact wmS hw10 (by omega) (by omega)
            have m16 := many6 e14 (show 0 ≠ 8 by decide)
            refine q_iconst (pc := 92) (v := 0) K dX5_sheet_92 (by decide) ?_
            refine q_istore (pc := 93) (lv' := [some (.ref (gob G 0)), some (.int v1), some (.int v2), some (.int v3), some (.int 1), some (.int 0)]) K dX5_sheet_93 (by decide) (Nat.le_of_ble_eq_true rfl) rfl ?_
            refine qq_drop 2 (lv' := [some (.ref (gob G 0)), some (.int v1), none, some (.int v3), some (.int 1), some (.int 0)]) rfl ?_
            refine qq_drop 3 (lv' := [some (.ref (gob G 0)), some (.int v1), none, none, some (.int 1), some (.int 0)]) rfl ?_
            refine qq_drop 4 (lv' := [some (.ref (gob G 0)), some (.int v1), none, none, none, some (.int 0)]) rfl ?_
            refine lX5_sheet_95 l hN hG K 41 v1 0 s13 hw15 (by omega) (by omega) (by omega) (fun r27 hw29 => ?_)
            refine q_aload_n (pc := 121) K dX5_sheet_121 rfl rfl ?_
            refine q_get (pc := 122) (o := 0) (f := 14) (v := .ref (gad G 8)) K (wO_m hG) vw_4 iwX5_sheet_X5 (by decide) mX5_sheet_f34 rfl dX5_sheet_122 ?_
            refine q_iload_n (pc := 125) K dX5_sheet_125 rfl rfl ?_
            refine q_iald (pc := 126) (a := 8) K (by rw [wna_f hG]; decide) (vinN (wlm (n := 4) hG 8 rfl) (by omega) (by omega)) dX5_sheet_126 ?_
            have w30 := wm_size hw29 v1
            exact q_iret K hr dX5_sheet_127
          · have i40 := eqI c12
            refine q_iconst (pc := 86) (v := 0) K dX5_sheet_86 (by decide) ?_
            refine q_goto (pc := 87) (tgt := 91) K dX5_sheet_87 (by decide) ?_
            refine q_iast (pc := 91) (a := 8) K (by rw [wna_f hG]; decide) (vinN (wlm (n := 4) hG 8 rfl) (by omega) (by omega)) dX5_sheet_91 (fun s31 e32 => ?_)
            have hw33 : WM s31 := by rw [e32]; exact wmS hw10 (by omega) (by omega)
            have m34 := many6 e32 (show 0 ≠ 8 by decide)
            refine q_iconst (pc := 92) (v := 0) K dX5_sheet_92 (by decide) ?_
            refine q_istore (pc := 93) (lv' := [some (.ref (gob G 0)), some (.int v1), some (.int v2), some (.int v3), some (.int 1), some (.int 0)]) K dX5_sheet_93 (by decide) (Nat.le_of_ble_eq_true rfl) rfl ?_
            refine qq_drop 2 (lv' := [some (.ref (gob G 0)), some (.int v1), none, some (.int v3), some (.int 1), some (.int 0)]) rfl ?_
            refine qq_drop 3 (lv' := [some (.ref (gob G 0)), some (.int v1), none, none, some (.int 1), some (.int 0)]) rfl ?_
            refine qq_drop 4 (lv' := [some (.ref (gob G 0)), some (.int v1), none, none, none, some (.int 0)]) rfl ?_
            refine lX5_sheet_95 l hN hG K 41 v1 0 s31 hw33 (by omega) (by omega) (by omega) (fun r35 hw37 => ?_)
            refine q_aload_n (pc := 121) K dX5_sheet_121 rfl rfl ?_
            refine q_get (pc := 122) (o := 0) (f := 14) (v := .ref (gad G 8)) K (wO_m hG) vw_4 iwX5_sheet_X5 (by decide) mX5_sheet_f34 rfl dX5_sheet_122 ?_
            refine q_iload_n (pc := 125) K dX5_sheet_125 rfl rfl ?_
            refine q_iald (pc := 126) (a := 8) K (by rw [wna_f hG]; decide) (vinN (wlm (n := 4) hG 8 rfl) (by omega) (by omega)) dX5_sheet_126 ?_
            have w38 := wm_size hw37 v1
            exact q_iret K hr dX5_sheet_127
        · have i45 := nleI c7
          refine q_aload_n (pc := 64) K dX5_sheet_64 rfl rfl ?_
          refine q_iconst (pc := 65) (v := 0) K dX5_sheet_65 (by decide) ?_
          refine q_callVi (pc := 66) (o := 0) (rm := rmX5_finding) K (kX5_finding l hN hG 0 σ hw (by omega)) gX5_sheet_X5_finding rfl hdV_X5_finding ⟨Nat.le_of_ble_eq_true rfl, Nat.le_of_ble_eq_true rfl⟩ rfl rfl ⟨Nat.zero_le _, Nat.zero_le _⟩ (wO_m hG) vw_4 rfl rfl (Nat.le_of_ble_eq_true rfl) dX5_sheet_66 ?_
          refine qq_nmI (fun r41 e42 => ?_)
          have hw43 : WM r41.2 := by rw [e42]; exact wX5_finding 0 hw (by omega)
          exact q_iret K hr dX5_sheet_69
      · have i50 := nleI c6
        refine q_aload_n (pc := 51) K dX5_sheet_51 rfl rfl ?_
        refine q_bipush (pc := 52) (v := 6) K dX5_sheet_52 (by decide) ?_
        refine q_callVi (pc := 54) (o := 0) (rm := rmX5_finding) K (kX5_finding l hN hG 6 σ hw (by omega)) gX5_sheet_X5_finding rfl hdV_X5_finding ⟨Nat.le_of_ble_eq_true rfl, Nat.le_of_ble_eq_true rfl⟩ rfl rfl ⟨Nat.zero_le _, Nat.zero_le _⟩ (wO_m hG) vw_4 rfl rfl (Nat.le_of_ble_eq_true rfl) dX5_sheet_54 ?_
        refine qq_nmI (fun r46 e47 => ?_)
        have hw48 : WM r46.2 := by rw [e47]; exact wX5_finding 6 hw (by omega)
        exact q_iret K hr dX5_sheet_57
  · have i200 := neI c1
    refine q_iload_n (pc := 4) K dX5_sheet_4 rfl rfl ?_
    refine q_bipush (pc := 5) (v := 8) K dX5_sheet_5 (by decide) ?_
    refine q_icmp_eq (pc := 7) (tgt := 22) K dX5_sheet_7 (by decide) (fun c54 => ?_) (fun c54 => ?_)
    · have i197 := eqI c54
      refine q_iconst (pc := 22) (v := 1) K dX5_sheet_22 (by decide) ?_
      refine q_goto (pc := 23) (tgt := 27) K dX5_sheet_23 (by decide) ?_
      refine q_istore (pc := 27) (lv' := [some (.ref (gob G 0)), some (.int v1), some (.int v2), some (.int v3), some (.int 1), none]) K dX5_sheet_27 (by decide) (Nat.le_of_ble_eq_true rfl) rfl ?_
      refine q_iload_n (pc := 29) K dX5_sheet_29 rfl rfl ?_
      refine q_callSi (pc := 30) (rm := rmX5_isSheet) K (kX5_isSheet l hN v1 σ) gX5_sheet_X5_isSheet rfl hdS_X5_isSheet ⟨Nat.le_of_ble_eq_true rfl, Nat.le_of_ble_eq_true rfl⟩ rfl rfl ⟨Nat.zero_le _, Nat.zero_le _⟩ rfl rfl (Nat.le_of_ble_eq_true rfl) dX5_sheet_30 ?_
      refine q_if_eq (pc := 33) (tgt := 41) K dX5_sheet_33 (by decide) (fun c55 => ?_) (fun c55 => ?_)
      · have i94 := eqI c55
        refine q_aload_n (pc := 41) K dX5_sheet_41 rfl rfl ?_
        refine q_iconst (pc := 42) (v := 0) K dX5_sheet_42 (by decide) ?_
        refine q_callVi (pc := 43) (o := 0) (rm := rmX5_finding) K (kX5_finding l hN hG 0 σ hw (by omega)) gX5_sheet_X5_finding rfl hdV_X5_finding ⟨Nat.le_of_ble_eq_true rfl, Nat.le_of_ble_eq_true rfl⟩ rfl rfl ⟨Nat.zero_le _, Nat.zero_le _⟩ (wO_m hG) vw_4 rfl rfl (Nat.le_of_ble_eq_true rfl) dX5_sheet_43 ?_
        refine qq_nmI (fun r56 e57 => ?_)
        have hw58 : WM r56.2 := by rw [e57]; exact wX5_finding 0 hw (by omega)
        exact q_iret K hr dX5_sheet_46
      · have i95 := neI c55
        have b96 := wiH_t c55
        refine q_iload (pc := 36) K dX5_sheet_36 rfl ?_
        refine q_if_ne_t (pc := 38) (tgt := 47) K (by decide) dX5_sheet_38 (by decide) ?_
        refine q_iload_n (pc := 47) K dX5_sheet_47 rfl rfl ?_
        refine q_if_ge (pc := 48) (tgt := 58) K dX5_sheet_48 (by decide) (fun c59 => ?_) (fun c59 => ?_)
        · have i92 := leI c59
          refine q_iload_n (pc := 58) K dX5_sheet_58 rfl rfl ?_
          refine q_bipush (pc := 59) (v := 40) K dX5_sheet_59 (by decide) ?_
          refine q_icmp_le (pc := 61) (tgt := 70) K dX5_sheet_61 (by decide) (fun c60 => ?_) (fun c60 => ?_)
          · have i87 := leI c60
            refine q_aload_n (pc := 70) K dX5_sheet_70 rfl rfl ?_
            refine q_get (pc := 71) (o := 0) (f := 13) (v := .ref (gad G 7)) K (wO_m hG) vw_4 iwX5_sheet_X5 (by decide) mX5_sheet_f31 rfl dX5_sheet_71 ?_
            refine q_iload_n (pc := 74) K dX5_sheet_74 rfl rfl ?_
            refine q_iload_n (pc := 75) K dX5_sheet_75 rfl rfl ?_
            refine q_iast (pc := 76) (a := 7) K (by rw [wna_f hG]; decide) (vinN (wlm (n := 4) hG 7 rfl) (by omega) (by omega)) dX5_sheet_76 (fun s61 e62 => ?_)
            have hw63 : WM s61 := by rw [e62]; exact wmA hw (by omega)
            have m64 := many6 e62 (show 0 ≠ 7 by decide)
            refine q_aload_n (pc := 77) K dX5_sheet_77 rfl rfl ?_
            refine q_get (pc := 78) (o := 0) (f := 14) (v := .ref (gad G 8)) K (wO_m hG) vw_4 iwX5_sheet_X5 (by decide) mX5_sheet_f34 rfl dX5_sheet_78 ?_
            refine q_iload_n (pc := 81) K dX5_sheet_81 rfl rfl ?_
            refine q_iload_n (pc := 82) K dX5_sheet_82 rfl rfl ?_
            refine q_if_ne (pc := 83) (tgt := 90) K dX5_sheet_83 (by decide) (fun c65 => ?_) (fun c65 => ?_)
            · have i82 := neI c65
              refine q_iload_n (pc := 90) K dX5_sheet_90 rfl rfl ?_
              refine q_iast (pc := 91) (a := 8) K (by rw [wna_f hG]; decide) (vinN (wlm (n := 4) hG 8 rfl) (by omega) (by omega)) dX5_sheet_91 (fun s66 e67 => ?_)
              have hw68 : WM s66 := by rw [e67]; exact wmS hw63 (by omega) (by omega)
              have m69 := many6 e67 (show 0 ≠ 8 by decide)
              refine q_iconst (pc := 92) (v := 0) K dX5_sheet_92 (by decide) ?_
              refine q_istore (pc := 93) (lv' := [some (.ref (gob G 0)), some (.int v1), some (.int v2), some (.int v3), some (.int 1), some (.int 0)]) K dX5_sheet_93 (by decide) (Nat.le_of_ble_eq_true rfl) rfl ?_
              refine qq_drop 2 (lv' := [some (.ref (gob G 0)), some (.int v1), none, some (.int v3), some (.int 1), some (.int 0)]) rfl ?_
              refine qq_drop 3 (lv' := [some (.ref (gob G 0)), some (.int v1), none, none, some (.int 1), some (.int 0)]) rfl ?_
              refine qq_drop 4 (lv' := [some (.ref (gob G 0)), some (.int v1), none, none, none, some (.int 0)]) rfl ?_
              refine lX5_sheet_95 l hN hG K 41 v1 0 s66 hw68 (by omega) (by omega) (by omega) (fun r70 hw72 => ?_)
              refine q_aload_n (pc := 121) K dX5_sheet_121 rfl rfl ?_
              refine q_get (pc := 122) (o := 0) (f := 14) (v := .ref (gad G 8)) K (wO_m hG) vw_4 iwX5_sheet_X5 (by decide) mX5_sheet_f34 rfl dX5_sheet_122 ?_
              refine q_iload_n (pc := 125) K dX5_sheet_125 rfl rfl ?_
              refine q_iald (pc := 126) (a := 8) K (by rw [wna_f hG]; decide) (vinN (wlm (n := 4) hG 8 rfl) (by omega) (by omega)) dX5_sheet_126 ?_
              have w73 := wm_size hw72 v1
              exact q_iret K hr dX5_sheet_127
            · have i83 := eqI c65
              refine q_iconst (pc := 86) (v := 0) K dX5_sheet_86 (by decide) ?_
              refine q_goto (pc := 87) (tgt := 91) K dX5_sheet_87 (by decide) ?_
              refine q_iast (pc := 91) (a := 8) K (by rw [wna_f hG]; decide) (vinN (wlm (n := 4) hG 8 rfl) (by omega) (by omega)) dX5_sheet_91 (fun s74 e75 => ?_)
              have hw76 : WM s74 := by rw [e75]; exact wmS hw63 (by omega) (by omega)
              have m77 := many6 e75 (show 0 ≠ 8 by decide)
              refine q_iconst (pc := 92) (v := 0) K dX5_sheet_92 (by decide) ?_
              refine q_istore (pc := 93) (lv' := [some (.ref (gob G 0)), some (.int v1), some (.int v2), some (.int v3), some (.int 1), some (.int 0)]) K dX5_sheet_93 (by decide) (Nat.le_of_ble_eq_true rfl) rfl ?_
              refine qq_drop 2 (lv' := [some (.ref (gob G 0)), some (.int v1), none, some (.int v3), some (.int 1), some (.int 0)]) rfl ?_
              refine qq_drop 3 (lv' := [some (.ref (gob G 0)), some (.int v1), none, none, some (.int 1), some (.int 0)]) rfl ?_
              refine qq_drop 4 (lv' := [some (.ref (gob G 0)), some (.int v1), none, none, none, some (.int 0)]) rfl ?_
              refine lX5_sheet_95 l hN hG K 41 v1 0 s74 hw76 (by omega) (by omega) (by omega) (fun r78 hw80 => ?_)
              refine q_aload_n (pc := 121) K dX5_sheet_121 rfl rfl ?_
              refine q_get (pc := 122) (o := 0) (f := 14) (v := .ref (gad G 8)) K (wO_m hG) vw_4 iwX5_sheet_X5 (by decide) mX5_sheet_f34 rfl dX5_sheet_122 ?_
              refine q_iload_n (pc := 125) K dX5_sheet_125 rfl rfl ?_
              refine q_iald (pc := 126) (a := 8) K (by rw [wna_f hG]; decide) (vinN (wlm (n := 4) hG 8 rfl) (by omega) (by omega)) dX5_sheet_126 ?_
              have w81 := wm_size hw80 v1
              exact q_iret K hr dX5_sheet_127
          · have i88 := nleI c60
            refine q_aload_n (pc := 64) K dX5_sheet_64 rfl rfl ?_
            refine q_iconst (pc := 65) (v := 0) K dX5_sheet_65 (by decide) ?_
            refine q_callVi (pc := 66) (o := 0) (rm := rmX5_finding) K (kX5_finding l hN hG 0 σ hw (by omega)) gX5_sheet_X5_finding rfl hdV_X5_finding ⟨Nat.le_of_ble_eq_true rfl, Nat.le_of_ble_eq_true rfl⟩ rfl rfl ⟨Nat.zero_le _, Nat.zero_le _⟩ (wO_m hG) vw_4 rfl rfl (Nat.le_of_ble_eq_true rfl) dX5_sheet_66 ?_
            refine qq_nmI (fun r84 e85 => ?_)
            have hw86 : WM r84.2 := by rw [e85]; exact wX5_finding 0 hw (by omega)
            exact q_iret K hr dX5_sheet_69
        · have i93 := nleI c59
          refine q_aload_n (pc := 51) K dX5_sheet_51 rfl rfl ?_
          refine q_bipush (pc := 52) (v := 6) K dX5_sheet_52 (by decide) ?_
          refine q_callVi (pc := 54) (o := 0) (rm := rmX5_finding) K (kX5_finding l hN hG 6 σ hw (by omega)) gX5_sheet_X5_finding rfl hdV_X5_finding ⟨Nat.le_of_ble_eq_true rfl, Nat.le_of_ble_eq_true rfl⟩ rfl rfl ⟨Nat.zero_le _, Nat.zero_le _⟩ (wO_m hG) vw_4 rfl rfl (Nat.le_of_ble_eq_true rfl) dX5_sheet_54 ?_
          refine qq_nmI (fun r89 e90 => ?_)
          have hw91 : WM r89.2 := by rw [e90]; exact wX5_finding 6 hw (by omega)
          exact q_iret K hr dX5_sheet_57
    · have i198 := neI c54
      refine q_iload_n (pc := 10) K dX5_sheet_10 rfl rfl ?_
      refine q_bipush (pc := 11) (v := 16) K dX5_sheet_11 (by decide) ?_
      refine q_icmp_eq (pc := 13) (tgt := 22) K dX5_sheet_13 (by decide) (fun c97 => ?_) (fun c97 => ?_)
      · have i195 := eqI c97
        refine q_iconst (pc := 22) (v := 1) K dX5_sheet_22 (by decide) ?_
        refine q_goto (pc := 23) (tgt := 27) K dX5_sheet_23 (by decide) ?_
        refine q_istore (pc := 27) (lv' := [some (.ref (gob G 0)), some (.int v1), some (.int v2), some (.int v3), some (.int 1), none]) K dX5_sheet_27 (by decide) (Nat.le_of_ble_eq_true rfl) rfl ?_
        refine q_iload_n (pc := 29) K dX5_sheet_29 rfl rfl ?_
        refine q_callSi (pc := 30) (rm := rmX5_isSheet) K (kX5_isSheet l hN v1 σ) gX5_sheet_X5_isSheet rfl hdS_X5_isSheet ⟨Nat.le_of_ble_eq_true rfl, Nat.le_of_ble_eq_true rfl⟩ rfl rfl ⟨Nat.zero_le _, Nat.zero_le _⟩ rfl rfl (Nat.le_of_ble_eq_true rfl) dX5_sheet_30 ?_
        refine q_if_eq (pc := 33) (tgt := 41) K dX5_sheet_33 (by decide) (fun c98 => ?_) (fun c98 => ?_)
        · have i137 := eqI c98
          refine q_aload_n (pc := 41) K dX5_sheet_41 rfl rfl ?_
          refine q_iconst (pc := 42) (v := 0) K dX5_sheet_42 (by decide) ?_
          refine q_callVi (pc := 43) (o := 0) (rm := rmX5_finding) K (kX5_finding l hN hG 0 σ hw (by omega)) gX5_sheet_X5_finding rfl hdV_X5_finding ⟨Nat.le_of_ble_eq_true rfl, Nat.le_of_ble_eq_true rfl⟩ rfl rfl ⟨Nat.zero_le _, Nat.zero_le _⟩ (wO_m hG) vw_4 rfl rfl (Nat.le_of_ble_eq_true rfl) dX5_sheet_43 ?_
          refine qq_nmI (fun r99 e100 => ?_)
          have hw101 : WM r99.2 := by rw [e100]; exact wX5_finding 0 hw (by omega)
          exact q_iret K hr dX5_sheet_46
        · have i138 := neI c98
          have b139 := wiH_t c98
          refine q_iload (pc := 36) K dX5_sheet_36 rfl ?_
          refine q_if_ne_t (pc := 38) (tgt := 47) K (by decide) dX5_sheet_38 (by decide) ?_
          refine q_iload_n (pc := 47) K dX5_sheet_47 rfl rfl ?_
          refine q_if_ge (pc := 48) (tgt := 58) K dX5_sheet_48 (by decide) (fun c102 => ?_) (fun c102 => ?_)
          · have i135 := leI c102
            refine q_iload_n (pc := 58) K dX5_sheet_58 rfl rfl ?_
            refine q_bipush (pc := 59) (v := 40) K dX5_sheet_59 (by decide) ?_
            refine q_icmp_le (pc := 61) (tgt := 70) K dX5_sheet_61 (by decide) (fun c103 => ?_) (fun c103 => ?_)
            · have i130 := leI c103
              refine q_aload_n (pc := 70) K dX5_sheet_70 rfl rfl ?_
              refine q_get (pc := 71) (o := 0) (f := 13) (v := .ref (gad G 7)) K (wO_m hG) vw_4 iwX5_sheet_X5 (by decide) mX5_sheet_f31 rfl dX5_sheet_71 ?_
              refine q_iload_n (pc := 74) K dX5_sheet_74 rfl rfl ?_
              refine q_iload_n (pc := 75) K dX5_sheet_75 rfl rfl ?_
              refine q_iast (pc := 76) (a := 7) K (by rw [wna_f hG]; decide) (vinN (wlm (n := 4) hG 7 rfl) (by omega) (by omega)) dX5_sheet_76 (fun s104 e105 => ?_)
              have hw106 : WM s104 := by rw [e105]; exact wmA hw (by omega)
              have m107 := many6 e105 (show 0 ≠ 7 by decide)
              refine q_aload_n (pc := 77) K dX5_sheet_77 rfl rfl ?_
              refine q_get (pc := 78) (o := 0) (f := 14) (v := .ref (gad G 8)) K (wO_m hG) vw_4 iwX5_sheet_X5 (by decide) mX5_sheet_f34 rfl dX5_sheet_78 ?_
              refine q_iload_n (pc := 81) K dX5_sheet_81 rfl rfl ?_
              refine q_iload_n (pc := 82) K dX5_sheet_82 rfl rfl ?_
              refine q_if_ne (pc := 83) (tgt := 90) K dX5_sheet_83 (by decide) (fun c108 => ?_) (fun c108 => ?_)
              · have i125 := neI c108
                refine q_iload_n (pc := 90) K dX5_sheet_90 rfl rfl ?_
                refine q_iast (pc := 91) (a := 8) K (by rw [wna_f hG]; decide) (vinN (wlm (n := 4) hG 8 rfl) (by omega) (by omega)) dX5_sheet_91 (fun s109 e110 => ?_)
                have hw111 : WM s109 := by rw [e110]; exact wmS hw106 (by omega) (by omega)
                have m112 := many6 e110 (show 0 ≠ 8 by decide)
                refine q_iconst (pc := 92) (v := 0) K dX5_sheet_92 (by decide) ?_
                refine q_istore (pc := 93) (lv' := [some (.ref (gob G 0)), some (.int v1), some (.int v2), some (.int v3), some (.int 1), some (.int 0)]) K dX5_sheet_93 (by decide) (Nat.le_of_ble_eq_true rfl) rfl ?_
                refine qq_drop 2 (lv' := [some (.ref (gob G 0)), some (.int v1), none, some (.int v3), some (.int 1), some (.int 0)]) rfl ?_
                refine qq_drop 3 (lv' := [some (.ref (gob G 0)), some (.int v1), none, none, some (.int 1), some (.int 0)]) rfl ?_
                refine qq_drop 4 (lv' := [some (.ref (gob G 0)), some (.int v1), none, none, none, some (.int 0)]) rfl ?_
                refine lX5_sheet_95 l hN hG K 41 v1 0 s109 hw111 (by omega) (by omega) (by omega) (fun r113 hw115 => ?_)
                refine q_aload_n (pc := 121) K dX5_sheet_121 rfl rfl ?_
                refine q_get (pc := 122) (o := 0) (f := 14) (v := .ref (gad G 8)) K (wO_m hG) vw_4 iwX5_sheet_X5 (by decide) mX5_sheet_f34 rfl dX5_sheet_122 ?_
                refine q_iload_n (pc := 125) K dX5_sheet_125 rfl rfl ?_
                refine q_iald (pc := 126) (a := 8) K (by rw [wna_f hG]; decide) (vinN (wlm (n := 4) hG 8 rfl) (by omega) (by omega)) dX5_sheet_126 ?_
                have w116 := wm_size hw115 v1
                exact q_iret K hr dX5_sheet_127
              · have i126 := eqI c108
                refine q_iconst (pc := 86) (v := 0) K dX5_sheet_86 (by decide) ?_
                refine q_goto (pc := 87) (tgt := 91) K dX5_sheet_87 (by decide) ?_
                refine q_iast (pc := 91) (a := 8) K (by rw [wna_f hG]; decide) (vinN (wlm (n := 4) hG 8 rfl) (by omega) (by omega)) dX5_sheet_91 (fun s117 e118 => ?_)
                have hw119 : WM s117 := by rw [e118]; exact wmS hw106 (by omega) (by omega)
                have m120 := many6 e118 (show 0 ≠ 8 by decide)
                refine q_iconst (pc := 92) (v := 0) K dX5_sheet_92 (by decide) ?_
                refine q_istore (pc := 93) (lv' := [some (.ref (gob G 0)), some (.int v1), some (.int v2), some (.int v3), some (.int 1), some (.int 0)]) K dX5_sheet_93 (by decide) (Nat.le_of_ble_eq_true rfl) rfl ?_
                refine qq_drop 2 (lv' := [some (.ref (gob G 0)), some (.int v1), none, some (.int v3), some (.int 1), some (.int 0)]) rfl ?_
                refine qq_drop 3 (lv' := [some (.ref (gob G 0)), some (.int v1), none, none, some (.int 1), some (.int 0)]) rfl ?_
                refine qq_drop 4 (lv' := [some (.ref (gob G 0)), some (.int v1), none, none, none, some (.int 0)]) rfl ?_
                refine lX5_sheet_95 l hN hG K 41 v1 0 s117 hw119 (by omega) (by omega) (by omega) (fun r121 hw123 => ?_)
                refine q_aload_n (pc := 121) K dX5_sheet_121 rfl rfl ?_
                refine q_get (pc := 122) (o := 0) (f := 14) (v := .ref (gad G 8)) K (wO_m hG) vw_4 iwX5_sheet_X5 (by decide) mX5_sheet_f34 rfl dX5_sheet_122 ?_
                refine q_iload_n (pc := 125) K dX5_sheet_125 rfl rfl ?_
                refine q_iald (pc := 126) (a := 8) K (by rw [wna_f hG]; decide) (vinN (wlm (n := 4) hG 8 rfl) (by omega) (by omega)) dX5_sheet_126 ?_
                have w124 := wm_size hw123 v1
                exact q_iret K hr dX5_sheet_127
            · have i131 := nleI c103
              refine q_aload_n (pc := 64) K dX5_sheet_64 rfl rfl ?_
              refine q_iconst (pc := 65) (v := 0) K dX5_sheet_65 (by decide) ?_
              refine q_callVi (pc := 66) (o := 0) (rm := rmX5_finding) K (kX5_finding l hN hG 0 σ hw (by omega)) gX5_sheet_X5_finding rfl hdV_X5_finding ⟨Nat.le_of_ble_eq_true rfl, Nat.le_of_ble_eq_true rfl⟩ rfl rfl ⟨Nat.zero_le _, Nat.zero_le _⟩ (wO_m hG) vw_4 rfl rfl (Nat.le_of_ble_eq_true rfl) dX5_sheet_66 ?_
              refine qq_nmI (fun r127 e128 => ?_)
              have hw129 : WM r127.2 := by rw [e128]; exact wX5_finding 0 hw (by omega)
              exact q_iret K hr dX5_sheet_69
          · have i136 := nleI c102
            refine q_aload_n (pc := 51) K dX5_sheet_51 rfl rfl ?_
            refine q_bipush (pc := 52) (v := 6) K dX5_sheet_52 (by decide) ?_
            refine q_callVi (pc := 54) (o := 0) (rm := rmX5_finding) K (kX5_finding l hN hG 6 σ hw (by omega)) gX5_sheet_X5_finding rfl hdV_X5_finding ⟨Nat.le_of_ble_eq_true rfl, Nat.le_of_ble_eq_true rfl⟩ rfl rfl ⟨Nat.zero_le _, Nat.zero_le _⟩ (wO_m hG) vw_4 rfl rfl (Nat.le_of_ble_eq_true rfl) dX5_sheet_54 ?_
            refine qq_nmI (fun r132 e133 => ?_)
            have hw134 : WM r132.2 := by rw [e133]; exact wX5_finding 6 hw (by omega)
            exact q_iret K hr dX5_sheet_57
      · have i196 := neI c97
        refine q_iload_n (pc := 16) K dX5_sheet_16 rfl rfl ?_
        refine q_bipush (pc := 17) (v := 32) K dX5_sheet_17 (by decide) ?_
        refine q_icmp_ne (pc := 19) (tgt := 26) K dX5_sheet_19 (by decide) (fun c140 => ?_) (fun c140 => ?_)
        · have i193 := neI c140
          refine q_iconst (pc := 26) (v := 0) K dX5_sheet_26 (by decide) ?_
          refine q_istore (pc := 27) (lv' := [some (.ref (gob G 0)), some (.int v1), some (.int v2), some (.int v3), some (.int 0), none]) K dX5_sheet_27 (by decide) (Nat.le_of_ble_eq_true rfl) rfl ?_
          refine q_iload_n (pc := 29) K dX5_sheet_29 rfl rfl ?_
          refine q_callSi (pc := 30) (rm := rmX5_isSheet) K (kX5_isSheet l hN v1 σ) gX5_sheet_X5_isSheet rfl hdS_X5_isSheet ⟨Nat.le_of_ble_eq_true rfl, Nat.le_of_ble_eq_true rfl⟩ rfl rfl ⟨Nat.zero_le _, Nat.zero_le _⟩ rfl rfl (Nat.le_of_ble_eq_true rfl) dX5_sheet_30 ?_
          refine q_if_eq (pc := 33) (tgt := 41) K dX5_sheet_33 (by decide) (fun c141 => ?_) (fun c141 => ?_)
          · have i148 := eqI c141
            refine q_aload_n (pc := 41) K dX5_sheet_41 rfl rfl ?_
            refine q_iconst (pc := 42) (v := 0) K dX5_sheet_42 (by decide) ?_
            refine q_callVi (pc := 43) (o := 0) (rm := rmX5_finding) K (kX5_finding l hN hG 0 σ hw (by omega)) gX5_sheet_X5_finding rfl hdV_X5_finding ⟨Nat.le_of_ble_eq_true rfl, Nat.le_of_ble_eq_true rfl⟩ rfl rfl ⟨Nat.zero_le _, Nat.zero_le _⟩ (wO_m hG) vw_4 rfl rfl (Nat.le_of_ble_eq_true rfl) dX5_sheet_43 ?_
            refine qq_nmI (fun r142 e143 => ?_)
            have hw144 : WM r142.2 := by rw [e143]; exact wX5_finding 0 hw (by omega)
            exact q_iret K hr dX5_sheet_46
          · have i149 := neI c141
            have b150 := wiH_t c141
            refine q_iload (pc := 36) K dX5_sheet_36 rfl ?_
            refine q_if_ne_f (pc := 38) (tgt := 47) K (by decide) dX5_sheet_38 (by decide) ?_
            refine q_aload_n (pc := 41) K dX5_sheet_41 rfl rfl ?_
            refine q_iconst (pc := 42) (v := 0) K dX5_sheet_42 (by decide) ?_
            refine q_callVi (pc := 43) (o := 0) (rm := rmX5_finding) K (kX5_finding l hN hG 0 σ hw (by omega)) gX5_sheet_X5_finding rfl hdV_X5_finding ⟨Nat.le_of_ble_eq_true rfl, Nat.le_of_ble_eq_true rfl⟩ rfl rfl ⟨Nat.zero_le _, Nat.zero_le _⟩ (wO_m hG) vw_4 rfl rfl (Nat.le_of_ble_eq_true rfl) dX5_sheet_43 ?_
            refine qq_nmI (fun r145 e146 => ?_)
            have hw147 : WM r145.2 := by rw [e146]; exact wX5_finding 0 hw (by omega)
            exact q_iret K hr dX5_sheet_46
        · have i194 := eqI c140
          refine q_iconst (pc := 22) (v := 1) K dX5_sheet_22 (by decide) ?_
          refine q_goto (pc := 23) (tgt := 27) K dX5_sheet_23 (by decide) ?_
          refine q_istore (pc := 27) (lv' := [some (.ref (gob G 0)), some (.int v1), some (.int v2), some (.int v3), some (.int 1), none]) K dX5_sheet_27 (by decide) (Nat.le_of_ble_eq_true rfl) rfl ?_
          refine q_iload_n (pc := 29) K dX5_sheet_29 rfl rfl ?_
          refine q_callSi (pc := 30) (rm := rmX5_isSheet) K (kX5_isSheet l hN v1 σ) gX5_sheet_X5_isSheet rfl hdS_X5_isSheet ⟨Nat.le_of_ble_eq_true rfl, Nat.le_of_ble_eq_true rfl⟩ rfl rfl ⟨Nat.zero_le _, Nat.zero_le _⟩ rfl rfl (Nat.le_of_ble_eq_true rfl) dX5_sheet_30 ?_
          refine q_if_eq (pc := 33) (tgt := 41) K dX5_sheet_33 (by decide) (fun c151 => ?_) (fun c151 => ?_)
          · have i190 := eqI c151
            refine q_aload_n (pc := 41) K dX5_sheet_41 rfl rfl ?_
            refine q_iconst (pc := 42) (v := 0) K dX5_sheet_42 (by decide) ?_
            refine q_callVi (pc := 43) (o := 0) (rm := rmX5_finding) K (kX5_finding l hN hG 0 σ hw (by omega)) gX5_sheet_X5_finding rfl hdV_X5_finding ⟨Nat.le_of_ble_eq_true rfl, Nat.le_of_ble_eq_true rfl⟩ rfl rfl ⟨Nat.zero_le _, Nat.zero_le _⟩ (wO_m hG) vw_4 rfl rfl (Nat.le_of_ble_eq_true rfl) dX5_sheet_43 ?_
            refine qq_nmI (fun r152 e153 => ?_)
            have hw154 : WM r152.2 := by rw [e153]; exact wX5_finding 0 hw (by omega)
            exact q_iret K hr dX5_sheet_46
          · have i191 := neI c151
            have b192 := wiH_t c151
            refine q_iload (pc := 36) K dX5_sheet_36 rfl ?_
            refine q_if_ne_t (pc := 38) (tgt := 47) K (by decide) dX5_sheet_38 (by decide) ?_
            refine q_iload_n (pc := 47) K dX5_sheet_47 rfl rfl ?_
            refine q_if_ge (pc := 48) (tgt := 58) K dX5_sheet_48 (by decide) (fun c155 => ?_) (fun c155 => ?_)
            · have i188 := leI c155
              refine q_iload_n (pc := 58) K dX5_sheet_58 rfl rfl ?_
              refine q_bipush (pc := 59) (v := 40) K dX5_sheet_59 (by decide) ?_
              refine q_icmp_le (pc := 61) (tgt := 70) K dX5_sheet_61 (by decide) (fun c156 => ?_) (fun c156 => ?_)
              · have i183 := leI c156
                refine q_aload_n (pc := 70) K dX5_sheet_70 rfl rfl ?_
                refine q_get (pc := 71) (o := 0) (f := 13) (v := .ref (gad G 7)) K (wO_m hG) vw_4 iwX5_sheet_X5 (by decide) mX5_sheet_f31 rfl dX5_sheet_71 ?_
                refine q_iload_n (pc := 74) K dX5_sheet_74 rfl rfl ?_
                refine q_iload_n (pc := 75) K dX5_sheet_75 rfl rfl ?_
                refine q_iast (pc := 76) (a := 7) K (by rw [wna_f hG]; decide) (vinN (wlm (n := 4) hG 7 rfl) (by omega) (by omega)) dX5_sheet_76 (fun s157 e158 => ?_)
                have hw159 : WM s157 := by rw [e158]; exact wmA hw (by omega)
                have m160 := many6 e158 (show 0 ≠ 7 by decide)
                refine q_aload_n (pc := 77) K dX5_sheet_77 rfl rfl ?_
                refine q_get (pc := 78) (o := 0) (f := 14) (v := .ref (gad G 8)) K (wO_m hG) vw_4 iwX5_sheet_X5 (by decide) mX5_sheet_f34 rfl dX5_sheet_78 ?_
                refine q_iload_n (pc := 81) K dX5_sheet_81 rfl rfl ?_
                refine q_iload_n (pc := 82) K dX5_sheet_82 rfl rfl ?_
                refine q_if_ne (pc := 83) (tgt := 90) K dX5_sheet_83 (by decide) (fun c161 => ?_) (fun c161 => ?_)
                · have i178 := neI c161
                  refine q_iload_n (pc := 90) K dX5_sheet_90 rfl rfl ?_
                  refine q_iast (pc := 91) (a := 8) K (by rw [wna_f hG]; decide) (vinN (wlm (n := 4) hG 8 rfl) (by omega) (by omega)) dX5_sheet_91 (fun s162 e163 => ?_)
                  have hw164 : WM s162 := by rw [e163]; exact wmS hw159 (by omega) (by omega)
                  have m165 := many6 e163 (show 0 ≠ 8 by decide)
                  refine q_iconst (pc := 92) (v := 0) K dX5_sheet_92 (by decide) ?_
                  refine q_istore (pc := 93) (lv' := [some (.ref (gob G 0)), some (.int v1), some (.int v2), some (.int v3), some (.int 1), some (.int 0)]) K dX5_sheet_93 (by decide) (Nat.le_of_ble_eq_true rfl) rfl ?_
                  refine qq_drop 2 (lv' := [some (.ref (gob G 0)), some (.int v1), none, some (.int v3), some (.int 1), some (.int 0)]) rfl ?_
                  refine qq_drop 3 (lv' := [some (.ref (gob G 0)), some (.int v1), none, none, some (.int 1), some (.int 0)]) rfl ?_
                  refine qq_drop 4 (lv' := [some (.ref (gob G 0)), some (.int v1), none, none, none, some (.int 0)]) rfl ?_
                  refine lX5_sheet_95 l hN hG K 41 v1 0 s162 hw164 (by omega) (by omega) (by omega) (fun r166 hw168 => ?_)
                  refine q_aload_n (pc := 121) K dX5_sheet_121 rfl rfl ?_
                  refine q_get (pc := 122) (o := 0) (f := 14) (v := .ref (gad G 8)) K (wO_m hG) vw_4 iwX5_sheet_X5 (by decide) mX5_sheet_f34 rfl dX5_sheet_122 ?_
                  refine q_iload_n (pc := 125) K dX5_sheet_125 rfl rfl ?_
                  refine q_iald (pc := 126) (a := 8) K (by rw [wna_f hG]; decide) (vinN (wlm (n := 4) hG 8 rfl) (by omega) (by omega)) dX5_sheet_126 ?_
                  have w169 := wm_size hw168 v1
                  exact q_iret K hr dX5_sheet_127
                · have i179 := eqI c161
                  refine q_iconst (pc := 86) (v := 0) K dX5_sheet_86 (by decide) ?_
                  refine q_goto (pc := 87) (tgt := 91) K dX5_sheet_87 (by decide) ?_
                  refine q_iast (pc := 91) (a := 8) K (by rw [wna_f hG]; decide) (vinN (wlm (n := 4) hG 8 rfl) (by omega) (by omega)) dX5_sheet_91 (fun s170 e171 => ?_)
                  have hw172 : WM s170 := by rw [e171]; exact wmS hw159 (by omega) (by omega)
                  have m173 := many6 e171 (show 0 ≠ 8 by decide)
                  refine q_iconst (pc := 92) (v := 0) K dX5_sheet_92 (by decide) ?_
                  refine q_istore (pc := 93) (lv' := [some (.ref (gob G 0)), some (.int v1), some (.int v2), some (.int v3), some (.int 1), some (.int 0)]) K dX5_sheet_93 (by decide) (Nat.le_of_ble_eq_true rfl) rfl ?_
                  refine qq_drop 2 (lv' := [some (.ref (gob G 0)), some (.int v1), none, some (.int v3), some (.int 1), some (.int 0)]) rfl ?_
                  refine qq_drop 3 (lv' := [some (.ref (gob G 0)), some (.int v1), none, none, some (.int 1), some (.int 0)]) rfl ?_
                  refine qq_drop 4 (lv' := [some (.ref (gob G 0)), some (.int v1), none, none, none, some (.int 0)]) rfl ?_
                  refine lX5_sheet_95 l hN hG K 41 v1 0 s170 hw172 (by omega) (by omega) (by omega) (fun r174 hw176 => ?_)
                  refine q_aload_n (pc := 121) K dX5_sheet_121 rfl rfl ?_
                  refine q_get (pc := 122) (o := 0) (f := 14) (v := .ref (gad G 8)) K (wO_m hG) vw_4 iwX5_sheet_X5 (by decide) mX5_sheet_f34 rfl dX5_sheet_122 ?_
                  refine q_iload_n (pc := 125) K dX5_sheet_125 rfl rfl ?_
                  refine q_iald (pc := 126) (a := 8) K (by rw [wna_f hG]; decide) (vinN (wlm (n := 4) hG 8 rfl) (by omega) (by omega)) dX5_sheet_126 ?_
                  have w177 := wm_size hw176 v1
                  exact q_iret K hr dX5_sheet_127
              · have i184 := nleI c156
                refine q_aload_n (pc := 64) K dX5_sheet_64 rfl rfl ?_
                refine q_iconst (pc := 65) (v := 0) K dX5_sheet_65 (by decide) ?_
                refine q_callVi (pc := 66) (o := 0) (rm := rmX5_finding) K (kX5_finding l hN hG 0 σ hw (by omega)) gX5_sheet_X5_finding rfl hdV_X5_finding ⟨Nat.le_of_ble_eq_true rfl, Nat.le_of_ble_eq_true rfl⟩ rfl rfl ⟨Nat.zero_le _, Nat.zero_le _⟩ (wO_m hG) vw_4 rfl rfl (Nat.le_of_ble_eq_true rfl) dX5_sheet_66 ?_
                refine qq_nmI (fun r180 e181 => ?_)
                have hw182 : WM r180.2 := by rw [e181]; exact wX5_finding 0 hw (by omega)
                exact q_iret K hr dX5_sheet_69
            · have i189 := nleI c155
              refine q_aload_n (pc := 51) K dX5_sheet_51 rfl rfl ?_
              refine q_bipush (pc := 52) (v := 6) K dX5_sheet_52 (by decide) ?_
              refine q_callVi (pc := 54) (o := 0) (rm := rmX5_finding) K (kX5_finding l hN hG 6 σ hw (by omega)) gX5_sheet_X5_finding rfl hdV_X5_finding ⟨Nat.le_of_ble_eq_true rfl, Nat.le_of_ble_eq_true rfl⟩ rfl rfl ⟨Nat.zero_le _, Nat.zero_le _⟩ (wO_m hG) vw_4 rfl rfl (Nat.le_of_ble_eq_true rfl) dX5_sheet_54 ?_
              refine qq_nmI (fun r185 e186 => ?_)
              have hw187 : WM r185.2 := by rw [e186]; exact wX5_finding 6 hw (by omega)
              exact q_iret K hr dX5_sheet_57
theorem hdV_X5_lacksOf : yX5_lacksOf.cls = RX5 ∧ yX5_lacksOf.cls ≠ "java/lang/invoke/MethodHandle" ∧ yX5_lacksOf.cls ≠ "java/lang/invoke/VarHandle" ∧ (parseMethodDescriptor yX5_lacksOf.desc).map (fun d => d.parameters.length) = some 1 := by decide +kernel
theorem mX5_lacksOf_f31 : Cond.fieldLink RX5 31 "WaxTreatiesModel" "bitsOf" "[I" ∈ wsX5_lacksOf := List.mem_of_getElem? (i := 1) rfl
theorem iwX5_lacksOf_X5 : ∀ w ∈ wsX50, w ∈ wsX5_lacksOf := fun w h => List.mem_cons_of_mem _ (List.mem_append_right _ h)
set_option maxRecDepth 100000 in
set_option maxHeartbeats 4000000 in
theorem kX5_lacksOf (l : Launch) {G : gT} (hN : wN G) (hG : gfl G = false) (v1 : Int32) (σ : sg) (hw : WM σ) : cM l yX5_lacksOf wsX5_lacksOf rmX5_lacksOf G [.ref (gob G 0), .int v1] σ (some (.int (fX5_lacksOf v1 σ))) σ := by
  refine cM_of (maxL := 2) (ret := (some .int)) (cc := cX5_lacksOf) (fX5_lacksOf v1 σ) RX5 hN (by decide +kernel) rfl rfl (Nat.le_of_ble_eq_true rfl) rfl ?_
  intro p e s m args below meth c K hr
  have km1 : ((-1) : Int32).toInt = -1 := rfl
  have k0 : (0 : Int32).toInt = 0 := rfl
  have k5 : (5 : Int32).toInt = 5 := rfl
  refine qq_st (lv' := [some (.ref (gob G 0)), some (.int v1)]) rfl rfl rfl ?_
  refine qq_T (fX5_lacksOf.eq_1 ..) ?_
  refine q_iload_n (pc := 0) K dX5_lacksOf_0 rfl rfl ?_
  refine q_callSi (pc := 1) (rm := rmX5_isSheet) K (kX5_isSheet l hN v1 σ) gX5_lacksOf_X5_isSheet rfl hdS_X5_isSheet ⟨Nat.le_of_ble_eq_true rfl, Nat.le_of_ble_eq_true rfl⟩ rfl rfl ⟨Nat.zero_le _, Nat.zero_le _⟩ rfl rfl (Nat.le_of_ble_eq_true rfl) dX5_lacksOf_1 ?_
  refine q_if_ne (pc := 4) (tgt := 11) K dX5_lacksOf_4 (by decide) (fun c1 => ?_) (fun c1 => ?_)
  · have i5 := neI c1
    have b6 := wiH_t c1
    refine q_aload_n (pc := 11) K dX5_lacksOf_11 rfl rfl ?_
    refine q_get (pc := 12) (o := 0) (f := 13) (v := .ref (gad G 7)) K (wO_m hG) vw_4 iwX5_lacksOf_X5 (by decide) mX5_lacksOf_f31 rfl dX5_lacksOf_12 ?_
    refine q_iload_n (pc := 15) K dX5_lacksOf_15 rfl rfl ?_
    refine q_iald (pc := 16) (a := 7) K (by rw [wna_f hG]; decide) (vinN (wlm (n := 4) hG 7 rfl) (by omega) (by omega)) dX5_lacksOf_16 ?_
    refine q_if_ne (pc := 17) (tgt := 24) K dX5_lacksOf_17 (by decide) (fun c2 => ?_) (fun c2 => ?_)
    · have i3 := neI c2
      refine q_iconst (pc := 24) (v := (-1)) K dX5_lacksOf_24 (by decide) ?_
      exact q_iretP K hr dX5_lacksOf_25
    · have i4 := eqI c2
      refine q_iconst (pc := 20) (v := 5) K dX5_lacksOf_20 (by decide) ?_
      refine q_goto (pc := 21) (tgt := 25) K dX5_lacksOf_21 (by decide) ?_
      exact q_iretP K hr dX5_lacksOf_25
  · have i7 := eqI c1
    refine q_iconst (pc := 7) (v := 0) K dX5_lacksOf_7 (by decide) ?_
    refine q_goto (pc := 8) (tgt := 25) K dX5_lacksOf_8 (by decide) ?_
    exact q_iretP K hr dX5_lacksOf_25
theorem hdV_X5_write : yX5_write.cls = RX5 ∧ yX5_write.cls ≠ "java/lang/invoke/MethodHandle" ∧ yX5_write.cls ≠ "java/lang/invoke/VarHandle" ∧ (parseMethodDescriptor yX5_write.desc).map (fun d => d.parameters.length) = some 3 := by decide +kernel
theorem mX5_write_f34 : Cond.fieldLink RX5 34 "WaxTreatiesModel" "sizeOf" "[I" ∈ wsX5_write := List.mem_of_getElem? (i := 1) rfl
theorem iwX5_write_X5 : ∀ w ∈ wsX50, w ∈ wsX5_write := fun w h => List.mem_cons_of_mem _ (List.mem_append_right _ h)
theorem mX5_write_f37 : Cond.fieldLink RX5 37 "WaxTreatiesModel" "number" "[I" ∈ wsX5_write := List.mem_of_getElem? (i := 2) rfl
theorem mX5_write_f31 : Cond.fieldLink RX5 31 "WaxTreatiesModel" "bitsOf" "[I" ∈ wsX5_write := List.mem_of_getElem? (i := 3) rfl
set_option maxRecDepth 100000 in
set_option maxHeartbeats 4000000 in
theorem kX5_write (l : Launch) {G : gT} (hN : wN G) (hG : gfl G = false) (v1 : Int32) (v2 : Int32) (v3 : Int32) (σ : sg) (hw : WM σ) : cM l yX5_write wsX5_write rmX5_write G [.ref (gob G 0), .int v1, .int v2, .int v3] σ (some (.int (fX5_write v1 v2 v3 σ).1)) (fX5_write v1 v2 v3 σ).2 := by
  refine cM_of (maxL := 5) (ret := (some .int)) (cc := cX5_write) (fX5_write v1 v2 v3 σ) RX5 hN (by decide +kernel) rfl rfl (Nat.le_of_ble_eq_true rfl) rfl ?_
  intro p e s m args below meth c K hr
  have k0 : (0 : Int32).toInt = 0 := rfl
  have k1 : (1 : Int32).toInt = 1 := rfl
  have k40 : (40 : Int32).toInt = 40 := rfl
  refine qq_st (lv' := [some (.ref (gob G 0)), some (.int v1), some (.int v2), some (.int v3), none]) rfl rfl rfl ?_
  refine qq_T (fX5_write.eq_1 ..) ?_
  refine q_aload_n (pc := 0) K dX5_write_0 rfl rfl ?_
  refine q_iload_n (pc := 1) K dX5_write_1 rfl rfl ?_
  refine q_callVi (pc := 2) (o := 0) (rm := rmX5_lacksOf) K (kX5_lacksOf l hN hG v1 σ hw) gX5_write_X5_lacksOf rfl hdV_X5_lacksOf ⟨Nat.le_of_ble_eq_true rfl, Nat.le_of_ble_eq_true rfl⟩ rfl rfl ⟨Nat.zero_le _, Nat.zero_le _⟩ (wO_m hG) vw_4 rfl rfl (Nat.le_of_ble_eq_true rfl) dX5_write_2 ?_
  have ls := lsR v1 σ
  refine q_istore (pc := 5) (lv' := [some (.ref (gob G 0)), some (.int v1), some (.int v2), some (.int v3), some (.int (fX5_lacksOf v1 σ))]) K dX5_write_5 (by decide) (Nat.le_of_ble_eq_true rfl) rfl ?_
  refine q_iload (pc := 7) K dX5_write_7 rfl ?_
  refine q_if_lt (pc := 9) (tgt := 19) K dX5_write_9 (by decide) (fun c1 => ?_) (fun c1 => ?_)
  · have i20 := ltI c1
    have b21 := lsS_t c1
    refine q_iload_n (pc := 19) K dX5_write_19 rfl rfl ?_
    refine q_iconst (pc := 20) (v := 0) K dX5_write_20 (by decide) ?_
    refine q_aload_n (pc := 21) K dX5_write_21 rfl rfl ?_
    refine q_get (pc := 22) (o := 0) (f := 14) (v := .ref (gad G 8)) K (wO_m hG) vw_4 iwX5_write_X5 (by decide) mX5_write_f34 rfl dX5_write_22 ?_
    refine q_iload_n (pc := 25) K dX5_write_25 rfl rfl ?_
    refine q_iald (pc := 26) (a := 8) K (by rw [wna_f hG]; decide) (vinN (wlm (n := 4) hG 8 rfl) (by omega) (by omega)) dX5_write_26 ?_
    have w2 := wm_size hw v1
    refine q_iconst (pc := 27) (v := 1) K dX5_write_27 (by decide) ?_
    refine q_isub (pc := 28) K dX5_write_28 ?_
    have a3 := subI (x := (rA σ 8 v1)) (y := 1) (by omega) (by omega)
    refine q_callSi (pc := 29) (rm := rmX5_within) K (kX5_within l hN v2 0 ((rA σ 8 v1) - 1) σ) gX5_write_X5_within rfl hdS_X5_within ⟨Nat.le_of_ble_eq_true rfl, Nat.le_of_ble_eq_true rfl⟩ rfl rfl ⟨Nat.zero_le _, Nat.zero_le _⟩ rfl rfl (Nat.le_of_ble_eq_true rfl) dX5_write_29 ?_
    refine q_if_ne (pc := 32) (tgt := 41) K dX5_write_32 (by decide) (fun c4 => ?_) (fun c4 => ?_)
    · have i14 := neI c4
      have b15 := wi_t c4
      refine q_aload_n (pc := 41) K dX5_write_41 rfl rfl ?_
      refine q_get (pc := 42) (o := 0) (f := 15) (v := .ref (gad G 9)) K (wO_m hG) vw_4 iwX5_write_X5 (by decide) mX5_write_f37 rfl dX5_write_42 ?_
      refine q_bipush (pc := 45) (v := 40) K dX5_write_45 (by decide) ?_
      refine q_iload_n (pc := 47) K dX5_write_47 rfl rfl ?_
      refine q_imul (pc := 48) K dX5_write_48 ?_
      refine q_iload_n (pc := 49) K dX5_write_49 rfl rfl ?_
      refine q_iadd (pc := 50) K dX5_write_50 ?_
      refine q_iload_n (pc := 51) K dX5_write_51 rfl rfl ?_
      refine q_aload_n (pc := 52) K dX5_write_52 rfl rfl ?_
      refine q_get (pc := 53) (o := 0) (f := 13) (v := .ref (gad G 7)) K (wO_m hG) vw_4 iwX5_write_X5 (by decide) mX5_write_f31 rfl dX5_write_53 ?_
      refine q_iload_n (pc := 56) K dX5_write_56 rfl rfl ?_
      refine q_iald (pc := 57) (a := 7) K (by rw [wna_f hG]; decide) (vinN (wlm (n := 4) hG 7 rfl) (by omega) (by omega)) dX5_write_57 ?_
      refine q_callSi (pc := 58) (rm := rmX5_cut) K (kX5_cut l hN v3 (rA σ 7 v1) σ) gX5_write_X5_cut rfl hdS_X5_cut ⟨Nat.le_of_ble_eq_true rfl, Nat.le_of_ble_eq_true rfl⟩ rfl rfl ⟨Nat.zero_le _, Nat.zero_le _⟩ rfl rfl (Nat.le_of_ble_eq_true rfl) dX5_write_58 ?_
      have a5 := mulI (x := 40) (y := v1) (by first | omega | (simp only [k40]; omega)) (by first | omega | (simp only [k40]; omega))
      simp only [k40] at a5
      have a6 := addI (x := (40 * v1)) (y := v2) (by omega) (by omega)
      refine q_iast (pc := 61) (a := 9) K (by rw [wna_f hG]; decide) (vinN (wlm (n := 160) hG 9 rfl) (by omega) (by omega)) dX5_write_61 (fun s7 e8 => ?_)
      have hw9 : WM s7 := by rw [e8]; exact wmA hw (by omega)
      have m10 := many6 e8 (show 0 ≠ 9 by decide)
      refine q_iconst (pc := 62) (v := 1) K dX5_write_62 (by decide) ?_
      exact q_iret K hr dX5_write_63
    · have i16 := eqI c4
      refine q_aload_n (pc := 35) K dX5_write_35 rfl rfl ?_
      refine q_iconst (pc := 36) (v := 0) K dX5_write_36 (by decide) ?_
      refine q_callVi (pc := 37) (o := 0) (rm := rmX5_finding) K (kX5_finding l hN hG 0 σ hw (by omega)) gX5_write_X5_finding rfl hdV_X5_finding ⟨Nat.le_of_ble_eq_true rfl, Nat.le_of_ble_eq_true rfl⟩ rfl rfl ⟨Nat.zero_le _, Nat.zero_le _⟩ (wO_m hG) vw_4 rfl rfl (Nat.le_of_ble_eq_true rfl) dX5_write_37 ?_
      refine qq_nmI (fun r11 e12 => ?_)
      have hw13 : WM r11.2 := by rw [e12]; exact wX5_finding 0 hw (by omega)
      exact q_iret K hr dX5_write_40
  · have i22 := nltI c1
    refine q_aload_n (pc := 12) K dX5_write_12 rfl rfl ?_
    refine q_iload (pc := 13) K dX5_write_13 rfl ?_
    refine q_callVi (pc := 15) (o := 0) (rm := rmX5_finding) K (kX5_finding l hN hG (fX5_lacksOf v1 σ) σ hw (by omega)) gX5_write_X5_finding rfl hdV_X5_finding ⟨Nat.le_of_ble_eq_true rfl, Nat.le_of_ble_eq_true rfl⟩ rfl rfl ⟨Nat.zero_le _, Nat.zero_le _⟩ (wO_m hG) vw_4 rfl rfl (Nat.le_of_ble_eq_true rfl) dX5_write_15 ?_
    refine qq_nmI (fun r17 e18 => ?_)
    have hw19 : WM r17.2 := by rw [e18]; exact wX5_finding (fX5_lacksOf v1 σ) hw (by omega)
    exact q_iret K hr dX5_write_18
theorem hdV_X5_copy : yX5_copy.cls = RX5 ∧ yX5_copy.cls ≠ "java/lang/invoke/MethodHandle" ∧ yX5_copy.cls ≠ "java/lang/invoke/VarHandle" ∧ (parseMethodDescriptor yX5_copy.desc).map (fun d => d.parameters.length) = some 5 := by decide +kernel
theorem mX5_copy_f31 : Cond.fieldLink RX5 31 "WaxTreatiesModel" "bitsOf" "[I" ∈ wsX5_copy := List.mem_of_getElem? (i := 1) rfl
theorem iwX5_copy_X5 : ∀ w ∈ wsX50, w ∈ wsX5_copy := fun w h => List.mem_cons_of_mem _ (List.mem_append_right _ h)
theorem mX5_copy_f34 : Cond.fieldLink RX5 34 "WaxTreatiesModel" "sizeOf" "[I" ∈ wsX5_copy := List.mem_of_getElem? (i := 2) rfl
theorem mX5_copy_f40 : Cond.fieldLink RX5 40 "WaxTreatiesModel" "moved" "[I" ∈ wsX5_copy := List.mem_of_getElem? (i := 3) rfl
theorem mX5_copy_f37 : Cond.fieldLink RX5 37 "WaxTreatiesModel" "number" "[I" ∈ wsX5_copy := List.mem_of_getElem? (i := 4) rfl
set_option maxRecDepth 100000 in
set_option maxHeartbeats 4000000 in
theorem lX5_copy_135 {p : Program} (l : Launch) {e : Env} {s : State} {m : MethodId} {args : Array Value} {below : List Frame} {meth : Method} {c : Code} {Q : State → Prop} {G : gT} (hN : wN G) (hG : gfl G = false) (K : qK p s m args meth c cX5_copy 8 RX5 wsX5_copy G) : ∀ (k : Nat) (v1 v2 v3 v4 v5 v7 : Int32) (σ : sg) (hw : WM σ) (hv7 : 0 ≤ v7.toInt ∧ v7.toInt ≤ 40) (hn : v5.toInt ≤ 40) (hs : (0 ≤ v1.toInt ∧ v1.toInt ≤ 3) ∧ (0 ≤ v3.toInt ∧ v3.toInt ≤ 3)) (hr : (0 ≤ v2.toInt ∧ v2.toInt + v5.toInt ≤ 40) ∧ (0 ≤ v4.toInt ∧ v4.toInt + v5.toInt ≤ 40)) (hmu : (40 - v7.toInt).toNat < k) {ρ : Type} {E : ρ → Prop} {f : sg → ρ} (hk : ∀ r : sg, (WM r) → qq p l e (headSpec wsX5_copy rmX5_copy).room s m args below meth c Q 8 G E (f r) 169 [some (.ref (gob G 0)), none, none, some (.int v3), some (.int v4), some (.int v5), none, none] [] r), qq p l e (headSpec wsX5_copy rmX5_copy).room s m args below meth c Q 8 G E (bnd (LX5_copy_135 k v1 v2 v3 v4 v5 v7 σ) f) 135 [some (.ref (gob G 0)), some (.int v1), some (.int v2), some (.int v3), some (.int v4), some (.int v5), none, some (.int v7)] [] σ := by
  intro k
  induction k with
  | zero => intro v1 v2 v3 v4 v5 v7 σ hw hv7 hn hs hr hmu ρ E f hk; exact absurd hmu (Nat.not_lt_zero _)
  | succ k ih =>
    intro v1 v2 v3 v4 v5 v7 σ hw hv7 hn hs hr hmu ρ E f hk
    have k0 : (0 : Int32).toInt = 0 := rfl
    have k1 : (1 : Int32).toInt = 1 := rfl
    have k40 : (40 : Int32).toInt = 40 := rfl
    refine qq_in ?_
    refine qq_T (LX5_copy_135.eq_2 ..) ?_
    refine q_iload (pc := 135) K dX5_copy_135 rfl ?_
    refine q_iload (pc := 137) K dX5_copy_137 rfl ?_
    refine q_icmp_ge (pc := 139) (tgt := 169) K dX5_copy_139 (by decide) (fun c34 => ?_) (fun c34 => ?_)
    · have i43 := leI c34
      refine qq_drop 1 (lv' := [some (.ref (gob G 0)), none, some (.int v2), some (.int v3), some (.int v4), some (.int v5), none, some (.int v7)]) rfl ?_
      refine qq_drop 2 (lv' := [some (.ref (gob G 0)), none, none, some (.int v3), some (.int v4), some (.int v5), none, some (.int v7)]) rfl ?_
      refine qq_drop 7 (lv' := [some (.ref (gob G 0)), none, none, some (.int v3), some (.int v4), some (.int v5), none, none]) rfl ?_
      exact qq_leaf (hk σ hw)
    · have i44 := nleI c34
      refine q_aload_n (pc := 142) K dX5_copy_142 rfl rfl ?_
      refine q_get (pc := 143) (o := 0) (f := 16) (v := .ref (gad G 10)) K (wO_m hG) vw_4 iwX5_copy_X5 (by decide) mX5_copy_f40 rfl dX5_copy_143 ?_
      refine q_iload (pc := 146) K dX5_copy_146 rfl ?_
      refine q_aload_n (pc := 148) K dX5_copy_148 rfl rfl ?_
      refine q_get (pc := 149) (o := 0) (f := 15) (v := .ref (gad G 9)) K (wO_m hG) vw_4 iwX5_copy_X5 (by decide) mX5_copy_f37 rfl dX5_copy_149 ?_
      refine q_bipush (pc := 152) (v := 40) K dX5_copy_152 (by decide) ?_
      refine q_iload_n (pc := 154) K dX5_copy_154 rfl rfl ?_
      refine q_imul (pc := 155) K dX5_copy_155 ?_
      refine q_iload_n (pc := 156) K dX5_copy_156 rfl rfl ?_
      refine q_iadd (pc := 157) K dX5_copy_157 ?_
      refine q_iload (pc := 158) K dX5_copy_158 rfl ?_
      refine q_iadd (pc := 160) K dX5_copy_160 ?_
      have a35 := mulI (x := 40) (y := v1) (by first | omega | (simp only [k40]; omega)) (by first | omega | (simp only [k40]; omega))
      simp only [k40] at a35
      have a36 := addI (x := (40 * v1)) (y := v2) (by omega) (by omega)
      have a37 := addI (x := ((40 * v1) + v2)) (y := v7) (by omega) (by omega)
      refine q_iald (pc := 161) (a := 9) K (by rw [wna_f hG]; decide) (vinN (wlm (n := 160) hG 9 rfl) (by omega) (by omega)) dX5_copy_161 ?_
      refine q_iast (pc := 162) (a := 10) K (by rw [wna_f hG]; decide) (vinN (wlm (n := 40) hG 10 rfl) (by omega) (by omega)) dX5_copy_162 (fun s38 e39 => ?_)
      have hw40 : WM s38 := by rw [e39]; exact wmA hw (by omega)
      have m41 := many6 e39 (show 0 ≠ 10 by decide)
      refine q_iinc (pc := 163) (v := (v7 + 1)) (lv' := [some (.ref (gob G 0)), some (.int v1), some (.int v2), some (.int v3), some (.int v4), some (.int v5), none, some (.int (v7 + 1))]) K dX5_copy_163 rfl rfl (by decide) rfl ?_
      refine q_goto (pc := 166) (tgt := 135) K dX5_copy_166 (by decide) ?_
      have a42 := addI (x := v7) (y := 1) (by omega) (by omega)
      exact qq_out (ih v1 v2 v3 v4 v5 (v7 + 1) s38 hw40 (by omega) (by omega) (by omega) (by omega) (by omega) hk)
set_option maxRecDepth 100000 in
set_option maxHeartbeats 4000000 in
theorem lX5_copy_172 {p : Program} (l : Launch) {e : Env} {s : State} {m : MethodId} {args : Array Value} {below : List Frame} {meth : Method} {c : Code} {Q : State → Prop} {G : gT} (hN : wN G) (hG : gfl G = false) (K : qK p s m args meth c cX5_copy 8 RX5 wsX5_copy G) : ∀ (k : Nat) (v3 v4 v5 v7 : Int32) (σ : sg) (hw : WM σ) (hv7 : 0 ≤ v7.toInt ∧ v7.toInt ≤ 40) (hn : v5.toInt ≤ 40) (hs : 0 ≤ v3.toInt ∧ v3.toInt ≤ 3) (hr : 0 ≤ v4.toInt ∧ v4.toInt + v5.toInt ≤ 40) (hmu : (40 - v7.toInt).toNat < k) {ρ : Type} {E : ρ → Prop} {f : sg → ρ} (hk : ∀ r : sg, (WM r) → qq p l e (headSpec wsX5_copy rmX5_copy).room s m args below meth c Q 8 G E (f r) 207 [none, none, none, none, none, some (.int v5), none, none] [] r), qq p l e (headSpec wsX5_copy rmX5_copy).room s m args below meth c Q 8 G E (bnd (LX5_copy_172 k v3 v4 v5 v7 σ) f) 172 [some (.ref (gob G 0)), none, none, some (.int v3), some (.int v4), some (.int v5), none, some (.int v7)] [] σ := by
  intro k
  induction k with
  | zero => intro v3 v4 v5 v7 σ hw hv7 hn hs hr hmu ρ E f hk; exact absurd hmu (Nat.not_lt_zero _)
  | succ k ih =>
    intro v3 v4 v5 v7 σ hw hv7 hn hs hr hmu ρ E f hk
    have k0 : (0 : Int32).toInt = 0 := rfl
    have k1 : (1 : Int32).toInt = 1 := rfl
    have k40 : (40 : Int32).toInt = 40 := rfl
    refine qq_in ?_
    refine qq_T (LX5_copy_172.eq_2 ..) ?_
    refine q_iload (pc := 172) K dX5_copy_172 rfl ?_
    refine q_iload (pc := 174) K dX5_copy_174 rfl ?_
    refine q_icmp_ge (pc := 176) (tgt := 207) K dX5_copy_176 (by decide) (fun c48 => ?_) (fun c48 => ?_)
    · have i57 := leI c48
      refine qq_drop 0 (lv' := [none, none, none, some (.int v3), some (.int v4), some (.int v5), none, some (.int v7)]) rfl ?_
      refine qq_drop 3 (lv' := [none, none, none, none, some (.int v4), some (.int v5), none, some (.int v7)]) rfl ?_
      refine qq_drop 4 (lv' := [none, none, none, none, none, some (.int v5), none, some (.int v7)]) rfl ?_
      refine qq_drop 7 (lv' := [none, none, none, none, none, some (.int v5), none, none]) rfl ?_
      exact qq_leaf (hk σ hw)
    · have i58 := nleI c48
      refine q_aload_n (pc := 179) K dX5_copy_179 rfl rfl ?_
      refine q_get (pc := 180) (o := 0) (f := 15) (v := .ref (gad G 9)) K (wO_m hG) vw_4 iwX5_copy_X5 (by decide) mX5_copy_f37 rfl dX5_copy_180 ?_
      refine q_bipush (pc := 183) (v := 40) K dX5_copy_183 (by decide) ?_
      refine q_iload_n (pc := 185) K dX5_copy_185 rfl rfl ?_
      refine q_imul (pc := 186) K dX5_copy_186 ?_
      refine q_iload (pc := 187) K dX5_copy_187 rfl ?_
      refine q_iadd (pc := 189) K dX5_copy_189 ?_
      refine q_iload (pc := 190) K dX5_copy_190 rfl ?_
      refine q_iadd (pc := 192) K dX5_copy_192 ?_
      refine q_aload_n (pc := 193) K dX5_copy_193 rfl rfl ?_
      refine q_get (pc := 194) (o := 0) (f := 16) (v := .ref (gad G 10)) K (wO_m hG) vw_4 iwX5_copy_X5 (by decide) mX5_copy_f40 rfl dX5_copy_194 ?_
      refine q_iload (pc := 197) K dX5_copy_197 rfl ?_
      refine q_iald (pc := 199) (a := 10) K (by rw [wna_f hG]; decide) (vinN (wlm (n := 40) hG 10 rfl) (by omega) (by omega)) dX5_copy_199 ?_
      have a49 := mulI (x := 40) (y := v3) (by first | omega | (simp only [k40]; omega)) (by first | omega | (simp only [k40]; omega))
      simp only [k40] at a49
      have a50 := addI (x := (40 * v3)) (y := v4) (by omega) (by omega)
      have a51 := addI (x := ((40 * v3) + v4)) (y := v7) (by omega) (by omega)
      refine q_iast (pc := 200) (a := 9) K (by rw [wna_f hG]; decide) (vinN (wlm (n := 160) hG 9 rfl) (by omega) (by omega)) dX5_copy_200 (fun s52 e53 => ?_)
      have hw54 : WM s52 := by rw [e53]; exact wmA hw (by omega)
      have m55 := many6 e53 (show 0 ≠ 9 by decide)
      refine q_iinc (pc := 201) (v := (v7 + 1)) (lv' := [some (.ref (gob G 0)), none, none, some (.int v3), some (.int v4), some (.int v5), none, some (.int (v7 + 1))]) K dX5_copy_201 rfl rfl (by decide) rfl ?_
      refine q_goto (pc := 204) (tgt := 172) K dX5_copy_204 (by decide) ?_
      have a56 := addI (x := v7) (y := 1) (by omega) (by omega)
      exact qq_out (ih v3 v4 v5 (v7 + 1) s52 hw54 (by omega) (by omega) (by omega) (by omega) (by omega) hk)
set_option maxRecDepth 100000 in
set_option maxHeartbeats 4000000 in
theorem kX5_copy (l : Launch) {G : gT} (hN : wN G) (hG : gfl G = false) (v1 : Int32) (v2 : Int32) (v3 : Int32) (v4 : Int32) (v5 : Int32) (σ : sg) (hw : WM σ) : cM l yX5_copy wsX5_copy rmX5_copy G [.ref (gob G 0), .int v1, .int v2, .int v3, .int v4, .int v5] σ (some (.int (fX5_copy v1 v2 v3 v4 v5 σ).1)) (fX5_copy v1 v2 v3 v4 v5 σ).2 := by
  refine cM_of (maxL := 8) (ret := (some .int)) (cc := cX5_copy) (fX5_copy v1 v2 v3 v4 v5 σ) RX5 hN (by decide +kernel) rfl rfl (Nat.le_of_ble_eq_true rfl) rfl ?_
  intro p e s m args below meth c K hr
  have k0 : (0 : Int32).toInt = 0 := rfl
  have k1 : (1 : Int32).toInt = 1 := rfl
  have k2 : (2 : Int32).toInt = 2 := rfl
  have k5 : (5 : Int32).toInt = 5 := rfl
  refine qq_st (lv' := [some (.ref (gob G 0)), some (.int v1), some (.int v2), some (.int v3), some (.int v4), some (.int v5), none, none]) rfl rfl rfl ?_
  refine qq_T (fX5_copy.eq_1 ..) ?_
  refine q_iload_n (pc := 0) K dX5_copy_0 rfl rfl ?_
  refine q_callSi (pc := 1) (rm := rmX5_isSheet) K (kX5_isSheet l hN v1 σ) gX5_copy_X5_isSheet rfl hdS_X5_isSheet ⟨Nat.le_of_ble_eq_true rfl, Nat.le_of_ble_eq_true rfl⟩ rfl rfl ⟨Nat.zero_le _, Nat.zero_le _⟩ rfl rfl (Nat.le_of_ble_eq_true rfl) dX5_copy_1 ?_
  refine q_if_eq (pc := 4) (tgt := 14) K dX5_copy_4 (by decide) (fun c1 => ?_) (fun c1 => ?_)
  · have i90 := eqI c1
    refine q_aload_n (pc := 14) K dX5_copy_14 rfl rfl ?_
    refine q_iconst (pc := 15) (v := 0) K dX5_copy_15 (by decide) ?_
    refine q_callVi (pc := 16) (o := 0) (rm := rmX5_finding) K (kX5_finding l hN hG 0 σ hw (by omega)) gX5_copy_X5_finding rfl hdV_X5_finding ⟨Nat.le_of_ble_eq_true rfl, Nat.le_of_ble_eq_true rfl⟩ rfl rfl ⟨Nat.zero_le _, Nat.zero_le _⟩ (wO_m hG) vw_4 rfl rfl (Nat.le_of_ble_eq_true rfl) dX5_copy_16 ?_
    refine qq_nmI (fun r2 e3 => ?_)
    have hw4 : WM r2.2 := by rw [e3]; exact wX5_finding 0 hw (by omega)
    exact q_iret K hr dX5_copy_19
  · have i91 := neI c1
    have b92 := wiH_t c1
    refine q_iload_n (pc := 7) K dX5_copy_7 rfl rfl ?_
    refine q_callSi (pc := 8) (rm := rmX5_isSheet) K (kX5_isSheet l hN v3 σ) gX5_copy_X5_isSheet rfl hdS_X5_isSheet ⟨Nat.le_of_ble_eq_true rfl, Nat.le_of_ble_eq_true rfl⟩ rfl rfl ⟨Nat.zero_le _, Nat.zero_le _⟩ rfl rfl (Nat.le_of_ble_eq_true rfl) dX5_copy_8 ?_
    refine q_if_ne (pc := 11) (tgt := 20) K dX5_copy_11 (by decide) (fun c5 => ?_) (fun c5 => ?_)
    · have i87 := neI c5
      have b88 := wiH_t c5
      refine q_aload_n (pc := 20) K dX5_copy_20 rfl rfl ?_
      refine q_get (pc := 21) (o := 0) (f := 13) (v := .ref (gad G 7)) K (wO_m hG) vw_4 iwX5_copy_X5 (by decide) mX5_copy_f31 rfl dX5_copy_21 ?_
      refine q_iload_n (pc := 24) K dX5_copy_24 rfl rfl ?_
      refine q_iald (pc := 25) (a := 7) K (by rw [wna_f hG]; decide) (vinN (wlm (n := 4) hG 7 rfl) (by omega) (by omega)) dX5_copy_25 ?_
      refine q_if_eq (pc := 26) (tgt := 38) K dX5_copy_26 (by decide) (fun c6 => ?_) (fun c6 => ?_)
      · have i82 := eqI c6
        refine q_aload_n (pc := 38) K dX5_copy_38 rfl rfl ?_
        refine q_iconst (pc := 39) (v := 5) K dX5_copy_39 (by decide) ?_
        refine q_callVi (pc := 40) (o := 0) (rm := rmX5_finding) K (kX5_finding l hN hG 5 σ hw (by omega)) gX5_copy_X5_finding rfl hdV_X5_finding ⟨Nat.le_of_ble_eq_true rfl, Nat.le_of_ble_eq_true rfl⟩ rfl rfl ⟨Nat.zero_le _, Nat.zero_le _⟩ (wO_m hG) vw_4 rfl rfl (Nat.le_of_ble_eq_true rfl) dX5_copy_40 ?_
        refine qq_nmI (fun r7 e8 => ?_)
        have hw9 : WM r7.2 := by rw [e8]; exact wX5_finding 5 hw (by omega)
        exact q_iret K hr dX5_copy_43
      · have i83 := neI c6
        refine q_aload_n (pc := 29) K dX5_copy_29 rfl rfl ?_
        refine q_get (pc := 30) (o := 0) (f := 13) (v := .ref (gad G 7)) K (wO_m hG) vw_4 iwX5_copy_X5 (by decide) mX5_copy_f31 rfl dX5_copy_30 ?_
        refine q_iload_n (pc := 33) K dX5_copy_33 rfl rfl ?_
        refine q_iald (pc := 34) (a := 7) K (by rw [wna_f hG]; decide) (vinN (wlm (n := 4) hG 7 rfl) (by omega) (by omega)) dX5_copy_34 ?_
        refine q_if_ne (pc := 35) (tgt := 44) K dX5_copy_35 (by decide) (fun c10 => ?_) (fun c10 => ?_)
        · have i80 := neI c10
          refine q_aload_n (pc := 44) K dX5_copy_44 rfl rfl ?_
          refine q_get (pc := 45) (o := 0) (f := 13) (v := .ref (gad G 7)) K (wO_m hG) vw_4 iwX5_copy_X5 (by decide) mX5_copy_f31 rfl dX5_copy_45 ?_
          refine q_iload_n (pc := 48) K dX5_copy_48 rfl rfl ?_
          refine q_iald (pc := 49) (a := 7) K (by rw [wna_f hG]; decide) (vinN (wlm (n := 4) hG 7 rfl) (by omega) (by omega)) dX5_copy_49 ?_
          refine q_aload_n (pc := 50) K dX5_copy_50 rfl rfl ?_
          refine q_get (pc := 51) (o := 0) (f := 13) (v := .ref (gad G 7)) K (wO_m hG) vw_4 iwX5_copy_X5 (by decide) mX5_copy_f31 rfl dX5_copy_51 ?_
          refine q_iload_n (pc := 54) K dX5_copy_54 rfl rfl ?_
          refine q_iald (pc := 55) (a := 7) K (by rw [wna_f hG]; decide) (vinN (wlm (n := 4) hG 7 rfl) (by omega) (by omega)) dX5_copy_55 ?_
          refine q_icmp_eq (pc := 56) (tgt := 65) K dX5_copy_56 (by decide) (fun c11 => ?_) (fun c11 => ?_)
          · have i75 := eqI c11
            refine q_iload (pc := 65) K dX5_copy_65 rfl ?_
            refine q_if_lt (pc := 67) (tgt := 118) K dX5_copy_67 (by decide) (fun c12 => ?_) (fun c12 => ?_)
            · have i70 := ltI c12
              refine q_iconst (pc := 118) (v := 0) K dX5_copy_118 (by decide) ?_
              refine q_istore (pc := 119) (lv' := [some (.ref (gob G 0)), some (.int v1), some (.int v2), some (.int v3), some (.int v4), some (.int v5), some (.int 0), none]) K dX5_copy_119 (by decide) (Nat.le_of_ble_eq_true rfl) rfl ?_
              refine q_iload (pc := 121) K dX5_copy_121 rfl ?_
              refine q_if_ne_f (pc := 123) (tgt := 132) K (by decide) dX5_copy_123 (by decide) ?_
              refine q_aload_n (pc := 126) K dX5_copy_126 rfl rfl ?_
              refine q_iconst (pc := 127) (v := 0) K dX5_copy_127 (by decide) ?_
              refine q_callVi (pc := 128) (o := 0) (rm := rmX5_finding) K (kX5_finding l hN hG 0 σ hw (by omega)) gX5_copy_X5_finding rfl hdV_X5_finding ⟨Nat.le_of_ble_eq_true rfl, Nat.le_of_ble_eq_true rfl⟩ rfl rfl ⟨Nat.zero_le _, Nat.zero_le _⟩ (wO_m hG) vw_4 rfl rfl (Nat.le_of_ble_eq_true rfl) dX5_copy_128 ?_
              refine qq_nmI (fun r13 e14 => ?_)
              have hw15 : WM r13.2 := by rw [e14]; exact wX5_finding 0 hw (by omega)
              exact q_iret K hr dX5_copy_131
            · have i71 := nltI c12
              refine q_iload_n (pc := 70) K dX5_copy_70 rfl rfl ?_
              refine q_if_lt (pc := 71) (tgt := 118) K dX5_copy_71 (by decide) (fun c16 => ?_) (fun c16 => ?_)
              · have i68 := ltI c16
                refine q_iconst (pc := 118) (v := 0) K dX5_copy_118 (by decide) ?_
                refine q_istore (pc := 119) (lv' := [some (.ref (gob G 0)), some (.int v1), some (.int v2), some (.int v3), some (.int v4), some (.int v5), some (.int 0), none]) K dX5_copy_119 (by decide) (Nat.le_of_ble_eq_true rfl) rfl ?_
                refine q_iload (pc := 121) K dX5_copy_121 rfl ?_
                refine q_if_ne_f (pc := 123) (tgt := 132) K (by decide) dX5_copy_123 (by decide) ?_
                refine q_aload_n (pc := 126) K dX5_copy_126 rfl rfl ?_
                refine q_iconst (pc := 127) (v := 0) K dX5_copy_127 (by decide) ?_
                refine q_callVi (pc := 128) (o := 0) (rm := rmX5_finding) K (kX5_finding l hN hG 0 σ hw (by omega)) gX5_copy_X5_finding rfl hdV_X5_finding ⟨Nat.le_of_ble_eq_true rfl, Nat.le_of_ble_eq_true rfl⟩ rfl rfl ⟨Nat.zero_le _, Nat.zero_le _⟩ (wO_m hG) vw_4 rfl rfl (Nat.le_of_ble_eq_true rfl) dX5_copy_128 ?_
                refine qq_nmI (fun r17 e18 => ?_)
                have hw19 : WM r17.2 := by rw [e18]; exact wX5_finding 0 hw (by omega)
                exact q_iret K hr dX5_copy_131
              · have i69 := nltI c16
                refine q_iload (pc := 74) K dX5_copy_74 rfl ?_
                refine q_if_lt (pc := 76) (tgt := 118) K dX5_copy_76 (by decide) (fun c20 => ?_) (fun c20 => ?_)
                · have i66 := ltI c20
                  refine q_iconst (pc := 118) (v := 0) K dX5_copy_118 (by decide) ?_
                  refine q_istore (pc := 119) (lv' := [some (.ref (gob G 0)), some (.int v1), some (.int v2), some (.int v3), some (.int v4), some (.int v5), some (.int 0), none]) K dX5_copy_119 (by decide) (Nat.le_of_ble_eq_true rfl) rfl ?_
                  refine q_iload (pc := 121) K dX5_copy_121 rfl ?_
                  refine q_if_ne_f (pc := 123) (tgt := 132) K (by decide) dX5_copy_123 (by decide) ?_
                  refine q_aload_n (pc := 126) K dX5_copy_126 rfl rfl ?_
                  refine q_iconst (pc := 127) (v := 0) K dX5_copy_127 (by decide) ?_
                  refine q_callVi (pc := 128) (o := 0) (rm := rmX5_finding) K (kX5_finding l hN hG 0 σ hw (by omega)) gX5_copy_X5_finding rfl hdV_X5_finding ⟨Nat.le_of_ble_eq_true rfl, Nat.le_of_ble_eq_true rfl⟩ rfl rfl ⟨Nat.zero_le _, Nat.zero_le _⟩ (wO_m hG) vw_4 rfl rfl (Nat.le_of_ble_eq_true rfl) dX5_copy_128 ?_
                  refine qq_nmI (fun r21 e22 => ?_)
                  have hw23 : WM r21.2 := by rw [e22]; exact wX5_finding 0 hw (by omega)
                  exact q_iret K hr dX5_copy_131
                · have i67 := nltI c20
                  refine q_iload_n (pc := 79) K dX5_copy_79 rfl rfl ?_
                  refine q_i2l (pc := 80) K dX5_copy_80 ?_
                  refine q_iload (pc := 81) K dX5_copy_81 rfl ?_
                  refine q_i2l (pc := 83) K dX5_copy_83 ?_
                  refine q_ladd (pc := 84) K dX5_copy_84 ?_
                  refine q_aload_n (pc := 85) K dX5_copy_85 rfl rfl ?_
                  refine q_get (pc := 86) (o := 0) (f := 14) (v := .ref (gad G 8)) K (wO_m hG) vw_4 iwX5_copy_X5 (by decide) mX5_copy_f34 rfl dX5_copy_86 ?_
                  refine q_iload_n (pc := 89) K dX5_copy_89 rfl rfl ?_
                  refine q_iald (pc := 90) (a := 8) K (by rw [wna_f hG]; decide) (vinN (wlm (n := 4) hG 8 rfl) (by omega) (by omega)) dX5_copy_90 ?_
                  have w24 := wm_size hw v1
                  refine q_i2l (pc := 91) K dX5_copy_91 ?_
                  refine q_lcmp (pc := 92) K dX5_copy_92 ?_
                  refine q_if_gt (pc := 93) (tgt := 118) K dX5_copy_93 (by decide) (fun c25 => ?_) (fun c25 => ?_)
                  · have i64 := ltI c25
                    refine q_iconst (pc := 118) (v := 0) K dX5_copy_118 (by decide) ?_
                    refine q_istore (pc := 119) (lv' := [some (.ref (gob G 0)), some (.int v1), some (.int v2), some (.int v3), some (.int v4), some (.int v5), some (.int 0), none]) K dX5_copy_119 (by decide) (Nat.le_of_ble_eq_true rfl) rfl ?_
                    refine q_iload (pc := 121) K dX5_copy_121 rfl ?_
                    refine q_if_ne_f (pc := 123) (tgt := 132) K (by decide) dX5_copy_123 (by decide) ?_
                    refine q_aload_n (pc := 126) K dX5_copy_126 rfl rfl ?_
                    refine q_iconst (pc := 127) (v := 0) K dX5_copy_127 (by decide) ?_
                    refine q_callVi (pc := 128) (o := 0) (rm := rmX5_finding) K (kX5_finding l hN hG 0 σ hw (by omega)) gX5_copy_X5_finding rfl hdV_X5_finding ⟨Nat.le_of_ble_eq_true rfl, Nat.le_of_ble_eq_true rfl⟩ rfl rfl ⟨Nat.zero_le _, Nat.zero_le _⟩ (wO_m hG) vw_4 rfl rfl (Nat.le_of_ble_eq_true rfl) dX5_copy_128 ?_
                    refine qq_nmI (fun r26 e27 => ?_)
                    have hw28 : WM r26.2 := by rw [e27]; exact wX5_finding 0 hw (by omega)
                    exact q_iret K hr dX5_copy_131
                  · have i65 := nltI c25
                    have q96 := cpF (a := v2) (n := v5) (z := rA σ 8 v1) (by omega) (by omega) (by assumption)
                    refine q_iload (pc := 96) K dX5_copy_96 rfl ?_
                    refine q_i2l (pc := 98) K dX5_copy_98 ?_
                    refine q_iload (pc := 99) K dX5_copy_99 rfl ?_
                    refine q_i2l (pc := 101) K dX5_copy_101 ?_
                    refine q_ladd (pc := 102) K dX5_copy_102 ?_
                    refine q_aload_n (pc := 103) K dX5_copy_103 rfl rfl ?_
                    refine q_get (pc := 104) (o := 0) (f := 14) (v := .ref (gad G 8)) K (wO_m hG) vw_4 iwX5_copy_X5 (by decide) mX5_copy_f34 rfl dX5_copy_104 ?_
                    refine q_iload_n (pc := 107) K dX5_copy_107 rfl rfl ?_
                    refine q_iald (pc := 108) (a := 8) K (by rw [wna_f hG]; decide) (vinN (wlm (n := 4) hG 8 rfl) (by omega) (by omega)) dX5_copy_108 ?_
                    have w29 := wm_size hw v3
                    refine q_i2l (pc := 109) K dX5_copy_109 ?_
                    refine q_lcmp (pc := 110) K dX5_copy_110 ?_
                    refine q_if_gt (pc := 111) (tgt := 118) K dX5_copy_111 (by decide) (fun c30 => ?_) (fun c30 => ?_)
                    · have i62 := ltI c30
                      refine q_iconst (pc := 118) (v := 0) K dX5_copy_118 (by decide) ?_
                      refine q_istore (pc := 119) (lv' := [some (.ref (gob G 0)), some (.int v1), some (.int v2), some (.int v3), some (.int v4), some (.int v5), some (.int 0), none]) K dX5_copy_119 (by decide) (Nat.le_of_ble_eq_true rfl) rfl ?_
                      refine q_iload (pc := 121) K dX5_copy_121 rfl ?_
                      refine q_if_ne_f (pc := 123) (tgt := 132) K (by decide) dX5_copy_123 (by decide) ?_
                      refine q_aload_n (pc := 126) K dX5_copy_126 rfl rfl ?_
                      refine q_iconst (pc := 127) (v := 0) K dX5_copy_127 (by decide) ?_
                      refine q_callVi (pc := 128) (o := 0) (rm := rmX5_finding) K (kX5_finding l hN hG 0 σ hw (by omega)) gX5_copy_X5_finding rfl hdV_X5_finding ⟨Nat.le_of_ble_eq_true rfl, Nat.le_of_ble_eq_true rfl⟩ rfl rfl ⟨Nat.zero_le _, Nat.zero_le _⟩ (wO_m hG) vw_4 rfl rfl (Nat.le_of_ble_eq_true rfl) dX5_copy_128 ?_
                      refine qq_nmI (fun r31 e32 => ?_)
                      have hw33 : WM r31.2 := by rw [e32]; exact wX5_finding 0 hw (by omega)
                      exact q_iret K hr dX5_copy_131
                    · have i63 := nltI c30
                      have q114 := cpF (a := v4) (n := v5) (z := rA σ 8 v3) (by omega) (by omega) (by assumption)
                      refine q_iconst (pc := 114) (v := 1) K dX5_copy_114 (by decide) ?_
                      refine q_goto (pc := 115) (tgt := 119) K dX5_copy_115 (by decide) ?_
                      refine q_istore (pc := 119) (lv' := [some (.ref (gob G 0)), some (.int v1), some (.int v2), some (.int v3), some (.int v4), some (.int v5), some (.int 1), none]) K dX5_copy_119 (by decide) (Nat.le_of_ble_eq_true rfl) rfl ?_
                      refine q_iload (pc := 121) K dX5_copy_121 rfl ?_
                      refine q_if_ne_t (pc := 123) (tgt := 132) K (by decide) dX5_copy_123 (by decide) ?_
                      refine q_iconst (pc := 132) (v := 0) K dX5_copy_132 (by decide) ?_
                      refine q_istore (pc := 133) (lv' := [some (.ref (gob G 0)), some (.int v1), some (.int v2), some (.int v3), some (.int v4), some (.int v5), some (.int 1), some (.int 0)]) K dX5_copy_133 (by decide) (Nat.le_of_ble_eq_true rfl) rfl ?_
                      refine qq_drop 6 (lv' := [some (.ref (gob G 0)), some (.int v1), some (.int v2), some (.int v3), some (.int v4), some (.int v5), none, some (.int 0)]) rfl ?_
                      refine lX5_copy_135 l hN hG K 41 v1 v2 v3 v4 v5 0 σ hw (by omega) (by omega) (by omega) (by omega) (by omega) (fun r45 hw47 => ?_)
                      refine q_iconst (pc := 169) (v := 0) K dX5_copy_169 (by decide) ?_
                      refine q_istore (pc := 170) (lv' := [some (.ref (gob G 0)), none, none, some (.int v3), some (.int v4), some (.int v5), none, some (.int 0)]) K dX5_copy_170 (by decide) (Nat.le_of_ble_eq_true rfl) rfl ?_
                      refine lX5_copy_172 l hN hG K 41 v3 v4 v5 0 r45 hw47 (by omega) (by omega) (by omega) (by omega) (by omega) (fun r59 hw61 => ?_)
                      refine q_iload (pc := 207) K dX5_copy_207 rfl ?_
                      exact q_iret K hr dX5_copy_209
          · have i76 := neI c11
            refine q_aload_n (pc := 59) K dX5_copy_59 rfl rfl ?_
            refine q_iconst (pc := 60) (v := 2) K dX5_copy_60 (by decide) ?_
            refine q_callVi (pc := 61) (o := 0) (rm := rmX5_finding) K (kX5_finding l hN hG 2 σ hw (by omega)) gX5_copy_X5_finding rfl hdV_X5_finding ⟨Nat.le_of_ble_eq_true rfl, Nat.le_of_ble_eq_true rfl⟩ rfl rfl ⟨Nat.zero_le _, Nat.zero_le _⟩ (wO_m hG) vw_4 rfl rfl (Nat.le_of_ble_eq_true rfl) dX5_copy_61 ?_
            refine qq_nmI (fun r72 e73 => ?_)
            have hw74 : WM r72.2 := by rw [e73]; exact wX5_finding 2 hw (by omega)
            exact q_iret K hr dX5_copy_64
        · have i81 := eqI c10
          refine q_aload_n (pc := 38) K dX5_copy_38 rfl rfl ?_
          refine q_iconst (pc := 39) (v := 5) K dX5_copy_39 (by decide) ?_
          refine q_callVi (pc := 40) (o := 0) (rm := rmX5_finding) K (kX5_finding l hN hG 5 σ hw (by omega)) gX5_copy_X5_finding rfl hdV_X5_finding ⟨Nat.le_of_ble_eq_true rfl, Nat.le_of_ble_eq_true rfl⟩ rfl rfl ⟨Nat.zero_le _, Nat.zero_le _⟩ (wO_m hG) vw_4 rfl rfl (Nat.le_of_ble_eq_true rfl) dX5_copy_40 ?_
          refine qq_nmI (fun r77 e78 => ?_)
          have hw79 : WM r77.2 := by rw [e78]; exact wX5_finding 5 hw (by omega)
          exact q_iret K hr dX5_copy_43
    · have i89 := eqI c5
      refine q_aload_n (pc := 14) K dX5_copy_14 rfl rfl ?_
      refine q_iconst (pc := 15) (v := 0) K dX5_copy_15 (by decide) ?_
      refine q_callVi (pc := 16) (o := 0) (rm := rmX5_finding) K (kX5_finding l hN hG 0 σ hw (by omega)) gX5_copy_X5_finding rfl hdV_X5_finding ⟨Nat.le_of_ble_eq_true rfl, Nat.le_of_ble_eq_true rfl⟩ rfl rfl ⟨Nat.zero_le _, Nat.zero_le _⟩ (wO_m hG) vw_4 rfl rfl (Nat.le_of_ble_eq_true rfl) dX5_copy_16 ?_
      refine qq_nmI (fun r84 e85 => ?_)
      have hw86 : WM r84.2 := by rw [e85]; exact wX5_finding 0 hw (by omega)
      exact q_iret K hr dX5_copy_19
theorem hdV_X5_load : yX5_load.cls = RX5 ∧ yX5_load.cls ≠ "java/lang/invoke/MethodHandle" ∧ yX5_load.cls ≠ "java/lang/invoke/VarHandle" ∧ (parseMethodDescriptor yX5_load.desc).map (fun d => d.parameters.length) = some 1 := by decide +kernel
theorem mX5_load_f34 : Cond.fieldLink RX5 34 "WaxTreatiesModel" "sizeOf" "[I" ∈ wsX5_load := List.mem_of_getElem? (i := 1) rfl
theorem iwX5_load_X5 : ∀ w ∈ wsX50, w ∈ wsX5_load := fun w h => List.mem_cons_of_mem _ (List.mem_append_right _ h)
theorem mX5_load_f9 : Cond.fieldLink RX5 9 "WaxTreatiesModel" "now" "[I" ∈ wsX5_load := List.mem_of_getElem? (i := 2) rfl
theorem mX5_load_f37 : Cond.fieldLink RX5 37 "WaxTreatiesModel" "number" "[I" ∈ wsX5_load := List.mem_of_getElem? (i := 3) rfl
set_option maxRecDepth 100000 in
set_option maxHeartbeats 4000000 in
theorem lX5_load_18 {p : Program} (l : Launch) {e : Env} {s : State} {m : MethodId} {args : Array Value} {below : List Frame} {meth : Method} {c : Code} {Q : State → Prop} {G : gT} (hN : wN G) (hG : gfl G = false) (K : qK p s m args meth c cX5_load 4 RX5 wsX5_load G) : ∀ (k : Nat) (v1 v3 : Int32) (σ : sg) (hw : WM σ) (hv3 : 0 ≤ v3.toInt ∧ v3.toInt ≤ 8) (hs : 0 ≤ v1.toInt ∧ v1.toInt ≤ 3) (hmu : (8 - v3.toInt).toNat < k) {ρ : Type} {E : ρ → Prop} {f : Int32 × sg → ρ} (hk : ∀ r : Int32 × sg, (WM r.2) → (0 ≤ r.1.toInt ∧ r.1.toInt ≤ 8) → qq p l e (headSpec wsX5_load rmX5_load).room s m args below meth c Q 4 G E (f r) 84 [none, none, none, some (.int r.1)] [] r.2), qq p l e (headSpec wsX5_load rmX5_load).room s m args below meth c Q 4 G E (bnd (LX5_load_18 k v1 v3 σ) f) 18 [some (.ref (gob G 0)), some (.int v1), none, some (.int v3)] [] σ := by
  intro k
  induction k with
  | zero => intro v1 v3 σ hw hv3 hs hmu ρ E f hk; exact absurd hmu (Nat.not_lt_zero _)
  | succ k ih =>
    intro v1 v3 σ hw hv3 hs hmu ρ E f hk
    have k0 : (0 : Int32).toInt = 0 := rfl
    have k1 : (1 : Int32).toInt = 1 := rfl
    have k40 : (40 : Int32).toInt = 40 := rfl
    have k48 : (48 : Int32).toInt = 48 := rfl
    have k99 : (99 : Int32).toInt = 99 := rfl
    refine qq_in ?_
    refine qq_T (LX5_load_18.eq_2 ..) ?_
    refine q_iload_n (pc := 18) K dX5_load_18 rfl rfl ?_
    refine q_aload_n (pc := 19) K dX5_load_19 rfl rfl ?_
    refine q_get (pc := 20) (o := 0) (f := 14) (v := .ref (gad G 8)) K (wO_m hG) vw_4 iwX5_load_X5 (by decide) mX5_load_f34 rfl dX5_load_20 ?_
    refine q_iload_n (pc := 23) K dX5_load_23 rfl rfl ?_
    refine q_iald (pc := 24) (a := 8) K (by rw [wna_f hG]; decide) (vinN (wlm (n := 4) hG 8 rfl) (by omega) (by omega)) dX5_load_24 ?_
    have w2 := wm_size hw v1
    refine q_icmp_ge (pc := 25) (tgt := 84) K dX5_load_25 (by decide) (fun c3 => ?_) (fun c3 => ?_)
    · have i20 := leI c3
      refine qq_drop 0 (lv' := [none, some (.int v1), none, some (.int v3)]) rfl ?_
      refine qq_drop 1 (lv' := [none, none, none, some (.int v3)]) rfl ?_
      exact qq_leaf (hk (v3, σ) hw (by omega))
    · have i21 := nleI c3
      refine q_iload_n (pc := 28) K dX5_load_28 rfl rfl ?_
      refine q_aload_n (pc := 29) K dX5_load_29 rfl rfl ?_
      refine q_get (pc := 30) (o := 0) (f := 0) (v := .ref (gad G 0)) K (wO_m hG) vw_4 iwX5_load_X5 (by decide) mX5_load_f9 rfl dX5_load_30 ?_
      refine q_iconst (pc := 33) (v := 0) K dX5_load_33 (by decide) ?_
      refine q_iald (pc := 34) (a := 0) K (by rw [wna_f hG]; decide) (vinN (wlm (n := 80) hG 0 rfl) (by omega) (by omega)) dX5_load_34 ?_
      have w4 := wm_many hw (show 0 < 4 by decide)
      refine q_icmp_ge (pc := 35) (tgt := 84) K dX5_load_35 (by decide) (fun c5 => ?_) (fun c5 => ?_)
      · have i18 := leI c5
        refine qq_drop 0 (lv' := [none, some (.int v1), none, some (.int v3)]) rfl ?_
        refine qq_drop 1 (lv' := [none, none, none, some (.int v3)]) rfl ?_
        exact qq_leaf (hk (v3, σ) hw (by omega))
      · have i19 := nleI c5
        refine q_aload_n (pc := 38) K dX5_load_38 rfl rfl ?_
        refine q_get (pc := 39) (o := 0) (f := 15) (v := .ref (gad G 9)) K (wO_m hG) vw_4 iwX5_load_X5 (by decide) mX5_load_f37 rfl dX5_load_39 ?_
        refine q_bipush (pc := 42) (v := 40) K dX5_load_42 (by decide) ?_
        refine q_iload_n (pc := 44) K dX5_load_44 rfl rfl ?_
        refine q_imul (pc := 45) K dX5_load_45 ?_
        refine q_iload_n (pc := 46) K dX5_load_46 rfl rfl ?_
        refine q_iadd (pc := 47) K dX5_load_47 ?_
        have a6 := mulI (x := 40) (y := v1) (by first | omega | (simp only [k40]; omega)) (by first | omega | (simp only [k40]; omega))
        simp only [k40] at a6
        have a7 := addI (x := (40 * v1)) (y := v3) (by omega) (by omega)
        refine q_iald (pc := 48) (a := 9) K (by rw [wna_f hG]; decide) (vinN (wlm (n := 160) hG 9 rfl) (by omega) (by omega)) dX5_load_48 ?_
        refine q_iconst (pc := 49) (v := 1) K dX5_load_49 (by decide) ?_
        refine q_bipush (pc := 50) (v := 99) K dX5_load_50 (by decide) ?_
        refine q_callSi (pc := 52) (rm := rmX5_within) K (kX5_within l hN (rA σ 9 ((40 * v1) + v3)) 1 99 σ) gX5_load_X5_within rfl hdS_X5_within ⟨Nat.le_of_ble_eq_true rfl, Nat.le_of_ble_eq_true rfl⟩ rfl rfl ⟨Nat.zero_le _, Nat.zero_le _⟩ rfl rfl (Nat.le_of_ble_eq_true rfl) dX5_load_52 ?_
        refine q_if_eq (pc := 55) (tgt := 84) K dX5_load_55 (by decide) (fun c8 => ?_) (fun c8 => ?_)
        · have i15 := eqI c8
          refine qq_drop 0 (lv' := [none, some (.int v1), none, some (.int v3)]) rfl ?_
          refine qq_drop 1 (lv' := [none, none, none, some (.int v3)]) rfl ?_
          exact qq_leaf (hk (v3, σ) hw (by omega))
        · have i16 := neI c8
          have b17 := wi_t c8
          refine q_aload_n (pc := 58) K dX5_load_58 rfl rfl ?_
          refine q_get (pc := 59) (o := 0) (f := 0) (v := .ref (gad G 0)) K (wO_m hG) vw_4 iwX5_load_X5 (by decide) mX5_load_f9 rfl dX5_load_59 ?_
          refine q_bipush (pc := 62) (v := 48) K dX5_load_62 (by decide) ?_
          refine q_iload_n (pc := 64) K dX5_load_64 rfl rfl ?_
          refine q_iadd (pc := 65) K dX5_load_65 ?_
          refine q_aload_n (pc := 66) K dX5_load_66 rfl rfl ?_
          refine q_get (pc := 67) (o := 0) (f := 15) (v := .ref (gad G 9)) K (wO_m hG) vw_4 iwX5_load_X5 (by decide) mX5_load_f37 rfl dX5_load_67 ?_
          refine q_bipush (pc := 70) (v := 40) K dX5_load_70 (by decide) ?_
          refine q_iload_n (pc := 72) K dX5_load_72 rfl rfl ?_
          refine q_imul (pc := 73) K dX5_load_73 ?_
          refine q_iload_n (pc := 74) K dX5_load_74 rfl rfl ?_
          refine q_iadd (pc := 75) K dX5_load_75 ?_
          refine q_iald (pc := 76) (a := 9) K (by rw [wna_f hG]; decide) (vinN (wlm (n := 160) hG 9 rfl) (by omega) (by omega)) dX5_load_76 ?_
          have a9 := addI (x := 48) (y := v3) (by omega) (by omega)
          refine q_iast (pc := 77) (a := 0) K (by rw [wna_f hG]; decide) (vinN (wlm (n := 80) hG 0 rfl) (by omega) (by omega)) dX5_load_77 (fun s10 e11 => ?_)
          have hw12 : WM s10 := by rw [e11]; exact wmRn hw (by decide) (by omega) (by omega) (by omega) (by omega)
          have m13 := mKeep e11 (by omega)
          refine q_iinc (pc := 78) (v := (v3 + 1)) (lv' := [some (.ref (gob G 0)), some (.int v1), none, some (.int (v3 + 1))]) K dX5_load_78 rfl rfl (by decide) rfl ?_
          refine q_goto (pc := 81) (tgt := 18) K dX5_load_81 (by decide) ?_
          have a14 := addI (x := v3) (y := 1) (by omega) (by omega)
          exact qq_out (ih v1 (v3 + 1) s10 hw12 (by omega) (by omega) (by omega) hk)
set_option maxRecDepth 100000 in
set_option maxHeartbeats 4000000 in
theorem kX5_load (l : Launch) {G : gT} (hN : wN G) (hG : gfl G = false) (v1 : Int32) (σ : sg) (hw : WM σ) : cM l yX5_load wsX5_load rmX5_load G [.ref (gob G 0), .int v1] σ (some (.int (fX5_load v1 σ).1)) (fX5_load v1 σ).2 := by
  refine cM_of (maxL := 4) (ret := (some .int)) (cc := cX5_load) (fX5_load v1 σ) RX5 hN (by decide +kernel) rfl rfl (Nat.le_of_ble_eq_true rfl) rfl ?_
  intro p e s m args below meth c K hr
  have k0 : (0 : Int32).toInt = 0 := rfl
  refine qq_st (lv' := [some (.ref (gob G 0)), some (.int v1), none, none]) rfl rfl rfl ?_
  refine qq_T (fX5_load.eq_1 ..) ?_
  refine q_aload_n (pc := 0) K dX5_load_0 rfl rfl ?_
  refine q_iload_n (pc := 1) K dX5_load_1 rfl rfl ?_
  refine q_callVi (pc := 2) (o := 0) (rm := rmX5_lacksOf) K (kX5_lacksOf l hN hG v1 σ hw) gX5_load_X5_lacksOf rfl hdV_X5_lacksOf ⟨Nat.le_of_ble_eq_true rfl, Nat.le_of_ble_eq_true rfl⟩ rfl rfl ⟨Nat.zero_le _, Nat.zero_le _⟩ (wO_m hG) vw_4 rfl rfl (Nat.le_of_ble_eq_true rfl) dX5_load_2 ?_
  have ls := lsR v1 σ
  refine q_istore_n (pc := 5) (lv' := [some (.ref (gob G 0)), some (.int v1), some (.int (fX5_lacksOf v1 σ)), none]) K dX5_load_5 rfl (by decide) (Nat.le_of_ble_eq_true rfl) rfl ?_
  refine q_iload_n (pc := 6) K dX5_load_6 rfl rfl ?_
  refine q_if_lt (pc := 7) (tgt := 16) K dX5_load_7 (by decide) (fun c1 => ?_) (fun c1 => ?_)
  · have i29 := ltI c1
    have b30 := lsS_t c1
    refine q_iconst (pc := 16) (v := 0) K dX5_load_16 (by decide) ?_
    refine q_istore_n (pc := 17) (lv' := [some (.ref (gob G 0)), some (.int v1), some (.int (fX5_lacksOf v1 σ)), some (.int 0)]) K dX5_load_17 rfl (by decide) (Nat.le_of_ble_eq_true rfl) rfl ?_
    refine qq_drop 2 (lv' := [some (.ref (gob G 0)), some (.int v1), none, some (.int 0)]) rfl ?_
    refine lX5_load_18 l hN hG K 9 v1 0 σ hw (by omega) (by omega) (by omega) (fun r22 hw24 x25 => ?_)
    refine q_iload_n (pc := 84) K dX5_load_84 rfl rfl ?_
    exact q_iret K hr dX5_load_85
  · have i31 := nltI c1
    refine q_aload_n (pc := 10) K dX5_load_10 rfl rfl ?_
    refine q_iload_n (pc := 11) K dX5_load_11 rfl rfl ?_
    refine q_callVi (pc := 12) (o := 0) (rm := rmX5_finding) K (kX5_finding l hN hG (fX5_lacksOf v1 σ) σ hw (by omega)) gX5_load_X5_finding rfl hdV_X5_finding ⟨Nat.le_of_ble_eq_true rfl, Nat.le_of_ble_eq_true rfl⟩ rfl rfl ⟨Nat.zero_le _, Nat.zero_le _⟩ (wO_m hG) vw_4 rfl rfl (Nat.le_of_ble_eq_true rfl) dX5_load_12 ?_
    refine qq_nmI (fun r26 e27 => ?_)
    have hw28 : WM r26.2 := by rw [e27]; exact wX5_finding (fX5_lacksOf v1 σ) hw (by omega)
    exact q_iret K hr dX5_load_15
theorem hdV_X5_judge : yX5_judge.cls = RX5 ∧ yX5_judge.cls ≠ "java/lang/invoke/MethodHandle" ∧ yX5_judge.cls ≠ "java/lang/invoke/VarHandle" ∧ (parseMethodDescriptor yX5_judge.desc).map (fun d => d.parameters.length) = some 2 := by decide +kernel
theorem mX5_judge_f34 : Cond.fieldLink RX5 34 "WaxTreatiesModel" "sizeOf" "[I" ∈ wsX5_judge := List.mem_of_getElem? (i := 1) rfl
theorem iwX5_judge_X5 : ∀ w ∈ wsX50, w ∈ wsX5_judge := fun w h => List.mem_cons_of_mem _ (List.mem_append_right _ h)
theorem mX5_judge_f9 : Cond.fieldLink RX5 9 "WaxTreatiesModel" "now" "[I" ∈ wsX5_judge := List.mem_of_getElem? (i := 2) rfl
theorem mX5_judge_f16 : Cond.fieldLink RX5 16 "WaxTreatiesModel" "tried" "[I" ∈ wsX5_judge := List.mem_of_getElem? (i := 3) rfl
theorem mX5_judge_f37 : Cond.fieldLink RX5 37 "WaxTreatiesModel" "number" "[I" ∈ wsX5_judge := List.mem_of_getElem? (i := 4) rfl
set_option maxRecDepth 100000 in
set_option maxHeartbeats 4000000 in
theorem lX5_judge_59 {p : Program} (l : Launch) {e : Env} {s : State} {m : MethodId} {args : Array Value} {below : List Frame} {meth : Method} {c : Code} {G : gT} (hN : wN G) (hG : gfl G = false) (K : qK p s m args meth c cX5_judge 7 RX5 wsX5_judge G) : ∀ (k : Nat) (v1 v2 v5 : Int32) (σ : sg) (hw : WM σ) (hv5 : 0 ≤ v5.toInt ∧ v5.toInt ≤ 40) (hs : 0 ≤ v1.toInt ∧ v1.toInt ≤ 3) (hd : 0 ≤ v2.toInt ∧ v2.toInt ≤ 7) (hmu : (40 - v5.toInt).toNat < k) (hr : meth.sig.returnType = some .int) (T0 : Int32 × sg), qq p l e (headSpec wsX5_judge rmX5_judge).room s m args below meth c (MQ below (cQ G (some (.int T0.1)) T0.2) args s 0 0 (wA G)) 7 G (fun T => T = T0) (LX5_judge_59 k v1 v2 v5 σ) 59 [some (.ref (gob G 0)), some (.int v1), some (.int v2), none, none, some (.int v5), none] [] σ := by
  intro k
  induction k with
  | zero => intro v1 v2 v5 σ hw hv5 hs hd hmu hr T0; exact absurd hmu (Nat.not_lt_zero _)
  | succ k ih =>
    intro v1 v2 v5 σ hw hv5 hs hd hmu hr T0
    have k0 : (0 : Int32).toInt = 0 := rfl
    have k1 : (1 : Int32).toInt = 1 := rfl
    have k40 : (40 : Int32).toInt = 40 := rfl
    have k56 : (56 : Int32).toInt = 56 := rfl
    refine qq_T (LX5_judge_59.eq_2 ..) ?_
    refine q_iload (pc := 59) K dX5_judge_59 rfl ?_
    refine q_aload_n (pc := 61) K dX5_judge_61 rfl rfl ?_
    refine q_get (pc := 62) (o := 0) (f := 14) (v := .ref (gad G 8)) K (wO_m hG) vw_4 iwX5_judge_X5 (by decide) mX5_judge_f34 rfl dX5_judge_62 ?_
    refine q_iload_n (pc := 65) K dX5_judge_65 rfl rfl ?_
    refine q_iald (pc := 66) (a := 8) K (by rw [wna_f hG]; decide) (vinN (wlm (n := 4) hG 8 rfl) (by omega) (by omega)) dX5_judge_66 ?_
    have w7 := wm_size hw v1
    refine q_icmp_ge (pc := 67) (tgt := 115) K dX5_judge_67 (by decide) (fun c8 => ?_) (fun c8 => ?_)
    · have i19 := leI c8
      refine q_iconst (pc := 115) (v := 0) K dX5_judge_115 (by decide) ?_
      exact q_iret K hr dX5_judge_116
    · have i20 := nleI c8
      refine q_aload_n (pc := 70) K dX5_judge_70 rfl rfl ?_
      refine q_aload_n (pc := 71) K dX5_judge_71 rfl rfl ?_
      refine q_get (pc := 72) (o := 0) (f := 2) (v := .ref (gad G 2)) K (wO_m hG) vw_4 iwX5_judge_X5 (by decide) mX5_judge_f16 rfl dX5_judge_72 ?_
      refine q_callVi (pc := 75) (o := 0) (rm := rmX5_anHour) K (kX5_anHour l hN hG 2 (by decide) σ hw) gX5_judge_X5_anHour rfl hdV_X5_anHour ⟨Nat.le_of_ble_eq_true rfl, Nat.le_of_ble_eq_true rfl⟩ rfl rfl ⟨Nat.zero_le _, Nat.zero_le _⟩ (wO_m hG) vw_4 rfl rfl (Nat.le_of_ble_eq_true rfl) dX5_judge_75 ?_
      refine qq_nmI (fun r9 e10 => ?_)
      have hw11 : WM r9.2 := by rw [e10]; exact wX5_anHour 2 (by decide) hw 
      have me10 := manyA (show 2 < 4 by decide) e10
      have ne10 := manyA0 e10
      refine q_istore (pc := 78) (lv' := [some (.ref (gob G 0)), some (.int v1), some (.int v2), none, none, some (.int v5), some (.int r9.1)]) K dX5_judge_78 (by decide) (Nat.le_of_ble_eq_true rfl) rfl ?_
      refine q_aload_n (pc := 80) K dX5_judge_80 rfl rfl ?_
      refine q_get (pc := 81) (o := 0) (f := 15) (v := .ref (gad G 9)) K (wO_m hG) vw_4 iwX5_judge_X5 (by decide) mX5_judge_f37 rfl dX5_judge_81 ?_
      refine q_bipush (pc := 84) (v := 40) K dX5_judge_84 (by decide) ?_
      refine q_iload_n (pc := 86) K dX5_judge_86 rfl rfl ?_
      refine q_imul (pc := 87) K dX5_judge_87 ?_
      refine q_iload (pc := 88) K dX5_judge_88 rfl ?_
      refine q_iadd (pc := 90) K dX5_judge_90 ?_
      have a12 := mulI (x := 40) (y := v1) (by first | omega | (simp only [k40]; omega)) (by first | omega | (simp only [k40]; omega))
      simp only [k40] at a12
      have a13 := addI (x := (40 * v1)) (y := v5) (by omega) (by omega)
      refine q_iald (pc := 91) (a := 9) K (by rw [wna_f hG]; decide) (vinN (wlm (n := 160) hG 9 rfl) (by omega) (by omega)) dX5_judge_91 ?_
      refine q_aload_n (pc := 92) K dX5_judge_92 rfl rfl ?_
      refine q_get (pc := 93) (o := 0) (f := 2) (v := .ref (gad G 2)) K (wO_m hG) vw_4 iwX5_judge_X5 (by decide) mX5_judge_f16 rfl dX5_judge_93 ?_
      refine q_bipush (pc := 96) (v := 56) K dX5_judge_96 (by decide) ?_
      refine q_iload_n (pc := 98) K dX5_judge_98 rfl rfl ?_
      refine q_iadd (pc := 99) K dX5_judge_99 ?_
      have a14 := addI (x := 56) (y := v2) (by omega) (by omega)
      refine q_iald (pc := 100) (a := 2) K (by rw [wna_f hG]; decide) (vinN (wlm (n := 80) hG 2 rfl) (by omega) (by omega)) dX5_judge_100 ?_
      refine q_icmp_eq (pc := 101) (tgt := 109) K dX5_judge_101 (by decide) (fun c15 => ?_) (fun c15 => ?_)
      · have i17 := eqI c15
        refine q_iinc (pc := 109) (v := (v5 + 1)) (lv' := [some (.ref (gob G 0)), some (.int v1), some (.int v2), none, none, some (.int (v5 + 1)), some (.int r9.1)]) K dX5_judge_109 rfl rfl (by decide) rfl ?_
        refine q_goto (pc := 112) (tgt := 59) K dX5_judge_112 (by decide) ?_
        refine qq_drop 6 (lv' := [some (.ref (gob G 0)), some (.int v1), some (.int v2), none, none, some (.int (v5 + 1)), none]) rfl ?_
        have a16 := addI (x := v5) (y := 1) (by omega) (by omega)
        exact ih v1 v2 (v5 + 1) r9.2 hw11 (by omega) (by omega) (by omega) (by omega) hr _
      · have i18 := neI c15
        refine q_iconst (pc := 104) (v := 1) K dX5_judge_104 (by decide) ?_
        refine q_iload (pc := 105) K dX5_judge_105 rfl ?_
        refine q_iadd (pc := 107) K dX5_judge_107 ?_
        exact q_iret K hr dX5_judge_108
set_option maxRecDepth 100000 in
set_option maxHeartbeats 4000000 in
theorem kX5_judge (l : Launch) {G : gT} (hN : wN G) (hG : gfl G = false) (v1 : Int32) (v2 : Int32) (σ : sg) (hw : WM σ) : cM l yX5_judge wsX5_judge rmX5_judge G [.ref (gob G 0), .int v1, .int v2] σ (some (.int (fX5_judge v1 v2 σ).1)) (fX5_judge v1 v2 σ).2 := by
  refine cM_of (maxL := 7) (ret := (some .int)) (cc := cX5_judge) (fX5_judge v1 v2 σ) RX5 hN (by decide +kernel) rfl rfl (Nat.le_of_ble_eq_true rfl) rfl ?_
  intro p e s m args below meth c K hr
  have k0 : (0 : Int32).toInt = 0 := rfl
  refine qq_st (lv' := [some (.ref (gob G 0)), some (.int v1), some (.int v2), none, none, none, none]) rfl rfl rfl ?_
  refine qq_T (fX5_judge.eq_1 ..) ?_
  refine q_aload_n (pc := 0) K dX5_judge_0 rfl rfl ?_
  refine q_iload_n (pc := 1) K dX5_judge_1 rfl rfl ?_
  refine q_callVi (pc := 2) (o := 0) (rm := rmX5_lacksOf) K (kX5_lacksOf l hN hG v1 σ hw) gX5_judge_X5_lacksOf rfl hdV_X5_lacksOf ⟨Nat.le_of_ble_eq_true rfl, Nat.le_of_ble_eq_true rfl⟩ rfl rfl ⟨Nat.zero_le _, Nat.zero_le _⟩ (wO_m hG) vw_4 rfl rfl (Nat.le_of_ble_eq_true rfl) dX5_judge_2 ?_
  have ls := lsR v1 σ
  refine q_istore_n (pc := 5) (lv' := [some (.ref (gob G 0)), some (.int v1), some (.int v2), some (.int (fX5_lacksOf v1 σ)), none, none, none]) K dX5_judge_5 rfl (by decide) (Nat.le_of_ble_eq_true rfl) rfl ?_
  refine q_iload_n (pc := 6) K dX5_judge_6 rfl rfl ?_
  refine q_if_lt (pc := 7) (tgt := 16) K dX5_judge_7 (by decide) (fun c1 => ?_) (fun c1 => ?_)
  · have i30 := ltI c1
    have b31 := lsS_t c1
    refine q_aload_n (pc := 16) K dX5_judge_16 rfl rfl ?_
    refine q_aload_n (pc := 17) K dX5_judge_17 rfl rfl ?_
    refine q_iload_n (pc := 18) K dX5_judge_18 rfl rfl ?_
    refine q_callVi (pc := 19) (o := 0) (rm := rmX5_isDeed) K (kX5_isDeed l hN hG v2 σ hw) gX5_judge_X5_isDeed rfl hdV_X5_isDeed ⟨Nat.le_of_ble_eq_true rfl, Nat.le_of_ble_eq_true rfl⟩ rfl rfl ⟨Nat.zero_le _, Nat.zero_le _⟩ (wO_m hG) vw_4 rfl rfl (Nat.le_of_ble_eq_true rfl) dX5_judge_19 ?_
    refine q_aload_n (pc := 22) K dX5_judge_22 rfl rfl ?_
    refine q_get (pc := 23) (o := 0) (f := 14) (v := .ref (gad G 8)) K (wO_m hG) vw_4 iwX5_judge_X5 (by decide) mX5_judge_f34 rfl dX5_judge_23 ?_
    refine q_iload_n (pc := 26) K dX5_judge_26 rfl rfl ?_
    refine q_iald (pc := 27) (a := 8) K (by rw [wna_f hG]; decide) (vinN (wlm (n := 4) hG 8 rfl) (by omega) (by omega)) dX5_judge_27 ?_
    have w2 := wm_size hw v1
    refine q_callVi (pc := 28) (o := 0) (rm := rmX5_lacks) K (kX5_lacks l hN hG (fX5_isDeed v2 σ) (rA σ 8 v1) σ hw) gX5_judge_X5_lacks rfl hdV_X5_lacks ⟨Nat.le_of_ble_eq_true rfl, Nat.le_of_ble_eq_true rfl⟩ rfl rfl ⟨Nat.zero_le _, Nat.zero_le _⟩ (wO_m hG) vw_4 rfl rfl (Nat.le_of_ble_eq_true rfl) dX5_judge_28 ?_
    have lr := lkR (fX5_isDeed v2 σ) (rA σ 8 v1) σ
    refine q_istore (pc := 31) (lv' := [some (.ref (gob G 0)), some (.int v1), some (.int v2), some (.int (fX5_lacksOf v1 σ)), some (.int (fX5_lacks (fX5_isDeed v2 σ) (rA σ 8 v1) σ)), none, none]) K dX5_judge_31 (by decide) (Nat.le_of_ble_eq_true rfl) rfl ?_
    refine q_iload (pc := 33) K dX5_judge_33 rfl ?_
    refine q_if_lt (pc := 35) (tgt := 45) K dX5_judge_35 (by decide) (fun c3 => ?_) (fun c3 => ?_)
    · have i24 := ltI c3
      have b25 := lkD_t hw c3
      refine q_aload_n (pc := 45) K dX5_judge_45 rfl rfl ?_
      refine q_get (pc := 46) (o := 0) (f := 0) (v := .ref (gad G 0)) K (wO_m hG) vw_4 iwX5_judge_X5 (by decide) mX5_judge_f9 rfl dX5_judge_46 ?_
      refine q_aload_n (pc := 49) K dX5_judge_49 rfl rfl ?_
      refine q_get (pc := 50) (o := 0) (f := 2) (v := .ref (gad G 2)) K (wO_m hG) vw_4 iwX5_judge_X5 (by decide) mX5_judge_f16 rfl dX5_judge_50 ?_
      refine q_callSv (pc := 53) (rm := rmX5_row) K (kX5_row l hN hG 0 (by decide) 2 (by decide) σ (by omega)) gX5_judge_X5_row rfl hdS_X5_row ⟨Nat.le_of_ble_eq_true rfl, Nat.le_of_ble_eq_true rfl⟩ rfl rfl ⟨Nat.zero_le _, Nat.zero_le _⟩ rfl rfl (Nat.le_of_ble_eq_true rfl) dX5_judge_53 ?_
      refine qq_nmV (fun r4 e5 => ?_)
      have hw6 : WM r4 := by rw [e5]; exact wX5_row 0 (by decide) 2 (by decide) hw (by omega)
      have me5 := row0 (show 0 ≠ 2 by decide) e5
      refine q_iconst (pc := 56) (v := 0) K dX5_judge_56 (by decide) ?_
      refine q_istore (pc := 57) (lv' := [some (.ref (gob G 0)), some (.int v1), some (.int v2), some (.int (fX5_lacksOf v1 σ)), some (.int (fX5_lacks (fX5_isDeed v2 σ) (rA σ 8 v1) σ)), some (.int 0), none]) K dX5_judge_57 (by decide) (Nat.le_of_ble_eq_true rfl) rfl ?_
      refine qq_drop 3 (lv' := [some (.ref (gob G 0)), some (.int v1), some (.int v2), none, some (.int (fX5_lacks (fX5_isDeed v2 σ) (rA σ 8 v1) σ)), some (.int 0), none]) rfl ?_
      refine qq_drop 4 (lv' := [some (.ref (gob G 0)), some (.int v1), some (.int v2), none, none, some (.int 0), none]) rfl ?_
      exact lX5_judge_59 l hN hG K 41 v1 v2 0 r4 hw6 (by omega) (by omega) (by omega) (by omega) hr _
    · have i26 := nltI c3
      refine q_aload_n (pc := 38) K dX5_judge_38 rfl rfl ?_
      refine q_iload (pc := 39) K dX5_judge_39 rfl ?_
      refine q_callVi (pc := 41) (o := 0) (rm := rmX5_finding) K (kX5_finding l hN hG (fX5_lacks (fX5_isDeed v2 σ) (rA σ 8 v1) σ) σ hw (by omega)) gX5_judge_X5_finding rfl hdV_X5_finding ⟨Nat.le_of_ble_eq_true rfl, Nat.le_of_ble_eq_true rfl⟩ rfl rfl ⟨Nat.zero_le _, Nat.zero_le _⟩ (wO_m hG) vw_4 rfl rfl (Nat.le_of_ble_eq_true rfl) dX5_judge_41 ?_
      refine qq_nmI (fun r21 e22 => ?_)
      have hw23 : WM r21.2 := by rw [e22]; exact wX5_finding (fX5_lacks (fX5_isDeed v2 σ) (rA σ 8 v1) σ) hw (by omega)
      exact q_iret K hr dX5_judge_44
  · have i32 := nltI c1
    refine q_aload_n (pc := 10) K dX5_judge_10 rfl rfl ?_
    refine q_iload_n (pc := 11) K dX5_judge_11 rfl rfl ?_
    refine q_callVi (pc := 12) (o := 0) (rm := rmX5_finding) K (kX5_finding l hN hG (fX5_lacksOf v1 σ) σ hw (by omega)) gX5_judge_X5_finding rfl hdV_X5_finding ⟨Nat.le_of_ble_eq_true rfl, Nat.le_of_ble_eq_true rfl⟩ rfl rfl ⟨Nat.zero_le _, Nat.zero_le _⟩ (wO_m hG) vw_4 rfl rfl (Nat.le_of_ble_eq_true rfl) dX5_judge_12 ?_
    refine qq_nmI (fun r27 e28 => ?_)
    have hw29 : WM r27.2 := by rw [e28]; exact wX5_finding (fX5_lacksOf v1 σ) hw (by omega)
    exact q_iret K hr dX5_judge_15
theorem hdV_X5_image : yX5_image.cls = RX5 ∧ yX5_image.cls ≠ "java/lang/invoke/MethodHandle" ∧ yX5_image.cls ≠ "java/lang/invoke/VarHandle" ∧ (parseMethodDescriptor yX5_image.desc).map (fun d => d.parameters.length) = some 0 := by decide +kernel
theorem mX5_image_f9 : Cond.fieldLink RX5 9 "WaxTreatiesModel" "now" "[I" ∈ wsX5_image := List.mem_of_getElem? (i := 1) rfl
theorem iwX5_image_X5 : ∀ w ∈ wsX50, w ∈ wsX5_image := fun w h => List.mem_cons_of_mem _ (List.mem_append_right _ h)
theorem mX5_image_f13 : Cond.fieldLink RX5 13 "WaxTreatiesModel" "kept" "[I" ∈ wsX5_image := List.mem_of_getElem? (i := 2) rfl
theorem mX5_image_f295 : Cond.fieldLink RX5 295 "WaxTreatiesModel" "isKept" "Z" ∈ wsX5_image := List.mem_of_getElem? (i := 3) rfl
set_option maxRecDepth 100000 in
set_option maxHeartbeats 4000000 in
theorem kX5_image (l : Launch) {G : gT} (hN : wN G) (hG : gfl G = false) (σ : sg) (hw : WM σ) : cM l yX5_image wsX5_image rmX5_image G [.ref (gob G 0)] σ (some (.int (fX5_image σ).1)) (fX5_image σ).2 := by
  refine cM_of (maxL := 1) (ret := (some .int)) (cc := cX5_image) (fX5_image σ) RX5 hN (by decide +kernel) rfl rfl (Nat.le_of_ble_eq_true rfl) rfl ?_
  intro p e s m args below meth c K hr
  have k0 : (0 : Int32).toInt = 0 := rfl
  have k1 : (1 : Int32).toInt = 1 := rfl
  refine qq_st (lv' := [some (.ref (gob G 0))]) rfl rfl rfl ?_
  refine qq_T (fX5_image.eq_1 ..) ?_
  refine q_aload_n (pc := 0) K dX5_image_0 rfl rfl ?_
  refine q_get (pc := 1) (o := 0) (f := 0) (v := .ref (gad G 0)) K (wO_m hG) vw_4 iwX5_image_X5 (by decide) mX5_image_f9 rfl dX5_image_1 ?_
  refine q_aload_n (pc := 4) K dX5_image_4 rfl rfl ?_
  refine q_get (pc := 5) (o := 0) (f := 1) (v := .ref (gad G 1)) K (wO_m hG) vw_4 iwX5_image_X5 (by decide) mX5_image_f13 rfl dX5_image_5 ?_
  refine q_callSv (pc := 8) (rm := rmX5_row) K (kX5_row l hN hG 0 (by decide) 1 (by decide) σ (by omega)) gX5_image_X5_row rfl hdS_X5_row ⟨Nat.le_of_ble_eq_true rfl, Nat.le_of_ble_eq_true rfl⟩ rfl rfl ⟨Nat.zero_le _, Nat.zero_le _⟩ rfl rfl (Nat.le_of_ble_eq_true rfl) dX5_image_8 ?_
  refine qq_nmV (fun r1 e2 => ?_)
  have hw3 : WM r1 := by rw [e2]; exact wX5_row 0 (by decide) 1 (by decide) hw (by omega)
  have me2 := row0 (show 0 ≠ 1 by decide) e2
  refine q_aload_n (pc := 11) K dX5_image_11 rfl rfl ?_
  refine q_iconst (pc := 12) (v := 1) K dX5_image_12 (by decide) ?_
  refine q_put (pc := 13) (o := 0) (f := 4) (i := 0) (ty := .boolean) K tyX5 tyX5_ok nmX5 (wO_m hG) vw_4 iwX5_image_X5 (by decide) mX5_image_f295 rfl (tyX5_ok 4 (by decide)) rfl rfl (Nat.le_of_ble_eq_true rfl) (wP_m4 hG _) dX5_image_13 (fun s4 e5 => ?_)
  have hw6 : WM s4 := by rw [e5]; exact wmF hw3 (by omega)
  refine q_iconst (pc := 16) (v := 1) K dX5_image_16 (by decide) ?_
  exact q_iret K hr dX5_image_17
theorem hdV_X5_undo : yX5_undo.cls = RX5 ∧ yX5_undo.cls ≠ "java/lang/invoke/MethodHandle" ∧ yX5_undo.cls ≠ "java/lang/invoke/VarHandle" ∧ (parseMethodDescriptor yX5_undo.desc).map (fun d => d.parameters.length) = some 0 := by decide +kernel
theorem mX5_undo_f295 : Cond.fieldLink RX5 295 "WaxTreatiesModel" "isKept" "Z" ∈ wsX5_undo := List.mem_of_getElem? (i := 1) rfl
theorem iwX5_undo_X5 : ∀ w ∈ wsX50, w ∈ wsX5_undo := fun w h => List.mem_cons_of_mem _ (List.mem_append_right _ h)
theorem mX5_undo_f13 : Cond.fieldLink RX5 13 "WaxTreatiesModel" "kept" "[I" ∈ wsX5_undo := List.mem_of_getElem? (i := 2) rfl
theorem mX5_undo_f9 : Cond.fieldLink RX5 9 "WaxTreatiesModel" "now" "[I" ∈ wsX5_undo := List.mem_of_getElem? (i := 3) rfl
set_option maxRecDepth 100000 in
set_option maxHeartbeats 4000000 in
theorem kX5_undo (l : Launch) {G : gT} (hN : wN G) (hG : gfl G = false) (σ : sg) (hw : WM σ) : cM l yX5_undo wsX5_undo rmX5_undo G [.ref (gob G 0)] σ (some (.int (fX5_undo σ).1)) (fX5_undo σ).2 := by
  refine cM_of (maxL := 1) (ret := (some .int)) (cc := cX5_undo) (fX5_undo σ) RX5 hN (by decide +kernel) rfl rfl (Nat.le_of_ble_eq_true rfl) rfl ?_
  intro p e s m args below meth c K hr
  have k0 : (0 : Int32).toInt = 0 := rfl
  have k2 : (2 : Int32).toInt = 2 := rfl
  have k3 : (3 : Int32).toInt = 3 := rfl
  refine qq_st (lv' := [some (.ref (gob G 0))]) rfl rfl rfl ?_
  refine qq_T (fX5_undo.eq_1 ..) ?_
  refine q_aload_n (pc := 0) K dX5_undo_0 rfl rfl ?_
  refine q_get (pc := 1) (o := 0) (f := 4) (v := .int (rF σ 0)) K (wO_m hG) vw_4 iwX5_undo_X5 (by decide) mX5_undo_f295 rfl dX5_undo_1 ?_
  refine q_if_ne (pc := 4) (tgt := 13) K dX5_undo_4 (by decide) (fun c1 => ?_) (fun c1 => ?_)
  · have i8 := neI c1
    refine q_aload_n (pc := 13) K dX5_undo_13 rfl rfl ?_
    refine q_get (pc := 14) (o := 0) (f := 1) (v := .ref (gad G 1)) K (wO_m hG) vw_4 iwX5_undo_X5 (by decide) mX5_undo_f13 rfl dX5_undo_14 ?_
    refine q_aload_n (pc := 17) K dX5_undo_17 rfl rfl ?_
    refine q_get (pc := 18) (o := 0) (f := 0) (v := .ref (gad G 0)) K (wO_m hG) vw_4 iwX5_undo_X5 (by decide) mX5_undo_f9 rfl dX5_undo_18 ?_
    refine q_callSv (pc := 21) (rm := rmX5_row) K (kX5_row l hN hG 1 (by decide) 0 (by decide) σ (by omega)) gX5_undo_X5_row rfl hdS_X5_row ⟨Nat.le_of_ble_eq_true rfl, Nat.le_of_ble_eq_true rfl⟩ rfl rfl ⟨Nat.zero_le _, Nat.zero_le _⟩ rfl rfl (Nat.le_of_ble_eq_true rfl) dX5_undo_21 ?_
    refine qq_nmV (fun r2 e3 => ?_)
    have hw4 : WM r2 := by rw [e3]; exact wX5_row 1 (by decide) 0 (by decide) hw (by omega)
    have me3 := row0 (show 1 ≠ 0 by decide) e3
    refine q_aload_n (pc := 24) K dX5_undo_24 rfl rfl ?_
    refine q_get (pc := 25) (o := 0) (f := 0) (v := .ref (gad G 0)) K (wO_m hG) vw_4 iwX5_undo_X5 (by decide) mX5_undo_f9 rfl dX5_undo_25 ?_
    refine q_iconst (pc := 28) (v := 2) K dX5_undo_28 (by decide) ?_
    refine q_iald (pc := 29) (a := 0) K (by rw [wna_f hG]; decide) (vinN (wlm (n := 80) hG 0 rfl) (by omega) (by omega)) dX5_undo_29 ?_
    exact q_iret K hr dX5_undo_30
  · have i9 := eqI c1
    refine q_aload_n (pc := 7) K dX5_undo_7 rfl rfl ?_
    refine q_iconst (pc := 8) (v := 3) K dX5_undo_8 (by decide) ?_
    refine q_callVi (pc := 9) (o := 0) (rm := rmX5_finding) K (kX5_finding l hN hG 3 σ hw (by omega)) gX5_undo_X5_finding rfl hdV_X5_finding ⟨Nat.le_of_ble_eq_true rfl, Nat.le_of_ble_eq_true rfl⟩ rfl rfl ⟨Nat.zero_le _, Nat.zero_le _⟩ (wO_m hG) vw_4 rfl rfl (Nat.le_of_ble_eq_true rfl) dX5_undo_9 ?_
    refine qq_nmI (fun r5 e6 => ?_)
    have hw7 : WM r5.2 := by rw [e6]; exact wX5_finding 3 hw (by omega)
    exact q_iret K hr dX5_undo_12
theorem hdV_X5_tear : yX5_tear.cls = RX5 ∧ yX5_tear.cls ≠ "java/lang/invoke/MethodHandle" ∧ yX5_tear.cls ≠ "java/lang/invoke/VarHandle" ∧ (parseMethodDescriptor yX5_tear.desc).map (fun d => d.parameters.length) = some 0 := by decide +kernel
theorem mX5_tear_f295 : Cond.fieldLink RX5 295 "WaxTreatiesModel" "isKept" "Z" ∈ wsX5_tear := List.mem_of_getElem? (i := 1) rfl
theorem iwX5_tear_X5 : ∀ w ∈ wsX50, w ∈ wsX5_tear := fun w h => List.mem_cons_of_mem _ (List.mem_append_right _ h)
set_option maxRecDepth 100000 in
set_option maxHeartbeats 4000000 in
theorem kX5_tear (l : Launch) {G : gT} (hN : wN G) (hG : gfl G = false) (σ : sg) (hw : WM σ) : cM l yX5_tear wsX5_tear rmX5_tear G [.ref (gob G 0)] σ (some (.int (fX5_tear σ).1)) (fX5_tear σ).2 := by
  refine cM_of (maxL := 2) (ret := (some .int)) (cc := cX5_tear) (fX5_tear σ) RX5 hN (by decide +kernel) rfl rfl (Nat.le_of_ble_eq_true rfl) rfl ?_
  intro p e s m args below meth c K hr
  have k0 : (0 : Int32).toInt = 0 := rfl
  have k1 : (1 : Int32).toInt = 1 := rfl
  refine qq_st (lv' := [some (.ref (gob G 0)), none]) rfl rfl rfl ?_
  refine qq_T (fX5_tear.eq_1 ..) ?_
  refine q_aload_n (pc := 0) K dX5_tear_0 rfl rfl ?_
  refine q_get (pc := 1) (o := 0) (f := 4) (v := .int (rF σ 0)) K (wO_m hG) vw_4 iwX5_tear_X5 (by decide) mX5_tear_f295 rfl dX5_tear_1 ?_
  refine q_if_eq (pc := 4) (tgt := 11) K dX5_tear_4 (by decide) (fun c1 => ?_) (fun c1 => ?_)
  · have i8 := eqI c1
    refine q_iconst (pc := 11) (v := 0) K dX5_tear_11 (by decide) ?_
    refine q_istore_n (pc := 12) (lv' := [some (.ref (gob G 0)), some (.int 0)]) K dX5_tear_12 rfl (by decide) (Nat.le_of_ble_eq_true rfl) rfl ?_
    refine q_aload_n (pc := 13) K dX5_tear_13 rfl rfl ?_
    refine q_iconst (pc := 14) (v := 0) K dX5_tear_14 (by decide) ?_
    refine q_put (pc := 15) (o := 0) (f := 4) (i := 0) (ty := .boolean) K tyX5 tyX5_ok nmX5 (wO_m hG) vw_4 iwX5_tear_X5 (by decide) mX5_tear_f295 rfl (tyX5_ok 4 (by decide)) rfl rfl (Nat.le_of_ble_eq_true rfl) (wP_m4 hG _) dX5_tear_15 (fun s2 e3 => ?_)
    have hw4 : WM s2 := by rw [e3]; exact wmF hw (by omega)
    refine q_iload_n (pc := 18) K dX5_tear_18 rfl rfl ?_
    exact q_iret K hr dX5_tear_19
  · have i9 := neI c1
    refine q_iconst (pc := 7) (v := 1) K dX5_tear_7 (by decide) ?_
    refine q_goto (pc := 8) (tgt := 12) K dX5_tear_8 (by decide) ?_
    refine q_istore_n (pc := 12) (lv' := [some (.ref (gob G 0)), some (.int 1)]) K dX5_tear_12 rfl (by decide) (Nat.le_of_ble_eq_true rfl) rfl ?_
    refine q_aload_n (pc := 13) K dX5_tear_13 rfl rfl ?_
    refine q_iconst (pc := 14) (v := 0) K dX5_tear_14 (by decide) ?_
    refine q_put (pc := 15) (o := 0) (f := 4) (i := 0) (ty := .boolean) K tyX5 tyX5_ok nmX5 (wO_m hG) vw_4 iwX5_tear_X5 (by decide) mX5_tear_f295 rfl (tyX5_ok 4 (by decide)) rfl rfl (Nat.le_of_ble_eq_true rfl) (wP_m4 hG _) dX5_tear_15 (fun s5 e6 => ?_)
    have hw7 : WM s5 := by rw [e6]; exact wmF hw (by omega)
    refine q_iload_n (pc := 18) K dX5_tear_18 rfl rfl ?_
    exact q_iret K hr dX5_tear_19
theorem hdV_X5_holdingSpots : yX5_holdingSpots.cls = RX5 ∧ yX5_holdingSpots.cls ≠ "java/lang/invoke/MethodHandle" ∧ yX5_holdingSpots.cls ≠ "java/lang/invoke/VarHandle" ∧ (parseMethodDescriptor yX5_holdingSpots.desc).map (fun d => d.parameters.length) = some 0 := by decide +kernel
theorem mX5_holdingSpots_f9 : Cond.fieldLink RX5 9 "WaxTreatiesModel" "now" "[I" ∈ wsX5_holdingSpots := List.mem_of_getElem? (i := 1) rfl
theorem iwX5_holdingSpots_X5 : ∀ w ∈ wsX50, w ∈ wsX5_holdingSpots := fun w h => List.mem_cons_of_mem _ (List.mem_append_right _ h)
set_option maxRecDepth 100000 in
set_option maxHeartbeats 4000000 in
theorem lX5_holdingSpots_4 {p : Program} (l : Launch) {e : Env} {s : State} {m : MethodId} {args : Array Value} {below : List Frame} {meth : Method} {c : Code} {Q : State → Prop} {G : gT} (hN : wN G) (hG : gfl G = false) (K : qK p s m args meth c cX5_holdingSpots 3 RX5 wsX5_holdingSpots G) : ∀ (k : Nat) (v1 v2 : Int32) (σ : sg) (hw : WM σ) (hv2 : 0 ≤ v2.toInt ∧ v2.toInt ≤ 10) (hmu : (10 - v2.toInt).toNat < k) {ρ : Type} {E : ρ → Prop} {f : Int32 → ρ} (hk : ∀ r : Int32, qq p l e (headSpec wsX5_holdingSpots rmX5_holdingSpots).room s m args below meth c Q 3 G E (f r) 36 [none, some (.int r), none] [] σ), qq p l e (headSpec wsX5_holdingSpots rmX5_holdingSpots).room s m args below meth c Q 3 G E (bnd (LX5_holdingSpots_4 k v1 v2 σ) f) 4 [some (.ref (gob G 0)), some (.int v1), some (.int v2)] [] σ := by
  intro k
  induction k with
  | zero => intro v1 v2 σ hw hv2 hmu ρ E f hk; exact absurd hmu (Nat.not_lt_zero _)
  | succ k ih =>
    intro v1 v2 σ hw hv2 hmu ρ E f hk
    have k0 : (0 : Int32).toInt = 0 := rfl
    have k1 : (1 : Int32).toInt = 1 := rfl
    have k10 : (10 : Int32).toInt = 10 := rfl
    have k22 : (22 : Int32).toInt = 22 := rfl
    refine qq_in ?_
    refine qq_T (LX5_holdingSpots_4.eq_2 ..) ?_
    refine q_iload_n (pc := 4) K dX5_holdingSpots_4 rfl rfl ?_
    refine q_bipush (pc := 5) (v := 10) K dX5_holdingSpots_5 (by decide) ?_
    refine q_icmp_ge (pc := 7) (tgt := 36) K dX5_holdingSpots_7 (by decide) (fun c1 => ?_) (fun c1 => ?_)
    · have i9 := leI c1
      refine qq_drop 0 (lv' := [none, some (.int v1), some (.int v2)]) rfl ?_
      refine qq_drop 2 (lv' := [none, some (.int v1), none]) rfl ?_
      exact qq_leaf (hk v1)
    · have i10 := nleI c1
      refine q_iload_n (pc := 10) K dX5_holdingSpots_10 rfl rfl ?_
      refine q_aload_n (pc := 11) K dX5_holdingSpots_11 rfl rfl ?_
      refine q_get (pc := 12) (o := 0) (f := 0) (v := .ref (gad G 0)) K (wO_m hG) vw_4 iwX5_holdingSpots_X5 (by decide) mX5_holdingSpots_f9 rfl dX5_holdingSpots_12 ?_
      refine q_bipush (pc := 15) (v := 22) K dX5_holdingSpots_15 (by decide) ?_
      refine q_iload_n (pc := 17) K dX5_holdingSpots_17 rfl rfl ?_
      refine q_iadd (pc := 18) K dX5_holdingSpots_18 ?_
      have a2 := addI (x := 22) (y := v2) (by omega) (by omega)
      refine q_iald (pc := 19) (a := 0) K (by rw [wna_f hG]; decide) (vinN (wlm (n := 80) hG 0 rfl) (by omega) (by omega)) dX5_holdingSpots_19 ?_
      have w3 := wm_spot hw (show 0 < 4 by decide) v2 (by omega) (by omega)
      refine q_if_ge (pc := 20) (tgt := 27) K dX5_holdingSpots_20 (by decide) (fun c4 => ?_) (fun c4 => ?_)
      · have i7 := leI c4
        refine q_iconst (pc := 27) (v := 1) K dX5_holdingSpots_27 (by decide) ?_
        refine q_iadd (pc := 28) K dX5_holdingSpots_28 ?_
        refine q_istore_n (pc := 29) (lv' := [some (.ref (gob G 0)), some (.int (v1 + 1)), some (.int v2)]) K dX5_holdingSpots_29 rfl (by decide) (Nat.le_of_ble_eq_true rfl) rfl ?_
        refine q_iinc (pc := 30) (v := (v2 + 1)) (lv' := [some (.ref (gob G 0)), some (.int (v1 + 1)), some (.int (v2 + 1))]) K dX5_holdingSpots_30 rfl rfl (by decide) rfl ?_
        refine q_goto (pc := 33) (tgt := 4) K dX5_holdingSpots_33 (by decide) ?_
        have a5 := addI (x := v2) (y := 1) (by omega) (by omega)
        exact qq_out (ih (v1 + 1) (v2 + 1) σ hw (by omega) (by omega) hk)
      · have i8 := nleI c4
        refine q_iconst (pc := 23) (v := 0) K dX5_holdingSpots_23 (by decide) ?_
        refine q_goto (pc := 24) (tgt := 28) K dX5_holdingSpots_24 (by decide) ?_
        refine q_iadd (pc := 28) K dX5_holdingSpots_28 ?_
        refine q_istore_n (pc := 29) (lv' := [some (.ref (gob G 0)), some (.int (v1 + 0)), some (.int v2)]) K dX5_holdingSpots_29 rfl (by decide) (Nat.le_of_ble_eq_true rfl) rfl ?_
        refine q_iinc (pc := 30) (v := (v2 + 1)) (lv' := [some (.ref (gob G 0)), some (.int (v1 + 0)), some (.int (v2 + 1))]) K dX5_holdingSpots_30 rfl rfl (by decide) rfl ?_
        refine q_goto (pc := 33) (tgt := 4) K dX5_holdingSpots_33 (by decide) ?_
        have a6 := addI (x := v2) (y := 1) (by omega) (by omega)
        exact qq_out (ih (v1 + 0) (v2 + 1) σ hw (by omega) (by omega) hk)
set_option maxRecDepth 100000 in
set_option maxHeartbeats 4000000 in
theorem kX5_holdingSpots (l : Launch) {G : gT} (hN : wN G) (hG : gfl G = false) (σ : sg) (hw : WM σ) : cM l yX5_holdingSpots wsX5_holdingSpots rmX5_holdingSpots G [.ref (gob G 0)] σ (some (.int (fX5_holdingSpots σ))) σ := by
  refine cM_of (maxL := 3) (ret := (some .int)) (cc := cX5_holdingSpots) (fX5_holdingSpots σ) RX5 hN (by decide +kernel) rfl rfl (Nat.le_of_ble_eq_true rfl) rfl ?_
  intro p e s m args below meth c K hr
  have k0 : (0 : Int32).toInt = 0 := rfl
  refine qq_st (lv' := [some (.ref (gob G 0)), none, none]) rfl rfl rfl ?_
  refine qq_T (fX5_holdingSpots.eq_1 ..) ?_
  refine q_iconst (pc := 0) (v := 0) K dX5_holdingSpots_0 (by decide) ?_
  refine q_istore_n (pc := 1) (lv' := [some (.ref (gob G 0)), some (.int 0), none]) K dX5_holdingSpots_1 rfl (by decide) (Nat.le_of_ble_eq_true rfl) rfl ?_
  refine q_iconst (pc := 2) (v := 0) K dX5_holdingSpots_2 (by decide) ?_
  refine q_istore_n (pc := 3) (lv' := [some (.ref (gob G 0)), some (.int 0), some (.int 0)]) K dX5_holdingSpots_3 rfl (by decide) (Nat.le_of_ble_eq_true rfl) rfl ?_
  refine lX5_holdingSpots_4 l hN hG K 11 0 0 σ hw (by omega) (by omega) (fun r11 => ?_)
  refine q_iload_n (pc := 36) K dX5_holdingSpots_36 rfl rfl ?_
  exact q_iretP K hr dX5_holdingSpots_37
theorem hdV_X5_count : yX5_count.cls = RX5 ∧ yX5_count.cls ≠ "java/lang/invoke/MethodHandle" ∧ yX5_count.cls ≠ "java/lang/invoke/VarHandle" ∧ (parseMethodDescriptor yX5_count.desc).map (fun d => d.parameters.length) = some 1 := by decide +kernel
theorem mX5_count_f9 : Cond.fieldLink RX5 9 "WaxTreatiesModel" "now" "[I" ∈ wsX5_count := List.mem_of_getElem? (i := 1) rfl
theorem iwX5_count_X5 : ∀ w ∈ wsX50, w ∈ wsX5_count := fun w h => List.mem_cons_of_mem _ (List.mem_append_right _ h)
theorem mX5_count_f179 : Cond.fieldLink RX5 179 "WaxTreatiesModel" "taped" "I" ∈ wsX5_count := List.mem_of_getElem? (i := 2) rfl
set_option maxRecDepth 100000 in
set_option maxHeartbeats 4000000 in
theorem kX5_count (l : Launch) {G : gT} (hN : wN G) (hG : gfl G = false) (v1 : Int32) (σ : sg) (hw : WM σ) : cM l yX5_count wsX5_count rmX5_count G [.ref (gob G 0), .int v1] σ (some (.int (fX5_count v1 σ).1)) (fX5_count v1 σ).2 := by
  refine cM_of (maxL := 2) (ret := (some .int)) (cc := cX5_count) (fX5_count v1 σ) RX5 hN (by decide +kernel) rfl rfl (Nat.le_of_ble_eq_true rfl) rfl ?_
  intro p e s m args below meth c K hr
  have km1 : ((-1) : Int32).toInt = -1 := rfl
  have k0 : (0 : Int32).toInt = 0 := rfl
  have k1 : (1 : Int32).toInt = 1 := rfl
  have k2 : (2 : Int32).toInt = 2 := rfl
  have k3 : (3 : Int32).toInt = 3 := rfl
  have k4 : (4 : Int32).toInt = 4 := rfl
  have k5 : (5 : Int32).toInt = 5 := rfl
  have k6 : (6 : Int32).toInt = 6 := rfl
  have k7 : (7 : Int32).toInt = 7 := rfl
  have k10 : (10 : Int32).toInt = 10 := rfl
  have k63 : (63 : Int32).toInt = 63 := rfl
  refine qq_st (lv' := [some (.ref (gob G 0)), some (.int v1)]) rfl rfl rfl ?_
  refine qq_T (fX5_count.eq_1 ..) ?_
  refine q_iload_n (pc := 0) K dX5_count_0 rfl rfl ?_
  refine q_case (v := 0) (fun c1 => ?_) (fun c1 => ?_)
  · have i28 := eqI c1
    refine q_tableIn (pc := 1) (tgt := 48) K dX5_count_1 c1 (by decide) (by decide) rfl (by decide) ?_
    refine q_aload_n (pc := 48) K dX5_count_48 rfl rfl ?_
    refine q_get (pc := 49) (o := 0) (f := 0) (v := .ref (gad G 0)) K (wO_m hG) vw_4 iwX5_count_X5 (by decide) mX5_count_f9 rfl dX5_count_49 ?_
    refine q_iconst (pc := 52) (v := 2) K dX5_count_52 (by decide) ?_
    refine q_iald (pc := 53) (a := 0) K (by rw [wna_f hG]; decide) (vinN (wlm (n := 80) hG 0 rfl) (by omega) (by omega)) dX5_count_53 ?_
    exact q_iret K hr dX5_count_54
  · have i29 := neI c1
    refine q_case (v := 1) (fun c2 => ?_) (fun c2 => ?_)
    · have i26 := eqI c2
      refine q_tableIn (pc := 1) (tgt := 55) K dX5_count_1 c2 (by decide) (by decide) rfl (by decide) ?_
      refine q_aload_n (pc := 55) K dX5_count_55 rfl rfl ?_
      refine q_get (pc := 56) (o := 0) (f := 0) (v := .ref (gad G 0)) K (wO_m hG) vw_4 iwX5_count_X5 (by decide) mX5_count_f9 rfl dX5_count_56 ?_
      refine q_iconst (pc := 59) (v := 0) K dX5_count_59 (by decide) ?_
      refine q_iald (pc := 60) (a := 0) K (by rw [wna_f hG]; decide) (vinN (wlm (n := 80) hG 0 rfl) (by omega) (by omega)) dX5_count_60 ?_
      have w3 := wm_many hw (show 0 < 4 by decide)
      exact q_iret K hr dX5_count_61
    · have i27 := neI c2
      refine q_case (v := 2) (fun c4 => ?_) (fun c4 => ?_)
      · have i24 := eqI c4
        refine q_tableIn (pc := 1) (tgt := 62) K dX5_count_1 c4 (by decide) (by decide) rfl (by decide) ?_
        refine q_aload_n (pc := 62) K dX5_count_62 rfl rfl ?_
        refine q_get (pc := 63) (o := 0) (f := 0) (v := .ref (gad G 0)) K (wO_m hG) vw_4 iwX5_count_X5 (by decide) mX5_count_f9 rfl dX5_count_63 ?_
        refine q_iconst (pc := 66) (v := 1) K dX5_count_66 (by decide) ?_
        refine q_iald (pc := 67) (a := 0) K (by rw [wna_f hG]; decide) (vinN (wlm (n := 80) hG 0 rfl) (by omega) (by omega)) dX5_count_67 ?_
        exact q_iret K hr dX5_count_68
      · have i25 := neI c4
        refine q_case (v := 3) (fun c5 => ?_) (fun c5 => ?_)
        · have i22 := eqI c5
          refine q_tableIn (pc := 1) (tgt := 69) K dX5_count_1 c5 (by decide) (by decide) rfl (by decide) ?_
          refine q_bipush (pc := 69) (v := 63) K dX5_count_69 (by decide) ?_
          refine q_aload_n (pc := 71) K dX5_count_71 rfl rfl ?_
          refine q_callVi (pc := 72) (o := 0) (rm := rmX5_shut) K (kX5_shut l hN hG  σ hw) gX5_count_X5_shut rfl hdV_X5_shut ⟨Nat.le_of_ble_eq_true rfl, Nat.le_of_ble_eq_true rfl⟩ rfl rfl ⟨Nat.zero_le _, Nat.zero_le _⟩ (wO_m hG) vw_4 rfl rfl (Nat.le_of_ble_eq_true rfl) dX5_count_72 ?_
          refine q_iconst (pc := 75) (v := (-1)) K dX5_count_75 (by decide) ?_
          refine q_ixor (pc := 76) K dX5_count_76 ?_
          refine q_iand (pc := 77) K dX5_count_77 ?_
          exact q_iret K hr dX5_count_78
        · have i23 := neI c5
          refine q_case (v := 4) (fun c6 => ?_) (fun c6 => ?_)
          · have i20 := eqI c6
            refine q_tableIn (pc := 1) (tgt := 79) K dX5_count_1 c6 (by decide) (by decide) rfl (by decide) ?_
            refine q_aload_n (pc := 79) K dX5_count_79 rfl rfl ?_
            refine q_get (pc := 80) (o := 0) (f := 0) (v := .ref (gad G 0)) K (wO_m hG) vw_4 iwX5_count_X5 (by decide) mX5_count_f9 rfl dX5_count_80 ?_
            refine q_bipush (pc := 83) (v := 10) K dX5_count_83 (by decide) ?_
            refine q_bipush (pc := 85) (v := 6) K dX5_count_85 (by decide) ?_
            refine q_callSi (pc := 87) (rm := rmX5_sumOf) K (kX5_sumOf l hN hG 0 (by decide) 10 6 σ hw (by omega)) gX5_count_X5_sumOf rfl hdS_X5_sumOf ⟨Nat.le_of_ble_eq_true rfl, Nat.le_of_ble_eq_true rfl⟩ rfl rfl ⟨Nat.zero_le _, Nat.zero_le _⟩ rfl rfl (Nat.le_of_ble_eq_true rfl) dX5_count_87 ?_
            exact q_iret K hr dX5_count_90
          · have i21 := neI c6
            refine q_case (v := 5) (fun c7 => ?_) (fun c7 => ?_)
            · have i18 := eqI c7
              refine q_tableIn (pc := 1) (tgt := 91) K dX5_count_1 c7 (by decide) (by decide) rfl (by decide) ?_
              refine q_aload_n (pc := 91) K dX5_count_91 rfl rfl ?_
              refine q_get (pc := 92) (o := 0) (f := 6) (v := .int (rF σ 1)) K (wO_m hG) vw_4 iwX5_count_X5 (by decide) mX5_count_f179 rfl dX5_count_92 ?_
              have w8 := wm_taped hw
              exact q_iret K hr dX5_count_95
            · have i19 := neI c7
              refine q_case (v := 6) (fun c9 => ?_) (fun c9 => ?_)
              · have i16 := eqI c9
                refine q_tableIn (pc := 1) (tgt := 96) K dX5_count_1 c9 (by decide) (by decide) rfl (by decide) ?_
                refine q_aload_n (pc := 96) K dX5_count_96 rfl rfl ?_
                refine q_get (pc := 97) (o := 0) (f := 0) (v := .ref (gad G 0)) K (wO_m hG) vw_4 iwX5_count_X5 (by decide) mX5_count_f9 rfl dX5_count_97 ?_
                refine q_iconst (pc := 100) (v := 3) K dX5_count_100 (by decide) ?_
                refine q_iald (pc := 101) (a := 0) K (by rw [wna_f hG]; decide) (vinN (wlm (n := 80) hG 0 rfl) (by omega) (by omega)) dX5_count_101 ?_
                exact q_iret K hr dX5_count_102
              · have i17 := neI c9
                refine q_case (v := 7) (fun c10 => ?_) (fun c10 => ?_)
                · have i14 := eqI c10
                  refine q_tableIn (pc := 1) (tgt := 103) K dX5_count_1 c10 (by decide) (by decide) rfl (by decide) ?_
                  refine q_aload_n (pc := 103) K dX5_count_103 rfl rfl ?_
                  refine q_callVi (pc := 104) (o := 0) (rm := rmX5_holdingSpots) K (kX5_holdingSpots l hN hG  σ hw) gX5_count_X5_holdingSpots rfl hdV_X5_holdingSpots ⟨Nat.le_of_ble_eq_true rfl, Nat.le_of_ble_eq_true rfl⟩ rfl rfl ⟨Nat.zero_le _, Nat.zero_le _⟩ (wO_m hG) vw_4 rfl rfl (Nat.le_of_ble_eq_true rfl) dX5_count_104 ?_
                  exact q_iret K hr dX5_count_107
                · have i15 := neI c10
                  refine q_tableOut (pc := 1) (tgt := 108) K dX5_count_1 (by omega) (by decide) ?_
                  refine q_aload_n (pc := 108) K dX5_count_108 rfl rfl ?_
                  refine q_iconst (pc := 109) (v := 0) K dX5_count_109 (by decide) ?_
                  refine q_callVi (pc := 110) (o := 0) (rm := rmX5_finding) K (kX5_finding l hN hG 0 σ hw (by omega)) gX5_count_X5_finding rfl hdV_X5_finding ⟨Nat.le_of_ble_eq_true rfl, Nat.le_of_ble_eq_true rfl⟩ rfl rfl ⟨Nat.zero_le _, Nat.zero_le _⟩ (wO_m hG) vw_4 rfl rfl (Nat.le_of_ble_eq_true rfl) dX5_count_110 ?_
                  refine qq_nmI (fun r11 e12 => ?_)
                  have hw13 : WM r11.2 := by rw [e12]; exact wX5_finding 0 hw (by omega)
                  exact q_iret K hr dX5_count_113
theorem hdV_X5_status : yX5_status.cls = RX5 ∧ yX5_status.cls ≠ "java/lang/invoke/MethodHandle" ∧ yX5_status.cls ≠ "java/lang/invoke/VarHandle" ∧ (parseMethodDescriptor yX5_status.desc).map (fun d => d.parameters.length) = some 1 := by decide +kernel
theorem mX5_status_f25 : Cond.fieldLink RX5 25 "WaxTreatiesModel" "found" "[I" ∈ wsX5_status := List.mem_of_getElem? (i := 1) rfl
theorem iwX5_status_X5 : ∀ w ∈ wsX50, w ∈ wsX5_status := fun w h => List.mem_cons_of_mem _ (List.mem_append_right _ h)
set_option maxRecDepth 100000 in
set_option maxHeartbeats 4000000 in
theorem lX5_status_20 {p : Program} (l : Launch) {e : Env} {s : State} {m : MethodId} {args : Array Value} {below : List Frame} {meth : Method} {c : Code} {Q : State → Prop} {G : gT} (hN : wN G) (hG : gfl G = false) (K : qK p s m args meth c cX5_status 4 RX5 wsX5_status G) : ∀ (k : Nat) (v1 v2 v3 : Int32) (σ : sg) (hw : WM σ) (hv3 : 0 ≤ v3.toInt ∧ v3.toInt ≤ 7) (hmu : (7 - v3.toInt).toNat < k) {ρ : Type} {E : ρ → Prop} {f : Int32 → ρ} (hk : ∀ r : Int32, qq p l e (headSpec wsX5_status rmX5_status).room s m args below meth c Q 4 G E (f r) 54 [none, none, some (.int r), none] [] σ), qq p l e (headSpec wsX5_status rmX5_status).room s m args below meth c Q 4 G E (bnd (LX5_status_20 k v1 v2 v3 σ) f) 20 [some (.ref (gob G 0)), some (.int v1), some (.int v2), some (.int v3)] [] σ := by
  intro k
  induction k with
  | zero => intro v1 v2 v3 σ hw hv3 hmu ρ E f hk; exact absurd hmu (Nat.not_lt_zero _)
  | succ k ih =>
    intro v1 v2 v3 σ hw hv3 hmu ρ E f hk
    have k0 : (0 : Int32).toInt = 0 := rfl
    have k1 : (1 : Int32).toInt = 1 := rfl
    have k7 : (7 : Int32).toInt = 7 := rfl
    refine qq_in ?_
    refine qq_T (LX5_status_20.eq_2 ..) ?_
    refine q_iload_n (pc := 20) K dX5_status_20 rfl rfl ?_
    refine q_bipush (pc := 21) (v := 7) K dX5_status_21 (by decide) ?_
    refine q_icmp_ge (pc := 23) (tgt := 54) K dX5_status_23 (by decide) (fun c2 => ?_) (fun c2 => ?_)
    · have i12 := leI c2
      refine qq_drop 0 (lv' := [none, some (.int v1), some (.int v2), some (.int v3)]) rfl ?_
      refine qq_drop 1 (lv' := [none, none, some (.int v2), some (.int v3)]) rfl ?_
      refine qq_drop 3 (lv' := [none, none, some (.int v2), none]) rfl ?_
      exact qq_leaf (hk v2)
    · have i13 := nleI c2
      refine q_iload_n (pc := 26) K dX5_status_26 rfl rfl ?_
      refine q_iload_n (pc := 27) K dX5_status_27 rfl rfl ?_
      refine q_if_lt (pc := 28) (tgt := 36) K dX5_status_28 (by decide) (fun c3 => ?_) (fun c3 => ?_)
      · have i10 := ltI c3
        refine q_aload_n (pc := 36) K dX5_status_36 rfl rfl ?_
        refine q_get (pc := 37) (o := 0) (f := 7) (v := .ref (gad G 5)) K (wO_m hG) vw_4 iwX5_status_X5 (by decide) mX5_status_f25 rfl dX5_status_37 ?_
        refine q_iload_n (pc := 40) K dX5_status_40 rfl rfl ?_
        refine q_iald (pc := 41) (a := 5) K (by rw [wna_f hG]; decide) (vinN (wlm (n := 7) hG 5 rfl) (by omega) (by omega)) dX5_status_41 ?_
        refine q_goto (pc := 42) (tgt := 46) K dX5_status_42 (by decide) ?_
        refine q_iadd (pc := 46) K dX5_status_46 ?_
        refine q_istore_n (pc := 47) (lv' := [some (.ref (gob G 0)), some (.int v1), some (.int (v2 + (rA σ 5 v3))), some (.int v3)]) K dX5_status_47 rfl (by decide) (Nat.le_of_ble_eq_true rfl) rfl ?_
        refine q_iinc (pc := 48) (v := (v3 + 1)) (lv' := [some (.ref (gob G 0)), some (.int v1), some (.int (v2 + (rA σ 5 v3))), some (.int (v3 + 1))]) K dX5_status_48 rfl rfl (by decide) rfl ?_
        refine q_goto (pc := 51) (tgt := 20) K dX5_status_51 (by decide) ?_
        have a4 := addI (x := v3) (y := 1) (by omega) (by omega)
        exact qq_out (ih v1 (v2 + (rA σ 5 v3)) (v3 + 1) σ hw (by omega) (by omega) hk)
      · have i11 := nltI c3
        refine q_iload_n (pc := 31) K dX5_status_31 rfl rfl ?_
        refine q_iload_n (pc := 32) K dX5_status_32 rfl rfl ?_
        refine q_icmp_ne (pc := 33) (tgt := 45) K dX5_status_33 (by decide) (fun c5 => ?_) (fun c5 => ?_)
        · have i8 := neI c5
          refine q_iconst (pc := 45) (v := 0) K dX5_status_45 (by decide) ?_
          refine q_iadd (pc := 46) K dX5_status_46 ?_
          refine q_istore_n (pc := 47) (lv' := [some (.ref (gob G 0)), some (.int v1), some (.int (v2 + 0)), some (.int v3)]) K dX5_status_47 rfl (by decide) (Nat.le_of_ble_eq_true rfl) rfl ?_
          refine q_iinc (pc := 48) (v := (v3 + 1)) (lv' := [some (.ref (gob G 0)), some (.int v1), some (.int (v2 + 0)), some (.int (v3 + 1))]) K dX5_status_48 rfl rfl (by decide) rfl ?_
          refine q_goto (pc := 51) (tgt := 20) K dX5_status_51 (by decide) ?_
          have a6 := addI (x := v3) (y := 1) (by omega) (by omega)
          exact qq_out (ih v1 (v2 + 0) (v3 + 1) σ hw (by omega) (by omega) hk)
        · have i9 := eqI c5
          refine q_aload_n (pc := 36) K dX5_status_36 rfl rfl ?_
          refine q_get (pc := 37) (o := 0) (f := 7) (v := .ref (gad G 5)) K (wO_m hG) vw_4 iwX5_status_X5 (by decide) mX5_status_f25 rfl dX5_status_37 ?_
          refine q_iload_n (pc := 40) K dX5_status_40 rfl rfl ?_
          refine q_iald (pc := 41) (a := 5) K (by rw [wna_f hG]; decide) (vinN (wlm (n := 7) hG 5 rfl) (by omega) (by omega)) dX5_status_41 ?_
          refine q_goto (pc := 42) (tgt := 46) K dX5_status_42 (by decide) ?_
          refine q_iadd (pc := 46) K dX5_status_46 ?_
          refine q_istore_n (pc := 47) (lv' := [some (.ref (gob G 0)), some (.int v1), some (.int (v2 + (rA σ 5 v3))), some (.int v3)]) K dX5_status_47 rfl (by decide) (Nat.le_of_ble_eq_true rfl) rfl ?_
          refine q_iinc (pc := 48) (v := (v3 + 1)) (lv' := [some (.ref (gob G 0)), some (.int v1), some (.int (v2 + (rA σ 5 v3))), some (.int (v3 + 1))]) K dX5_status_48 rfl rfl (by decide) rfl ?_
          refine q_goto (pc := 51) (tgt := 20) K dX5_status_51 (by decide) ?_
          have a7 := addI (x := v3) (y := 1) (by omega) (by omega)
          exact qq_out (ih v1 (v2 + (rA σ 5 v3)) (v3 + 1) σ hw (by omega) (by omega) hk)
set_option maxRecDepth 100000 in
set_option maxHeartbeats 4000000 in
theorem kX5_status (l : Launch) {G : gT} (hN : wN G) (hG : gfl G = false) (v1 : Int32) (σ : sg) (hw : WM σ) : cM l yX5_status wsX5_status rmX5_status G [.ref (gob G 0), .int v1] σ (some (.int (fX5_status v1 σ).1)) (fX5_status v1 σ).2 := by
  refine cM_of (maxL := 4) (ret := (some .int)) (cc := cX5_status) (fX5_status v1 σ) RX5 hN (by decide +kernel) rfl rfl (Nat.le_of_ble_eq_true rfl) rfl ?_
  intro p e s m args below meth c K hr
  have km1 : ((-1) : Int32).toInt = -1 := rfl
  have k0 : (0 : Int32).toInt = 0 := rfl
  have k6 : (6 : Int32).toInt = 6 := rfl
  refine qq_st (lv' := [some (.ref (gob G 0)), some (.int v1), none, none]) rfl rfl rfl ?_
  refine qq_T (fX5_status.eq_1 ..) ?_
  refine q_iload_n (pc := 0) K dX5_status_0 rfl rfl ?_
  refine q_iconst (pc := 1) (v := (-1)) K dX5_status_1 (by decide) ?_
  refine q_bipush (pc := 2) (v := 6) K dX5_status_2 (by decide) ?_
  refine q_callSi (pc := 4) (rm := rmX5_within) K (kX5_within l hN v1 (-1) 6 σ) gX5_status_X5_within rfl hdS_X5_within ⟨Nat.le_of_ble_eq_true rfl, Nat.le_of_ble_eq_true rfl⟩ rfl rfl ⟨Nat.zero_le _, Nat.zero_le _⟩ rfl rfl (Nat.le_of_ble_eq_true rfl) dX5_status_4 ?_
  refine q_if_ne (pc := 7) (tgt := 16) K dX5_status_7 (by decide) (fun c1 => ?_) (fun c1 => ?_)
  · have i19 := neI c1
    have b20 := wi_t c1
    refine q_iconst (pc := 16) (v := 0) K dX5_status_16 (by decide) ?_
    refine q_istore_n (pc := 17) (lv' := [some (.ref (gob G 0)), some (.int v1), some (.int 0), none]) K dX5_status_17 rfl (by decide) (Nat.le_of_ble_eq_true rfl) rfl ?_
    refine q_iconst (pc := 18) (v := 0) K dX5_status_18 (by decide) ?_
    refine q_istore_n (pc := 19) (lv' := [some (.ref (gob G 0)), some (.int v1), some (.int 0), some (.int 0)]) K dX5_status_19 rfl (by decide) (Nat.le_of_ble_eq_true rfl) rfl ?_
    refine lX5_status_20 l hN hG K 8 v1 0 0 σ hw (by omega) (by omega) (fun r14 => ?_)
    refine q_iload_n (pc := 54) K dX5_status_54 rfl rfl ?_
    exact q_iret K hr dX5_status_55
  · have i21 := eqI c1
    refine q_aload_n (pc := 10) K dX5_status_10 rfl rfl ?_
    refine q_iconst (pc := 11) (v := 0) K dX5_status_11 (by decide) ?_
    refine q_callVi (pc := 12) (o := 0) (rm := rmX5_finding) K (kX5_finding l hN hG 0 σ hw (by omega)) gX5_status_X5_finding rfl hdV_X5_finding ⟨Nat.le_of_ble_eq_true rfl, Nat.le_of_ble_eq_true rfl⟩ rfl rfl ⟨Nat.zero_le _, Nat.zero_le _⟩ (wO_m hG) vw_4 rfl rfl (Nat.le_of_ble_eq_true rfl) dX5_status_12 ?_
    refine qq_nmI (fun r16 e17 => ?_)
    have hw18 : WM r16.2 := by rw [e17]; exact wX5_finding 0 hw (by omega)
    exact q_iret K hr dX5_status_15
