def rmX5_lacks : Room := { frames := 1, cells := 0, slots := 0, locals := 21 }
def fX5_lacks (v1 : Int32) (v2 : Int32) (σ : sg) : Int32 := (if v1 = 0 then 0 else (if (fX5_isTime v2 σ) = 0 then 4 else (-1)))
theorem lkR (r h : Int32) (σ : sg) : (fX5_lacks r h σ).toInt ≤ 4 := by
  unfold fX5_lacks
  split
  · decide
  · split <;> decide
theorem lkZ (h : Int32) (σ : sg) : (fX5_lacks 0 h σ).toInt = 0 := by
  unfold fX5_lacks
  rw [if_pos rfl]
  rfl
theorem lk0 (h : Int32) (σ : sg) : ¬ fX5_lacks 0 h σ < 0 := fun q => by
  have h1 := ltI q
  have h2 := lkZ h σ
  have k0 : (0 : Int32).toInt = 0 := rfl
  omega
theorem lk_t {r h : Int32} {σ : sg} (c : fX5_lacks r h σ < 0) : ¬ r = 0 := fun q => by
  subst q
  exact lk0 h σ c
theorem lkD_t {d h : Int32} {σ : sg} (hw : WM σ) (c : fX5_lacks (fX5_isDeed d σ) h σ < 0) : 0 ≤ d.toInt ∧ d.toInt < (rA σ 0 0).toInt ∧ (rA σ 0 0).toInt ≤ 8 := by
  have h1 := wiD_t hw (lk_t c)
  have h2 := wm_many hw (show 0 < 4 by decide)
  omega
theorem lkA_t {h h2 : Int32} {σ : sg} (c : fX5_lacks (fX5_isAhead h) h2 σ < 0) : 1 ≤ h.toInt ∧ h.toInt ≤ 100 := wiA_t (lk_t c)
def rmX5_brings : Room := { frames := 1, cells := 0, slots := 0, locals := 21 }
def fX5_brings (a0 : Nat) (v1 : Int32) (v2 : Int32) (σ : sg) : sg := bnd (sA σ a0 (10 + v1) (jmin 99 ((rA σ a0 (10 + v1)) + v2))) (fun s2 => s2)
theorem brM {a b : Nat} {i n : Int32} {σ r : sg} (e : r = fX5_brings a i n σ) (h : b ≠ a) : (rA r b 0).toInt = (rA σ b 0).toInt := by
  subst e
  have e1 : rA (fX5_brings a i n σ) b 0 = rA σ b 0 := by
    rw [fX5_brings.eq_1]
    exact wf_bnd (P := fun T : sg => rA T b 0 = rA σ b 0) (fun s e => by rw [e]; exact rA6 h)
  rw [e1]
theorem decB {v : Int32} (h1 : 0 ≤ v.toInt) (h2 : v.toInt ≤ 40) : (-1 ≤ (v + (-1)).toInt ∧ (v + (-1)).toInt ≤ 40) ∧ ((v + (-1)).toInt + 1).toNat < (v.toInt + 1).toNat := by
  have k : (-1 : Int32).toInt = -1 := rfl
  have e := addI (x := v) (y := -1) (by omega) (by omega)
  rw [e, k]
  omega
theorem decF {v : Int32} (h1 : 0 ≤ v.toInt) (h2 : v.toInt ≤ 24) : (-8 ≤ (v + (-8)).toInt ∧ (v + (-8)).toInt ≤ 24) ∧ ((v + (-8)).toInt + 8).toNat < (v.toInt + 8).toNat ∧ (v + (-8)).toInt = v.toInt - 8 := by
  have k : (-8 : Int32).toInt = -8 := rfl
  have e := addI (x := v) (y := -8) (by omega) (by omega)
  rw [e, k]
  omega
theorem decT {v : Int32} {t t2 : Int} (h1 : 0 ≤ v.toInt) (h2 : v.toInt ≤ 24) (ht : t * 8 + v.toInt + 8 ≤ 960) (hf : t2 = t + 1) : t2 * 8 + (v + (-8)).toInt + 8 ≤ 960 := by
  have h := (decF h1 h2).2.2
  rw [h]
  omega
theorem pos0 {v : Int32} (h : ¬ v < 0) : 0 ≤ v.toInt := by
  have := nltI h
  have k0 : (0 : Int32).toInt = 0 := rfl
  omega
def rmX5_lays : Room := { frames := 0, cells := 0, slots := 0, locals := 0 }
def fX5_lays (v1 : Int32) (v2 : Int32) (σ : sg) : sg := bnd (sA σ 0 (32 + (rA σ 0 0)) v1) (fun s3 => bnd (sA s3 0 (40 + (rA σ 0 0)) v2) (fun s8 => bnd (sA s8 0 (48 + (rA σ 0 0)) 40) (fun s13 => bnd (sA s13 0 (56 + (rA σ 0 0)) 0) (fun s18 => bnd (sA s18 0 (64 + (rA σ 0 0)) 0) (fun s23 => bnd (sA s23 0 (72 + (rA σ 0 0)) (-1)) (fun s28 => bnd (sA s28 0 0 ((rA s28 0 0) + 1)) (fun s33 => s33)))))))
def rmX5_deed : Room := { frames := 2, cells := 0, slots := 0, locals := 42 }
def fX5_deed (v1 : Int32) (v2 : Int32) (σ : sg) : Int32 × sg := (if (fX5_isKind v1) = 0 then bnd (fX5_finding 0 σ) (fun r2 => (r2.1, r2.2)) else (if (fX5_isShelf v2) = 0 then bnd (fX5_finding 0 σ) (fun r17 => (r17.1, r17.2)) else (if (rA σ 0 0) = 8 then bnd (fX5_finding 1 σ) (fun r12 => (r12.1, r12.2)) else bnd (fX5_lays v1 v2 σ) (fun r8 => (((rA r8 0 0) - 1), r8)))))
def rmX5_mayBe : Room := { frames := 2, cells := 0, slots := 0, locals := 42 }
def fX5_mayBe (v0 : Int32) (v1 : Int32) (v2 : Int32) : Int32 := (if v1 = 0 then (fX5_isKind v2) else (if v1 = 1 then (fX5_isShelf v2) else (if v1 = 2 then (fX5_within v2 1 99) else (if v1 = 3 then (fX5_within v2 0 99) else (if v1 = 5 then (if (fX5_within v2 (-1) (v0 - 1)) = 0 then 0 else 1) else 0)))))
theorem b01_X5_mayBe (a b c : Int32) : fX5_mayBe a b c = 0 ∨ fX5_mayBe a b c = 1 := by
  unfold fX5_mayBe
  (repeat' split) <;> first | exact Or.inl rfl | exact Or.inr rfl | exact b01_X5_within _ _ _ | exact b01_X5_isKind _ | exact b01_X5_isShelf _
theorem mb_t {d w v : Int32} (h : ¬ fX5_mayBe d w v = 0) : (w.toInt = 0 ∧ 0 ≤ v.toInt ∧ v.toInt ≤ 6) ∨ (w.toInt = 1 ∧ 0 ≤ v.toInt ∧ v.toInt ≤ 5) ∨ (w.toInt = 2 ∧ 1 ≤ v.toInt ∧ v.toInt ≤ 99) ∨ (w.toInt = 3 ∧ 0 ≤ v.toInt ∧ v.toInt ≤ 99) ∨ (w.toInt = 5 ∧ -1 ≤ v.toInt ∧ v.toInt ≤ (d - 1).toInt) := by
  unfold fX5_mayBe at h
  split at h
  · rename_i c; subst c; have := wiK_t h; exact Or.inl ⟨rfl, this.1, this.2⟩
  · split at h
    · rename_i c; subst c; have := wiS_t h; exact Or.inr (Or.inl ⟨rfl, this.1, this.2⟩)
    · split at h
      · rename_i c; subst c; have := wi_t h; exact Or.inr (Or.inr (Or.inl ⟨rfl, this.1, this.2⟩))
      · split at h
        · rename_i c; subst c; have := wi_t h; exact Or.inr (Or.inr (Or.inr (Or.inl ⟨rfl, this.1, this.2⟩)))
        · split at h
          · split at h
            · exact absurd rfl h
            · rename_i c _; subst c; have h2 := wi_t (v := v) (a := -1) (b := d - 1) (by assumption); exact Or.inr (Or.inr (Or.inr (Or.inr ⟨rfl, h2.1, h2.2⟩)))
          · exact absurd rfl h
theorem wmCh {σ : sg} {d w v : Int32} (h : WM σ) (hd0 : 0 ≤ d.toInt) (hd : d.toInt < (rA σ 0 0).toInt) (hm : ¬ fX5_mayBe d w v = 0) : WM (sA σ 0 ((32 + (8 * w)) + d) v) := by
  have hq := mb_t hm
  have hM := wm_many h (show 0 < 4 by decide)
  have k8 : (8 : Int32).toInt = 8 := rfl
  have k1 : (1 : Int32).toInt = 1 := rfl
  have k32 : (32 : Int32).toInt = 32 := rfl
  have e0 := subI (x := d) (y := 1) (by omega) (by omega)
  have e1 := mulI (x := 8) (y := w) (by rw [k8]; omega) (by rw [k8]; omega)
  rw [k8] at e1
  have e2 := addI (x := 32) (y := 8 * w) (by omega) (by omega)
  have e3 := addI (x := 32 + 8 * w) (y := d) (by omega) (by omega)
  by_cases h1 : w.toInt = 1
  · exact wmRs h (by decide) (by omega) (by omega) (by omega) (by omega)
  · by_cases h5 : w.toInt = 5
    · exact wmRo h (by decide) (by omega) (by omega) (by omega) (by omega)
    · exact wmRn h (by decide) (by omega) (by omega) (by omega) (by omega)
def rmX5_of : Room := { frames := 3, cells := 0, slots := 0, locals := 66 }
def fX5_of (v1 : Int32) (v2 : Int32) (σ : sg) : Int32 × sg := (if (fX5_isDeed v1 σ) = 0 then bnd (fX5_finding 0 σ) (fun r2 => (r2.1, r2.2)) else (if (fX5_within v2 0 9) = 0 then bnd (fX5_finding 0 σ) (fun r28 => (r28.1, r28.2)) else (if v2 = 6 then ((fX5_stands (rA σ 0 (32 + v1)) (rA σ 0 (48 + v1))), σ) else (if v2 = 7 then ((fX5_runsAt (rA σ 0 (32 + v1))), σ) else (if v2 = 8 then ((fX5_feels (rA σ 0 (32 + v1)) (fX5_heatOf 0 (rA σ 0 (40 + v1)) (rA σ 0 2) σ)), σ) else (if v2 = 9 then (if (fX5_holds 0 v1 σ) = 0 then (0, σ) else (1, σ)) else ((rA σ 0 ((32 + (8 * v2)) + v1)), σ)))))))
def rmX5_change : Room := { frames := 3, cells := 0, slots := 0, locals := 64 }
def fX5_change (v1 : Int32) (v2 : Int32) (v3 : Int32) (σ : sg) : Int32 × sg := (if (fX5_isDeed v1 σ) = 0 then bnd (fX5_finding 0 σ) (fun r2 => (r2.1, r2.2)) else (if (fX5_mayBe v1 v2 v3) = 0 then bnd (fX5_finding 0 σ) (fun r12 => (r12.1, r12.2)) else bnd (sA σ 0 ((32 + (8 * v2)) + v1) v3) (fun s9 => ((rA σ 0 ((32 + (8 * v2)) + v1)), s9))))
def rmX5_renew : Room := { frames := 2, cells := 0, slots := 0, locals := 43 }
def fX5_renew (v1 : Int32) (σ : sg) : Int32 × sg := (if (fX5_isDeed v1 σ) = 0 then bnd (fX5_finding 0 σ) (fun r12 => (r12.1, r12.2)) else bnd (sA σ 0 (64 + v1) 0) (fun s3 => bnd (sA s3 0 (56 + v1) 0) (fun s8 => ((rA σ 0 (64 + v1)), s8))))
def rmX5_shelf : Room := { frames := 2, cells := 0, slots := 0, locals := 42 }
def fX5_shelf (v1 : Int32) (v2 : Int32) (v3 : Int32) (σ : sg) : Int32 × sg := (if v2 = 1 then (if (fX5_isShelf v1) = 0 then bnd (fX5_finding 0 σ) (fun r45 => (r45.1, r45.2)) else (if (fX5_within v3 0 99) = 0 then bnd (fX5_finding 0 σ) (fun r56 => (r56.1, r56.2)) else bnd (sA σ 0 ((4 + (6 * v2)) + v1) v3) (fun s52 => ((rA σ 0 ((4 + (6 * v2)) + v1)), s52)))) else (if (fX5_within v2 0 2) = 0 then (if (fX5_isShelf v1) = 0 then bnd (fX5_finding 0 σ) (fun r4 => (r4.1, r4.2)) else bnd (fX5_finding 0 σ) (fun r7 => (r7.1, r7.2))) else (if (fX5_within v3 0 1) = 0 then (if (fX5_isShelf v1) = 0 then bnd (fX5_finding 0 σ) (fun r15 => (r15.1, r15.2)) else bnd (fX5_finding 0 σ) (fun r18 => (r18.1, r18.2))) else (if (fX5_isShelf v1) = 0 then bnd (fX5_finding 0 σ) (fun r25 => (r25.1, r25.2)) else bnd (sA σ 0 ((4 + (6 * v2)) + v1) v3) (fun s31 => ((rA σ 0 ((4 + (6 * v2)) + v1)), s31))))))
def rmX5_summer : Room := { frames := 1, cells := 0, slots := 0, locals := 22 }
def fX5_summer (v1 : Int32) (σ : sg) : Int32 × sg := (if (fX5_within v1 0 40) = 0 then bnd (fX5_finding 0 σ) (fun r6 => (r6.1, r6.2)) else bnd (sA σ 0 1 v1) (fun s2 => ((rA σ 0 1), s2)))
def rmX5_sun : Room := { frames := 2, cells := 0, slots := 0, locals := 42 }
def fX5_sun (v1 : Int32) (σ : sg) : Int32 × sg := (if (fX5_within v1 0 9999) = 0 then bnd (fX5_finding 0 σ) (fun r2 => (r2.1, r2.2)) else ((fX5_sunAt v1), σ))
def rmX5_heat : Room := { frames := 3, cells := 0, slots := 0, locals := 66 }
def fX5_heat (v1 : Int32) (v2 : Int32) (σ : sg) : Int32 × sg := (if (fX5_isShelf v1) = 0 then bnd (fX5_finding 0 σ) (fun r2 => (r2.1, r2.2)) else (if (fX5_within v2 0 9999) = 0 then bnd (fX5_finding 0 σ) (fun r6 => (r6.1, r6.2)) else ((fX5_heatOf 0 v1 v2 σ), σ)))
def rmX5_lie : Room := { frames := 2, cells := 0, slots := 0, locals := 42 }
def LX5_lie_17 : Nat → Int32 → Int32 → Int32 → sg → Int32
  | 0, v1, v2, v3, σ => v2
  | k + 1, v1, v2, v3, σ => (if (rA σ 0 0) ≤ v3 then v2 else (if (rA σ 0 (40 + v3)) = v1 then LX5_lie_17 k v1 (v2 ||| (jshl 1 v3)) (v3 + 1) σ else LX5_lie_17 k v1 (v2 ||| 0) (v3 + 1) σ))
def fX5_lie (v1 : Int32) (σ : sg) : Int32 × sg := (if (fX5_isShelf v1) = 0 then bnd (fX5_finding 0 σ) (fun r15 => (r15.1, r15.2)) else bnd (LX5_lie_17 9 v1 0 0 σ) (fun r13 => (r13, σ)))
def rmX5_hours : Room := { frames := 4, cells := 0, slots := 0, locals := 91 }
def LX5_hours_34 : Nat → Int32 → Int32 → Int32 → sg → Int32 × sg
  | 0, v1, v2, v3, σ => (v2, σ)
  | k + 1, v1, v2, v3, σ => (if v1 ≤ v3 then (v2, σ) else bnd (fX5_anHour 0 σ) (fun r4 => LX5_hours_34 k v1 (v2 + r4.1) (v3 + 1) r4.2))
def fX5_hours (v1 : Int32) (σ : sg) : Int32 × sg := (if (fX5_within v1 1 100) = 0 then bnd (fX5_finding 0 σ) (fun r18 => (r18.1, r18.2)) else (if (fX5_isTime v1 σ) = 0 then bnd (fX5_finding 4 σ) (fun r13 => (r13.1, r13.2)) else bnd (LX5_hours_34 101 v1 0 0 σ) (fun r10 => (r10.1, r10.2))))
def rmX5_hottest : Room := { frames := 3, cells := 0, slots := 0, locals := 66 }
def LX5_hottest_4 : Nat → Int32 → Int32 → sg → Int32
  | 0, v1, v2, σ => v1
  | k + 1, v1, v2, σ => (if 6 ≤ v2 then v1 else (if (fX5_heatOf 0 v2 (rA σ 0 2) σ) ≤ (fX5_heatOf 0 v1 (rA σ 0 2) σ) then LX5_hottest_4 k v1 (v2 + 1) σ else LX5_hottest_4 k v2 (v2 + 1) σ))
def fX5_hottest (σ : sg) : Int32 := bnd (LX5_hottest_4 7 0 1 σ) (fun r9 => r9)
def rmX5_now : Room := { frames := 4, cells := 0, slots := 0, locals := 88 }
def fX5_now (v1 : Int32) (σ : sg) : Int32 × sg := (if v1 = 0 then ((rA σ 0 2), σ) else (if v1 = 1 then ((fX5_holding 0 σ), σ) else (if v1 = 2 then ((fX5_ran 0 σ), σ) else (if v1 = 3 then ((fX5_sumOf 0 56 (rA σ 0 0) σ), σ) else (if v1 = 4 then ((fX5_sumOf 0 10 6 σ), σ) else (if v1 = 5 then ((fX5_hottest σ), σ) else (if v1 = 6 then ((rA σ 0 1), σ) else bnd (fX5_finding 0 σ) (fun r9 => (r9.1, r9.2)))))))))
def rmX5_ahead : Room := { frames := 5, cells := 0, slots := 0, locals := 114 }
def fX5_ahead (v1 : Int32) (v2 : Int32) (σ : sg) : Int32 × sg := (if (fX5_within v1 0 100) = 0 then bnd (fX5_finding 0 σ) (fun r2 => (r2.1, r2.2)) else (if (fX5_within v2 0 (2 + (rA σ 0 0))) = 0 then bnd (fX5_finding 0 σ) (fun r31 => (r31.1, r31.2)) else (if (fX5_isTime v1 σ) = 0 then bnd (fX5_finding 4 σ) (fun r26 => (r26.1, r26.2)) else bnd (fX5_row 0 2 σ) (fun r9 => bnd (fX5_holdingBehind v1 r9) (fun r12 => (if v2 = 0 then (r12.1, r12.2) else (if v2 = 1 then ((fX5_ran 2 r12.2), r12.2) else (if v2 = 2 then ((fX5_sumOf 2 10 6 r12.2), r12.2) else ((rA r12.2 2 ((56 + v2) - 3)), r12.2)))))))))
def rmX5_endOf : Room := { frames := 4, cells := 0, slots := 0, locals := 91 }
def LX5_endOf_2 : Nat → Int32 → Int32 → sg → Int32 × sg
  | 0, v1, v2, σ => (v2, σ)
  | k + 1, v1, v2, σ => (if 100 < v2 then (v2, σ) else (if (fX5_holds 2 v1 σ) = 0 then (v2, σ) else bnd (fX5_anHour 2 σ) (fun r3 => LX5_endOf_2 k v1 (v2 + 1) r3.2)))
def fX5_endOf (v1 : Int32) (σ : sg) : Int32 × sg := bnd (LX5_endOf_2 102 v1 0 σ) (fun r11 => (r11.1, r11.2))
theorem eoL {b : Nat} (hb : b ≠ 6) : ∀ (k : Nat) (v w : Int32) (σ : sg), rA (LX5_endOf_2 k v w σ).2 b 0 = rA σ b 0 := by
  intro k
  induction k with
  | zero => intro v w σ; rfl
  | succ k ih =>
    intro v w σ
    rw [LX5_endOf_2]
    split
    · rfl
    · split
      · rfl
      · exact (ih _ _ _).trans (many_ah hb σ)
theorem eoM {d : Int32} {σ : sg} {r : Int32 × sg} (e : r = fX5_endOf d σ) : (rA r.2 0 0).toInt = (rA σ 0 0).toInt := by
  subst e
  have e1 : rA (fX5_endOf d σ).2 0 0 = rA σ 0 0 := by
    rw [fX5_endOf.eq_1]
    exact wf_bnd (P := fun T : Int32 × sg => rA T.2 0 0 = rA σ 0 0) (fun r e => by show rA r.2 0 0 = rA σ 0 0; rw [e]; exact eoL (by decide) _ _ _ _)
  rw [e1]
def rmX5_ends : Room := { frames := 5, cells := 0, slots := 0, locals := 114 }
def fX5_ends (v1 : Int32) (σ : sg) : Int32 × sg := (if (fX5_isDeed v1 σ) = 0 then bnd (fX5_finding 0 σ) (fun r20 => (r20.1, r20.2)) else (if (fX5_isTime 100 σ) = 0 then bnd (fX5_finding 4 σ) (fun r15 => (r15.1, r15.2)) else bnd (fX5_row 0 2 σ) (fun r3 => bnd (fX5_endOf v1 r3) (fun r6 => (if r6.1 ≤ 100 then (r6.1, r6.2) else bnd (fX5_finding 3 r6.2) (fun r10 => (r10.1, r10.2)))))))
def rmX5_soonest : Room := { frames := 5, cells := 0, slots := 0, locals := 114 }
def LX5_soonest_22 : Nat → Int32 → Int32 → Int32 → sg → Int32 × sg
  | 0, v1, v2, v3, σ => (v1, σ)
  | k + 1, v1, v2, v3, σ => (if (rA σ 0 0) ≤ v3 then (v1, σ) else bnd (fX5_row 0 2 σ) (fun r4 => bnd (fX5_endOf v3 r4) (fun r7 => (if v2 ≤ r7.1 then LX5_soonest_22 k v1 v2 (v3 + 1) r7.2 else LX5_soonest_22 k v3 r7.1 (v3 + 1) r7.2))))
def fX5_soonest (σ : sg) : Int32 × sg := (if (fX5_isTime 100 σ) = 0 then bnd (fX5_finding 4 σ) (fun r26 => (r26.1, r26.2)) else bnd (LX5_soonest_22 9 (-1) 101 0 σ) (fun r17 => (if 0 ≤ r17.1 then (r17.1, r17.2) else bnd (fX5_finding 3 r17.2) (fun r21 => (r21.1, r21.2)))))
def rmX5_longest : Room := { frames := 5, cells := 0, slots := 0, locals := 114 }
def LX5_longest_9 : Nat → Int32 → Int32 → Int32 → Int32 → Int32 → Int32 → sg → Int32 × sg
  | 0, v1, v2, v3, v4, v5, v6, σ => (v4, σ)
  | k + 1, v1, v2, v3, v4, v5, v6, σ => (if v3 ≤ v6 then (v4, σ) else bnd (fX5_row 0 2 σ) (fun r2 => bnd (sA r2 2 (v2 + v1) v6) (fun s6 => bnd (fX5_endOf v1 s6) (fun r11 => (if r11.1 ≤ v5 then LX5_longest_9 k v1 v2 v3 v4 v5 (v6 + 1) r11.2 else LX5_longest_9 k v1 v2 v3 v6 r11.1 (v6 + 1) r11.2)))))
def fX5_longest (v1 : Int32) (v2 : Int32) (v3 : Int32) (σ : sg) : Int32 × sg := bnd (LX5_longest_9 8 v1 v2 v3 0 (-1) 0 σ) (fun r21 => (r21.1, r21.2))
def rmX5_place : Room := { frames := 6, cells := 0, slots := 0, locals := 141 }
def fX5_place (v1 : Int32) (σ : sg) : Int32 × sg := (if (fX5_lacks (fX5_isDeed v1 σ) 100 σ) < 0 then bnd (fX5_longest v1 40 6 σ) (fun r2 => (r2.1, r2.2)) else bnd (fX5_finding (fX5_lacks (fX5_isDeed v1 σ) 100 σ) σ) (fun r5 => (r5.1, r5.2)))
def rmX5_kindFor : Room := { frames := 6, cells := 0, slots := 0, locals := 141 }
def fX5_kindFor (v1 : Int32) (σ : sg) : Int32 × sg := (if (fX5_lacks (fX5_isDeed v1 σ) 100 σ) < 0 then bnd (fX5_longest v1 32 7 σ) (fun r2 => (r2.1, r2.2)) else bnd (fX5_finding (fX5_lacks (fX5_isDeed v1 σ) 100 σ) σ) (fun r5 => (r5.1, r5.2)))
set_option maxRecDepth 100000 in
set_option maxHeartbeats 4000000 in
theorem wX5_brings (a0 : Nat) (ha0 : a0 < 4) (v1 : Int32) (v2 : Int32) {σ : sg} (hw : WM σ) (hb : 0 ≤ v1.toInt ∧ v1.toInt ≤ 5) : WM (fX5_brings a0 v1 v2 σ) := by
  have k0 : (0 : Int32).toInt = 0 := rfl
  have k10 : (10 : Int32).toInt = 10 := rfl
  have k99 : (99 : Int32).toInt = 99 := rfl
  rw [show fX5_brings a0 v1 v2 σ = _ from fX5_brings.eq_1 ..]
  have a1 := addI (x := 10) (y := v1) (by omega) (by omega)
  refine wf_bnd (fun s2 e3 => ?_)
  have hw4 : WM s2 := by rw [e3]; exact wmRn hw ha0 (by omega) (by omega) (by omega) (by omega)
  have m5 := mKeep e3 (by omega)
  exact hw4
set_option maxRecDepth 100000 in
set_option maxHeartbeats 4000000 in
theorem wX5_lays (v1 : Int32) (v2 : Int32) {σ : sg} (hw : WM σ) (hb : 0 ≤ v2.toInt ∧ v2.toInt ≤ 5) (hm : (rA σ 0 0).toInt < 8) : WM (fX5_lays v1 v2 σ) := by
  have km1 : ((-1) : Int32).toInt = -1 := rfl
  have k0 : (0 : Int32).toInt = 0 := rfl
  have k1 : (1 : Int32).toInt = 1 := rfl
  have k32 : (32 : Int32).toInt = 32 := rfl
  have k40 : (40 : Int32).toInt = 40 := rfl
  have k48 : (48 : Int32).toInt = 48 := rfl
  have k56 : (56 : Int32).toInt = 56 := rfl
  have k64 : (64 : Int32).toInt = 64 := rfl
  have k72 : (72 : Int32).toInt = 72 := rfl
  rw [show fX5_lays v1 v2 σ = _ from fX5_lays.eq_1 ..]
  have w1 := wm_many hw (show 0 < 4 by decide)
  have a2 := addI (x := 32) (y := (rA σ 0 0)) (by omega) (by omega)
  refine wf_bnd (fun s3 e4 => ?_)
  have hw5 : WM s3 := by rw [e4]; exact wmRn hw (by decide) (by omega) (by omega) (by omega) (by omega)
  have m6 := mKeep e4 (by omega)
  have a7 := addI (x := 40) (y := (rA σ 0 0)) (by omega) (by omega)
  refine wf_bnd (fun s8 e9 => ?_)
  have hw10 : WM s8 := by rw [e9]; exact wmRs hw5 (show 0 < 4 by decide) (by omega) (by omega) (by omega) (by omega)
  have m11 := mKeep e9 (by omega)
  have a12 := addI (x := 48) (y := (rA σ 0 0)) (by omega) (by omega)
  refine wf_bnd (fun s13 e14 => ?_)
  have hw15 : WM s13 := by rw [e14]; exact wmRn hw10 (by decide) (by omega) (by omega) (by omega) (by omega)
  have m16 := mKeep e14 (by omega)
  have a17 := addI (x := 56) (y := (rA σ 0 0)) (by omega) (by omega)
  refine wf_bnd (fun s18 e19 => ?_)
  have hw20 : WM s18 := by rw [e19]; exact wmRn hw15 (by decide) (by omega) (by omega) (by omega) (by omega)
  have m21 := mKeep e19 (by omega)
  have a22 := addI (x := 64) (y := (rA σ 0 0)) (by omega) (by omega)
  refine wf_bnd (fun s23 e24 => ?_)
  have hw25 : WM s23 := by rw [e24]; exact wmRn hw20 (by decide) (by omega) (by omega) (by omega) (by omega)
  have m26 := mKeep e24 (by omega)
  have a27 := addI (x := 72) (y := (rA σ 0 0)) (by omega) (by omega)
  refine wf_bnd (fun s28 e29 => ?_)
  have hw30 : WM s28 := by rw [e29]; exact wmRo hw25 (show 0 < 4 by decide) (by omega) (by omega) (by omega) (by omega)
  have m31 := mKeep e29 (by omega)
  have w32 := wm_many hw30 (show 0 < 4 by decide)
  refine wf_bnd (fun s33 e34 => ?_)
  have hw35 : WM s33 := by rw [e34]; exact wmLay (d := rA σ 0 0) hw30 e29 (by omega) (by omega) (by omega)
  exact hw35
set_option maxRecDepth 100000 in
set_option maxHeartbeats 4000000 in
theorem wX5_deed (v1 : Int32) (v2 : Int32) {σ : sg} (hw : WM σ) : WMi (fX5_deed v1 v2 σ) := by
  have k0 : (0 : Int32).toInt = 0 := rfl
  have k1 : (1 : Int32).toInt = 1 := rfl
  have k8 : (8 : Int32).toInt = 8 := rfl
  rw [show fX5_deed v1 v2 σ = _ from fX5_deed.eq_1 ..]
  refine wf_ite (fun c1 => ?_) (fun c1 => ?_)
  · have i23 := eqI c1
    refine wf_bnd (fun r2 e3 => ?_)
    have hw4 : WM r2.2 := by rw [e3]; exact wX5_finding 0 hw (by omega)
    exact hw4
  · have i24 := neI c1
    have b25 := wiK_t c1
    refine wf_ite (fun c5 => ?_) (fun c5 => ?_)
    · have i22 := eqI c5
      refine wf_bnd (fun r17 e18 => ?_)
      have hw19 : WM r17.2 := by rw [e18]; exact wX5_finding 0 hw (by omega)
      exact hw19
    · have i20 := neI c5
      have b21 := wiS_t c5
      have w6 := wm_many hw (show 0 < 4 by decide)
      refine wf_ite (fun c7 => ?_) (fun c7 => ?_)
      · have i16 := eqI c7
        refine wf_bnd (fun r12 e13 => ?_)
        have hw14 : WM r12.2 := by rw [e13]; exact wX5_finding 1 hw (by omega)
        exact hw14
      · have i15 := neI c7
        refine wf_bnd (fun r8 e9 => ?_)
        have hw10 : WM r8 := by rw [e9]; exact wX5_lays v1 v2 hw (by omega) (by omega)
        have w11 := wm_many hw10 (show 0 < 4 by decide)
        exact hw10
set_option maxRecDepth 100000 in
set_option maxHeartbeats 4000000 in
theorem wX5_of (v1 : Int32) (v2 : Int32) {σ : sg} (hw : WM σ) : WMi (fX5_of v1 v2 σ) := by
  have k0 : (0 : Int32).toInt = 0 := rfl
  have k1 : (1 : Int32).toInt = 1 := rfl
  have k2 : (2 : Int32).toInt = 2 := rfl
  have k6 : (6 : Int32).toInt = 6 := rfl
  have k7 : (7 : Int32).toInt = 7 := rfl
  have k8 : (8 : Int32).toInt = 8 := rfl
  have k9 : (9 : Int32).toInt = 9 := rfl
  have k32 : (32 : Int32).toInt = 32 := rfl
  have k40 : (40 : Int32).toInt = 40 := rfl
  have k48 : (48 : Int32).toInt = 48 := rfl
  rw [show fX5_of v1 v2 σ = _ from fX5_of.eq_1 ..]
  refine wf_ite (fun c1 => ?_) (fun c1 => ?_)
  · have i34 := eqI c1
    refine wf_bnd (fun r2 e3 => ?_)
    have hw4 : WM r2.2 := by rw [e3]; exact wX5_finding 0 hw (by omega)
    exact hw4
  · have i35 := neI c1
    have b36 := wiD_t hw c1
    refine wf_ite (fun c5 => ?_) (fun c5 => ?_)
    · have i33 := eqI c5
      refine wf_bnd (fun r28 e29 => ?_)
      have hw30 : WM r28.2 := by rw [e29]; exact wX5_finding 0 hw (by omega)
      exact hw30
    · have i31 := neI c5
      have b32 := wi_t c5
      have a6 := addI (x := 32) (y := v1) (by omega) (by omega)
      refine wf_ite (fun c7 => ?_) (fun c7 => ?_)
      · have i26 := eqI c7
        have a8 := addI (x := 48) (y := v1) (by omega) (by omega)
        exact hw
      · have i27 := neI c7
        refine wf_ite (fun c9 => ?_) (fun c9 => ?_)
        · have i24 := eqI c9
          exact hw
        · have i25 := neI c9
          refine wf_ite (fun c10 => ?_) (fun c10 => ?_)
          · have i22 := eqI c10
            have a11 := addI (x := 40) (y := v1) (by omega) (by omega)
            have w12 := wm_shelf hw (show 0 < 4 by decide) v1 (by omega) (by omega)
            exact hw
          · have i23 := neI c10
            refine wf_ite (fun c13 => ?_) (fun c13 => ?_)
            · have i20 := eqI c13
              refine wf_ite (fun c14 => ?_) (fun c14 => ?_)
              · have i15 := eqI c14
                exact hw
              · have i16 := neI c14
                exact hw
            · have i21 := neI c13
              have a17 := mulI (x := 8) (y := v2) (by first | omega | (simp only [k8]; omega)) (by first | omega | (simp only [k8]; omega))
              simp only [k8] at a17
              have a18 := addI (x := 32) (y := (8 * v2)) (by omega) (by omega)
              have a19 := addI (x := (32 + (8 * v2))) (y := v1) (by omega) (by omega)
              exact hw
set_option maxRecDepth 100000 in
set_option maxHeartbeats 4000000 in
theorem wX5_change (v1 : Int32) (v2 : Int32) (v3 : Int32) {σ : sg} (hw : WM σ) : WMi (fX5_change v1 v2 v3 σ) := by
  have k0 : (0 : Int32).toInt = 0 := rfl
  have k8 : (8 : Int32).toInt = 8 := rfl
  have k32 : (32 : Int32).toInt = 32 := rfl
  rw [show fX5_change v1 v2 v3 σ = _ from fX5_change.eq_1 ..]
  refine wf_ite (fun c1 => ?_) (fun c1 => ?_)
  · have i18 := eqI c1
    refine wf_bnd (fun r2 e3 => ?_)
    have hw4 : WM r2.2 := by rw [e3]; exact wX5_finding 0 hw (by omega)
    exact hw4
  · have i19 := neI c1
    have b20 := wiD_t hw c1
    refine wf_ite (fun c5 => ?_) (fun c5 => ?_)
    · have i17 := eqI c5
      refine wf_bnd (fun r12 e13 => ?_)
      have hw14 : WM r12.2 := by rw [e13]; exact wX5_finding 0 hw (by omega)
      exact hw14
    · have i15 := neI c5
      have b16 := mb_t c5
      have a6 := mulI (x := 8) (y := v2) (by first | omega | (simp only [k8]; omega)) (by first | omega | (simp only [k8]; omega))
      simp only [k8] at a6
      have a7 := addI (x := 32) (y := (8 * v2)) (by omega) (by omega)
      have a8 := addI (x := (32 + (8 * v2))) (y := v1) (by omega) (by omega)
      refine wf_bnd (fun s9 e10 => ?_)
      have hw11 : WM s9 := by rw [e10]; exact wmCh hw (by omega) (by omega) (by assumption)
      exact hw11
set_option maxRecDepth 100000 in
set_option maxHeartbeats 4000000 in
theorem wX5_renew (v1 : Int32) {σ : sg} (hw : WM σ) : WMi (fX5_renew v1 σ) := by
  have k0 : (0 : Int32).toInt = 0 := rfl
  have k56 : (56 : Int32).toInt = 56 := rfl
  have k64 : (64 : Int32).toInt = 64 := rfl
  rw [show fX5_renew v1 σ = _ from fX5_renew.eq_1 ..]
  refine wf_ite (fun c1 => ?_) (fun c1 => ?_)
  · have i17 := eqI c1
    refine wf_bnd (fun r12 e13 => ?_)
    have hw14 : WM r12.2 := by rw [e13]; exact wX5_finding 0 hw (by omega)
    exact hw14
  · have i15 := neI c1
    have b16 := wiD_t hw c1
    have a2 := addI (x := 64) (y := v1) (by omega) (by omega)
    refine wf_bnd (fun s3 e4 => ?_)
    have hw5 : WM s3 := by rw [e4]; exact wmRn hw (by decide) (by omega) (by omega) (by omega) (by omega)
    have m6 := mKeep e4 (by omega)
    have a7 := addI (x := 56) (y := v1) (by omega) (by omega)
    refine wf_bnd (fun s8 e9 => ?_)
    have hw10 : WM s8 := by rw [e9]; exact wmRn hw5 (by decide) (by omega) (by omega) (by omega) (by omega)
    have m11 := mKeep e9 (by omega)
    exact hw10
set_option maxRecDepth 100000 in
set_option maxHeartbeats 4000000 in
theorem wX5_shelf (v1 : Int32) (v2 : Int32) (v3 : Int32) {σ : sg} (hw : WM σ) : WMi (fX5_shelf v1 v2 v3 σ) := by
  have k0 : (0 : Int32).toInt = 0 := rfl
  have k1 : (1 : Int32).toInt = 1 := rfl
  have k2 : (2 : Int32).toInt = 2 := rfl
  have k4 : (4 : Int32).toInt = 4 := rfl
  have k6 : (6 : Int32).toInt = 6 := rfl
  have k99 : (99 : Int32).toInt = 99 := rfl
  rw [show fX5_shelf v1 v2 v3 σ = _ from fX5_shelf.eq_1 ..]
  refine wf_ite (fun c1 => ?_) (fun c1 => ?_)
  · have i66 := eqI c1
    refine wf_ite (fun c44 => ?_) (fun c44 => ?_)
    · have i62 := eqI c44
      refine wf_bnd (fun r45 e46 => ?_)
      have hw47 : WM r45.2 := by rw [e46]; exact wX5_finding 0 hw (by omega)
      exact hw47
    · have i63 := neI c44
      have b64 := wiS_t c44
      refine wf_ite (fun c48 => ?_) (fun c48 => ?_)
      · have i61 := eqI c48
        refine wf_bnd (fun r56 e57 => ?_)
        have hw58 : WM r56.2 := by rw [e57]; exact wX5_finding 0 hw (by omega)
        exact hw58
      · have i59 := neI c48
        have b60 := wi_t c48
        have a49 := mulI (x := 6) (y := v2) (by first | omega | (simp only [k6]; omega)) (by first | omega | (simp only [k6]; omega))
        simp only [k6] at a49
        have a50 := addI (x := 4) (y := (6 * v2)) (by omega) (by omega)
        have a51 := addI (x := (4 + (6 * v2))) (y := v1) (by omega) (by omega)
        refine wf_bnd (fun s52 e53 => ?_)
        have hw54 : WM s52 := by rw [e53]; exact wmRn hw (by decide) (by omega) (by omega) (by omega) (by omega)
        have m55 := mKeep e53 (by omega)
        exact hw54
  · have i65 := neI c1
    refine wf_ite (fun c2 => ?_) (fun c2 => ?_)
    · have i41 := eqI c2
      refine wf_ite (fun c3 => ?_) (fun c3 => ?_)
      · have i10 := eqI c3
        refine wf_bnd (fun r4 e5 => ?_)
        have hw6 : WM r4.2 := by rw [e5]; exact wX5_finding 0 hw (by omega)
        exact hw6
      · have i11 := neI c3
        have b12 := wiS_t c3
        refine wf_bnd (fun r7 e8 => ?_)
        have hw9 : WM r7.2 := by rw [e8]; exact wX5_finding 0 hw (by omega)
        exact hw9
    · have i42 := neI c2
      have b43 := wi_t c2
      refine wf_ite (fun c13 => ?_) (fun c13 => ?_)
      · have i38 := eqI c13
        refine wf_ite (fun c14 => ?_) (fun c14 => ?_)
        · have i21 := eqI c14
          refine wf_bnd (fun r15 e16 => ?_)
          have hw17 : WM r15.2 := by rw [e16]; exact wX5_finding 0 hw (by omega)
          exact hw17
        · have i22 := neI c14
          have b23 := wiS_t c14
          refine wf_bnd (fun r18 e19 => ?_)
          have hw20 : WM r18.2 := by rw [e19]; exact wX5_finding 0 hw (by omega)
          exact hw20
      · have i39 := neI c13
        have b40 := wi_t c13
        refine wf_ite (fun c24 => ?_) (fun c24 => ?_)
        · have i35 := eqI c24
          refine wf_bnd (fun r25 e26 => ?_)
          have hw27 : WM r25.2 := by rw [e26]; exact wX5_finding 0 hw (by omega)
          exact hw27
        · have i36 := neI c24
          have b37 := wiS_t c24
          have a28 := mulI (x := 6) (y := v2) (by first | omega | (simp only [k6]; omega)) (by first | omega | (simp only [k6]; omega))
          simp only [k6] at a28
          have a29 := addI (x := 4) (y := (6 * v2)) (by omega) (by omega)
          have a30 := addI (x := (4 + (6 * v2))) (y := v1) (by omega) (by omega)
          refine wf_bnd (fun s31 e32 => ?_)
          have hw33 : WM s31 := by rw [e32]; exact wmRn hw (by decide) (by omega) (by omega) (by omega) (by omega)
          have m34 := mKeep e32 (by omega)
          exact hw33
set_option maxRecDepth 100000 in
set_option maxHeartbeats 4000000 in
theorem wX5_summer (v1 : Int32) {σ : sg} (hw : WM σ) : WMi (fX5_summer v1 σ) := by
  have k0 : (0 : Int32).toInt = 0 := rfl
  have k1 : (1 : Int32).toInt = 1 := rfl
  have k40 : (40 : Int32).toInt = 40 := rfl
  rw [show fX5_summer v1 σ = _ from fX5_summer.eq_1 ..]
  refine wf_ite (fun c1 => ?_) (fun c1 => ?_)
  · have i11 := eqI c1
    refine wf_bnd (fun r6 e7 => ?_)
    have hw8 : WM r6.2 := by rw [e7]; exact wX5_finding 0 hw (by omega)
    exact hw8
  · have i9 := neI c1
    have b10 := wi_t c1
    refine wf_bnd (fun s2 e3 => ?_)
    have hw4 : WM s2 := by rw [e3]; exact wmRn hw (by decide) (by omega) (by omega) (by omega) (by omega)
    have m5 := mKeep e3 (by omega)
    exact hw4
set_option maxRecDepth 100000 in
set_option maxHeartbeats 4000000 in
theorem wX5_sun (v1 : Int32) {σ : sg} (hw : WM σ) : WMi (fX5_sun v1 σ) := by
  have k0 : (0 : Int32).toInt = 0 := rfl
  have k9999 : (9999 : Int32).toInt = 9999 := rfl
  rw [show fX5_sun v1 σ = _ from fX5_sun.eq_1 ..]
  refine wf_ite (fun c1 => ?_) (fun c1 => ?_)
  · have i5 := eqI c1
    refine wf_bnd (fun r2 e3 => ?_)
    have hw4 : WM r2.2 := by rw [e3]; exact wX5_finding 0 hw (by omega)
    exact hw4
  · have i6 := neI c1
    have b7 := wi_t c1
    exact hw
set_option maxRecDepth 100000 in
set_option maxHeartbeats 4000000 in
theorem wX5_heat (v1 : Int32) (v2 : Int32) {σ : sg} (hw : WM σ) : WMi (fX5_heat v1 v2 σ) := by
  have k0 : (0 : Int32).toInt = 0 := rfl
  have k9999 : (9999 : Int32).toInt = 9999 := rfl
  rw [show fX5_heat v1 v2 σ = _ from fX5_heat.eq_1 ..]
  refine wf_ite (fun c1 => ?_) (fun c1 => ?_)
  · have i12 := eqI c1
    refine wf_bnd (fun r2 e3 => ?_)
    have hw4 : WM r2.2 := by rw [e3]; exact wX5_finding 0 hw (by omega)
    exact hw4
  · have i13 := neI c1
    have b14 := wiS_t c1
    refine wf_ite (fun c5 => ?_) (fun c5 => ?_)
    · have i9 := eqI c5
      refine wf_bnd (fun r6 e7 => ?_)
      have hw8 : WM r6.2 := by rw [e7]; exact wX5_finding 0 hw (by omega)
      exact hw8
    · have i10 := neI c5
      have b11 := wi_t c5
      exact hw
def PLX5_lie_17 : Int32 → Prop := fun r => True
set_option maxRecDepth 100000 in
set_option maxHeartbeats 4000000 in
theorem wLX5_lie_17 : ∀ (k : Nat) (v1 v2 v3 : Int32) (σ : sg) (hw : WM σ) (hv3 : 0 ≤ v3.toInt ∧ v3.toInt ≤ 8) (hmu : (8 - v3.toInt).toNat < k), PLX5_lie_17 (LX5_lie_17 k v1 v2 v3 σ) := by
  intro k
  induction k with
  | zero => intro v1 v2 v3 σ hw hv3 hmu; exact absurd hmu (Nat.not_lt_zero _)
  | succ k ih =>
    intro v1 v2 v3 σ hw hv3 hmu
    have k0 : (0 : Int32).toInt = 0 := rfl
    have k1 : (1 : Int32).toInt = 1 := rfl
    have k40 : (40 : Int32).toInt = 40 := rfl
    rw [show LX5_lie_17 (k + 1) v1 v2 v3 σ = _ from LX5_lie_17.eq_2 ..]
    have w2 := wm_many hw (show 0 < 4 by decide)
    refine wf_ite (fun c3 => ?_) (fun c3 => ?_)
    · have i11 := leI c3
      exact trivial
    · have i12 := nleI c3
      have a4 := addI (x := 40) (y := v3) (by omega) (by omega)
      have w5 := wm_shelf hw (show 0 < 4 by decide) v3 (by omega) (by omega)
      refine wf_ite (fun c6 => ?_) (fun c6 => ?_)
      · have i10 := eqI c6
        have a8 := addI (x := v3) (y := 1) (by omega) (by omega)
        exact ih v1 (v2 ||| (jshl 1 v3)) (v3 + 1) σ hw (by omega) (by omega)
      · have i9 := neI c6
        have a7 := addI (x := v3) (y := 1) (by omega) (by omega)
        exact ih v1 (v2 ||| 0) (v3 + 1) σ hw (by omega) (by omega)
set_option maxRecDepth 100000 in
set_option maxHeartbeats 4000000 in
theorem wX5_lie (v1 : Int32) {σ : sg} (hw : WM σ) : WMi (fX5_lie v1 σ) := by
  have k0 : (0 : Int32).toInt = 0 := rfl
  rw [show fX5_lie v1 σ = _ from fX5_lie.eq_1 ..]
  refine wf_ite (fun c1 => ?_) (fun c1 => ?_)
  · have i20 := eqI c1
    refine wf_bnd (fun r15 e16 => ?_)
    have hw17 : WM r15.2 := by rw [e16]; exact wX5_finding 0 hw (by omega)
    exact hw17
  · have i18 := neI c1
    have b19 := wiS_t c1
    refine wf_bnd (fun r13 e14 => ?_)
    exact hw
def PLX5_hours_34 : Int32 × sg → Prop := fun r => (WM r.2) ∧ True
set_option maxRecDepth 100000 in
set_option maxHeartbeats 4000000 in
theorem wLX5_hours_34 : ∀ (k : Nat) (v1 v2 v3 : Int32) (σ : sg) (hw : WM σ) (hv3 : 0 ≤ v3.toInt ∧ v3.toInt ≤ 100) (hn1 : v1.toInt ≤ 100) (hmu : (100 - v3.toInt).toNat < k), PLX5_hours_34 (LX5_hours_34 k v1 v2 v3 σ) := by
  intro k
  induction k with
  | zero => intro v1 v2 v3 σ hw hv3 hn1 hmu; exact absurd hmu (Nat.not_lt_zero _)
  | succ k ih =>
    intro v1 v2 v3 σ hw hv3 hn1 hmu
    have k0 : (0 : Int32).toInt = 0 := rfl
    have k1 : (1 : Int32).toInt = 1 := rfl
    rw [show LX5_hours_34 (k + 1) v1 v2 v3 σ = _ from LX5_hours_34.eq_2 ..]
    refine wf_ite (fun c3 => ?_) (fun c3 => ?_)
    · have i8 := leI c3
      exact ⟨hw, trivial⟩
    · have i9 := nleI c3
      refine wf_bnd (fun r4 e5 => ?_)
      have hw6 : WM r4.2 := by rw [e5]; exact wX5_anHour 0 (by decide) hw 
      have me5 := manyA (show 0 < 4 by decide) e5
      have a7 := addI (x := v3) (y := 1) (by omega) (by omega)
      exact ih v1 (v2 + r4.1) (v3 + 1) r4.2 hw6 (by omega) (by omega) (by omega)
set_option maxRecDepth 100000 in
set_option maxHeartbeats 4000000 in
theorem wX5_hours (v1 : Int32) {σ : sg} (hw : WM σ) : WMi (fX5_hours v1 σ) := by
  have k0 : (0 : Int32).toInt = 0 := rfl
  have k1 : (1 : Int32).toInt = 1 := rfl
  have k4 : (4 : Int32).toInt = 4 := rfl
  have k100 : (100 : Int32).toInt = 100 := rfl
  rw [show fX5_hours v1 σ = _ from fX5_hours.eq_1 ..]
  refine wf_ite (fun c1 => ?_) (fun c1 => ?_)
  · have i23 := eqI c1
    refine wf_bnd (fun r18 e19 => ?_)
    have hw20 : WM r18.2 := by rw [e19]; exact wX5_finding 0 hw (by omega)
    exact hw20
  · have i21 := neI c1
    have b22 := wi_t c1
    refine wf_ite (fun c2 => ?_) (fun c2 => ?_)
    · have i17 := eqI c2
      refine wf_bnd (fun r13 e14 => ?_)
      have hw15 : WM r13.2 := by rw [e14]; exact wX5_finding 4 hw (by omega)
      exact hw15
    · have i16 := neI c2
      refine wf_bnd (fun r10 e11 => ?_)
      obtain ⟨hw12, _⟩ := (show PLX5_hours_34 r10 from by rw [e11]; exact wLX5_hours_34 101 v1 0 0 σ hw (by omega) (by omega) (by omega))
      exact hw12
set_option maxRecDepth 100000 in
set_option maxHeartbeats 4000000 in
theorem wX5_now (v1 : Int32) {σ : sg} (hw : WM σ) : WMi (fX5_now v1 σ) := by
  have k0 : (0 : Int32).toInt = 0 := rfl
  have k1 : (1 : Int32).toInt = 1 := rfl
  have k2 : (2 : Int32).toInt = 2 := rfl
  have k3 : (3 : Int32).toInt = 3 := rfl
  have k4 : (4 : Int32).toInt = 4 := rfl
  have k5 : (5 : Int32).toInt = 5 := rfl
  have k6 : (6 : Int32).toInt = 6 := rfl
  have k10 : (10 : Int32).toInt = 10 := rfl
  have k56 : (56 : Int32).toInt = 56 := rfl
  rw [show fX5_now v1 σ = _ from fX5_now.eq_1 ..]
  refine wf_ite (fun c1 => ?_) (fun c1 => ?_)
  · have i24 := eqI c1
    exact hw
  · have i25 := neI c1
    refine wf_ite (fun c2 => ?_) (fun c2 => ?_)
    · have i22 := eqI c2
      exact hw
    · have i23 := neI c2
      refine wf_ite (fun c3 => ?_) (fun c3 => ?_)
      · have i20 := eqI c3
        exact hw
      · have i21 := neI c3
        refine wf_ite (fun c4 => ?_) (fun c4 => ?_)
        · have i18 := eqI c4
          have w5 := wm_many hw (show 0 < 4 by decide)
          exact hw
        · have i19 := neI c4
          refine wf_ite (fun c6 => ?_) (fun c6 => ?_)
          · have i16 := eqI c6
            exact hw
          · have i17 := neI c6
            refine wf_ite (fun c7 => ?_) (fun c7 => ?_)
            · have i14 := eqI c7
              exact hw
            · have i15 := neI c7
              refine wf_ite (fun c8 => ?_) (fun c8 => ?_)
              · have i12 := eqI c8
                exact hw
              · have i13 := neI c8
                refine wf_bnd (fun r9 e10 => ?_)
                have hw11 : WM r9.2 := by rw [e10]; exact wX5_finding 0 hw (by omega)
                exact hw11
set_option maxRecDepth 100000 in
set_option maxHeartbeats 4000000 in
theorem wX5_ahead (v1 : Int32) (v2 : Int32) {σ : sg} (hw : WM σ) : WMi (fX5_ahead v1 v2 σ) := by
  have k0 : (0 : Int32).toInt = 0 := rfl
  have k1 : (1 : Int32).toInt = 1 := rfl
  have k2 : (2 : Int32).toInt = 2 := rfl
  have k3 : (3 : Int32).toInt = 3 := rfl
  have k4 : (4 : Int32).toInt = 4 := rfl
  have k6 : (6 : Int32).toInt = 6 := rfl
  have k10 : (10 : Int32).toInt = 10 := rfl
  have k56 : (56 : Int32).toInt = 56 := rfl
  have k100 : (100 : Int32).toInt = 100 := rfl
  rw [show fX5_ahead v1 v2 σ = _ from fX5_ahead.eq_1 ..]
  refine wf_ite (fun c1 => ?_) (fun c1 => ?_)
  · have i37 := eqI c1
    refine wf_bnd (fun r2 e3 => ?_)
    have hw4 : WM r2.2 := by rw [e3]; exact wX5_finding 0 hw (by omega)
    exact hw4
  · have i38 := neI c1
    have b39 := wi_t c1
    have w5 := wm_many hw (show 0 < 4 by decide)
    have a6 := addI (x := 2) (y := (rA σ 0 0)) (by omega) (by omega)
    refine wf_ite (fun c7 => ?_) (fun c7 => ?_)
    · have i36 := eqI c7
      refine wf_bnd (fun r31 e32 => ?_)
      have hw33 : WM r31.2 := by rw [e32]; exact wX5_finding 0 hw (by omega)
      exact hw33
    · have i34 := neI c7
      have b35 := wi_t c7
      refine wf_ite (fun c8 => ?_) (fun c8 => ?_)
      · have i30 := eqI c8
        refine wf_bnd (fun r26 e27 => ?_)
        have hw28 : WM r26.2 := by rw [e27]; exact wX5_finding 4 hw (by omega)
        exact hw28
      · have i29 := neI c8
        refine wf_bnd (fun r9 e10 => ?_)
        have hw11 : WM r9 := by rw [e10]; exact wX5_row 0 (by decide) 2 (by decide) hw (by omega)
        have me10 := row0 (show 0 ≠ 2 by decide) e10
        refine wf_bnd (fun r12 e13 => ?_)
        have hw14 : WM r12.2 := by rw [e13]; exact wX5_holdingBehind v1 hw11 (by omega)
        have hbe13 := hbB hw14 e13
        have hme13 := hbm e13
        refine wf_ite (fun c15 => ?_) (fun c15 => ?_)
        · have i25 := eqI c15
          exact hw14
        · have i24 := neI c15
          refine wf_ite (fun c16 => ?_) (fun c16 => ?_)
          · have i23 := eqI c16
            exact hw14
          · have i22 := neI c16
            refine wf_ite (fun c17 => ?_) (fun c17 => ?_)
            · have i21 := eqI c17
              exact hw14
            · have i20 := neI c17
              have a18 := addI (x := 56) (y := v2) (by omega) (by omega)
              have a19 := subI (x := (56 + v2)) (y := 3) (by omega) (by omega)
              exact hw14
def PLX5_endOf_2 (v1 : Int32) : Int32 × sg → Prop := fun r => (WM r.2) ∧ (0 ≤ r.1.toInt ∧ r.1.toInt ≤ 101) ∧ (-1 ≤ v1.toInt ∧ v1.toInt < (rA r.2 2 0).toInt) ∧ True
set_option maxRecDepth 100000 in
set_option maxHeartbeats 4000000 in
theorem wLX5_endOf_2 : ∀ (k : Nat) (v1 v2 : Int32) (σ : sg) (hw : WM σ) (hv2 : 0 ≤ v2.toInt ∧ v2.toInt ≤ 101) (hd : -1 ≤ v1.toInt ∧ v1.toInt < (rA σ 2 0).toInt) (hmu : (101 - v2.toInt).toNat < k), PLX5_endOf_2 v1 (LX5_endOf_2 k v1 v2 σ) := by
  intro k
  induction k with
  | zero => intro v1 v2 σ hw hv2 hd hmu; exact absurd hmu (Nat.not_lt_zero _)
  | succ k ih =>
    intro v1 v2 σ hw hv2 hd hmu
    have k0 : (0 : Int32).toInt = 0 := rfl
    have k1 : (1 : Int32).toInt = 1 := rfl
    have k100 : (100 : Int32).toInt = 100 := rfl
    rw [show LX5_endOf_2 (k + 1) v1 v2 σ = _ from LX5_endOf_2.eq_2 ..]
    refine wf_ite (fun c1 => ?_) (fun c1 => ?_)
    · have i9 := ltI c1
      exact ⟨hw, (by omega), (by omega), trivial⟩
    · have i10 := nltI c1
      refine wf_ite (fun c2 => ?_) (fun c2 => ?_)
      · have i7 := eqI c2
        exact ⟨hw, (by omega), (by omega), trivial⟩
      · have i8 := neI c2
        refine wf_bnd (fun r3 e4 => ?_)
        have hw5 : WM r3.2 := by rw [e4]; exact wX5_anHour 2 (by decide) hw 
        have me4 := manyA (show 2 < 4 by decide) e4
        have ne4 := manyA0 e4
        have a6 := addI (x := v2) (y := 1) (by omega) (by omega)
        exact ih v1 (v2 + 1) r3.2 hw5 (by omega) (by omega) (by omega)
set_option maxRecDepth 100000 in
set_option maxHeartbeats 4000000 in
theorem wX5_endOf (v1 : Int32) {σ : sg} (hw : WM σ) (hd : -1 ≤ v1.toInt ∧ v1.toInt < (rA σ 2 0).toInt) : WMi (fX5_endOf v1 σ) := by
  have k0 : (0 : Int32).toInt = 0 := rfl
  rw [show fX5_endOf v1 σ = _ from fX5_endOf.eq_1 ..]
  refine wf_bnd (fun r11 e12 => ?_)
  obtain ⟨hw13, x14, x15, _⟩ := (show PLX5_endOf_2 v1 r11 from by rw [e12]; exact wLX5_endOf_2 102 v1 0 σ hw (by omega) (by omega) (by omega))
  exact hw13
set_option maxRecDepth 100000 in
set_option maxHeartbeats 4000000 in
theorem wX5_ends (v1 : Int32) {σ : sg} (hw : WM σ) : WMi (fX5_ends v1 σ) := by
  have k0 : (0 : Int32).toInt = 0 := rfl
  have k3 : (3 : Int32).toInt = 3 := rfl
  have k4 : (4 : Int32).toInt = 4 := rfl
  have k100 : (100 : Int32).toInt = 100 := rfl
  rw [show fX5_ends v1 σ = _ from fX5_ends.eq_1 ..]
  refine wf_ite (fun c1 => ?_) (fun c1 => ?_)
  · have i25 := eqI c1
    refine wf_bnd (fun r20 e21 => ?_)
    have hw22 : WM r20.2 := by rw [e21]; exact wX5_finding 0 hw (by omega)
    exact hw22
  · have i23 := neI c1
    have b24 := wiD_t hw c1
    refine wf_ite (fun c2 => ?_) (fun c2 => ?_)
    · have i19 := eqI c2
      refine wf_bnd (fun r15 e16 => ?_)
      have hw17 : WM r15.2 := by rw [e16]; exact wX5_finding 4 hw (by omega)
      exact hw17
    · have i18 := neI c2
      refine wf_bnd (fun r3 e4 => ?_)
      have hw5 : WM r3 := by rw [e4]; exact wX5_row 0 (by decide) 2 (by decide) hw (by omega)
      have me4 := row0 (show 0 ≠ 2 by decide) e4
      refine wf_bnd (fun r6 e7 => ?_)
      have hw8 : WM r6.2 := by rw [e7]; exact wX5_endOf v1 hw5 (by omega)
      have eoe7 := eoM e7
      refine wf_ite (fun c9 => ?_) (fun c9 => ?_)
      · have i13 := leI c9
        exact hw8
      · have i14 := nleI c9
        refine wf_bnd (fun r10 e11 => ?_)
        have hw12 : WM r10.2 := by rw [e11]; exact wX5_finding 3 hw8 (by omega)
        exact hw12
def PLX5_soonest_22 : Int32 × sg → Prop := fun r => (WM r.2) ∧ True
set_option maxRecDepth 100000 in
set_option maxHeartbeats 4000000 in
theorem wLX5_soonest_22 : ∀ (k : Nat) (v1 v2 v3 : Int32) (σ : sg) (hw : WM σ) (hv3 : 0 ≤ v3.toInt ∧ v3.toInt ≤ 8) (hmu : (8 - v3.toInt).toNat < k), PLX5_soonest_22 (LX5_soonest_22 k v1 v2 v3 σ) := by
  intro k
  induction k with
  | zero => intro v1 v2 v3 σ hw hv3 hmu; exact absurd hmu (Nat.not_lt_zero _)
  | succ k ih =>
    intro v1 v2 v3 σ hw hv3 hmu
    have k0 : (0 : Int32).toInt = 0 := rfl
    have k1 : (1 : Int32).toInt = 1 := rfl
    rw [show LX5_soonest_22 (k + 1) v1 v2 v3 σ = _ from LX5_soonest_22.eq_2 ..]
    have w2 := wm_many hw (show 0 < 4 by decide)
    refine wf_ite (fun c3 => ?_) (fun c3 => ?_)
    · have i15 := leI c3
      exact ⟨hw, trivial⟩
    · have i16 := nleI c3
      refine wf_bnd (fun r4 e5 => ?_)
      have hw6 : WM r4 := by rw [e5]; exact wX5_row 0 (by decide) 2 (by decide) hw (by omega)
      have me5 := row0 (show 0 ≠ 2 by decide) e5
      refine wf_bnd (fun r7 e8 => ?_)
      have hw9 : WM r7.2 := by rw [e8]; exact wX5_endOf v3 hw6 (by omega)
      have eoe8 := eoM e8
      refine wf_ite (fun c10 => ?_) (fun c10 => ?_)
      · have i13 := leI c10
        have a11 := addI (x := v3) (y := 1) (by omega) (by omega)
        exact ih v1 v2 (v3 + 1) r7.2 hw9 (by omega) (by omega)
      · have i14 := nleI c10
        have a12 := addI (x := v3) (y := 1) (by omega) (by omega)
        exact ih v3 r7.1 (v3 + 1) r7.2 hw9 (by omega) (by omega)
set_option maxRecDepth 100000 in
set_option maxHeartbeats 4000000 in
theorem wX5_soonest {σ : sg} (hw : WM σ) : WMi (fX5_soonest σ) := by
  have km1 : ((-1) : Int32).toInt = -1 := rfl
  have k0 : (0 : Int32).toInt = 0 := rfl
  have k3 : (3 : Int32).toInt = 3 := rfl
  have k4 : (4 : Int32).toInt = 4 := rfl
  have k100 : (100 : Int32).toInt = 100 := rfl
  have k101 : (101 : Int32).toInt = 101 := rfl
  rw [show fX5_soonest σ = _ from fX5_soonest.eq_1 ..]
  refine wf_ite (fun c1 => ?_) (fun c1 => ?_)
  · have i30 := eqI c1
    refine wf_bnd (fun r26 e27 => ?_)
    have hw28 : WM r26.2 := by rw [e27]; exact wX5_finding 4 hw (by omega)
    exact hw28
  · have i29 := neI c1
    refine wf_bnd (fun r17 e18 => ?_)
    obtain ⟨hw19, _⟩ := (show PLX5_soonest_22 r17 from by rw [e18]; exact wLX5_soonest_22 9 (-1) 101 0 σ hw (by omega) (by omega))
    refine wf_ite (fun c20 => ?_) (fun c20 => ?_)
    · have i24 := leI c20
      exact hw19
    · have i25 := nleI c20
      refine wf_bnd (fun r21 e22 => ?_)
      have hw23 : WM r21.2 := by rw [e22]; exact wX5_finding 3 hw19 (by omega)
      exact hw23
def PLX5_longest_9 (v1 : Int32) : Int32 × sg → Prop := fun r => (WM r.2) ∧ (0 ≤ v1.toInt ∧ v1.toInt < (rA r.2 0 0).toInt) ∧ True
set_option maxRecDepth 100000 in
set_option maxHeartbeats 4000000 in
theorem wLX5_longest_9 : ∀ (k : Nat) (v1 v2 v3 v4 v5 v6 : Int32) (σ : sg) (hw : WM σ) (hv6 : 0 ≤ v6.toInt ∧ v6.toInt ≤ 7) (hp : (v2.toInt = 40 ∧ v3.toInt = 6) ∨ (v2.toInt = 32 ∧ v3.toInt = 7)) (hd : 0 ≤ v1.toInt ∧ v1.toInt < (rA σ 0 0).toInt) (hmu : (7 - v6.toInt).toNat < k), PLX5_longest_9 v1 (LX5_longest_9 k v1 v2 v3 v4 v5 v6 σ) := by
  intro k
  induction k with
  | zero => intro v1 v2 v3 v4 v5 v6 σ hw hv6 hp hd hmu; exact absurd hmu (Nat.not_lt_zero _)
  | succ k ih =>
    intro v1 v2 v3 v4 v5 v6 σ hw hv6 hp hd hmu
    have k0 : (0 : Int32).toInt = 0 := rfl
    have k1 : (1 : Int32).toInt = 1 := rfl
    have q0 := wm_many hw (show 0 < 4 by decide)
    rw [show LX5_longest_9 (k + 1) v1 v2 v3 v4 v5 v6 σ = _ from LX5_longest_9.eq_2 ..]
    refine wf_ite (fun c1 => ?_) (fun c1 => ?_)
    · have i19 := leI c1
      exact ⟨hw, (by omega), trivial⟩
    · have i20 := nleI c1
      refine wf_bnd (fun r2 e3 => ?_)
      have hw4 : WM r2 := by rw [e3]; exact wX5_row 0 (by decide) 2 (by decide) hw (by omega)
      have me3 := row0 (show 0 ≠ 2 by decide) e3
      have a5 := addI (x := v2) (y := v1) (by omega) (by omega)
      refine wf_bnd (fun s6 e7 => ?_)
      have hw8 : WM s6 := by rw [e7]; exact wmLg hw4 (show 2 < 4 by decide) (by omega)
      have m9 := mKeep e7 (by omega)
      have m10 := many6 e7 (show 0 ≠ 2 by decide)
      refine wf_bnd (fun r11 e12 => ?_)
      have hw13 : WM r11.2 := by rw [e12]; exact wX5_endOf v1 hw8 (by omega)
      have eoe12 := eoM e12
      refine wf_ite (fun c14 => ?_) (fun c14 => ?_)
      · have i17 := leI c14
        have a15 := addI (x := v6) (y := 1) (by omega) (by omega)
        exact ih v1 v2 v3 v4 v5 (v6 + 1) r11.2 hw13 (by omega) (by omega) (by omega) (by omega)
      · have i18 := nleI c14
        have a16 := addI (x := v6) (y := 1) (by omega) (by omega)
        exact ih v1 v2 v3 v6 r11.1 (v6 + 1) r11.2 hw13 (by omega) (by omega) (by omega) (by omega)
set_option maxRecDepth 100000 in
set_option maxHeartbeats 4000000 in
theorem wX5_longest (v1 : Int32) (v2 : Int32) (v3 : Int32) {σ : sg} (hw : WM σ) (hp : (v2.toInt = 40 ∧ v3.toInt = 6) ∨ (v2.toInt = 32 ∧ v3.toInt = 7)) (hd : 0 ≤ v1.toInt ∧ v1.toInt < (rA σ 0 0).toInt) : WMi (fX5_longest v1 v2 v3 σ) := by
  have km1 : ((-1) : Int32).toInt = -1 := rfl
  have k0 : (0 : Int32).toInt = 0 := rfl
  rw [show fX5_longest v1 v2 v3 σ = _ from fX5_longest.eq_1 ..]
  have q0 := wm_many hw (show 0 < 4 by decide)
  refine wf_bnd (fun r21 e22 => ?_)
  obtain ⟨hw23, x24, _⟩ := (show PLX5_longest_9 v1 r21 from by rw [e22]; exact wLX5_longest_9 8 v1 v2 v3 0 (-1) 0 σ hw (by omega) (by omega) (by omega) (by omega))
  exact hw23
set_option maxRecDepth 100000 in
set_option maxHeartbeats 4000000 in
theorem wX5_place (v1 : Int32) {σ : sg} (hw : WM σ) : WMi (fX5_place v1 σ) := by
  have k0 : (0 : Int32).toInt = 0 := rfl
  have k6 : (6 : Int32).toInt = 6 := rfl
  have k40 : (40 : Int32).toInt = 40 := rfl
  have k100 : (100 : Int32).toInt = 100 := rfl
  rw [show fX5_place v1 σ = _ from fX5_place.eq_1 ..]
  have lr := lkR (fX5_isDeed v1 σ) 100 σ
  refine wf_ite (fun c1 => ?_) (fun c1 => ?_)
  · have i8 := ltI c1
    have b9 := lkD_t hw c1
    refine wf_bnd (fun r2 e3 => ?_)
    have hw4 : WM r2.2 := by rw [e3]; exact wX5_longest v1 40 6 hw (by omega) (by omega)
    exact hw4
  · have i10 := nltI c1
    refine wf_bnd (fun r5 e6 => ?_)
    have hw7 : WM r5.2 := by rw [e6]; exact wX5_finding (fX5_lacks (fX5_isDeed v1 σ) 100 σ) hw (by omega)
    exact hw7
set_option maxRecDepth 100000 in
set_option maxHeartbeats 4000000 in
theorem wX5_kindFor (v1 : Int32) {σ : sg} (hw : WM σ) : WMi (fX5_kindFor v1 σ) := by
  have k0 : (0 : Int32).toInt = 0 := rfl
  have k7 : (7 : Int32).toInt = 7 := rfl
  have k32 : (32 : Int32).toInt = 32 := rfl
  have k100 : (100 : Int32).toInt = 100 := rfl
  rw [show fX5_kindFor v1 σ = _ from fX5_kindFor.eq_1 ..]
  have lr := lkR (fX5_isDeed v1 σ) 100 σ
  refine wf_ite (fun c1 => ?_) (fun c1 => ?_)
  · have i8 := ltI c1
    have b9 := lkD_t hw c1
    refine wf_bnd (fun r2 e3 => ?_)
    have hw4 : WM r2.2 := by rw [e3]; exact wX5_longest v1 32 7 hw (by omega) (by omega)
    exact hw4
  · have i10 := nltI c1
    refine wf_bnd (fun r5 e6 => ?_)
    have hw7 : WM r5.2 := by rw [e6]; exact wX5_finding (fX5_lacks (fX5_isDeed v1 σ) 100 σ) hw (by omega)
    exact hw7
theorem hdV_X5_lacks : yX5_lacks.cls = RX5 ∧ yX5_lacks.cls ≠ "java/lang/invoke/MethodHandle" ∧ yX5_lacks.cls ≠ "java/lang/invoke/VarHandle" ∧ (parseMethodDescriptor yX5_lacks.desc).map (fun d => d.parameters.length) = some 2 := by decide +kernel
set_option maxRecDepth 100000 in
set_option maxHeartbeats 4000000 in
theorem kX5_lacks (l : Launch) {G : gT} (hN : wN G) (hG : gfl G = false) (v1 : Int32) (v2 : Int32) (σ : sg) (hw : WM σ) : cM l yX5_lacks wsX5_lacks rmX5_lacks G [.ref (gob G 0), .int v1, .int v2] σ (some (.int (fX5_lacks v1 v2 σ))) σ := by
  refine cM_of (maxL := 3) (ret := (some .int)) (cc := cX5_lacks) (fX5_lacks v1 v2 σ) RX5 hN (by decide +kernel) rfl rfl (Nat.le_of_ble_eq_true rfl) rfl ?_
  intro p e s m args below meth c K hr
  have km1 : ((-1) : Int32).toInt = -1 := rfl
  have k0 : (0 : Int32).toInt = 0 := rfl
  have k4 : (4 : Int32).toInt = 4 := rfl
  refine qq_st (lv' := [some (.ref (gob G 0)), some (.int v1), some (.int v2)]) rfl rfl rfl ?_
  refine qq_T (fX5_lacks.eq_1 ..) ?_
  refine q_iload_n (pc := 0) K dX5_lacks_0 rfl rfl ?_
  refine q_if_ne (pc := 1) (tgt := 8) K dX5_lacks_1 (by decide) (fun c1 => ?_) (fun c1 => ?_)
  · have i5 := neI c1
    refine q_aload_n (pc := 8) K dX5_lacks_8 rfl rfl ?_
    refine q_iload_n (pc := 9) K dX5_lacks_9 rfl rfl ?_
    refine q_callVi (pc := 10) (o := 0) (rm := rmX5_isTime) K (kX5_isTime l hN hG v2 σ hw) gX5_lacks_X5_isTime rfl hdV_X5_isTime ⟨Nat.le_of_ble_eq_true rfl, Nat.le_of_ble_eq_true rfl⟩ rfl rfl ⟨Nat.zero_le _, Nat.zero_le _⟩ (wO_m hG) vw_4 rfl rfl (Nat.le_of_ble_eq_true rfl) dX5_lacks_10 ?_
    refine q_if_ne (pc := 13) (tgt := 20) K dX5_lacks_13 (by decide) (fun c2 => ?_) (fun c2 => ?_)
    · have i3 := neI c2
      refine q_iconst (pc := 20) (v := (-1)) K dX5_lacks_20 (by decide) ?_
      exact q_iretP K hr dX5_lacks_21
    · have i4 := eqI c2
      refine q_iconst (pc := 16) (v := 4) K dX5_lacks_16 (by decide) ?_
      refine q_goto (pc := 17) (tgt := 21) K dX5_lacks_17 (by decide) ?_
      exact q_iretP K hr dX5_lacks_21
  · have i6 := eqI c1
    refine q_iconst (pc := 4) (v := 0) K dX5_lacks_4 (by decide) ?_
    refine q_goto (pc := 5) (tgt := 21) K dX5_lacks_5 (by decide) ?_
    exact q_iretP K hr dX5_lacks_21
theorem hdS_X5_brings : yX5_brings.cls ≠ "java/lang/invoke/MethodHandle" ∧ yX5_brings.cls ≠ "java/lang/invoke/VarHandle" ∧ (parseMethodDescriptor yX5_brings.desc).map (fun d => d.parameters.length) = some 3 := by decide +kernel
theorem mX5_brings_l60 : Cond.methodLink RX5 60 Lib.Math.min.name ∈ wsX5_brings := List.mem_of_getElem? (i := 1) rfl
theorem mX5_brings_s60 : Cond.static Lib.Math.min.name ∈ wsX5_brings := List.mem_of_getElem? (i := 2) rfl
theorem mX5_brings_iM : Cond.initialized "java/lang/Math" ∈ wsX5_brings := List.mem_of_getElem? (i := 3) rfl
theorem mX5_brings_d60 : Cond.code Lib.Math.min.name Lib.Math.min.code 2 (some .int) ∈ wsX5_brings := List.mem_of_getElem? (i := 4) rfl
set_option maxRecDepth 100000 in
set_option maxHeartbeats 4000000 in
theorem kX5_brings (l : Launch) {G : gT} (hN : wN G) (hG : gfl G = false) (a0 : Nat) (ha0 : a0 < 4) (v1 : Int32) (v2 : Int32) (σ : sg) (hw : WM σ) (hb : 0 ≤ v1.toInt ∧ v1.toInt ≤ 5) : cM l yX5_brings wsX5_brings rmX5_brings G [.ref (gad G a0), .int v1, .int v2] σ none (fX5_brings a0 v1 v2 σ) := by
  refine cM_of (maxL := 3) (ret := none) (cc := cX5_brings) (fX5_brings a0 v1 v2 σ) RX5 hN (by decide +kernel) rfl rfl (Nat.le_of_ble_eq_true rfl) rfl ?_
  intro p e s m args below meth c K hr
  have k0 : (0 : Int32).toInt = 0 := rfl
  have k10 : (10 : Int32).toInt = 10 := rfl
  have k99 : (99 : Int32).toInt = 99 := rfl
  refine qq_st (lv' := [some (.ref (gad G a0)), some (.int v1), some (.int v2)]) rfl rfl rfl ?_
  refine qq_T (fX5_brings.eq_1 ..) ?_
  refine q_aload_n (pc := 0) K dX5_brings_0 rfl rfl ?_
  refine q_bipush (pc := 1) (v := 10) K dX5_brings_1 (by decide) ?_
  refine q_iload_n (pc := 3) K dX5_brings_3 rfl rfl ?_
  refine q_iadd (pc := 4) K dX5_brings_4 ?_
  refine q_bipush (pc := 5) (v := 99) K dX5_brings_5 (by decide) ?_
  refine q_aload_n (pc := 7) K dX5_brings_7 rfl rfl ?_
  refine q_bipush (pc := 8) (v := 10) K dX5_brings_8 (by decide) ?_
  refine q_iload_n (pc := 10) K dX5_brings_10 rfl rfl ?_
  refine q_iadd (pc := 11) K dX5_brings_11 ?_
  have a1 := addI (x := 10) (y := v1) (by omega) (by omega)
  refine q_iald (pc := 12) (a := a0) K (by rw [wna_f hG]; omega) (vinN (wlm_r hG ha0) (by omega) (by omega)) dX5_brings_12 ?_
  refine q_iload_n (pc := 13) K dX5_brings_13 rfl rfl ?_
  refine q_iadd (pc := 14) K dX5_brings_14 ?_
  refine q_mmin (pc := 15) K mX5_brings_l60 mX5_brings_s60 mX5_brings_iM mX5_brings_d60 (Nat.le_of_ble_eq_true rfl) (Nat.le_of_ble_eq_true rfl) dX5_brings_15 ?_
  refine q_iast (pc := 18) (a := a0) K (by rw [wna_f hG]; omega) (vinN (wlm_r hG ha0) (by omega) (by omega)) dX5_brings_18 (fun s2 e3 => ?_)
  have hw4 : WM s2 := by rw [e3]; exact wmRn hw ha0 (by omega) (by omega) (by omega) (by omega)
  have m5 := mKeep e3 (by omega)
  exact q_vretW K hr dX5_brings_19
theorem hdV_X5_lays : yX5_lays.cls = RX5 ∧ yX5_lays.cls ≠ "java/lang/invoke/MethodHandle" ∧ yX5_lays.cls ≠ "java/lang/invoke/VarHandle" ∧ (parseMethodDescriptor yX5_lays.desc).map (fun d => d.parameters.length) = some 2 := by decide +kernel
theorem mX5_lays_f9 : Cond.fieldLink RX5 9 "WaxTreatiesModel" "now" "[I" ∈ wsX5_lays := List.mem_of_getElem? (i := 1) rfl
theorem iwX5_lays_X5 : ∀ w ∈ wsX50, w ∈ wsX5_lays := fun w h => List.mem_cons_of_mem _ (List.mem_append_right _ h)
set_option maxRecDepth 100000 in
set_option maxHeartbeats 4000000 in
theorem kX5_lays (l : Launch) {G : gT} (hN : wN G) (hG : gfl G = false) (v1 : Int32) (v2 : Int32) (σ : sg) (hw : WM σ) (hb : 0 ≤ v2.toInt ∧ v2.toInt ≤ 5) (hm : (rA σ 0 0).toInt < 8) : cM l yX5_lays wsX5_lays rmX5_lays G [.ref (gob G 0), .int v1, .int v2] σ none (fX5_lays v1 v2 σ) := by
  refine cM_of (maxL := 4) (ret := none) (cc := cX5_lays) (fX5_lays v1 v2 σ) RX5 hN (by decide +kernel) rfl rfl (Nat.le_of_ble_eq_true rfl) rfl ?_
  intro p e s m args below meth c K hr
  have km1 : ((-1) : Int32).toInt = -1 := rfl
  have k0 : (0 : Int32).toInt = 0 := rfl
  have k1 : (1 : Int32).toInt = 1 := rfl
  have k32 : (32 : Int32).toInt = 32 := rfl
  have k40 : (40 : Int32).toInt = 40 := rfl
  have k48 : (48 : Int32).toInt = 48 := rfl
  have k56 : (56 : Int32).toInt = 56 := rfl
  have k64 : (64 : Int32).toInt = 64 := rfl
  have k72 : (72 : Int32).toInt = 72 := rfl
  refine qq_st (lv' := [some (.ref (gob G 0)), some (.int v1), some (.int v2), none]) rfl rfl rfl ?_
  refine qq_T (fX5_lays.eq_1 ..) ?_
  refine q_aload_n (pc := 0) K dX5_lays_0 rfl rfl ?_
  refine q_get (pc := 1) (o := 0) (f := 0) (v := .ref (gad G 0)) K (wO_m hG) vw_4 iwX5_lays_X5 (by decide) mX5_lays_f9 rfl dX5_lays_1 ?_
  refine q_iconst (pc := 4) (v := 0) K dX5_lays_4 (by decide) ?_
  refine q_iald (pc := 5) (a := 0) K (by rw [wna_f hG]; decide) (vinN (wlm (n := 80) hG 0 rfl) (by omega) (by omega)) dX5_lays_5 ?_
  have w1 := wm_many hw (show 0 < 4 by decide)
  refine q_istore_n (pc := 6) (lv' := [some (.ref (gob G 0)), some (.int v1), some (.int v2), some (.int (rA σ 0 0))]) K dX5_lays_6 rfl (by decide) (Nat.le_of_ble_eq_true rfl) rfl ?_
  refine q_aload_n (pc := 7) K dX5_lays_7 rfl rfl ?_
  refine q_get (pc := 8) (o := 0) (f := 0) (v := .ref (gad G 0)) K (wO_m hG) vw_4 iwX5_lays_X5 (by decide) mX5_lays_f9 rfl dX5_lays_8 ?_
  refine q_bipush (pc := 11) (v := 32) K dX5_lays_11 (by decide) ?_
  refine q_iload_n (pc := 13) K dX5_lays_13 rfl rfl ?_
  refine q_iadd (pc := 14) K dX5_lays_14 ?_
  refine q_iload_n (pc := 15) K dX5_lays_15 rfl rfl ?_
  have a2 := addI (x := 32) (y := (rA σ 0 0)) (by omega) (by omega)
  refine q_iast (pc := 16) (a := 0) K (by rw [wna_f hG]; decide) (vinN (wlm (n := 80) hG 0 rfl) (by omega) (by omega)) dX5_lays_16 (fun s3 e4 => ?_)
  have hw5 : WM s3 := by rw [e4]; exact wmRn hw (by decide) (by omega) (by omega) (by omega) (by omega)
  have m6 := mKeep e4 (by omega)
  refine q_aload_n (pc := 17) K dX5_lays_17 rfl rfl ?_
  refine q_get (pc := 18) (o := 0) (f := 0) (v := .ref (gad G 0)) K (wO_m hG) vw_4 iwX5_lays_X5 (by decide) mX5_lays_f9 rfl dX5_lays_18 ?_
  refine q_bipush (pc := 21) (v := 40) K dX5_lays_21 (by decide) ?_
  refine q_iload_n (pc := 23) K dX5_lays_23 rfl rfl ?_
  refine q_iadd (pc := 24) K dX5_lays_24 ?_
  refine q_iload_n (pc := 25) K dX5_lays_25 rfl rfl ?_
  have a7 := addI (x := 40) (y := (rA σ 0 0)) (by omega) (by omega)
  refine q_iast (pc := 26) (a := 0) K (by rw [wna_f hG]; decide) (vinN (wlm (n := 80) hG 0 rfl) (by omega) (by omega)) dX5_lays_26 (fun s8 e9 => ?_)
  have hw10 : WM s8 := by rw [e9]; exact wmRs hw5 (show 0 < 4 by decide) (by omega) (by omega) (by omega) (by omega)
  have m11 := mKeep e9 (by omega)
  refine q_aload_n (pc := 27) K dX5_lays_27 rfl rfl ?_
  refine q_get (pc := 28) (o := 0) (f := 0) (v := .ref (gad G 0)) K (wO_m hG) vw_4 iwX5_lays_X5 (by decide) mX5_lays_f9 rfl dX5_lays_28 ?_
  refine q_bipush (pc := 31) (v := 48) K dX5_lays_31 (by decide) ?_
  refine q_iload_n (pc := 33) K dX5_lays_33 rfl rfl ?_
  refine q_iadd (pc := 34) K dX5_lays_34 ?_
  refine q_bipush (pc := 35) (v := 40) K dX5_lays_35 (by decide) ?_
  have a12 := addI (x := 48) (y := (rA σ 0 0)) (by omega) (by omega)
  refine q_iast (pc := 37) (a := 0) K (by rw [wna_f hG]; decide) (vinN (wlm (n := 80) hG 0 rfl) (by omega) (by omega)) dX5_lays_37 (fun s13 e14 => ?_)
  have hw15 : WM s13 := by rw [e14]; exact wmRn hw10 (by decide) (by omega) (by omega) (by omega) (by omega)
  have m16 := mKeep e14 (by omega)
  refine q_aload_n (pc := 38) K dX5_lays_38 rfl rfl ?_
  refine q_get (pc := 39) (o := 0) (f := 0) (v := .ref (gad G 0)) K (wO_m hG) vw_4 iwX5_lays_X5 (by decide) mX5_lays_f9 rfl dX5_lays_39 ?_
  refine q_bipush (pc := 42) (v := 56) K dX5_lays_42 (by decide) ?_
  refine q_iload_n (pc := 44) K dX5_lays_44 rfl rfl ?_
  refine q_iadd (pc := 45) K dX5_lays_45 ?_
  refine q_iconst (pc := 46) (v := 0) K dX5_lays_46 (by decide) ?_
  have a17 := addI (x := 56) (y := (rA σ 0 0)) (by omega) (by omega)
  refine q_iast (pc := 47) (a := 0) K (by rw [wna_f hG]; decide) (vinN (wlm (n := 80) hG 0 rfl) (by omega) (by omega)) dX5_lays_47 (fun s18 e19 => ?_)
  have hw20 : WM s18 := by rw [e19]; exact wmRn hw15 (by decide) (by omega) (by omega) (by omega) (by omega)
  have m21 := mKeep e19 (by omega)
  refine q_aload_n (pc := 48) K dX5_lays_48 rfl rfl ?_
  refine q_get (pc := 49) (o := 0) (f := 0) (v := .ref (gad G 0)) K (wO_m hG) vw_4 iwX5_lays_X5 (by decide) mX5_lays_f9 rfl dX5_lays_49 ?_
  refine q_bipush (pc := 52) (v := 64) K dX5_lays_52 (by decide) ?_
  refine q_iload_n (pc := 54) K dX5_lays_54 rfl rfl ?_
  refine q_iadd (pc := 55) K dX5_lays_55 ?_
  refine q_iconst (pc := 56) (v := 0) K dX5_lays_56 (by decide) ?_
  have a22 := addI (x := 64) (y := (rA σ 0 0)) (by omega) (by omega)
  refine q_iast (pc := 57) (a := 0) K (by rw [wna_f hG]; decide) (vinN (wlm (n := 80) hG 0 rfl) (by omega) (by omega)) dX5_lays_57 (fun s23 e24 => ?_)
  have hw25 : WM s23 := by rw [e24]; exact wmRn hw20 (by decide) (by omega) (by omega) (by omega) (by omega)
  have m26 := mKeep e24 (by omega)
  refine q_aload_n (pc := 58) K dX5_lays_58 rfl rfl ?_
  refine q_get (pc := 59) (o := 0) (f := 0) (v := .ref (gad G 0)) K (wO_m hG) vw_4 iwX5_lays_X5 (by decide) mX5_lays_f9 rfl dX5_lays_59 ?_
  refine q_bipush (pc := 62) (v := 72) K dX5_lays_62 (by decide) ?_
  refine q_iload_n (pc := 64) K dX5_lays_64 rfl rfl ?_
  refine q_iadd (pc := 65) K dX5_lays_65 ?_
  refine q_iconst (pc := 66) (v := (-1)) K dX5_lays_66 (by decide) ?_
  have a27 := addI (x := 72) (y := (rA σ 0 0)) (by omega) (by omega)
  refine q_iast (pc := 67) (a := 0) K (by rw [wna_f hG]; decide) (vinN (wlm (n := 80) hG 0 rfl) (by omega) (by omega)) dX5_lays_67 (fun s28 e29 => ?_)
  have hw30 : WM s28 := by rw [e29]; exact wmRo hw25 (show 0 < 4 by decide) (by omega) (by omega) (by omega) (by omega)
  have m31 := mKeep e29 (by omega)
  refine q_aload_n (pc := 68) K dX5_lays_68 rfl rfl ?_
  refine q_get (pc := 69) (o := 0) (f := 0) (v := .ref (gad G 0)) K (wO_m hG) vw_4 iwX5_lays_X5 (by decide) mX5_lays_f9 rfl dX5_lays_69 ?_
  refine q_iconst (pc := 72) (v := 0) K dX5_lays_72 (by decide) ?_
  refine q_dup2 (pc := 73) K dX5_lays_73 rfl rfl ?_
  refine q_iald (pc := 74) (a := 0) K (by rw [wna_f hG]; decide) (vinN (wlm (n := 80) hG 0 rfl) (by omega) (by omega)) dX5_lays_74 ?_
  have w32 := wm_many hw30 (show 0 < 4 by decide)
  refine q_iconst (pc := 75) (v := 1) K dX5_lays_75 (by decide) ?_
  refine q_iadd (pc := 76) K dX5_lays_76 ?_
  refine q_iast (pc := 77) (a := 0) K (by rw [wna_f hG]; decide) (vinN (wlm (n := 80) hG 0 rfl) (by omega) (by omega)) dX5_lays_77 (fun s33 e34 => ?_)
  have hw35 : WM s33 := by rw [e34]; exact wmLay (d := rA σ 0 0) hw30 e29 (by omega) (by omega) (by omega)
  exact q_vretW K hr dX5_lays_78
theorem hdV_X5_deed : yX5_deed.cls = RX5 ∧ yX5_deed.cls ≠ "java/lang/invoke/MethodHandle" ∧ yX5_deed.cls ≠ "java/lang/invoke/VarHandle" ∧ (parseMethodDescriptor yX5_deed.desc).map (fun d => d.parameters.length) = some 2 := by decide +kernel
theorem mX5_deed_f9 : Cond.fieldLink RX5 9 "WaxTreatiesModel" "now" "[I" ∈ wsX5_deed := List.mem_of_getElem? (i := 1) rfl
theorem iwX5_deed_X5 : ∀ w ∈ wsX50, w ∈ wsX5_deed := fun w h => List.mem_cons_of_mem _ (List.mem_append_right _ h)
set_option maxRecDepth 100000 in
set_option maxHeartbeats 4000000 in
theorem kX5_deed (l : Launch) {G : gT} (hN : wN G) (hG : gfl G = false) (v1 : Int32) (v2 : Int32) (σ : sg) (hw : WM σ) : cM l yX5_deed wsX5_deed rmX5_deed G [.ref (gob G 0), .int v1, .int v2] σ (some (.int (fX5_deed v1 v2 σ).1)) (fX5_deed v1 v2 σ).2 := by
  refine cM_of (maxL := 3) (ret := (some .int)) (cc := cX5_deed) (fX5_deed v1 v2 σ) RX5 hN (by decide +kernel) rfl rfl (Nat.le_of_ble_eq_true rfl) rfl ?_
  intro p e s m args below meth c K hr
  have k0 : (0 : Int32).toInt = 0 := rfl
  have k1 : (1 : Int32).toInt = 1 := rfl
  have k8 : (8 : Int32).toInt = 8 := rfl
  refine qq_st (lv' := [some (.ref (gob G 0)), some (.int v1), some (.int v2)]) rfl rfl rfl ?_
  refine qq_T (fX5_deed.eq_1 ..) ?_
  refine q_iload_n (pc := 0) K dX5_deed_0 rfl rfl ?_
  refine q_callSi (pc := 1) (rm := rmX5_isKind) K (kX5_isKind l hN v1 σ) gX5_deed_X5_isKind rfl hdS_X5_isKind ⟨Nat.le_of_ble_eq_true rfl, Nat.le_of_ble_eq_true rfl⟩ rfl rfl ⟨Nat.zero_le _, Nat.zero_le _⟩ rfl rfl (Nat.le_of_ble_eq_true rfl) dX5_deed_1 ?_
  refine q_if_eq (pc := 4) (tgt := 14) K dX5_deed_4 (by decide) (fun c1 => ?_) (fun c1 => ?_)
  · have i23 := eqI c1
    refine q_aload_n (pc := 14) K dX5_deed_14 rfl rfl ?_
    refine q_iconst (pc := 15) (v := 0) K dX5_deed_15 (by decide) ?_
    refine q_callVi (pc := 16) (o := 0) (rm := rmX5_finding) K (kX5_finding l hN hG 0 σ hw (by omega)) gX5_deed_X5_finding rfl hdV_X5_finding ⟨Nat.le_of_ble_eq_true rfl, Nat.le_of_ble_eq_true rfl⟩ rfl rfl ⟨Nat.zero_le _, Nat.zero_le _⟩ (wO_m hG) vw_4 rfl rfl (Nat.le_of_ble_eq_true rfl) dX5_deed_16 ?_
    refine qq_nmI (fun r2 e3 => ?_)
    have hw4 : WM r2.2 := by rw [e3]; exact wX5_finding 0 hw (by omega)
    exact q_iret K hr dX5_deed_19
  · have i24 := neI c1
    have b25 := wiK_t c1
    refine q_iload_n (pc := 7) K dX5_deed_7 rfl rfl ?_
    refine q_callSi (pc := 8) (rm := rmX5_isShelf) K (kX5_isShelf l hN v2 σ) gX5_deed_X5_isShelf rfl hdS_X5_isShelf ⟨Nat.le_of_ble_eq_true rfl, Nat.le_of_ble_eq_true rfl⟩ rfl rfl ⟨Nat.zero_le _, Nat.zero_le _⟩ rfl rfl (Nat.le_of_ble_eq_true rfl) dX5_deed_8 ?_
    refine q_if_ne (pc := 11) (tgt := 20) K dX5_deed_11 (by decide) (fun c5 => ?_) (fun c5 => ?_)
    · have i20 := neI c5
      have b21 := wiS_t c5
      refine q_aload_n (pc := 20) K dX5_deed_20 rfl rfl ?_
      refine q_get (pc := 21) (o := 0) (f := 0) (v := .ref (gad G 0)) K (wO_m hG) vw_4 iwX5_deed_X5 (by decide) mX5_deed_f9 rfl dX5_deed_21 ?_
      refine q_iconst (pc := 24) (v := 0) K dX5_deed_24 (by decide) ?_
      refine q_iald (pc := 25) (a := 0) K (by rw [wna_f hG]; decide) (vinN (wlm (n := 80) hG 0 rfl) (by omega) (by omega)) dX5_deed_25 ?_
      have w6 := wm_many hw (show 0 < 4 by decide)
      refine q_bipush (pc := 26) (v := 8) K dX5_deed_26 (by decide) ?_
      refine q_icmp_ne (pc := 28) (tgt := 37) K dX5_deed_28 (by decide) (fun c7 => ?_) (fun c7 => ?_)
      · have i15 := neI c7
        refine q_aload_n (pc := 37) K dX5_deed_37 rfl rfl ?_
        refine q_iload_n (pc := 38) K dX5_deed_38 rfl rfl ?_
        refine q_iload_n (pc := 39) K dX5_deed_39 rfl rfl ?_
        refine q_callVv (pc := 40) (o := 0) (rm := rmX5_lays) K (kX5_lays l hN hG v1 v2 σ hw (by omega) (by omega)) gX5_deed_X5_lays rfl hdV_X5_lays ⟨Nat.le_of_ble_eq_true rfl, Nat.le_of_ble_eq_true rfl⟩ rfl rfl ⟨Nat.zero_le _, Nat.zero_le _⟩ (wO_m hG) vw_4 rfl rfl (Nat.le_of_ble_eq_true rfl) dX5_deed_40 ?_
        refine qq_nmV (fun r8 e9 => ?_)
        have hw10 : WM r8 := by rw [e9]; exact wX5_lays v1 v2 hw (by omega) (by omega)
        refine q_aload_n (pc := 43) K dX5_deed_43 rfl rfl ?_
        refine q_get (pc := 44) (o := 0) (f := 0) (v := .ref (gad G 0)) K (wO_m hG) vw_4 iwX5_deed_X5 (by decide) mX5_deed_f9 rfl dX5_deed_44 ?_
        refine q_iconst (pc := 47) (v := 0) K dX5_deed_47 (by decide) ?_
        refine q_iald (pc := 48) (a := 0) K (by rw [wna_f hG]; decide) (vinN (wlm (n := 80) hG 0 rfl) (by omega) (by omega)) dX5_deed_48 ?_
        have w11 := wm_many hw10 (show 0 < 4 by decide)
        refine q_iconst (pc := 49) (v := 1) K dX5_deed_49 (by decide) ?_
        refine q_isub (pc := 50) K dX5_deed_50 ?_
        exact q_iret K hr dX5_deed_51
      · have i16 := eqI c7
        refine q_aload_n (pc := 31) K dX5_deed_31 rfl rfl ?_
        refine q_iconst (pc := 32) (v := 1) K dX5_deed_32 (by decide) ?_
        refine q_callVi (pc := 33) (o := 0) (rm := rmX5_finding) K (kX5_finding l hN hG 1 σ hw (by omega)) gX5_deed_X5_finding rfl hdV_X5_finding ⟨Nat.le_of_ble_eq_true rfl, Nat.le_of_ble_eq_true rfl⟩ rfl rfl ⟨Nat.zero_le _, Nat.zero_le _⟩ (wO_m hG) vw_4 rfl rfl (Nat.le_of_ble_eq_true rfl) dX5_deed_33 ?_
        refine qq_nmI (fun r12 e13 => ?_)
        have hw14 : WM r12.2 := by rw [e13]; exact wX5_finding 1 hw (by omega)
        exact q_iret K hr dX5_deed_36
    · have i22 := eqI c5
      refine q_aload_n (pc := 14) K dX5_deed_14 rfl rfl ?_
      refine q_iconst (pc := 15) (v := 0) K dX5_deed_15 (by decide) ?_
      refine q_callVi (pc := 16) (o := 0) (rm := rmX5_finding) K (kX5_finding l hN hG 0 σ hw (by omega)) gX5_deed_X5_finding rfl hdV_X5_finding ⟨Nat.le_of_ble_eq_true rfl, Nat.le_of_ble_eq_true rfl⟩ rfl rfl ⟨Nat.zero_le _, Nat.zero_le _⟩ (wO_m hG) vw_4 rfl rfl (Nat.le_of_ble_eq_true rfl) dX5_deed_16 ?_
      refine qq_nmI (fun r17 e18 => ?_)
      have hw19 : WM r17.2 := by rw [e18]; exact wX5_finding 0 hw (by omega)
      exact q_iret K hr dX5_deed_19
theorem hdS_X5_mayBe : yX5_mayBe.cls ≠ "java/lang/invoke/MethodHandle" ∧ yX5_mayBe.cls ≠ "java/lang/invoke/VarHandle" ∧ (parseMethodDescriptor yX5_mayBe.desc).map (fun d => d.parameters.length) = some 3 := by decide +kernel
set_option maxRecDepth 100000 in
set_option maxHeartbeats 4000000 in
theorem kX5_mayBe (l : Launch) {G : gT} (hN : wN G) (v0 : Int32) (v1 : Int32) (v2 : Int32) (σ : sg) : cM l yX5_mayBe wsX5_mayBe rmX5_mayBe G [.int v0, .int v1, .int v2] σ (some (.int (fX5_mayBe v0 v1 v2))) σ := by
  refine cM_of (maxL := 3) (ret := (some .boolean)) (cc := cX5_mayBe) (fX5_mayBe v0 v1 v2) RX5 hN (by decide +kernel) rfl rfl (Nat.le_of_ble_eq_true rfl) rfl ?_
  intro p e s m args below meth c K hr
  have km1 : ((-1) : Int32).toInt = -1 := rfl
  have k0 : (0 : Int32).toInt = 0 := rfl
  have k1 : (1 : Int32).toInt = 1 := rfl
  have k2 : (2 : Int32).toInt = 2 := rfl
  have k3 : (3 : Int32).toInt = 3 := rfl
  have k5 : (5 : Int32).toInt = 5 := rfl
  have k99 : (99 : Int32).toInt = 99 := rfl
  refine qq_st (lv' := [some (.int v0), some (.int v1), some (.int v2)]) rfl rfl rfl ?_
  refine qq_T (fX5_mayBe.eq_1 ..) ?_
  refine q_iload_n (pc := 0) K dX5_mayBe_0 rfl rfl ?_
  refine q_case (v := 0) (fun c1 => ?_) (fun c1 => ?_)
  · have i18 := eqI c1
    refine q_tableIn (pc := 1) (tgt := 32) K dX5_mayBe_1 c1 (by decide) (by decide) rfl (by decide) ?_
    refine q_iload_n (pc := 32) K dX5_mayBe_32 rfl rfl ?_
    refine q_callSi (pc := 33) (rm := rmX5_isKind) K (kX5_isKind l hN v2 σ) gX5_mayBe_X5_isKind rfl hdS_X5_isKind ⟨Nat.le_of_ble_eq_true rfl, Nat.le_of_ble_eq_true rfl⟩ rfl rfl ⟨Nat.zero_le _, Nat.zero_le _⟩ rfl rfl (Nat.le_of_ble_eq_true rfl) dX5_mayBe_33 ?_
    exact q_zretP K hr (b01_X5_isKind _) dX5_mayBe_36
  · have i19 := neI c1
    refine q_case (v := 1) (fun c2 => ?_) (fun c2 => ?_)
    · have i16 := eqI c2
      refine q_tableIn (pc := 1) (tgt := 37) K dX5_mayBe_1 c2 (by decide) (by decide) rfl (by decide) ?_
      refine q_iload_n (pc := 37) K dX5_mayBe_37 rfl rfl ?_
      refine q_callSi (pc := 38) (rm := rmX5_isShelf) K (kX5_isShelf l hN v2 σ) gX5_mayBe_X5_isShelf rfl hdS_X5_isShelf ⟨Nat.le_of_ble_eq_true rfl, Nat.le_of_ble_eq_true rfl⟩ rfl rfl ⟨Nat.zero_le _, Nat.zero_le _⟩ rfl rfl (Nat.le_of_ble_eq_true rfl) dX5_mayBe_38 ?_
      exact q_zretP K hr (b01_X5_isShelf _) dX5_mayBe_41
    · have i17 := neI c2
      refine q_case (v := 2) (fun c3 => ?_) (fun c3 => ?_)
      · have i14 := eqI c3
        refine q_tableIn (pc := 1) (tgt := 42) K dX5_mayBe_1 c3 (by decide) (by decide) rfl (by decide) ?_
        refine q_iload_n (pc := 42) K dX5_mayBe_42 rfl rfl ?_
        refine q_iconst (pc := 43) (v := 1) K dX5_mayBe_43 (by decide) ?_
        refine q_bipush (pc := 44) (v := 99) K dX5_mayBe_44 (by decide) ?_
        refine q_callSi (pc := 46) (rm := rmX5_within) K (kX5_within l hN v2 1 99 σ) gX5_mayBe_X5_within rfl hdS_X5_within ⟨Nat.le_of_ble_eq_true rfl, Nat.le_of_ble_eq_true rfl⟩ rfl rfl ⟨Nat.zero_le _, Nat.zero_le _⟩ rfl rfl (Nat.le_of_ble_eq_true rfl) dX5_mayBe_46 ?_
        exact q_zretP K hr (b01_X5_within _ _ _) dX5_mayBe_49
      · have i15 := neI c3
        refine q_case (v := 3) (fun c4 => ?_) (fun c4 => ?_)
        · have i12 := eqI c4
          refine q_tableIn (pc := 1) (tgt := 50) K dX5_mayBe_1 c4 (by decide) (by decide) rfl (by decide) ?_
          refine q_iload_n (pc := 50) K dX5_mayBe_50 rfl rfl ?_
          refine q_iconst (pc := 51) (v := 0) K dX5_mayBe_51 (by decide) ?_
          refine q_bipush (pc := 52) (v := 99) K dX5_mayBe_52 (by decide) ?_
          refine q_callSi (pc := 54) (rm := rmX5_within) K (kX5_within l hN v2 0 99 σ) gX5_mayBe_X5_within rfl hdS_X5_within ⟨Nat.le_of_ble_eq_true rfl, Nat.le_of_ble_eq_true rfl⟩ rfl rfl ⟨Nat.zero_le _, Nat.zero_le _⟩ rfl rfl (Nat.le_of_ble_eq_true rfl) dX5_mayBe_54 ?_
          exact q_zretP K hr (b01_X5_within _ _ _) dX5_mayBe_57
        · have i13 := neI c4
          refine q_tableOut (pc := 1) (tgt := 58) K dX5_mayBe_1 (by omega) (by decide) ?_
          refine q_iload_n (pc := 58) K dX5_mayBe_58 rfl rfl ?_
          refine q_iconst (pc := 59) (v := 5) K dX5_mayBe_59 (by decide) ?_
          refine q_icmp_ne (pc := 60) (tgt := 78) K dX5_mayBe_60 (by decide) (fun c5 => ?_) (fun c5 => ?_)
          · have i10 := neI c5
            refine q_iconst (pc := 78) (v := 0) K dX5_mayBe_78 (by decide) ?_
            exact q_zretP K hr (Or.inl rfl) dX5_mayBe_79
          · have i11 := eqI c5
            refine q_iload_n (pc := 63) K dX5_mayBe_63 rfl rfl ?_
            refine q_iconst (pc := 64) (v := (-1)) K dX5_mayBe_64 (by decide) ?_
            refine q_iload_n (pc := 65) K dX5_mayBe_65 rfl rfl ?_
            refine q_iconst (pc := 66) (v := 1) K dX5_mayBe_66 (by decide) ?_
            refine q_isub (pc := 67) K dX5_mayBe_67 ?_
            refine q_callSi (pc := 68) (rm := rmX5_within) K (kX5_within l hN v2 (-1) (v0 - 1) σ) gX5_mayBe_X5_within rfl hdS_X5_within ⟨Nat.le_of_ble_eq_true rfl, Nat.le_of_ble_eq_true rfl⟩ rfl rfl ⟨Nat.zero_le _, Nat.zero_le _⟩ rfl rfl (Nat.le_of_ble_eq_true rfl) dX5_mayBe_68 ?_
            refine q_if_eq (pc := 71) (tgt := 78) K dX5_mayBe_71 (by decide) (fun c6 => ?_) (fun c6 => ?_)
            · have i7 := eqI c6
              refine q_iconst (pc := 78) (v := 0) K dX5_mayBe_78 (by decide) ?_
              exact q_zretP K hr (Or.inl rfl) dX5_mayBe_79
            · have i8 := neI c6
              have b9 := wi_t c6
              refine q_iconst (pc := 74) (v := 1) K dX5_mayBe_74 (by decide) ?_
              refine q_goto (pc := 75) (tgt := 79) K dX5_mayBe_75 (by decide) ?_
              exact q_zretP K hr (Or.inr rfl) dX5_mayBe_79
theorem hdV_X5_of : yX5_of.cls = RX5 ∧ yX5_of.cls ≠ "java/lang/invoke/MethodHandle" ∧ yX5_of.cls ≠ "java/lang/invoke/VarHandle" ∧ (parseMethodDescriptor yX5_of.desc).map (fun d => d.parameters.length) = some 2 := by decide +kernel
theorem mX5_of_f9 : Cond.fieldLink RX5 9 "WaxTreatiesModel" "now" "[I" ∈ wsX5_of := List.mem_of_getElem? (i := 1) rfl
theorem iwX5_of_X5 : ∀ w ∈ wsX50, w ∈ wsX5_of := fun w h => List.mem_cons_of_mem _ (List.mem_append_right _ h)
set_option maxRecDepth 100000 in
set_option maxHeartbeats 4000000 in
theorem kX5_of (l : Launch) {G : gT} (hN : wN G) (hG : gfl G = false) (v1 : Int32) (v2 : Int32) (σ : sg) (hw : WM σ) : cM l yX5_of wsX5_of rmX5_of G [.ref (gob G 0), .int v1, .int v2] σ (some (.int (fX5_of v1 v2 σ).1)) (fX5_of v1 v2 σ).2 := by
  refine cM_of (maxL := 4) (ret := (some .int)) (cc := cX5_of) (fX5_of v1 v2 σ) RX5 hN (by decide +kernel) rfl rfl (Nat.le_of_ble_eq_true rfl) rfl ?_
  intro p e s m args below meth c K hr
  have k0 : (0 : Int32).toInt = 0 := rfl
  have k1 : (1 : Int32).toInt = 1 := rfl
  have k2 : (2 : Int32).toInt = 2 := rfl
  have k6 : (6 : Int32).toInt = 6 := rfl
  have k7 : (7 : Int32).toInt = 7 := rfl
  have k8 : (8 : Int32).toInt = 8 := rfl
  have k9 : (9 : Int32).toInt = 9 := rfl
  have k32 : (32 : Int32).toInt = 32 := rfl
  have k40 : (40 : Int32).toInt = 40 := rfl
  have k48 : (48 : Int32).toInt = 48 := rfl
  refine qq_st (lv' := [some (.ref (gob G 0)), some (.int v1), some (.int v2), none]) rfl rfl rfl ?_
  refine qq_T (fX5_of.eq_1 ..) ?_
  refine q_aload_n (pc := 0) K dX5_of_0 rfl rfl ?_
  refine q_iload_n (pc := 1) K dX5_of_1 rfl rfl ?_
  refine q_callVi (pc := 2) (o := 0) (rm := rmX5_isDeed) K (kX5_isDeed l hN hG v1 σ hw) gX5_of_X5_isDeed rfl hdV_X5_isDeed ⟨Nat.le_of_ble_eq_true rfl, Nat.le_of_ble_eq_true rfl⟩ rfl rfl ⟨Nat.zero_le _, Nat.zero_le _⟩ (wO_m hG) vw_4 rfl rfl (Nat.le_of_ble_eq_true rfl) dX5_of_2 ?_
  refine q_if_eq (pc := 5) (tgt := 18) K dX5_of_5 (by decide) (fun c1 => ?_) (fun c1 => ?_)
  · have i34 := eqI c1
    refine q_aload_n (pc := 18) K dX5_of_18 rfl rfl ?_
    refine q_iconst (pc := 19) (v := 0) K dX5_of_19 (by decide) ?_
    refine q_callVi (pc := 20) (o := 0) (rm := rmX5_finding) K (kX5_finding l hN hG 0 σ hw (by omega)) gX5_of_X5_finding rfl hdV_X5_finding ⟨Nat.le_of_ble_eq_true rfl, Nat.le_of_ble_eq_true rfl⟩ rfl rfl ⟨Nat.zero_le _, Nat.zero_le _⟩ (wO_m hG) vw_4 rfl rfl (Nat.le_of_ble_eq_true rfl) dX5_of_20 ?_
    refine qq_nmI (fun r2 e3 => ?_)
    have hw4 : WM r2.2 := by rw [e3]; exact wX5_finding 0 hw (by omega)
    exact q_iret K hr dX5_of_23
  · have i35 := neI c1
    have b36 := wiD_t hw c1
    refine q_iload_n (pc := 8) K dX5_of_8 rfl rfl ?_
    refine q_iconst (pc := 9) (v := 0) K dX5_of_9 (by decide) ?_
    refine q_bipush (pc := 10) (v := 9) K dX5_of_10 (by decide) ?_
    refine q_callSi (pc := 12) (rm := rmX5_within) K (kX5_within l hN v2 0 9 σ) gX5_of_X5_within rfl hdS_X5_within ⟨Nat.le_of_ble_eq_true rfl, Nat.le_of_ble_eq_true rfl⟩ rfl rfl ⟨Nat.zero_le _, Nat.zero_le _⟩ rfl rfl (Nat.le_of_ble_eq_true rfl) dX5_of_12 ?_
    refine q_if_ne (pc := 15) (tgt := 24) K dX5_of_15 (by decide) (fun c5 => ?_) (fun c5 => ?_)
    · have i31 := neI c5
      have b32 := wi_t c5
      refine q_aload_n (pc := 24) K dX5_of_24 rfl rfl ?_
      refine q_get (pc := 25) (o := 0) (f := 0) (v := .ref (gad G 0)) K (wO_m hG) vw_4 iwX5_of_X5 (by decide) mX5_of_f9 rfl dX5_of_25 ?_
      refine q_bipush (pc := 28) (v := 32) K dX5_of_28 (by decide) ?_
      refine q_iload_n (pc := 30) K dX5_of_30 rfl rfl ?_
      refine q_iadd (pc := 31) K dX5_of_31 ?_
      have a6 := addI (x := 32) (y := v1) (by omega) (by omega)
      refine q_iald (pc := 32) (a := 0) K (by rw [wna_f hG]; decide) (vinN (wlm (n := 80) hG 0 rfl) (by omega) (by omega)) dX5_of_32 ?_
      refine q_istore_n (pc := 33) (lv' := [some (.ref (gob G 0)), some (.int v1), some (.int v2), some (.int (rA σ 0 (32 + v1)))]) K dX5_of_33 rfl (by decide) (Nat.le_of_ble_eq_true rfl) rfl ?_
      refine q_iload_n (pc := 34) K dX5_of_34 rfl rfl ?_
      refine q_case (v := 6) (fun c7 => ?_) (fun c7 => ?_)
      · have i26 := eqI c7
        refine q_tableIn (pc := 35) (tgt := 64) K dX5_of_35 c7 (by decide) (by decide) rfl (by decide) ?_
        refine q_iload_n (pc := 64) K dX5_of_64 rfl rfl ?_
        refine q_aload_n (pc := 65) K dX5_of_65 rfl rfl ?_
        refine q_get (pc := 66) (o := 0) (f := 0) (v := .ref (gad G 0)) K (wO_m hG) vw_4 iwX5_of_X5 (by decide) mX5_of_f9 rfl dX5_of_66 ?_
        refine q_bipush (pc := 69) (v := 48) K dX5_of_69 (by decide) ?_
        refine q_iload_n (pc := 71) K dX5_of_71 rfl rfl ?_
        refine q_iadd (pc := 72) K dX5_of_72 ?_
        have a8 := addI (x := 48) (y := v1) (by omega) (by omega)
        refine q_iald (pc := 73) (a := 0) K (by rw [wna_f hG]; decide) (vinN (wlm (n := 80) hG 0 rfl) (by omega) (by omega)) dX5_of_73 ?_
        refine q_callSi (pc := 74) (rm := rmX5_stands) K (kX5_stands l hN (rA σ 0 (32 + v1)) (rA σ 0 (48 + v1)) σ) gX5_of_X5_stands rfl hdS_X5_stands ⟨Nat.le_of_ble_eq_true rfl, Nat.le_of_ble_eq_true rfl⟩ rfl rfl ⟨Nat.zero_le _, Nat.zero_le _⟩ rfl rfl (Nat.le_of_ble_eq_true rfl) dX5_of_74 ?_
        exact q_iret K hr dX5_of_77
      · have i27 := neI c7
        refine q_case (v := 7) (fun c9 => ?_) (fun c9 => ?_)
        · have i24 := eqI c9
          refine q_tableIn (pc := 35) (tgt := 78) K dX5_of_35 c9 (by decide) (by decide) rfl (by decide) ?_
          refine q_iload_n (pc := 78) K dX5_of_78 rfl rfl ?_
          refine q_callSi (pc := 79) (rm := rmX5_runsAt) K (kX5_runsAt l hN (rA σ 0 (32 + v1)) σ) gX5_of_X5_runsAt rfl hdS_X5_runsAt ⟨Nat.le_of_ble_eq_true rfl, Nat.le_of_ble_eq_true rfl⟩ rfl rfl ⟨Nat.zero_le _, Nat.zero_le _⟩ rfl rfl (Nat.le_of_ble_eq_true rfl) dX5_of_79 ?_
          exact q_iret K hr dX5_of_82
        · have i25 := neI c9
          refine q_case (v := 8) (fun c10 => ?_) (fun c10 => ?_)
          · have i22 := eqI c10
            refine q_tableIn (pc := 35) (tgt := 83) K dX5_of_35 c10 (by decide) (by decide) rfl (by decide) ?_
            refine q_iload_n (pc := 83) K dX5_of_83 rfl rfl ?_
            refine q_aload_n (pc := 84) K dX5_of_84 rfl rfl ?_
            refine q_get (pc := 85) (o := 0) (f := 0) (v := .ref (gad G 0)) K (wO_m hG) vw_4 iwX5_of_X5 (by decide) mX5_of_f9 rfl dX5_of_85 ?_
            refine q_aload_n (pc := 88) K dX5_of_88 rfl rfl ?_
            refine q_get (pc := 89) (o := 0) (f := 0) (v := .ref (gad G 0)) K (wO_m hG) vw_4 iwX5_of_X5 (by decide) mX5_of_f9 rfl dX5_of_89 ?_
            refine q_bipush (pc := 92) (v := 40) K dX5_of_92 (by decide) ?_
            refine q_iload_n (pc := 94) K dX5_of_94 rfl rfl ?_
            refine q_iadd (pc := 95) K dX5_of_95 ?_
            have a11 := addI (x := 40) (y := v1) (by omega) (by omega)
            refine q_iald (pc := 96) (a := 0) K (by rw [wna_f hG]; decide) (vinN (wlm (n := 80) hG 0 rfl) (by omega) (by omega)) dX5_of_96 ?_
            have w12 := wm_shelf hw (show 0 < 4 by decide) v1 (by omega) (by omega)
            refine q_aload_n (pc := 97) K dX5_of_97 rfl rfl ?_
            refine q_get (pc := 98) (o := 0) (f := 0) (v := .ref (gad G 0)) K (wO_m hG) vw_4 iwX5_of_X5 (by decide) mX5_of_f9 rfl dX5_of_98 ?_
            refine q_iconst (pc := 101) (v := 2) K dX5_of_101 (by decide) ?_
            refine q_iald (pc := 102) (a := 0) K (by rw [wna_f hG]; decide) (vinN (wlm (n := 80) hG 0 rfl) (by omega) (by omega)) dX5_of_102 ?_
            refine q_callSi (pc := 103) (rm := rmX5_heatOf) K (kX5_heatOf l hN hG 0 (by decide) (rA σ 0 (40 + v1)) (rA σ 0 2) σ hw (by omega)) gX5_of_X5_heatOf rfl hdS_X5_heatOf ⟨Nat.le_of_ble_eq_true rfl, Nat.le_of_ble_eq_true rfl⟩ rfl rfl ⟨Nat.zero_le _, Nat.zero_le _⟩ rfl rfl (Nat.le_of_ble_eq_true rfl) dX5_of_103 ?_
            refine q_callSi (pc := 106) (rm := rmX5_feels) K (kX5_feels l hN (rA σ 0 (32 + v1)) (fX5_heatOf 0 (rA σ 0 (40 + v1)) (rA σ 0 2) σ) σ) gX5_of_X5_feels rfl hdS_X5_feels ⟨Nat.le_of_ble_eq_true rfl, Nat.le_of_ble_eq_true rfl⟩ rfl rfl ⟨Nat.zero_le _, Nat.zero_le _⟩ rfl rfl (Nat.le_of_ble_eq_true rfl) dX5_of_106 ?_
            exact q_iret K hr dX5_of_109
          · have i23 := neI c10
            refine q_case (v := 9) (fun c13 => ?_) (fun c13 => ?_)
            · have i20 := eqI c13
              refine q_tableIn (pc := 35) (tgt := 110) K dX5_of_35 c13 (by decide) (by decide) rfl (by decide) ?_
              refine q_aload_n (pc := 110) K dX5_of_110 rfl rfl ?_
              refine q_get (pc := 111) (o := 0) (f := 0) (v := .ref (gad G 0)) K (wO_m hG) vw_4 iwX5_of_X5 (by decide) mX5_of_f9 rfl dX5_of_111 ?_
              refine q_iload_n (pc := 114) K dX5_of_114 rfl rfl ?_
              refine q_callSi (pc := 115) (rm := rmX5_holds) K (kX5_holds l hN hG 0 (by decide) v1 σ hw (by omega)) gX5_of_X5_holds rfl hdS_X5_holds ⟨Nat.le_of_ble_eq_true rfl, Nat.le_of_ble_eq_true rfl⟩ rfl rfl ⟨Nat.zero_le _, Nat.zero_le _⟩ rfl rfl (Nat.le_of_ble_eq_true rfl) dX5_of_115 ?_
              refine q_if_eq (pc := 118) (tgt := 125) K dX5_of_118 (by decide) (fun c14 => ?_) (fun c14 => ?_)
              · have i15 := eqI c14
                refine q_iconst (pc := 125) (v := 0) K dX5_of_125 (by decide) ?_
                exact q_iret K hr dX5_of_126
              · have i16 := neI c14
                refine q_iconst (pc := 121) (v := 1) K dX5_of_121 (by decide) ?_
                refine q_goto (pc := 122) (tgt := 126) K dX5_of_122 (by decide) ?_
                exact q_iret K hr dX5_of_126
            · have i21 := neI c13
              refine q_tableOut (pc := 35) (tgt := 127) K dX5_of_35 (by omega) (by decide) ?_
              refine q_aload_n (pc := 127) K dX5_of_127 rfl rfl ?_
              refine q_get (pc := 128) (o := 0) (f := 0) (v := .ref (gad G 0)) K (wO_m hG) vw_4 iwX5_of_X5 (by decide) mX5_of_f9 rfl dX5_of_128 ?_
              refine q_bipush (pc := 131) (v := 32) K dX5_of_131 (by decide) ?_
              refine q_bipush (pc := 133) (v := 8) K dX5_of_133 (by decide) ?_
              refine q_iload_n (pc := 135) K dX5_of_135 rfl rfl ?_
              refine q_imul (pc := 136) K dX5_of_136 ?_
              refine q_iadd (pc := 137) K dX5_of_137 ?_
              refine q_iload_n (pc := 138) K dX5_of_138 rfl rfl ?_
              refine q_iadd (pc := 139) K dX5_of_139 ?_
              have a17 := mulI (x := 8) (y := v2) (by first | omega | (simp only [k8]; omega)) (by first | omega | (simp only [k8]; omega))
              simp only [k8] at a17
              have a18 := addI (x := 32) (y := (8 * v2)) (by omega) (by omega)
              have a19 := addI (x := (32 + (8 * v2))) (y := v1) (by omega) (by omega)
              refine q_iald (pc := 140) (a := 0) K (by rw [wna_f hG]; decide) (vinN (wlm (n := 80) hG 0 rfl) (by omega) (by omega)) dX5_of_140 ?_
              exact q_iret K hr dX5_of_141
    · have i33 := eqI c5
      refine q_aload_n (pc := 18) K dX5_of_18 rfl rfl ?_
      refine q_iconst (pc := 19) (v := 0) K dX5_of_19 (by decide) ?_
      refine q_callVi (pc := 20) (o := 0) (rm := rmX5_finding) K (kX5_finding l hN hG 0 σ hw (by omega)) gX5_of_X5_finding rfl hdV_X5_finding ⟨Nat.le_of_ble_eq_true rfl, Nat.le_of_ble_eq_true rfl⟩ rfl rfl ⟨Nat.zero_le _, Nat.zero_le _⟩ (wO_m hG) vw_4 rfl rfl (Nat.le_of_ble_eq_true rfl) dX5_of_20 ?_
      refine qq_nmI (fun r28 e29 => ?_)
      have hw30 : WM r28.2 := by rw [e29]; exact wX5_finding 0 hw (by omega)
      exact q_iret K hr dX5_of_23
theorem hdV_X5_change : yX5_change.cls = RX5 ∧ yX5_change.cls ≠ "java/lang/invoke/MethodHandle" ∧ yX5_change.cls ≠ "java/lang/invoke/VarHandle" ∧ (parseMethodDescriptor yX5_change.desc).map (fun d => d.parameters.length) = some 3 := by decide +kernel
theorem mX5_change_f9 : Cond.fieldLink RX5 9 "WaxTreatiesModel" "now" "[I" ∈ wsX5_change := List.mem_of_getElem? (i := 1) rfl
theorem iwX5_change_X5 : ∀ w ∈ wsX50, w ∈ wsX5_change := fun w h => List.mem_cons_of_mem _ (List.mem_append_right _ h)
set_option maxRecDepth 100000 in
set_option maxHeartbeats 4000000 in
theorem kX5_change (l : Launch) {G : gT} (hN : wN G) (hG : gfl G = false) (v1 : Int32) (v2 : Int32) (v3 : Int32) (σ : sg) (hw : WM σ) : cM l yX5_change wsX5_change rmX5_change G [.ref (gob G 0), .int v1, .int v2, .int v3] σ (some (.int (fX5_change v1 v2 v3 σ).1)) (fX5_change v1 v2 v3 σ).2 := by
  refine cM_of (maxL := 5) (ret := (some .int)) (cc := cX5_change) (fX5_change v1 v2 v3 σ) RX5 hN (by decide +kernel) rfl rfl (Nat.le_of_ble_eq_true rfl) rfl ?_
  intro p e s m args below meth c K hr
  have k0 : (0 : Int32).toInt = 0 := rfl
  have k8 : (8 : Int32).toInt = 8 := rfl
  have k32 : (32 : Int32).toInt = 32 := rfl
  refine qq_st (lv' := [some (.ref (gob G 0)), some (.int v1), some (.int v2), some (.int v3), none]) rfl rfl rfl ?_
  refine qq_T (fX5_change.eq_1 ..) ?_
  refine q_aload_n (pc := 0) K dX5_change_0 rfl rfl ?_
  refine q_iload_n (pc := 1) K dX5_change_1 rfl rfl ?_
  refine q_callVi (pc := 2) (o := 0) (rm := rmX5_isDeed) K (kX5_isDeed l hN hG v1 σ hw) gX5_change_X5_isDeed rfl hdV_X5_isDeed ⟨Nat.le_of_ble_eq_true rfl, Nat.le_of_ble_eq_true rfl⟩ rfl rfl ⟨Nat.zero_le _, Nat.zero_le _⟩ (wO_m hG) vw_4 rfl rfl (Nat.le_of_ble_eq_true rfl) dX5_change_2 ?_
  refine q_if_eq (pc := 5) (tgt := 17) K dX5_change_5 (by decide) (fun c1 => ?_) (fun c1 => ?_)
  · have i18 := eqI c1
    refine q_aload_n (pc := 17) K dX5_change_17 rfl rfl ?_
    refine q_iconst (pc := 18) (v := 0) K dX5_change_18 (by decide) ?_
    refine q_callVi (pc := 19) (o := 0) (rm := rmX5_finding) K (kX5_finding l hN hG 0 σ hw (by omega)) gX5_change_X5_finding rfl hdV_X5_finding ⟨Nat.le_of_ble_eq_true rfl, Nat.le_of_ble_eq_true rfl⟩ rfl rfl ⟨Nat.zero_le _, Nat.zero_le _⟩ (wO_m hG) vw_4 rfl rfl (Nat.le_of_ble_eq_true rfl) dX5_change_19 ?_
    refine qq_nmI (fun r2 e3 => ?_)
    have hw4 : WM r2.2 := by rw [e3]; exact wX5_finding 0 hw (by omega)
    exact q_iret K hr dX5_change_22
  · have i19 := neI c1
    have b20 := wiD_t hw c1
    refine q_iload_n (pc := 8) K dX5_change_8 rfl rfl ?_
    refine q_iload_n (pc := 9) K dX5_change_9 rfl rfl ?_
    refine q_iload_n (pc := 10) K dX5_change_10 rfl rfl ?_
    refine q_callSi (pc := 11) (rm := rmX5_mayBe) K (kX5_mayBe l hN v1 v2 v3 σ) gX5_change_X5_mayBe rfl hdS_X5_mayBe ⟨Nat.le_of_ble_eq_true rfl, Nat.le_of_ble_eq_true rfl⟩ rfl rfl ⟨Nat.zero_le _, Nat.zero_le _⟩ rfl rfl (Nat.le_of_ble_eq_true rfl) dX5_change_11 ?_
    refine q_if_ne (pc := 14) (tgt := 23) K dX5_change_14 (by decide) (fun c5 => ?_) (fun c5 => ?_)
    · have i15 := neI c5
      have b16 := mb_t c5
      refine q_aload_n (pc := 23) K dX5_change_23 rfl rfl ?_
      refine q_get (pc := 24) (o := 0) (f := 0) (v := .ref (gad G 0)) K (wO_m hG) vw_4 iwX5_change_X5 (by decide) mX5_change_f9 rfl dX5_change_24 ?_
      refine q_bipush (pc := 27) (v := 32) K dX5_change_27 (by decide) ?_
      refine q_bipush (pc := 29) (v := 8) K dX5_change_29 (by decide) ?_
      refine q_iload_n (pc := 31) K dX5_change_31 rfl rfl ?_
      refine q_imul (pc := 32) K dX5_change_32 ?_
      refine q_iadd (pc := 33) K dX5_change_33 ?_
      refine q_iload_n (pc := 34) K dX5_change_34 rfl rfl ?_
      refine q_iadd (pc := 35) K dX5_change_35 ?_
      have a6 := mulI (x := 8) (y := v2) (by first | omega | (simp only [k8]; omega)) (by first | omega | (simp only [k8]; omega))
      simp only [k8] at a6
      have a7 := addI (x := 32) (y := (8 * v2)) (by omega) (by omega)
      have a8 := addI (x := (32 + (8 * v2))) (y := v1) (by omega) (by omega)
      refine q_iald (pc := 36) (a := 0) K (by rw [wna_f hG]; decide) (vinN (wlm (n := 80) hG 0 rfl) (by omega) (by omega)) dX5_change_36 ?_
      refine q_istore (pc := 37) (lv' := [some (.ref (gob G 0)), some (.int v1), some (.int v2), some (.int v3), some (.int (rA σ 0 ((32 + (8 * v2)) + v1)))]) K dX5_change_37 (by decide) (Nat.le_of_ble_eq_true rfl) rfl ?_
      refine q_aload_n (pc := 39) K dX5_change_39 rfl rfl ?_
      refine q_get (pc := 40) (o := 0) (f := 0) (v := .ref (gad G 0)) K (wO_m hG) vw_4 iwX5_change_X5 (by decide) mX5_change_f9 rfl dX5_change_40 ?_
      refine q_bipush (pc := 43) (v := 32) K dX5_change_43 (by decide) ?_
      refine q_bipush (pc := 45) (v := 8) K dX5_change_45 (by decide) ?_
      refine q_iload_n (pc := 47) K dX5_change_47 rfl rfl ?_
      refine q_imul (pc := 48) K dX5_change_48 ?_
      refine q_iadd (pc := 49) K dX5_change_49 ?_
      refine q_iload_n (pc := 50) K dX5_change_50 rfl rfl ?_
      refine q_iadd (pc := 51) K dX5_change_51 ?_
      refine q_iload_n (pc := 52) K dX5_change_52 rfl rfl ?_
      refine q_iast (pc := 53) (a := 0) K (by rw [wna_f hG]; decide) (vinN (wlm (n := 80) hG 0 rfl) (by omega) (by omega)) dX5_change_53 (fun s9 e10 => ?_)
      have hw11 : WM s9 := by rw [e10]; exact wmCh hw (by omega) (by omega) (by assumption)
      refine q_iload (pc := 54) K dX5_change_54 rfl ?_
      exact q_iret K hr dX5_change_56
    · have i17 := eqI c5
      refine q_aload_n (pc := 17) K dX5_change_17 rfl rfl ?_
      refine q_iconst (pc := 18) (v := 0) K dX5_change_18 (by decide) ?_
      refine q_callVi (pc := 19) (o := 0) (rm := rmX5_finding) K (kX5_finding l hN hG 0 σ hw (by omega)) gX5_change_X5_finding rfl hdV_X5_finding ⟨Nat.le_of_ble_eq_true rfl, Nat.le_of_ble_eq_true rfl⟩ rfl rfl ⟨Nat.zero_le _, Nat.zero_le _⟩ (wO_m hG) vw_4 rfl rfl (Nat.le_of_ble_eq_true rfl) dX5_change_19 ?_
      refine qq_nmI (fun r12 e13 => ?_)
      have hw14 : WM r12.2 := by rw [e13]; exact wX5_finding 0 hw (by omega)
      exact q_iret K hr dX5_change_22
theorem hdV_X5_renew : yX5_renew.cls = RX5 ∧ yX5_renew.cls ≠ "java/lang/invoke/MethodHandle" ∧ yX5_renew.cls ≠ "java/lang/invoke/VarHandle" ∧ (parseMethodDescriptor yX5_renew.desc).map (fun d => d.parameters.length) = some 1 := by decide +kernel
theorem mX5_renew_f9 : Cond.fieldLink RX5 9 "WaxTreatiesModel" "now" "[I" ∈ wsX5_renew := List.mem_of_getElem? (i := 1) rfl
theorem iwX5_renew_X5 : ∀ w ∈ wsX50, w ∈ wsX5_renew := fun w h => List.mem_cons_of_mem _ (List.mem_append_right _ h)
set_option maxRecDepth 100000 in
set_option maxHeartbeats 4000000 in
theorem kX5_renew (l : Launch) {G : gT} (hN : wN G) (hG : gfl G = false) (v1 : Int32) (σ : sg) (hw : WM σ) : cM l yX5_renew wsX5_renew rmX5_renew G [.ref (gob G 0), .int v1] σ (some (.int (fX5_renew v1 σ).1)) (fX5_renew v1 σ).2 := by
  refine cM_of (maxL := 3) (ret := (some .int)) (cc := cX5_renew) (fX5_renew v1 σ) RX5 hN (by decide +kernel) rfl rfl (Nat.le_of_ble_eq_true rfl) rfl ?_
  intro p e s m args below meth c K hr
  have k0 : (0 : Int32).toInt = 0 := rfl
  have k56 : (56 : Int32).toInt = 56 := rfl
  have k64 : (64 : Int32).toInt = 64 := rfl
  refine qq_st (lv' := [some (.ref (gob G 0)), some (.int v1), none]) rfl rfl rfl ?_
  refine qq_T (fX5_renew.eq_1 ..) ?_
  refine q_aload_n (pc := 0) K dX5_renew_0 rfl rfl ?_
  refine q_iload_n (pc := 1) K dX5_renew_1 rfl rfl ?_
  refine q_callVi (pc := 2) (o := 0) (rm := rmX5_isDeed) K (kX5_isDeed l hN hG v1 σ hw) gX5_renew_X5_isDeed rfl hdV_X5_isDeed ⟨Nat.le_of_ble_eq_true rfl, Nat.le_of_ble_eq_true rfl⟩ rfl rfl ⟨Nat.zero_le _, Nat.zero_le _⟩ (wO_m hG) vw_4 rfl rfl (Nat.le_of_ble_eq_true rfl) dX5_renew_2 ?_
  refine q_if_ne (pc := 5) (tgt := 14) K dX5_renew_5 (by decide) (fun c1 => ?_) (fun c1 => ?_)
  · have i15 := neI c1
    have b16 := wiD_t hw c1
    refine q_aload_n (pc := 14) K dX5_renew_14 rfl rfl ?_
    refine q_get (pc := 15) (o := 0) (f := 0) (v := .ref (gad G 0)) K (wO_m hG) vw_4 iwX5_renew_X5 (by decide) mX5_renew_f9 rfl dX5_renew_15 ?_
    refine q_bipush (pc := 18) (v := 64) K dX5_renew_18 (by decide) ?_
    refine q_iload_n (pc := 20) K dX5_renew_20 rfl rfl ?_
    refine q_iadd (pc := 21) K dX5_renew_21 ?_
    have a2 := addI (x := 64) (y := v1) (by omega) (by omega)
    refine q_iald (pc := 22) (a := 0) K (by rw [wna_f hG]; decide) (vinN (wlm (n := 80) hG 0 rfl) (by omega) (by omega)) dX5_renew_22 ?_
    refine q_istore_n (pc := 23) (lv' := [some (.ref (gob G 0)), some (.int v1), some (.int (rA σ 0 (64 + v1)))]) K dX5_renew_23 rfl (by decide) (Nat.le_of_ble_eq_true rfl) rfl ?_
    refine q_aload_n (pc := 24) K dX5_renew_24 rfl rfl ?_
    refine q_get (pc := 25) (o := 0) (f := 0) (v := .ref (gad G 0)) K (wO_m hG) vw_4 iwX5_renew_X5 (by decide) mX5_renew_f9 rfl dX5_renew_25 ?_
    refine q_bipush (pc := 28) (v := 64) K dX5_renew_28 (by decide) ?_
    refine q_iload_n (pc := 30) K dX5_renew_30 rfl rfl ?_
    refine q_iadd (pc := 31) K dX5_renew_31 ?_
    refine q_iconst (pc := 32) (v := 0) K dX5_renew_32 (by decide) ?_
    refine q_iast (pc := 33) (a := 0) K (by rw [wna_f hG]; decide) (vinN (wlm (n := 80) hG 0 rfl) (by omega) (by omega)) dX5_renew_33 (fun s3 e4 => ?_)
    have hw5 : WM s3 := by rw [e4]; exact wmRn hw (by decide) (by omega) (by omega) (by omega) (by omega)
    have m6 := mKeep e4 (by omega)
    refine q_aload_n (pc := 34) K dX5_renew_34 rfl rfl ?_
    refine q_get (pc := 35) (o := 0) (f := 0) (v := .ref (gad G 0)) K (wO_m hG) vw_4 iwX5_renew_X5 (by decide) mX5_renew_f9 rfl dX5_renew_35 ?_
    refine q_bipush (pc := 38) (v := 56) K dX5_renew_38 (by decide) ?_
    refine q_iload_n (pc := 40) K dX5_renew_40 rfl rfl ?_
    refine q_iadd (pc := 41) K dX5_renew_41 ?_
    refine q_iconst (pc := 42) (v := 0) K dX5_renew_42 (by decide) ?_
    have a7 := addI (x := 56) (y := v1) (by omega) (by omega)
    refine q_iast (pc := 43) (a := 0) K (by rw [wna_f hG]; decide) (vinN (wlm (n := 80) hG 0 rfl) (by omega) (by omega)) dX5_renew_43 (fun s8 e9 => ?_)
    have hw10 : WM s8 := by rw [e9]; exact wmRn hw5 (by decide) (by omega) (by omega) (by omega) (by omega)
    have m11 := mKeep e9 (by omega)
    refine q_iload_n (pc := 44) K dX5_renew_44 rfl rfl ?_
    exact q_iret K hr dX5_renew_45
  · have i17 := eqI c1
    refine q_aload_n (pc := 8) K dX5_renew_8 rfl rfl ?_
    refine q_iconst (pc := 9) (v := 0) K dX5_renew_9 (by decide) ?_
    refine q_callVi (pc := 10) (o := 0) (rm := rmX5_finding) K (kX5_finding l hN hG 0 σ hw (by omega)) gX5_renew_X5_finding rfl hdV_X5_finding ⟨Nat.le_of_ble_eq_true rfl, Nat.le_of_ble_eq_true rfl⟩ rfl rfl ⟨Nat.zero_le _, Nat.zero_le _⟩ (wO_m hG) vw_4 rfl rfl (Nat.le_of_ble_eq_true rfl) dX5_renew_10 ?_
    refine qq_nmI (fun r12 e13 => ?_)
    have hw14 : WM r12.2 := by rw [e13]; exact wX5_finding 0 hw (by omega)
    exact q_iret K hr dX5_renew_13
theorem hdV_X5_shelf : yX5_shelf.cls = RX5 ∧ yX5_shelf.cls ≠ "java/lang/invoke/MethodHandle" ∧ yX5_shelf.cls ≠ "java/lang/invoke/VarHandle" ∧ (parseMethodDescriptor yX5_shelf.desc).map (fun d => d.parameters.length) = some 3 := by decide +kernel
theorem mX5_shelf_f9 : Cond.fieldLink RX5 9 "WaxTreatiesModel" "now" "[I" ∈ wsX5_shelf := List.mem_of_getElem? (i := 1) rfl
theorem iwX5_shelf_X5 : ∀ w ∈ wsX50, w ∈ wsX5_shelf := fun w h => List.mem_cons_of_mem _ (List.mem_append_right _ h)
set_option maxRecDepth 100000 in
set_option maxHeartbeats 4000000 in
theorem kX5_shelf (l : Launch) {G : gT} (hN : wN G) (hG : gfl G = false) (v1 : Int32) (v2 : Int32) (v3 : Int32) (σ : sg) (hw : WM σ) : cM l yX5_shelf wsX5_shelf rmX5_shelf G [.ref (gob G 0), .int v1, .int v2, .int v3] σ (some (.int (fX5_shelf v1 v2 v3 σ).1)) (fX5_shelf v1 v2 v3 σ).2 := by
  refine cM_of (maxL := 6) (ret := (some .int)) (cc := cX5_shelf) (fX5_shelf v1 v2 v3 σ) RX5 hN (by decide +kernel) rfl rfl (Nat.le_of_ble_eq_true rfl) rfl ?_
  intro p e s m args below meth c K hr
  have k0 : (0 : Int32).toInt = 0 := rfl
  have k1 : (1 : Int32).toInt = 1 := rfl
  have k2 : (2 : Int32).toInt = 2 := rfl
  have k4 : (4 : Int32).toInt = 4 := rfl
  have k6 : (6 : Int32).toInt = 6 := rfl
  have k99 : (99 : Int32).toInt = 99 := rfl
  refine qq_st (lv' := [some (.ref (gob G 0)), some (.int v1), some (.int v2), some (.int v3), none, none]) rfl rfl rfl ?_
  refine qq_T (fX5_shelf.eq_1 ..) ?_
  refine q_iload_n (pc := 0) K dX5_shelf_0 rfl rfl ?_
  refine q_iconst (pc := 1) (v := 1) K dX5_shelf_1 (by decide) ?_
  refine q_icmp_ne (pc := 2) (tgt := 15) K dX5_shelf_2 (by decide) (fun c1 => ?_) (fun c1 => ?_)
  · have i65 := neI c1
    refine q_iload_n (pc := 15) K dX5_shelf_15 rfl rfl ?_
    refine q_iconst (pc := 16) (v := 0) K dX5_shelf_16 (by decide) ?_
    refine q_iconst (pc := 17) (v := 2) K dX5_shelf_17 (by decide) ?_
    refine q_callSi (pc := 18) (rm := rmX5_within) K (kX5_within l hN v2 0 2 σ) gX5_shelf_X5_within rfl hdS_X5_within ⟨Nat.le_of_ble_eq_true rfl, Nat.le_of_ble_eq_true rfl⟩ rfl rfl ⟨Nat.zero_le _, Nat.zero_le _⟩ rfl rfl (Nat.le_of_ble_eq_true rfl) dX5_shelf_18 ?_
    refine q_if_eq (pc := 21) (tgt := 37) K dX5_shelf_21 (by decide) (fun c2 => ?_) (fun c2 => ?_)
    · have i41 := eqI c2
      refine q_iconst (pc := 37) (v := 0) K dX5_shelf_37 (by decide) ?_
      refine q_istore (pc := 38) (lv' := [some (.ref (gob G 0)), some (.int v1), some (.int v2), some (.int v3), some (.int 0), none]) K dX5_shelf_38 (by decide) (Nat.le_of_ble_eq_true rfl) rfl ?_
      refine q_iload_n (pc := 40) K dX5_shelf_40 rfl rfl ?_
      refine q_callSi (pc := 41) (rm := rmX5_isShelf) K (kX5_isShelf l hN v1 σ) gX5_shelf_X5_isShelf rfl hdS_X5_isShelf ⟨Nat.le_of_ble_eq_true rfl, Nat.le_of_ble_eq_true rfl⟩ rfl rfl ⟨Nat.zero_le _, Nat.zero_le _⟩ rfl rfl (Nat.le_of_ble_eq_true rfl) dX5_shelf_41 ?_
      refine q_if_eq (pc := 44) (tgt := 52) K dX5_shelf_44 (by decide) (fun c3 => ?_) (fun c3 => ?_)
      · have i10 := eqI c3
        refine q_aload_n (pc := 52) K dX5_shelf_52 rfl rfl ?_
        refine q_iconst (pc := 53) (v := 0) K dX5_shelf_53 (by decide) ?_
        refine q_callVi (pc := 54) (o := 0) (rm := rmX5_finding) K (kX5_finding l hN hG 0 σ hw (by omega)) gX5_shelf_X5_finding rfl hdV_X5_finding ⟨Nat.le_of_ble_eq_true rfl, Nat.le_of_ble_eq_true rfl⟩ rfl rfl ⟨Nat.zero_le _, Nat.zero_le _⟩ (wO_m hG) vw_4 rfl rfl (Nat.le_of_ble_eq_true rfl) dX5_shelf_54 ?_
        refine qq_nmI (fun r4 e5 => ?_)
        have hw6 : WM r4.2 := by rw [e5]; exact wX5_finding 0 hw (by omega)
        exact q_iret K hr dX5_shelf_57
      · have i11 := neI c3
        have b12 := wiS_t c3
        refine q_iload (pc := 47) K dX5_shelf_47 rfl ?_
        refine q_if_ne_f (pc := 49) (tgt := 58) K (by decide) dX5_shelf_49 (by decide) ?_
        refine q_aload_n (pc := 52) K dX5_shelf_52 rfl rfl ?_
        refine q_iconst (pc := 53) (v := 0) K dX5_shelf_53 (by decide) ?_
        refine q_callVi (pc := 54) (o := 0) (rm := rmX5_finding) K (kX5_finding l hN hG 0 σ hw (by omega)) gX5_shelf_X5_finding rfl hdV_X5_finding ⟨Nat.le_of_ble_eq_true rfl, Nat.le_of_ble_eq_true rfl⟩ rfl rfl ⟨Nat.zero_le _, Nat.zero_le _⟩ (wO_m hG) vw_4 rfl rfl (Nat.le_of_ble_eq_true rfl) dX5_shelf_54 ?_
        refine qq_nmI (fun r7 e8 => ?_)
        have hw9 : WM r7.2 := by rw [e8]; exact wX5_finding 0 hw (by omega)
        exact q_iret K hr dX5_shelf_57
    · have i42 := neI c2
      have b43 := wi_t c2
      refine q_iload_n (pc := 24) K dX5_shelf_24 rfl rfl ?_
      refine q_iconst (pc := 25) (v := 0) K dX5_shelf_25 (by decide) ?_
      refine q_iconst (pc := 26) (v := 1) K dX5_shelf_26 (by decide) ?_
      refine q_callSi (pc := 27) (rm := rmX5_within) K (kX5_within l hN v3 0 1 σ) gX5_shelf_X5_within rfl hdS_X5_within ⟨Nat.le_of_ble_eq_true rfl, Nat.le_of_ble_eq_true rfl⟩ rfl rfl ⟨Nat.zero_le _, Nat.zero_le _⟩ rfl rfl (Nat.le_of_ble_eq_true rfl) dX5_shelf_27 ?_
      refine q_if_eq (pc := 30) (tgt := 37) K dX5_shelf_30 (by decide) (fun c13 => ?_) (fun c13 => ?_)
      · have i38 := eqI c13
        refine q_iconst (pc := 37) (v := 0) K dX5_shelf_37 (by decide) ?_
        refine q_istore (pc := 38) (lv' := [some (.ref (gob G 0)), some (.int v1), some (.int v2), some (.int v3), some (.int 0), none]) K dX5_shelf_38 (by decide) (Nat.le_of_ble_eq_true rfl) rfl ?_
        refine q_iload_n (pc := 40) K dX5_shelf_40 rfl rfl ?_
        refine q_callSi (pc := 41) (rm := rmX5_isShelf) K (kX5_isShelf l hN v1 σ) gX5_shelf_X5_isShelf rfl hdS_X5_isShelf ⟨Nat.le_of_ble_eq_true rfl, Nat.le_of_ble_eq_true rfl⟩ rfl rfl ⟨Nat.zero_le _, Nat.zero_le _⟩ rfl rfl (Nat.le_of_ble_eq_true rfl) dX5_shelf_41 ?_
        refine q_if_eq (pc := 44) (tgt := 52) K dX5_shelf_44 (by decide) (fun c14 => ?_) (fun c14 => ?_)
        · have i21 := eqI c14
          refine q_aload_n (pc := 52) K dX5_shelf_52 rfl rfl ?_
          refine q_iconst (pc := 53) (v := 0) K dX5_shelf_53 (by decide) ?_
          refine q_callVi (pc := 54) (o := 0) (rm := rmX5_finding) K (kX5_finding l hN hG 0 σ hw (by omega)) gX5_shelf_X5_finding rfl hdV_X5_finding ⟨Nat.le_of_ble_eq_true rfl, Nat.le_of_ble_eq_true rfl⟩ rfl rfl ⟨Nat.zero_le _, Nat.zero_le _⟩ (wO_m hG) vw_4 rfl rfl (Nat.le_of_ble_eq_true rfl) dX5_shelf_54 ?_
          refine qq_nmI (fun r15 e16 => ?_)
          have hw17 : WM r15.2 := by rw [e16]; exact wX5_finding 0 hw (by omega)
          exact q_iret K hr dX5_shelf_57
        · have i22 := neI c14
          have b23 := wiS_t c14
          refine q_iload (pc := 47) K dX5_shelf_47 rfl ?_
          refine q_if_ne_f (pc := 49) (tgt := 58) K (by decide) dX5_shelf_49 (by decide) ?_
          refine q_aload_n (pc := 52) K dX5_shelf_52 rfl rfl ?_
          refine q_iconst (pc := 53) (v := 0) K dX5_shelf_53 (by decide) ?_
          refine q_callVi (pc := 54) (o := 0) (rm := rmX5_finding) K (kX5_finding l hN hG 0 σ hw (by omega)) gX5_shelf_X5_finding rfl hdV_X5_finding ⟨Nat.le_of_ble_eq_true rfl, Nat.le_of_ble_eq_true rfl⟩ rfl rfl ⟨Nat.zero_le _, Nat.zero_le _⟩ (wO_m hG) vw_4 rfl rfl (Nat.le_of_ble_eq_true rfl) dX5_shelf_54 ?_
          refine qq_nmI (fun r18 e19 => ?_)
          have hw20 : WM r18.2 := by rw [e19]; exact wX5_finding 0 hw (by omega)
          exact q_iret K hr dX5_shelf_57
      · have i39 := neI c13
        have b40 := wi_t c13
        refine q_iconst (pc := 33) (v := 1) K dX5_shelf_33 (by decide) ?_
        refine q_goto (pc := 34) (tgt := 38) K dX5_shelf_34 (by decide) ?_
        refine q_istore (pc := 38) (lv' := [some (.ref (gob G 0)), some (.int v1), some (.int v2), some (.int v3), some (.int 1), none]) K dX5_shelf_38 (by decide) (Nat.le_of_ble_eq_true rfl) rfl ?_
        refine q_iload_n (pc := 40) K dX5_shelf_40 rfl rfl ?_
        refine q_callSi (pc := 41) (rm := rmX5_isShelf) K (kX5_isShelf l hN v1 σ) gX5_shelf_X5_isShelf rfl hdS_X5_isShelf ⟨Nat.le_of_ble_eq_true rfl, Nat.le_of_ble_eq_true rfl⟩ rfl rfl ⟨Nat.zero_le _, Nat.zero_le _⟩ rfl rfl (Nat.le_of_ble_eq_true rfl) dX5_shelf_41 ?_
        refine q_if_eq (pc := 44) (tgt := 52) K dX5_shelf_44 (by decide) (fun c24 => ?_) (fun c24 => ?_)
        · have i35 := eqI c24
          refine q_aload_n (pc := 52) K dX5_shelf_52 rfl rfl ?_
          refine q_iconst (pc := 53) (v := 0) K dX5_shelf_53 (by decide) ?_
          refine q_callVi (pc := 54) (o := 0) (rm := rmX5_finding) K (kX5_finding l hN hG 0 σ hw (by omega)) gX5_shelf_X5_finding rfl hdV_X5_finding ⟨Nat.le_of_ble_eq_true rfl, Nat.le_of_ble_eq_true rfl⟩ rfl rfl ⟨Nat.zero_le _, Nat.zero_le _⟩ (wO_m hG) vw_4 rfl rfl (Nat.le_of_ble_eq_true rfl) dX5_shelf_54 ?_
          refine qq_nmI (fun r25 e26 => ?_)
          have hw27 : WM r25.2 := by rw [e26]; exact wX5_finding 0 hw (by omega)
          exact q_iret K hr dX5_shelf_57
        · have i36 := neI c24
          have b37 := wiS_t c24
          refine q_iload (pc := 47) K dX5_shelf_47 rfl ?_
          refine q_if_ne_t (pc := 49) (tgt := 58) K (by decide) dX5_shelf_49 (by decide) ?_
          refine q_aload_n (pc := 58) K dX5_shelf_58 rfl rfl ?_
          refine q_get (pc := 59) (o := 0) (f := 0) (v := .ref (gad G 0)) K (wO_m hG) vw_4 iwX5_shelf_X5 (by decide) mX5_shelf_f9 rfl dX5_shelf_59 ?_
          refine q_iconst (pc := 62) (v := 4) K dX5_shelf_62 (by decide) ?_
          refine q_bipush (pc := 63) (v := 6) K dX5_shelf_63 (by decide) ?_
          refine q_iload_n (pc := 65) K dX5_shelf_65 rfl rfl ?_
          refine q_imul (pc := 66) K dX5_shelf_66 ?_
          refine q_iadd (pc := 67) K dX5_shelf_67 ?_
          refine q_iload_n (pc := 68) K dX5_shelf_68 rfl rfl ?_
          refine q_iadd (pc := 69) K dX5_shelf_69 ?_
          have a28 := mulI (x := 6) (y := v2) (by first | omega | (simp only [k6]; omega)) (by first | omega | (simp only [k6]; omega))
          simp only [k6] at a28
          have a29 := addI (x := 4) (y := (6 * v2)) (by omega) (by omega)
          have a30 := addI (x := (4 + (6 * v2))) (y := v1) (by omega) (by omega)
          refine q_iald (pc := 70) (a := 0) K (by rw [wna_f hG]; decide) (vinN (wlm (n := 80) hG 0 rfl) (by omega) (by omega)) dX5_shelf_70 ?_
          refine q_istore (pc := 71) (lv' := [some (.ref (gob G 0)), some (.int v1), some (.int v2), some (.int v3), some (.int 1), some (.int (rA σ 0 ((4 + (6 * v2)) + v1)))]) K dX5_shelf_71 (by decide) (Nat.le_of_ble_eq_true rfl) rfl ?_
          refine q_aload_n (pc := 73) K dX5_shelf_73 rfl rfl ?_
          refine q_get (pc := 74) (o := 0) (f := 0) (v := .ref (gad G 0)) K (wO_m hG) vw_4 iwX5_shelf_X5 (by decide) mX5_shelf_f9 rfl dX5_shelf_74 ?_
          refine q_iconst (pc := 77) (v := 4) K dX5_shelf_77 (by decide) ?_
          refine q_bipush (pc := 78) (v := 6) K dX5_shelf_78 (by decide) ?_
          refine q_iload_n (pc := 80) K dX5_shelf_80 rfl rfl ?_
          refine q_imul (pc := 81) K dX5_shelf_81 ?_
          refine q_iadd (pc := 82) K dX5_shelf_82 ?_
          refine q_iload_n (pc := 83) K dX5_shelf_83 rfl rfl ?_
          refine q_iadd (pc := 84) K dX5_shelf_84 ?_
          refine q_iload_n (pc := 85) K dX5_shelf_85 rfl rfl ?_
          refine q_iast (pc := 86) (a := 0) K (by rw [wna_f hG]; decide) (vinN (wlm (n := 80) hG 0 rfl) (by omega) (by omega)) dX5_shelf_86 (fun s31 e32 => ?_)
          have hw33 : WM s31 := by rw [e32]; exact wmRn hw (by decide) (by omega) (by omega) (by omega) (by omega)
          have m34 := mKeep e32 (by omega)
          refine q_iload (pc := 87) K dX5_shelf_87 rfl ?_
          exact q_iret K hr dX5_shelf_89
  · have i66 := eqI c1
    refine q_iload_n (pc := 5) K dX5_shelf_5 rfl rfl ?_
    refine q_iconst (pc := 6) (v := 0) K dX5_shelf_6 (by decide) ?_
    refine q_bipush (pc := 7) (v := 99) K dX5_shelf_7 (by decide) ?_
    refine q_callSi (pc := 9) (rm := rmX5_within) K (kX5_within l hN v3 0 99 σ) gX5_shelf_X5_within rfl hdS_X5_within ⟨Nat.le_of_ble_eq_true rfl, Nat.le_of_ble_eq_true rfl⟩ rfl rfl ⟨Nat.zero_le _, Nat.zero_le _⟩ rfl rfl (Nat.le_of_ble_eq_true rfl) dX5_shelf_9 ?_
    refine q_goto (pc := 12) (tgt := 38) K dX5_shelf_12 (by decide) ?_
    refine q_istore (pc := 38) (lv' := [some (.ref (gob G 0)), some (.int v1), some (.int v2), some (.int v3), some (.int (fX5_within v3 0 99)), none]) K dX5_shelf_38 (by decide) (Nat.le_of_ble_eq_true rfl) rfl ?_
    refine q_iload_n (pc := 40) K dX5_shelf_40 rfl rfl ?_
    refine q_callSi (pc := 41) (rm := rmX5_isShelf) K (kX5_isShelf l hN v1 σ) gX5_shelf_X5_isShelf rfl hdS_X5_isShelf ⟨Nat.le_of_ble_eq_true rfl, Nat.le_of_ble_eq_true rfl⟩ rfl rfl ⟨Nat.zero_le _, Nat.zero_le _⟩ rfl rfl (Nat.le_of_ble_eq_true rfl) dX5_shelf_41 ?_
    refine q_if_eq (pc := 44) (tgt := 52) K dX5_shelf_44 (by decide) (fun c44 => ?_) (fun c44 => ?_)
    · have i62 := eqI c44
      refine q_aload_n (pc := 52) K dX5_shelf_52 rfl rfl ?_
      refine q_iconst (pc := 53) (v := 0) K dX5_shelf_53 (by decide) ?_
      refine q_callVi (pc := 54) (o := 0) (rm := rmX5_finding) K (kX5_finding l hN hG 0 σ hw (by omega)) gX5_shelf_X5_finding rfl hdV_X5_finding ⟨Nat.le_of_ble_eq_true rfl, Nat.le_of_ble_eq_true rfl⟩ rfl rfl ⟨Nat.zero_le _, Nat.zero_le _⟩ (wO_m hG) vw_4 rfl rfl (Nat.le_of_ble_eq_true rfl) dX5_shelf_54 ?_
      refine qq_nmI (fun r45 e46 => ?_)
      have hw47 : WM r45.2 := by rw [e46]; exact wX5_finding 0 hw (by omega)
      exact q_iret K hr dX5_shelf_57
    · have i63 := neI c44
      have b64 := wiS_t c44
      refine q_iload (pc := 47) K dX5_shelf_47 rfl ?_
      refine q_if_ne (pc := 49) (tgt := 58) K dX5_shelf_49 (by decide) (fun c48 => ?_) (fun c48 => ?_)
      · have i59 := neI c48
        have b60 := wi_t c48
        refine q_aload_n (pc := 58) K dX5_shelf_58 rfl rfl ?_
        refine q_get (pc := 59) (o := 0) (f := 0) (v := .ref (gad G 0)) K (wO_m hG) vw_4 iwX5_shelf_X5 (by decide) mX5_shelf_f9 rfl dX5_shelf_59 ?_
        refine q_iconst (pc := 62) (v := 4) K dX5_shelf_62 (by decide) ?_
        refine q_bipush (pc := 63) (v := 6) K dX5_shelf_63 (by decide) ?_
        refine q_iload_n (pc := 65) K dX5_shelf_65 rfl rfl ?_
        refine q_imul (pc := 66) K dX5_shelf_66 ?_
        refine q_iadd (pc := 67) K dX5_shelf_67 ?_
        refine q_iload_n (pc := 68) K dX5_shelf_68 rfl rfl ?_
        refine q_iadd (pc := 69) K dX5_shelf_69 ?_
        have a49 := mulI (x := 6) (y := v2) (by first | omega | (simp only [k6]; omega)) (by first | omega | (simp only [k6]; omega))
        simp only [k6] at a49
        have a50 := addI (x := 4) (y := (6 * v2)) (by omega) (by omega)
        have a51 := addI (x := (4 + (6 * v2))) (y := v1) (by omega) (by omega)
        refine q_iald (pc := 70) (a := 0) K (by rw [wna_f hG]; decide) (vinN (wlm (n := 80) hG 0 rfl) (by omega) (by omega)) dX5_shelf_70 ?_
        refine q_istore (pc := 71) (lv' := [some (.ref (gob G 0)), some (.int v1), some (.int v2), some (.int v3), some (.int (fX5_within v3 0 99)), some (.int (rA σ 0 ((4 + (6 * v2)) + v1)))]) K dX5_shelf_71 (by decide) (Nat.le_of_ble_eq_true rfl) rfl ?_
        refine q_aload_n (pc := 73) K dX5_shelf_73 rfl rfl ?_
        refine q_get (pc := 74) (o := 0) (f := 0) (v := .ref (gad G 0)) K (wO_m hG) vw_4 iwX5_shelf_X5 (by decide) mX5_shelf_f9 rfl dX5_shelf_74 ?_
        refine q_iconst (pc := 77) (v := 4) K dX5_shelf_77 (by decide) ?_
        refine q_bipush (pc := 78) (v := 6) K dX5_shelf_78 (by decide) ?_
        refine q_iload_n (pc := 80) K dX5_shelf_80 rfl rfl ?_
        refine q_imul (pc := 81) K dX5_shelf_81 ?_
        refine q_iadd (pc := 82) K dX5_shelf_82 ?_
        refine q_iload_n (pc := 83) K dX5_shelf_83 rfl rfl ?_
        refine q_iadd (pc := 84) K dX5_shelf_84 ?_
        refine q_iload_n (pc := 85) K dX5_shelf_85 rfl rfl ?_
        refine q_iast (pc := 86) (a := 0) K (by rw [wna_f hG]; decide) (vinN (wlm (n := 80) hG 0 rfl) (by omega) (by omega)) dX5_shelf_86 (fun s52 e53 => ?_)
        have hw54 : WM s52 := by rw [e53]; exact wmRn hw (by decide) (by omega) (by omega) (by omega) (by omega)
        have m55 := mKeep e53 (by omega)
        refine q_iload (pc := 87) K dX5_shelf_87 rfl ?_
        exact q_iret K hr dX5_shelf_89
      · have i61 := eqI c48
        refine q_aload_n (pc := 52) K dX5_shelf_52 rfl rfl ?_
        refine q_iconst (pc := 53) (v := 0) K dX5_shelf_53 (by decide) ?_
        refine q_callVi (pc := 54) (o := 0) (rm := rmX5_finding) K (kX5_finding l hN hG 0 σ hw (by omega)) gX5_shelf_X5_finding rfl hdV_X5_finding ⟨Nat.le_of_ble_eq_true rfl, Nat.le_of_ble_eq_true rfl⟩ rfl rfl ⟨Nat.zero_le _, Nat.zero_le _⟩ (wO_m hG) vw_4 rfl rfl (Nat.le_of_ble_eq_true rfl) dX5_shelf_54 ?_
        refine qq_nmI (fun r56 e57 => ?_)
        have hw58 : WM r56.2 := by rw [e57]; exact wX5_finding 0 hw (by omega)
        exact q_iret K hr dX5_shelf_57
theorem hdV_X5_summer : yX5_summer.cls = RX5 ∧ yX5_summer.cls ≠ "java/lang/invoke/MethodHandle" ∧ yX5_summer.cls ≠ "java/lang/invoke/VarHandle" ∧ (parseMethodDescriptor yX5_summer.desc).map (fun d => d.parameters.length) = some 1 := by decide +kernel
theorem mX5_summer_f9 : Cond.fieldLink RX5 9 "WaxTreatiesModel" "now" "[I" ∈ wsX5_summer := List.mem_of_getElem? (i := 1) rfl
theorem iwX5_summer_X5 : ∀ w ∈ wsX50, w ∈ wsX5_summer := fun w h => List.mem_cons_of_mem _ (List.mem_append_right _ h)
set_option maxRecDepth 100000 in
set_option maxHeartbeats 4000000 in
theorem kX5_summer (l : Launch) {G : gT} (hN : wN G) (hG : gfl G = false) (v1 : Int32) (σ : sg) (hw : WM σ) : cM l yX5_summer wsX5_summer rmX5_summer G [.ref (gob G 0), .int v1] σ (some (.int (fX5_summer v1 σ).1)) (fX5_summer v1 σ).2 := by
  refine cM_of (maxL := 3) (ret := (some .int)) (cc := cX5_summer) (fX5_summer v1 σ) RX5 hN (by decide +kernel) rfl rfl (Nat.le_of_ble_eq_true rfl) rfl ?_
  intro p e s m args below meth c K hr
  have k0 : (0 : Int32).toInt = 0 := rfl
  have k1 : (1 : Int32).toInt = 1 := rfl
  have k40 : (40 : Int32).toInt = 40 := rfl
  refine qq_st (lv' := [some (.ref (gob G 0)), some (.int v1), none]) rfl rfl rfl ?_
  refine qq_T (fX5_summer.eq_1 ..) ?_
  refine q_iload_n (pc := 0) K dX5_summer_0 rfl rfl ?_
  refine q_iconst (pc := 1) (v := 0) K dX5_summer_1 (by decide) ?_
  refine q_bipush (pc := 2) (v := 40) K dX5_summer_2 (by decide) ?_
  refine q_callSi (pc := 4) (rm := rmX5_within) K (kX5_within l hN v1 0 40 σ) gX5_summer_X5_within rfl hdS_X5_within ⟨Nat.le_of_ble_eq_true rfl, Nat.le_of_ble_eq_true rfl⟩ rfl rfl ⟨Nat.zero_le _, Nat.zero_le _⟩ rfl rfl (Nat.le_of_ble_eq_true rfl) dX5_summer_4 ?_
  refine q_if_ne (pc := 7) (tgt := 16) K dX5_summer_7 (by decide) (fun c1 => ?_) (fun c1 => ?_)
  · have i9 := neI c1
    have b10 := wi_t c1
    refine q_aload_n (pc := 16) K dX5_summer_16 rfl rfl ?_
    refine q_get (pc := 17) (o := 0) (f := 0) (v := .ref (gad G 0)) K (wO_m hG) vw_4 iwX5_summer_X5 (by decide) mX5_summer_f9 rfl dX5_summer_17 ?_
    refine q_iconst (pc := 20) (v := 1) K dX5_summer_20 (by decide) ?_
    refine q_iald (pc := 21) (a := 0) K (by rw [wna_f hG]; decide) (vinN (wlm (n := 80) hG 0 rfl) (by omega) (by omega)) dX5_summer_21 ?_
    refine q_istore_n (pc := 22) (lv' := [some (.ref (gob G 0)), some (.int v1), some (.int (rA σ 0 1))]) K dX5_summer_22 rfl (by decide) (Nat.le_of_ble_eq_true rfl) rfl ?_
    refine q_aload_n (pc := 23) K dX5_summer_23 rfl rfl ?_
    refine q_get (pc := 24) (o := 0) (f := 0) (v := .ref (gad G 0)) K (wO_m hG) vw_4 iwX5_summer_X5 (by decide) mX5_summer_f9 rfl dX5_summer_24 ?_
    refine q_iconst (pc := 27) (v := 1) K dX5_summer_27 (by decide) ?_
    refine q_iload_n (pc := 28) K dX5_summer_28 rfl rfl ?_
    refine q_iast (pc := 29) (a := 0) K (by rw [wna_f hG]; decide) (vinN (wlm (n := 80) hG 0 rfl) (by omega) (by omega)) dX5_summer_29 (fun s2 e3 => ?_)
    have hw4 : WM s2 := by rw [e3]; exact wmRn hw (by decide) (by omega) (by omega) (by omega) (by omega)
    have m5 := mKeep e3 (by omega)
    refine q_iload_n (pc := 30) K dX5_summer_30 rfl rfl ?_
    exact q_iret K hr dX5_summer_31
  · have i11 := eqI c1
    refine q_aload_n (pc := 10) K dX5_summer_10 rfl rfl ?_
    refine q_iconst (pc := 11) (v := 0) K dX5_summer_11 (by decide) ?_
    refine q_callVi (pc := 12) (o := 0) (rm := rmX5_finding) K (kX5_finding l hN hG 0 σ hw (by omega)) gX5_summer_X5_finding rfl hdV_X5_finding ⟨Nat.le_of_ble_eq_true rfl, Nat.le_of_ble_eq_true rfl⟩ rfl rfl ⟨Nat.zero_le _, Nat.zero_le _⟩ (wO_m hG) vw_4 rfl rfl (Nat.le_of_ble_eq_true rfl) dX5_summer_12 ?_
    refine qq_nmI (fun r6 e7 => ?_)
    have hw8 : WM r6.2 := by rw [e7]; exact wX5_finding 0 hw (by omega)
    exact q_iret K hr dX5_summer_15
theorem hdV_X5_sun : yX5_sun.cls = RX5 ∧ yX5_sun.cls ≠ "java/lang/invoke/MethodHandle" ∧ yX5_sun.cls ≠ "java/lang/invoke/VarHandle" ∧ (parseMethodDescriptor yX5_sun.desc).map (fun d => d.parameters.length) = some 1 := by decide +kernel
set_option maxRecDepth 100000 in
set_option maxHeartbeats 4000000 in
theorem kX5_sun (l : Launch) {G : gT} (hN : wN G) (hG : gfl G = false) (v1 : Int32) (σ : sg) (hw : WM σ) : cM l yX5_sun wsX5_sun rmX5_sun G [.ref (gob G 0), .int v1] σ (some (.int (fX5_sun v1 σ).1)) (fX5_sun v1 σ).2 := by
  refine cM_of (maxL := 2) (ret := (some .int)) (cc := cX5_sun) (fX5_sun v1 σ) RX5 hN (by decide +kernel) rfl rfl (Nat.le_of_ble_eq_true rfl) rfl ?_
  intro p e s m args below meth c K hr
  have k0 : (0 : Int32).toInt = 0 := rfl
  have k9999 : (9999 : Int32).toInt = 9999 := rfl
  refine qq_st (lv' := [some (.ref (gob G 0)), some (.int v1)]) rfl rfl rfl ?_
  refine qq_T (fX5_sun.eq_1 ..) ?_
  refine q_iload_n (pc := 0) K dX5_sun_0 rfl rfl ?_
  refine q_iconst (pc := 1) (v := 0) K dX5_sun_1 (by decide) ?_
  refine q_sipush (pc := 2) (v := 9999) K dX5_sun_2 (by decide) ?_
  refine q_callSi (pc := 5) (rm := rmX5_within) K (kX5_within l hN v1 0 9999 σ) gX5_sun_X5_within rfl hdS_X5_within ⟨Nat.le_of_ble_eq_true rfl, Nat.le_of_ble_eq_true rfl⟩ rfl rfl ⟨Nat.zero_le _, Nat.zero_le _⟩ rfl rfl (Nat.le_of_ble_eq_true rfl) dX5_sun_5 ?_
  refine q_if_eq (pc := 8) (tgt := 18) K dX5_sun_8 (by decide) (fun c1 => ?_) (fun c1 => ?_)
  · have i5 := eqI c1
    refine q_aload_n (pc := 18) K dX5_sun_18 rfl rfl ?_
    refine q_iconst (pc := 19) (v := 0) K dX5_sun_19 (by decide) ?_
    refine q_callVi (pc := 20) (o := 0) (rm := rmX5_finding) K (kX5_finding l hN hG 0 σ hw (by omega)) gX5_sun_X5_finding rfl hdV_X5_finding ⟨Nat.le_of_ble_eq_true rfl, Nat.le_of_ble_eq_true rfl⟩ rfl rfl ⟨Nat.zero_le _, Nat.zero_le _⟩ (wO_m hG) vw_4 rfl rfl (Nat.le_of_ble_eq_true rfl) dX5_sun_20 ?_
    refine qq_nmI (fun r2 e3 => ?_)
    have hw4 : WM r2.2 := by rw [e3]; exact wX5_finding 0 hw (by omega)
    exact q_iret K hr dX5_sun_23
  · have i6 := neI c1
    have b7 := wi_t c1
    refine q_iload_n (pc := 11) K dX5_sun_11 rfl rfl ?_
    refine q_callSi (pc := 12) (rm := rmX5_sunAt) K (kX5_sunAt l hN v1 σ) gX5_sun_X5_sunAt rfl hdS_X5_sunAt ⟨Nat.le_of_ble_eq_true rfl, Nat.le_of_ble_eq_true rfl⟩ rfl rfl ⟨Nat.zero_le _, Nat.zero_le _⟩ rfl rfl (Nat.le_of_ble_eq_true rfl) dX5_sun_12 ?_
    refine q_goto (pc := 15) (tgt := 23) K dX5_sun_15 (by decide) ?_
    exact q_iret K hr dX5_sun_23
theorem hdV_X5_heat : yX5_heat.cls = RX5 ∧ yX5_heat.cls ≠ "java/lang/invoke/MethodHandle" ∧ yX5_heat.cls ≠ "java/lang/invoke/VarHandle" ∧ (parseMethodDescriptor yX5_heat.desc).map (fun d => d.parameters.length) = some 2 := by decide +kernel
theorem mX5_heat_f9 : Cond.fieldLink RX5 9 "WaxTreatiesModel" "now" "[I" ∈ wsX5_heat := List.mem_of_getElem? (i := 1) rfl
theorem iwX5_heat_X5 : ∀ w ∈ wsX50, w ∈ wsX5_heat := fun w h => List.mem_cons_of_mem _ (List.mem_append_right _ h)
set_option maxRecDepth 100000 in
set_option maxHeartbeats 4000000 in
theorem kX5_heat (l : Launch) {G : gT} (hN : wN G) (hG : gfl G = false) (v1 : Int32) (v2 : Int32) (σ : sg) (hw : WM σ) : cM l yX5_heat wsX5_heat rmX5_heat G [.ref (gob G 0), .int v1, .int v2] σ (some (.int (fX5_heat v1 v2 σ).1)) (fX5_heat v1 v2 σ).2 := by
  refine cM_of (maxL := 3) (ret := (some .int)) (cc := cX5_heat) (fX5_heat v1 v2 σ) RX5 hN (by decide +kernel) rfl rfl (Nat.le_of_ble_eq_true rfl) rfl ?_
  intro p e s m args below meth c K hr
  have k0 : (0 : Int32).toInt = 0 := rfl
  have k9999 : (9999 : Int32).toInt = 9999 := rfl
  refine qq_st (lv' := [some (.ref (gob G 0)), some (.int v1), some (.int v2)]) rfl rfl rfl ?_
  refine qq_T (fX5_heat.eq_1 ..) ?_
  refine q_iload_n (pc := 0) K dX5_heat_0 rfl rfl ?_
  refine q_callSi (pc := 1) (rm := rmX5_isShelf) K (kX5_isShelf l hN v1 σ) gX5_heat_X5_isShelf rfl hdS_X5_isShelf ⟨Nat.le_of_ble_eq_true rfl, Nat.le_of_ble_eq_true rfl⟩ rfl rfl ⟨Nat.zero_le _, Nat.zero_le _⟩ rfl rfl (Nat.le_of_ble_eq_true rfl) dX5_heat_1 ?_
  refine q_if_eq (pc := 4) (tgt := 30) K dX5_heat_4 (by decide) (fun c1 => ?_) (fun c1 => ?_)
  · have i12 := eqI c1
    refine q_aload_n (pc := 30) K dX5_heat_30 rfl rfl ?_
    refine q_iconst (pc := 31) (v := 0) K dX5_heat_31 (by decide) ?_
    refine q_callVi (pc := 32) (o := 0) (rm := rmX5_finding) K (kX5_finding l hN hG 0 σ hw (by omega)) gX5_heat_X5_finding rfl hdV_X5_finding ⟨Nat.le_of_ble_eq_true rfl, Nat.le_of_ble_eq_true rfl⟩ rfl rfl ⟨Nat.zero_le _, Nat.zero_le _⟩ (wO_m hG) vw_4 rfl rfl (Nat.le_of_ble_eq_true rfl) dX5_heat_32 ?_
    refine qq_nmI (fun r2 e3 => ?_)
    have hw4 : WM r2.2 := by rw [e3]; exact wX5_finding 0 hw (by omega)
    exact q_iret K hr dX5_heat_35
  · have i13 := neI c1
    have b14 := wiS_t c1
    refine q_iload_n (pc := 7) K dX5_heat_7 rfl rfl ?_
    refine q_iconst (pc := 8) (v := 0) K dX5_heat_8 (by decide) ?_
    refine q_sipush (pc := 9) (v := 9999) K dX5_heat_9 (by decide) ?_
    refine q_callSi (pc := 12) (rm := rmX5_within) K (kX5_within l hN v2 0 9999 σ) gX5_heat_X5_within rfl hdS_X5_within ⟨Nat.le_of_ble_eq_true rfl, Nat.le_of_ble_eq_true rfl⟩ rfl rfl ⟨Nat.zero_le _, Nat.zero_le _⟩ rfl rfl (Nat.le_of_ble_eq_true rfl) dX5_heat_12 ?_
    refine q_if_eq (pc := 15) (tgt := 30) K dX5_heat_15 (by decide) (fun c5 => ?_) (fun c5 => ?_)
    · have i9 := eqI c5
      refine q_aload_n (pc := 30) K dX5_heat_30 rfl rfl ?_
      refine q_iconst (pc := 31) (v := 0) K dX5_heat_31 (by decide) ?_
      refine q_callVi (pc := 32) (o := 0) (rm := rmX5_finding) K (kX5_finding l hN hG 0 σ hw (by omega)) gX5_heat_X5_finding rfl hdV_X5_finding ⟨Nat.le_of_ble_eq_true rfl, Nat.le_of_ble_eq_true rfl⟩ rfl rfl ⟨Nat.zero_le _, Nat.zero_le _⟩ (wO_m hG) vw_4 rfl rfl (Nat.le_of_ble_eq_true rfl) dX5_heat_32 ?_
      refine qq_nmI (fun r6 e7 => ?_)
      have hw8 : WM r6.2 := by rw [e7]; exact wX5_finding 0 hw (by omega)
      exact q_iret K hr dX5_heat_35
    · have i10 := neI c5
      have b11 := wi_t c5
      refine q_aload_n (pc := 18) K dX5_heat_18 rfl rfl ?_
      refine q_get (pc := 19) (o := 0) (f := 0) (v := .ref (gad G 0)) K (wO_m hG) vw_4 iwX5_heat_X5 (by decide) mX5_heat_f9 rfl dX5_heat_19 ?_
      refine q_iload_n (pc := 22) K dX5_heat_22 rfl rfl ?_
      refine q_iload_n (pc := 23) K dX5_heat_23 rfl rfl ?_
      refine q_callSi (pc := 24) (rm := rmX5_heatOf) K (kX5_heatOf l hN hG 0 (by decide) v1 v2 σ hw (by omega)) gX5_heat_X5_heatOf rfl hdS_X5_heatOf ⟨Nat.le_of_ble_eq_true rfl, Nat.le_of_ble_eq_true rfl⟩ rfl rfl ⟨Nat.zero_le _, Nat.zero_le _⟩ rfl rfl (Nat.le_of_ble_eq_true rfl) dX5_heat_24 ?_
      refine q_goto (pc := 27) (tgt := 35) K dX5_heat_27 (by decide) ?_
      exact q_iret K hr dX5_heat_35
theorem hdV_X5_lie : yX5_lie.cls = RX5 ∧ yX5_lie.cls ≠ "java/lang/invoke/MethodHandle" ∧ yX5_lie.cls ≠ "java/lang/invoke/VarHandle" ∧ (parseMethodDescriptor yX5_lie.desc).map (fun d => d.parameters.length) = some 1 := by decide +kernel
theorem mX5_lie_f9 : Cond.fieldLink RX5 9 "WaxTreatiesModel" "now" "[I" ∈ wsX5_lie := List.mem_of_getElem? (i := 1) rfl
theorem iwX5_lie_X5 : ∀ w ∈ wsX50, w ∈ wsX5_lie := fun w h => List.mem_cons_of_mem _ (List.mem_append_right _ h)
set_option maxRecDepth 100000 in
set_option maxHeartbeats 4000000 in
theorem lX5_lie_17 {p : Program} (l : Launch) {e : Env} {s : State} {m : MethodId} {args : Array Value} {below : List Frame} {meth : Method} {c : Code} {Q : State → Prop} {G : gT} (hN : wN G) (hG : gfl G = false) (K : qK p s m args meth c cX5_lie 4 RX5 wsX5_lie G) : ∀ (k : Nat) (v1 v2 v3 : Int32) (σ : sg) (hw : WM σ) (hv3 : 0 ≤ v3.toInt ∧ v3.toInt ≤ 8) (hmu : (8 - v3.toInt).toNat < k) {ρ : Type} {E : ρ → Prop} {f : Int32 → ρ} (hk : ∀ r : Int32, qq p l e (headSpec wsX5_lie rmX5_lie).room s m args below meth c Q 4 G E (f r) 56 [none, none, some (.int r), none] [] σ), qq p l e (headSpec wsX5_lie rmX5_lie).room s m args below meth c Q 4 G E (bnd (LX5_lie_17 k v1 v2 v3 σ) f) 17 [some (.ref (gob G 0)), some (.int v1), some (.int v2), some (.int v3)] [] σ := by
  intro k
  induction k with
  | zero => intro v1 v2 v3 σ hw hv3 hmu ρ E f hk; exact absurd hmu (Nat.not_lt_zero _)
  | succ k ih =>
    intro v1 v2 v3 σ hw hv3 hmu ρ E f hk
    have k0 : (0 : Int32).toInt = 0 := rfl
    have k1 : (1 : Int32).toInt = 1 := rfl
    have k40 : (40 : Int32).toInt = 40 := rfl
    refine qq_in ?_
    refine qq_T (LX5_lie_17.eq_2 ..) ?_
    refine q_iload_n (pc := 17) K dX5_lie_17 rfl rfl ?_
    refine q_aload_n (pc := 18) K dX5_lie_18 rfl rfl ?_
    refine q_get (pc := 19) (o := 0) (f := 0) (v := .ref (gad G 0)) K (wO_m hG) vw_4 iwX5_lie_X5 (by decide) mX5_lie_f9 rfl dX5_lie_19 ?_
    refine q_iconst (pc := 22) (v := 0) K dX5_lie_22 (by decide) ?_
    refine q_iald (pc := 23) (a := 0) K (by rw [wna_f hG]; decide) (vinN (wlm (n := 80) hG 0 rfl) (by omega) (by omega)) dX5_lie_23 ?_
    have w2 := wm_many hw (show 0 < 4 by decide)
    refine q_icmp_ge (pc := 24) (tgt := 56) K dX5_lie_24 (by decide) (fun c3 => ?_) (fun c3 => ?_)
    · have i11 := leI c3
      refine qq_drop 0 (lv' := [none, some (.int v1), some (.int v2), some (.int v3)]) rfl ?_
      refine qq_drop 1 (lv' := [none, none, some (.int v2), some (.int v3)]) rfl ?_
      refine qq_drop 3 (lv' := [none, none, some (.int v2), none]) rfl ?_
      exact qq_leaf (hk v2)
    · have i12 := nleI c3
      refine q_iload_n (pc := 27) K dX5_lie_27 rfl rfl ?_
      refine q_aload_n (pc := 28) K dX5_lie_28 rfl rfl ?_
      refine q_get (pc := 29) (o := 0) (f := 0) (v := .ref (gad G 0)) K (wO_m hG) vw_4 iwX5_lie_X5 (by decide) mX5_lie_f9 rfl dX5_lie_29 ?_
      refine q_bipush (pc := 32) (v := 40) K dX5_lie_32 (by decide) ?_
      refine q_iload_n (pc := 34) K dX5_lie_34 rfl rfl ?_
      refine q_iadd (pc := 35) K dX5_lie_35 ?_
      have a4 := addI (x := 40) (y := v3) (by omega) (by omega)
      refine q_iald (pc := 36) (a := 0) K (by rw [wna_f hG]; decide) (vinN (wlm (n := 80) hG 0 rfl) (by omega) (by omega)) dX5_lie_36 ?_
      have w5 := wm_shelf hw (show 0 < 4 by decide) v3 (by omega) (by omega)
      refine q_iload_n (pc := 37) K dX5_lie_37 rfl rfl ?_
      refine q_icmp_ne (pc := 38) (tgt := 47) K dX5_lie_38 (by decide) (fun c6 => ?_) (fun c6 => ?_)
      · have i9 := neI c6
        refine q_iconst (pc := 47) (v := 0) K dX5_lie_47 (by decide) ?_
        refine q_ior (pc := 48) K dX5_lie_48 ?_
        refine q_istore_n (pc := 49) (lv' := [some (.ref (gob G 0)), some (.int v1), some (.int (v2 ||| 0)), some (.int v3)]) K dX5_lie_49 rfl (by decide) (Nat.le_of_ble_eq_true rfl) rfl ?_
        refine q_iinc (pc := 50) (v := (v3 + 1)) (lv' := [some (.ref (gob G 0)), some (.int v1), some (.int (v2 ||| 0)), some (.int (v3 + 1))]) K dX5_lie_50 rfl rfl (by decide) rfl ?_
        refine q_goto (pc := 53) (tgt := 17) K dX5_lie_53 (by decide) ?_
        have a7 := addI (x := v3) (y := 1) (by omega) (by omega)
        exact qq_out (ih v1 (v2 ||| 0) (v3 + 1) σ hw (by omega) (by omega) hk)
      · have i10 := eqI c6
        refine q_iconst (pc := 41) (v := 1) K dX5_lie_41 (by decide) ?_
        refine q_iload_n (pc := 42) K dX5_lie_42 rfl rfl ?_
        refine q_ishl (pc := 43) K dX5_lie_43 ?_
        refine q_goto (pc := 44) (tgt := 48) K dX5_lie_44 (by decide) ?_
        refine q_ior (pc := 48) K dX5_lie_48 ?_
        refine q_istore_n (pc := 49) (lv' := [some (.ref (gob G 0)), some (.int v1), some (.int (v2 ||| (jshl 1 v3))), some (.int v3)]) K dX5_lie_49 rfl (by decide) (Nat.le_of_ble_eq_true rfl) rfl ?_
        refine q_iinc (pc := 50) (v := (v3 + 1)) (lv' := [some (.ref (gob G 0)), some (.int v1), some (.int (v2 ||| (jshl 1 v3))), some (.int (v3 + 1))]) K dX5_lie_50 rfl rfl (by decide) rfl ?_
        refine q_goto (pc := 53) (tgt := 17) K dX5_lie_53 (by decide) ?_
        have a8 := addI (x := v3) (y := 1) (by omega) (by omega)
        exact qq_out (ih v1 (v2 ||| (jshl 1 v3)) (v3 + 1) σ hw (by omega) (by omega) hk)
set_option maxRecDepth 100000 in
set_option maxHeartbeats 4000000 in
theorem kX5_lie (l : Launch) {G : gT} (hN : wN G) (hG : gfl G = false) (v1 : Int32) (σ : sg) (hw : WM σ) : cM l yX5_lie wsX5_lie rmX5_lie G [.ref (gob G 0), .int v1] σ (some (.int (fX5_lie v1 σ).1)) (fX5_lie v1 σ).2 := by
  refine cM_of (maxL := 4) (ret := (some .int)) (cc := cX5_lie) (fX5_lie v1 σ) RX5 hN (by decide +kernel) rfl rfl (Nat.le_of_ble_eq_true rfl) rfl ?_
  intro p e s m args below meth c K hr
  have k0 : (0 : Int32).toInt = 0 := rfl
  refine qq_st (lv' := [some (.ref (gob G 0)), some (.int v1), none, none]) rfl rfl rfl ?_
  refine qq_T (fX5_lie.eq_1 ..) ?_
  refine q_iload_n (pc := 0) K dX5_lie_0 rfl rfl ?_
  refine q_callSi (pc := 1) (rm := rmX5_isShelf) K (kX5_isShelf l hN v1 σ) gX5_lie_X5_isShelf rfl hdS_X5_isShelf ⟨Nat.le_of_ble_eq_true rfl, Nat.le_of_ble_eq_true rfl⟩ rfl rfl ⟨Nat.zero_le _, Nat.zero_le _⟩ rfl rfl (Nat.le_of_ble_eq_true rfl) dX5_lie_1 ?_
  refine q_if_ne (pc := 4) (tgt := 13) K dX5_lie_4 (by decide) (fun c1 => ?_) (fun c1 => ?_)
  · have i18 := neI c1
    have b19 := wiS_t c1
    refine q_iconst (pc := 13) (v := 0) K dX5_lie_13 (by decide) ?_
    refine q_istore_n (pc := 14) (lv' := [some (.ref (gob G 0)), some (.int v1), some (.int 0), none]) K dX5_lie_14 rfl (by decide) (Nat.le_of_ble_eq_true rfl) rfl ?_
    refine q_iconst (pc := 15) (v := 0) K dX5_lie_15 (by decide) ?_
    refine q_istore_n (pc := 16) (lv' := [some (.ref (gob G 0)), some (.int v1), some (.int 0), some (.int 0)]) K dX5_lie_16 rfl (by decide) (Nat.le_of_ble_eq_true rfl) rfl ?_
    refine lX5_lie_17 l hN hG K 9 v1 0 0 σ hw (by omega) (by omega) (fun r13 => ?_)
    refine q_iload_n (pc := 56) K dX5_lie_56 rfl rfl ?_
    exact q_iret K hr dX5_lie_57
  · have i20 := eqI c1
    refine q_aload_n (pc := 7) K dX5_lie_7 rfl rfl ?_
    refine q_iconst (pc := 8) (v := 0) K dX5_lie_8 (by decide) ?_
    refine q_callVi (pc := 9) (o := 0) (rm := rmX5_finding) K (kX5_finding l hN hG 0 σ hw (by omega)) gX5_lie_X5_finding rfl hdV_X5_finding ⟨Nat.le_of_ble_eq_true rfl, Nat.le_of_ble_eq_true rfl⟩ rfl rfl ⟨Nat.zero_le _, Nat.zero_le _⟩ (wO_m hG) vw_4 rfl rfl (Nat.le_of_ble_eq_true rfl) dX5_lie_9 ?_
    refine qq_nmI (fun r15 e16 => ?_)
    have hw17 : WM r15.2 := by rw [e16]; exact wX5_finding 0 hw (by omega)
    exact q_iret K hr dX5_lie_12
theorem hdV_X5_hours : yX5_hours.cls = RX5 ∧ yX5_hours.cls ≠ "java/lang/invoke/MethodHandle" ∧ yX5_hours.cls ≠ "java/lang/invoke/VarHandle" ∧ (parseMethodDescriptor yX5_hours.desc).map (fun d => d.parameters.length) = some 1 := by decide +kernel
theorem mX5_hours_f9 : Cond.fieldLink RX5 9 "WaxTreatiesModel" "now" "[I" ∈ wsX5_hours := List.mem_of_getElem? (i := 1) rfl
theorem iwX5_hours_X5 : ∀ w ∈ wsX50, w ∈ wsX5_hours := fun w h => List.mem_cons_of_mem _ (List.mem_append_right _ h)
set_option maxRecDepth 100000 in
set_option maxHeartbeats 4000000 in
theorem lX5_hours_34 {p : Program} (l : Launch) {e : Env} {s : State} {m : MethodId} {args : Array Value} {below : List Frame} {meth : Method} {c : Code} {Q : State → Prop} {G : gT} (hN : wN G) (hG : gfl G = false) (K : qK p s m args meth c cX5_hours 4 RX5 wsX5_hours G) : ∀ (k : Nat) (v1 v2 v3 : Int32) (σ : sg) (hw : WM σ) (hv3 : 0 ≤ v3.toInt ∧ v3.toInt ≤ 100) (hn1 : v1.toInt ≤ 100) (hmu : (100 - v3.toInt).toNat < k) {ρ : Type} {E : ρ → Prop} {f : Int32 × sg → ρ} (hk : ∀ r : Int32 × sg, (WM r.2) → qq p l e (headSpec wsX5_hours rmX5_hours).room s m args below meth c Q 4 G E (f r) 56 [none, none, some (.int r.1), none] [] r.2), qq p l e (headSpec wsX5_hours rmX5_hours).room s m args below meth c Q 4 G E (bnd (LX5_hours_34 k v1 v2 v3 σ) f) 34 [some (.ref (gob G 0)), some (.int v1), some (.int v2), some (.int v3)] [] σ := by
  intro k
  induction k with
  | zero => intro v1 v2 v3 σ hw hv3 hn1 hmu ρ E f hk; exact absurd hmu (Nat.not_lt_zero _)
  | succ k ih =>
    intro v1 v2 v3 σ hw hv3 hn1 hmu ρ E f hk
    have k0 : (0 : Int32).toInt = 0 := rfl
    have k1 : (1 : Int32).toInt = 1 := rfl
    refine qq_in ?_
    refine qq_T (LX5_hours_34.eq_2 ..) ?_
    refine q_iload_n (pc := 34) K dX5_hours_34 rfl rfl ?_
    refine q_iload_n (pc := 35) K dX5_hours_35 rfl rfl ?_
    refine q_icmp_ge (pc := 36) (tgt := 56) K dX5_hours_36 (by decide) (fun c3 => ?_) (fun c3 => ?_)
    · have i8 := leI c3
      refine qq_drop 0 (lv' := [none, some (.int v1), some (.int v2), some (.int v3)]) rfl ?_
      refine qq_drop 1 (lv' := [none, none, some (.int v2), some (.int v3)]) rfl ?_
      refine qq_drop 3 (lv' := [none, none, some (.int v2), none]) rfl ?_
      exact qq_leaf (hk (v2, σ) hw)
    · have i9 := nleI c3
      refine q_iload_n (pc := 39) K dX5_hours_39 rfl rfl ?_
      refine q_aload_n (pc := 40) K dX5_hours_40 rfl rfl ?_
      refine q_aload_n (pc := 41) K dX5_hours_41 rfl rfl ?_
      refine q_get (pc := 42) (o := 0) (f := 0) (v := .ref (gad G 0)) K (wO_m hG) vw_4 iwX5_hours_X5 (by decide) mX5_hours_f9 rfl dX5_hours_42 ?_
      refine q_callVi (pc := 45) (o := 0) (rm := rmX5_anHour) K (kX5_anHour l hN hG 0 (by decide) σ hw) gX5_hours_X5_anHour rfl hdV_X5_anHour ⟨Nat.le_of_ble_eq_true rfl, Nat.le_of_ble_eq_true rfl⟩ rfl rfl ⟨Nat.zero_le _, Nat.zero_le _⟩ (wO_m hG) vw_4 rfl rfl (Nat.le_of_ble_eq_true rfl) dX5_hours_45 ?_
      refine qq_nmI (fun r4 e5 => ?_)
      have hw6 : WM r4.2 := by rw [e5]; exact wX5_anHour 0 (by decide) hw 
      have me5 := manyA (show 0 < 4 by decide) e5
      refine q_iadd (pc := 48) K dX5_hours_48 ?_
      refine q_istore_n (pc := 49) (lv' := [some (.ref (gob G 0)), some (.int v1), some (.int (v2 + r4.1)), some (.int v3)]) K dX5_hours_49 rfl (by decide) (Nat.le_of_ble_eq_true rfl) rfl ?_
      refine q_iinc (pc := 50) (v := (v3 + 1)) (lv' := [some (.ref (gob G 0)), some (.int v1), some (.int (v2 + r4.1)), some (.int (v3 + 1))]) K dX5_hours_50 rfl rfl (by decide) rfl ?_
      refine q_goto (pc := 53) (tgt := 34) K dX5_hours_53 (by decide) ?_
      have a7 := addI (x := v3) (y := 1) (by omega) (by omega)
      exact qq_out (ih v1 (v2 + r4.1) (v3 + 1) r4.2 hw6 (by omega) (by omega) (by omega) hk)
set_option maxRecDepth 100000 in
set_option maxHeartbeats 4000000 in
theorem kX5_hours (l : Launch) {G : gT} (hN : wN G) (hG : gfl G = false) (v1 : Int32) (σ : sg) (hw : WM σ) : cM l yX5_hours wsX5_hours rmX5_hours G [.ref (gob G 0), .int v1] σ (some (.int (fX5_hours v1 σ).1)) (fX5_hours v1 σ).2 := by
  refine cM_of (maxL := 4) (ret := (some .int)) (cc := cX5_hours) (fX5_hours v1 σ) RX5 hN (by decide +kernel) rfl rfl (Nat.le_of_ble_eq_true rfl) rfl ?_
  intro p e s m args below meth c K hr
  have k0 : (0 : Int32).toInt = 0 := rfl
  have k1 : (1 : Int32).toInt = 1 := rfl
  have k4 : (4 : Int32).toInt = 4 := rfl
  have k100 : (100 : Int32).toInt = 100 := rfl
  refine qq_st (lv' := [some (.ref (gob G 0)), some (.int v1), none, none]) rfl rfl rfl ?_
  refine qq_T (fX5_hours.eq_1 ..) ?_
  refine q_iload_n (pc := 0) K dX5_hours_0 rfl rfl ?_
  refine q_iconst (pc := 1) (v := 1) K dX5_hours_1 (by decide) ?_
  refine q_bipush (pc := 2) (v := 100) K dX5_hours_2 (by decide) ?_
  refine q_callSi (pc := 4) (rm := rmX5_within) K (kX5_within l hN v1 1 100 σ) gX5_hours_X5_within rfl hdS_X5_within ⟨Nat.le_of_ble_eq_true rfl, Nat.le_of_ble_eq_true rfl⟩ rfl rfl ⟨Nat.zero_le _, Nat.zero_le _⟩ rfl rfl (Nat.le_of_ble_eq_true rfl) dX5_hours_4 ?_
  refine q_if_ne (pc := 7) (tgt := 16) K dX5_hours_7 (by decide) (fun c1 => ?_) (fun c1 => ?_)
  · have i21 := neI c1
    have b22 := wi_t c1
    refine q_aload_n (pc := 16) K dX5_hours_16 rfl rfl ?_
    refine q_iload_n (pc := 17) K dX5_hours_17 rfl rfl ?_
    refine q_callVi (pc := 18) (o := 0) (rm := rmX5_isTime) K (kX5_isTime l hN hG v1 σ hw) gX5_hours_X5_isTime rfl hdV_X5_isTime ⟨Nat.le_of_ble_eq_true rfl, Nat.le_of_ble_eq_true rfl⟩ rfl rfl ⟨Nat.zero_le _, Nat.zero_le _⟩ (wO_m hG) vw_4 rfl rfl (Nat.le_of_ble_eq_true rfl) dX5_hours_18 ?_
    refine q_if_ne (pc := 21) (tgt := 30) K dX5_hours_21 (by decide) (fun c2 => ?_) (fun c2 => ?_)
    · have i16 := neI c2
      refine q_iconst (pc := 30) (v := 0) K dX5_hours_30 (by decide) ?_
      refine q_istore_n (pc := 31) (lv' := [some (.ref (gob G 0)), some (.int v1), some (.int 0), none]) K dX5_hours_31 rfl (by decide) (Nat.le_of_ble_eq_true rfl) rfl ?_
      refine q_iconst (pc := 32) (v := 0) K dX5_hours_32 (by decide) ?_
      refine q_istore_n (pc := 33) (lv' := [some (.ref (gob G 0)), some (.int v1), some (.int 0), some (.int 0)]) K dX5_hours_33 rfl (by decide) (Nat.le_of_ble_eq_true rfl) rfl ?_
      refine lX5_hours_34 l hN hG K 101 v1 0 0 σ hw (by omega) (by omega) (by omega) (fun r10 hw12 => ?_)
      refine q_iload_n (pc := 56) K dX5_hours_56 rfl rfl ?_
      exact q_iret K hr dX5_hours_57
    · have i17 := eqI c2
      refine q_aload_n (pc := 24) K dX5_hours_24 rfl rfl ?_
      refine q_iconst (pc := 25) (v := 4) K dX5_hours_25 (by decide) ?_
      refine q_callVi (pc := 26) (o := 0) (rm := rmX5_finding) K (kX5_finding l hN hG 4 σ hw (by omega)) gX5_hours_X5_finding rfl hdV_X5_finding ⟨Nat.le_of_ble_eq_true rfl, Nat.le_of_ble_eq_true rfl⟩ rfl rfl ⟨Nat.zero_le _, Nat.zero_le _⟩ (wO_m hG) vw_4 rfl rfl (Nat.le_of_ble_eq_true rfl) dX5_hours_26 ?_
      refine qq_nmI (fun r13 e14 => ?_)
      have hw15 : WM r13.2 := by rw [e14]; exact wX5_finding 4 hw (by omega)
      exact q_iret K hr dX5_hours_29
  · have i23 := eqI c1
    refine q_aload_n (pc := 10) K dX5_hours_10 rfl rfl ?_
    refine q_iconst (pc := 11) (v := 0) K dX5_hours_11 (by decide) ?_
    refine q_callVi (pc := 12) (o := 0) (rm := rmX5_finding) K (kX5_finding l hN hG 0 σ hw (by omega)) gX5_hours_X5_finding rfl hdV_X5_finding ⟨Nat.le_of_ble_eq_true rfl, Nat.le_of_ble_eq_true rfl⟩ rfl rfl ⟨Nat.zero_le _, Nat.zero_le _⟩ (wO_m hG) vw_4 rfl rfl (Nat.le_of_ble_eq_true rfl) dX5_hours_12 ?_
    refine qq_nmI (fun r18 e19 => ?_)
    have hw20 : WM r18.2 := by rw [e19]; exact wX5_finding 0 hw (by omega)
    exact q_iret K hr dX5_hours_15
theorem hdV_X5_hottest : yX5_hottest.cls = RX5 ∧ yX5_hottest.cls ≠ "java/lang/invoke/MethodHandle" ∧ yX5_hottest.cls ≠ "java/lang/invoke/VarHandle" ∧ (parseMethodDescriptor yX5_hottest.desc).map (fun d => d.parameters.length) = some 0 := by decide +kernel
theorem mX5_hottest_f9 : Cond.fieldLink RX5 9 "WaxTreatiesModel" "now" "[I" ∈ wsX5_hottest := List.mem_of_getElem? (i := 1) rfl
theorem iwX5_hottest_X5 : ∀ w ∈ wsX50, w ∈ wsX5_hottest := fun w h => List.mem_cons_of_mem _ (List.mem_append_right _ h)
set_option maxRecDepth 100000 in
set_option maxHeartbeats 4000000 in
theorem lX5_hottest_4 {p : Program} (l : Launch) {e : Env} {s : State} {m : MethodId} {args : Array Value} {below : List Frame} {meth : Method} {c : Code} {Q : State → Prop} {G : gT} (hN : wN G) (hG : gfl G = false) (K : qK p s m args meth c cX5_hottest 3 RX5 wsX5_hottest G) : ∀ (k : Nat) (v1 v2 : Int32) (σ : sg) (hw : WM σ) (hv2 : 0 ≤ v2.toInt ∧ v2.toInt ≤ 6) (hbest : 0 ≤ v1.toInt ∧ v1.toInt ≤ 5) (hmu : (6 - v2.toInt).toNat < k) {ρ : Type} {E : ρ → Prop} {f : Int32 → ρ} (hk : ∀ r : Int32, (0 ≤ r.toInt ∧ r.toInt ≤ 5) → qq p l e (headSpec wsX5_hottest rmX5_hottest).room s m args below meth c Q 3 G E (f r) 53 [none, some (.int r), none] [] σ), qq p l e (headSpec wsX5_hottest rmX5_hottest).room s m args below meth c Q 3 G E (bnd (LX5_hottest_4 k v1 v2 σ) f) 4 [some (.ref (gob G 0)), some (.int v1), some (.int v2)] [] σ := by
  intro k
  induction k with
  | zero => intro v1 v2 σ hw hv2 hbest hmu ρ E f hk; exact absurd hmu (Nat.not_lt_zero _)
  | succ k ih =>
    intro v1 v2 σ hw hv2 hbest hmu ρ E f hk
    have k0 : (0 : Int32).toInt = 0 := rfl
    have k1 : (1 : Int32).toInt = 1 := rfl
    have k2 : (2 : Int32).toInt = 2 := rfl
    have k6 : (6 : Int32).toInt = 6 := rfl
    refine qq_in ?_
    refine qq_T (LX5_hottest_4.eq_2 ..) ?_
    refine q_iload_n (pc := 4) K dX5_hottest_4 rfl rfl ?_
    refine q_bipush (pc := 5) (v := 6) K dX5_hottest_5 (by decide) ?_
    refine q_icmp_ge (pc := 7) (tgt := 53) K dX5_hottest_7 (by decide) (fun c1 => ?_) (fun c1 => ?_)
    · have i7 := leI c1
      refine qq_drop 0 (lv' := [none, some (.int v1), some (.int v2)]) rfl ?_
      refine qq_drop 2 (lv' := [none, some (.int v1), none]) rfl ?_
      exact qq_leaf (hk v1 (by omega))
    · have i8 := nleI c1
      refine q_aload_n (pc := 10) K dX5_hottest_10 rfl rfl ?_
      refine q_get (pc := 11) (o := 0) (f := 0) (v := .ref (gad G 0)) K (wO_m hG) vw_4 iwX5_hottest_X5 (by decide) mX5_hottest_f9 rfl dX5_hottest_11 ?_
      refine q_iload_n (pc := 14) K dX5_hottest_14 rfl rfl ?_
      refine q_aload_n (pc := 15) K dX5_hottest_15 rfl rfl ?_
      refine q_get (pc := 16) (o := 0) (f := 0) (v := .ref (gad G 0)) K (wO_m hG) vw_4 iwX5_hottest_X5 (by decide) mX5_hottest_f9 rfl dX5_hottest_16 ?_
      refine q_iconst (pc := 19) (v := 2) K dX5_hottest_19 (by decide) ?_
      refine q_iald (pc := 20) (a := 0) K (by rw [wna_f hG]; decide) (vinN (wlm (n := 80) hG 0 rfl) (by omega) (by omega)) dX5_hottest_20 ?_
      refine q_callSi (pc := 21) (rm := rmX5_heatOf) K (kX5_heatOf l hN hG 0 (by decide) v2 (rA σ 0 2) σ hw (by omega)) gX5_hottest_X5_heatOf rfl hdS_X5_heatOf ⟨Nat.le_of_ble_eq_true rfl, Nat.le_of_ble_eq_true rfl⟩ rfl rfl ⟨Nat.zero_le _, Nat.zero_le _⟩ rfl rfl (Nat.le_of_ble_eq_true rfl) dX5_hottest_21 ?_
      refine q_aload_n (pc := 24) K dX5_hottest_24 rfl rfl ?_
      refine q_get (pc := 25) (o := 0) (f := 0) (v := .ref (gad G 0)) K (wO_m hG) vw_4 iwX5_hottest_X5 (by decide) mX5_hottest_f9 rfl dX5_hottest_25 ?_
      refine q_iload_n (pc := 28) K dX5_hottest_28 rfl rfl ?_
      refine q_aload_n (pc := 29) K dX5_hottest_29 rfl rfl ?_
      refine q_get (pc := 30) (o := 0) (f := 0) (v := .ref (gad G 0)) K (wO_m hG) vw_4 iwX5_hottest_X5 (by decide) mX5_hottest_f9 rfl dX5_hottest_30 ?_
      refine q_iconst (pc := 33) (v := 2) K dX5_hottest_33 (by decide) ?_
      refine q_iald (pc := 34) (a := 0) K (by rw [wna_f hG]; decide) (vinN (wlm (n := 80) hG 0 rfl) (by omega) (by omega)) dX5_hottest_34 ?_
      refine q_callSi (pc := 35) (rm := rmX5_heatOf) K (kX5_heatOf l hN hG 0 (by decide) v1 (rA σ 0 2) σ hw (by omega)) gX5_hottest_X5_heatOf rfl hdS_X5_heatOf ⟨Nat.le_of_ble_eq_true rfl, Nat.le_of_ble_eq_true rfl⟩ rfl rfl ⟨Nat.zero_le _, Nat.zero_le _⟩ rfl rfl (Nat.le_of_ble_eq_true rfl) dX5_hottest_35 ?_
      refine q_icmp_le (pc := 38) (tgt := 45) K dX5_hottest_38 (by decide) (fun c2 => ?_) (fun c2 => ?_)
      · have i5 := leI c2
        refine q_iload_n (pc := 45) K dX5_hottest_45 rfl rfl ?_
        refine q_istore_n (pc := 46) (lv' := [some (.ref (gob G 0)), some (.int v1), some (.int v2)]) K dX5_hottest_46 rfl (by decide) (Nat.le_of_ble_eq_true rfl) rfl ?_
        refine q_iinc (pc := 47) (v := (v2 + 1)) (lv' := [some (.ref (gob G 0)), some (.int v1), some (.int (v2 + 1))]) K dX5_hottest_47 rfl rfl (by decide) rfl ?_
        refine q_goto (pc := 50) (tgt := 4) K dX5_hottest_50 (by decide) ?_
        have a3 := addI (x := v2) (y := 1) (by omega) (by omega)
        exact qq_out (ih v1 (v2 + 1) σ hw (by omega) (by omega) (by omega) hk)
      · have i6 := nleI c2
        refine q_iload_n (pc := 41) K dX5_hottest_41 rfl rfl ?_
        refine q_goto (pc := 42) (tgt := 46) K dX5_hottest_42 (by decide) ?_
        refine q_istore_n (pc := 46) (lv' := [some (.ref (gob G 0)), some (.int v2), some (.int v2)]) K dX5_hottest_46 rfl (by decide) (Nat.le_of_ble_eq_true rfl) rfl ?_
        refine q_iinc (pc := 47) (v := (v2 + 1)) (lv' := [some (.ref (gob G 0)), some (.int v2), some (.int (v2 + 1))]) K dX5_hottest_47 rfl rfl (by decide) rfl ?_
        refine q_goto (pc := 50) (tgt := 4) K dX5_hottest_50 (by decide) ?_
        have a4 := addI (x := v2) (y := 1) (by omega) (by omega)
        exact qq_out (ih v2 (v2 + 1) σ hw (by omega) (by omega) (by omega) hk)
set_option maxRecDepth 100000 in
set_option maxHeartbeats 4000000 in
theorem kX5_hottest (l : Launch) {G : gT} (hN : wN G) (hG : gfl G = false) (σ : sg) (hw : WM σ) : cM l yX5_hottest wsX5_hottest rmX5_hottest G [.ref (gob G 0)] σ (some (.int (fX5_hottest σ))) σ := by
  refine cM_of (maxL := 3) (ret := (some .int)) (cc := cX5_hottest) (fX5_hottest σ) RX5 hN (by decide +kernel) rfl rfl (Nat.le_of_ble_eq_true rfl) rfl ?_
  intro p e s m args below meth c K hr
  have k0 : (0 : Int32).toInt = 0 := rfl
  have k1 : (1 : Int32).toInt = 1 := rfl
  refine qq_st (lv' := [some (.ref (gob G 0)), none, none]) rfl rfl rfl ?_
  refine qq_T (fX5_hottest.eq_1 ..) ?_
  refine q_iconst (pc := 0) (v := 0) K dX5_hottest_0 (by decide) ?_
  refine q_istore_n (pc := 1) (lv' := [some (.ref (gob G 0)), some (.int 0), none]) K dX5_hottest_1 rfl (by decide) (Nat.le_of_ble_eq_true rfl) rfl ?_
  refine q_iconst (pc := 2) (v := 1) K dX5_hottest_2 (by decide) ?_
  refine q_istore_n (pc := 3) (lv' := [some (.ref (gob G 0)), some (.int 0), some (.int 1)]) K dX5_hottest_3 rfl (by decide) (Nat.le_of_ble_eq_true rfl) rfl ?_
  refine lX5_hottest_4 l hN hG K 7 0 1 σ hw (by omega) (by omega) (by omega) (fun r9 x11 => ?_)
  refine q_iload_n (pc := 53) K dX5_hottest_53 rfl rfl ?_
  exact q_iretP K hr dX5_hottest_54
theorem hdV_X5_now : yX5_now.cls = RX5 ∧ yX5_now.cls ≠ "java/lang/invoke/MethodHandle" ∧ yX5_now.cls ≠ "java/lang/invoke/VarHandle" ∧ (parseMethodDescriptor yX5_now.desc).map (fun d => d.parameters.length) = some 1 := by decide +kernel
theorem mX5_now_f9 : Cond.fieldLink RX5 9 "WaxTreatiesModel" "now" "[I" ∈ wsX5_now := List.mem_of_getElem? (i := 1) rfl
theorem iwX5_now_X5 : ∀ w ∈ wsX50, w ∈ wsX5_now := fun w h => List.mem_cons_of_mem _ (List.mem_append_right _ h)
set_option maxRecDepth 100000 in
set_option maxHeartbeats 4000000 in
theorem kX5_now (l : Launch) {G : gT} (hN : wN G) (hG : gfl G = false) (v1 : Int32) (σ : sg) (hw : WM σ) : cM l yX5_now wsX5_now rmX5_now G [.ref (gob G 0), .int v1] σ (some (.int (fX5_now v1 σ).1)) (fX5_now v1 σ).2 := by
  refine cM_of (maxL := 2) (ret := (some .int)) (cc := cX5_now) (fX5_now v1 σ) RX5 hN (by decide +kernel) rfl rfl (Nat.le_of_ble_eq_true rfl) rfl ?_
  intro p e s m args below meth c K hr
  have k0 : (0 : Int32).toInt = 0 := rfl
  have k1 : (1 : Int32).toInt = 1 := rfl
  have k2 : (2 : Int32).toInt = 2 := rfl
  have k3 : (3 : Int32).toInt = 3 := rfl
  have k4 : (4 : Int32).toInt = 4 := rfl
  have k5 : (5 : Int32).toInt = 5 := rfl
  have k6 : (6 : Int32).toInt = 6 := rfl
  have k10 : (10 : Int32).toInt = 10 := rfl
  have k56 : (56 : Int32).toInt = 56 := rfl
  refine qq_st (lv' := [some (.ref (gob G 0)), some (.int v1)]) rfl rfl rfl ?_
  refine qq_T (fX5_now.eq_1 ..) ?_
  refine q_iload_n (pc := 0) K dX5_now_0 rfl rfl ?_
  refine q_case (v := 0) (fun c1 => ?_) (fun c1 => ?_)
  · have i24 := eqI c1
    refine q_tableIn (pc := 1) (tgt := 44) K dX5_now_1 c1 (by decide) (by decide) rfl (by decide) ?_
    refine q_aload_n (pc := 44) K dX5_now_44 rfl rfl ?_
    refine q_get (pc := 45) (o := 0) (f := 0) (v := .ref (gad G 0)) K (wO_m hG) vw_4 iwX5_now_X5 (by decide) mX5_now_f9 rfl dX5_now_45 ?_
    refine q_iconst (pc := 48) (v := 2) K dX5_now_48 (by decide) ?_
    refine q_iald (pc := 49) (a := 0) K (by rw [wna_f hG]; decide) (vinN (wlm (n := 80) hG 0 rfl) (by omega) (by omega)) dX5_now_49 ?_
    exact q_iret K hr dX5_now_50
  · have i25 := neI c1
    refine q_case (v := 1) (fun c2 => ?_) (fun c2 => ?_)
    · have i22 := eqI c2
      refine q_tableIn (pc := 1) (tgt := 51) K dX5_now_1 c2 (by decide) (by decide) rfl (by decide) ?_
      refine q_aload_n (pc := 51) K dX5_now_51 rfl rfl ?_
      refine q_get (pc := 52) (o := 0) (f := 0) (v := .ref (gad G 0)) K (wO_m hG) vw_4 iwX5_now_X5 (by decide) mX5_now_f9 rfl dX5_now_52 ?_
      refine q_callSi (pc := 55) (rm := rmX5_holding) K (kX5_holding l hN hG 0 (by decide) σ hw) gX5_now_X5_holding rfl hdS_X5_holding ⟨Nat.le_of_ble_eq_true rfl, Nat.le_of_ble_eq_true rfl⟩ rfl rfl ⟨Nat.zero_le _, Nat.zero_le _⟩ rfl rfl (Nat.le_of_ble_eq_true rfl) dX5_now_55 ?_
      exact q_iret K hr dX5_now_58
    · have i23 := neI c2
      refine q_case (v := 2) (fun c3 => ?_) (fun c3 => ?_)
      · have i20 := eqI c3
        refine q_tableIn (pc := 1) (tgt := 59) K dX5_now_1 c3 (by decide) (by decide) rfl (by decide) ?_
        refine q_aload_n (pc := 59) K dX5_now_59 rfl rfl ?_
        refine q_get (pc := 60) (o := 0) (f := 0) (v := .ref (gad G 0)) K (wO_m hG) vw_4 iwX5_now_X5 (by decide) mX5_now_f9 rfl dX5_now_60 ?_
        refine q_callSi (pc := 63) (rm := rmX5_ran) K (kX5_ran l hN hG 0 (by decide) σ hw) gX5_now_X5_ran rfl hdS_X5_ran ⟨Nat.le_of_ble_eq_true rfl, Nat.le_of_ble_eq_true rfl⟩ rfl rfl ⟨Nat.zero_le _, Nat.zero_le _⟩ rfl rfl (Nat.le_of_ble_eq_true rfl) dX5_now_63 ?_
        exact q_iret K hr dX5_now_66
      · have i21 := neI c3
        refine q_case (v := 3) (fun c4 => ?_) (fun c4 => ?_)
        · have i18 := eqI c4
          refine q_tableIn (pc := 1) (tgt := 67) K dX5_now_1 c4 (by decide) (by decide) rfl (by decide) ?_
          refine q_aload_n (pc := 67) K dX5_now_67 rfl rfl ?_
          refine q_get (pc := 68) (o := 0) (f := 0) (v := .ref (gad G 0)) K (wO_m hG) vw_4 iwX5_now_X5 (by decide) mX5_now_f9 rfl dX5_now_68 ?_
          refine q_bipush (pc := 71) (v := 56) K dX5_now_71 (by decide) ?_
          refine q_aload_n (pc := 73) K dX5_now_73 rfl rfl ?_
          refine q_get (pc := 74) (o := 0) (f := 0) (v := .ref (gad G 0)) K (wO_m hG) vw_4 iwX5_now_X5 (by decide) mX5_now_f9 rfl dX5_now_74 ?_
          refine q_iconst (pc := 77) (v := 0) K dX5_now_77 (by decide) ?_
          refine q_iald (pc := 78) (a := 0) K (by rw [wna_f hG]; decide) (vinN (wlm (n := 80) hG 0 rfl) (by omega) (by omega)) dX5_now_78 ?_
          have w5 := wm_many hw (show 0 < 4 by decide)
          refine q_callSi (pc := 79) (rm := rmX5_sumOf) K (kX5_sumOf l hN hG 0 (by decide) 56 (rA σ 0 0) σ hw (by omega)) gX5_now_X5_sumOf rfl hdS_X5_sumOf ⟨Nat.le_of_ble_eq_true rfl, Nat.le_of_ble_eq_true rfl⟩ rfl rfl ⟨Nat.zero_le _, Nat.zero_le _⟩ rfl rfl (Nat.le_of_ble_eq_true rfl) dX5_now_79 ?_
          exact q_iret K hr dX5_now_82
        · have i19 := neI c4
          refine q_case (v := 4) (fun c6 => ?_) (fun c6 => ?_)
          · have i16 := eqI c6
            refine q_tableIn (pc := 1) (tgt := 83) K dX5_now_1 c6 (by decide) (by decide) rfl (by decide) ?_
            refine q_aload_n (pc := 83) K dX5_now_83 rfl rfl ?_
            refine q_get (pc := 84) (o := 0) (f := 0) (v := .ref (gad G 0)) K (wO_m hG) vw_4 iwX5_now_X5 (by decide) mX5_now_f9 rfl dX5_now_84 ?_
            refine q_bipush (pc := 87) (v := 10) K dX5_now_87 (by decide) ?_
            refine q_bipush (pc := 89) (v := 6) K dX5_now_89 (by decide) ?_
            refine q_callSi (pc := 91) (rm := rmX5_sumOf) K (kX5_sumOf l hN hG 0 (by decide) 10 6 σ hw (by omega)) gX5_now_X5_sumOf rfl hdS_X5_sumOf ⟨Nat.le_of_ble_eq_true rfl, Nat.le_of_ble_eq_true rfl⟩ rfl rfl ⟨Nat.zero_le _, Nat.zero_le _⟩ rfl rfl (Nat.le_of_ble_eq_true rfl) dX5_now_91 ?_
            exact q_iret K hr dX5_now_94
          · have i17 := neI c6
            refine q_case (v := 5) (fun c7 => ?_) (fun c7 => ?_)
            · have i14 := eqI c7
              refine q_tableIn (pc := 1) (tgt := 95) K dX5_now_1 c7 (by decide) (by decide) rfl (by decide) ?_
              refine q_aload_n (pc := 95) K dX5_now_95 rfl rfl ?_
              refine q_callVi (pc := 96) (o := 0) (rm := rmX5_hottest) K (kX5_hottest l hN hG  σ hw) gX5_now_X5_hottest rfl hdV_X5_hottest ⟨Nat.le_of_ble_eq_true rfl, Nat.le_of_ble_eq_true rfl⟩ rfl rfl ⟨Nat.zero_le _, Nat.zero_le _⟩ (wO_m hG) vw_4 rfl rfl (Nat.le_of_ble_eq_true rfl) dX5_now_96 ?_
              exact q_iret K hr dX5_now_99
            · have i15 := neI c7
              refine q_case (v := 6) (fun c8 => ?_) (fun c8 => ?_)
              · have i12 := eqI c8
                refine q_tableIn (pc := 1) (tgt := 100) K dX5_now_1 c8 (by decide) (by decide) rfl (by decide) ?_
                refine q_aload_n (pc := 100) K dX5_now_100 rfl rfl ?_
                refine q_get (pc := 101) (o := 0) (f := 0) (v := .ref (gad G 0)) K (wO_m hG) vw_4 iwX5_now_X5 (by decide) mX5_now_f9 rfl dX5_now_101 ?_
                refine q_iconst (pc := 104) (v := 1) K dX5_now_104 (by decide) ?_
                refine q_iald (pc := 105) (a := 0) K (by rw [wna_f hG]; decide) (vinN (wlm (n := 80) hG 0 rfl) (by omega) (by omega)) dX5_now_105 ?_
                exact q_iret K hr dX5_now_106
              · have i13 := neI c8
                refine q_tableOut (pc := 1) (tgt := 107) K dX5_now_1 (by omega) (by decide) ?_
                refine q_aload_n (pc := 107) K dX5_now_107 rfl rfl ?_
                refine q_iconst (pc := 108) (v := 0) K dX5_now_108 (by decide) ?_
                refine q_callVi (pc := 109) (o := 0) (rm := rmX5_finding) K (kX5_finding l hN hG 0 σ hw (by omega)) gX5_now_X5_finding rfl hdV_X5_finding ⟨Nat.le_of_ble_eq_true rfl, Nat.le_of_ble_eq_true rfl⟩ rfl rfl ⟨Nat.zero_le _, Nat.zero_le _⟩ (wO_m hG) vw_4 rfl rfl (Nat.le_of_ble_eq_true rfl) dX5_now_109 ?_
                refine qq_nmI (fun r9 e10 => ?_)
                have hw11 : WM r9.2 := by rw [e10]; exact wX5_finding 0 hw (by omega)
                exact q_iret K hr dX5_now_112
theorem hdV_X5_ahead : yX5_ahead.cls = RX5 ∧ yX5_ahead.cls ≠ "java/lang/invoke/MethodHandle" ∧ yX5_ahead.cls ≠ "java/lang/invoke/VarHandle" ∧ (parseMethodDescriptor yX5_ahead.desc).map (fun d => d.parameters.length) = some 2 := by decide +kernel
theorem mX5_ahead_f9 : Cond.fieldLink RX5 9 "WaxTreatiesModel" "now" "[I" ∈ wsX5_ahead := List.mem_of_getElem? (i := 1) rfl
theorem iwX5_ahead_X5 : ∀ w ∈ wsX50, w ∈ wsX5_ahead := fun w h => List.mem_cons_of_mem _ (List.mem_append_right _ h)
theorem mX5_ahead_f16 : Cond.fieldLink RX5 16 "WaxTreatiesModel" "tried" "[I" ∈ wsX5_ahead := List.mem_of_getElem? (i := 2) rfl
set_option maxRecDepth 100000 in
set_option maxHeartbeats 4000000 in
theorem kX5_ahead (l : Launch) {G : gT} (hN : wN G) (hG : gfl G = false) (v1 : Int32) (v2 : Int32) (σ : sg) (hw : WM σ) : cM l yX5_ahead wsX5_ahead rmX5_ahead G [.ref (gob G 0), .int v1, .int v2] σ (some (.int (fX5_ahead v1 v2 σ).1)) (fX5_ahead v1 v2 σ).2 := by
  refine cM_of (maxL := 4) (ret := (some .int)) (cc := cX5_ahead) (fX5_ahead v1 v2 σ) RX5 hN (by decide +kernel) rfl rfl (Nat.le_of_ble_eq_true rfl) rfl ?_
  intro p e s m args below meth c K hr
  have k0 : (0 : Int32).toInt = 0 := rfl
  have k1 : (1 : Int32).toInt = 1 := rfl
  have k2 : (2 : Int32).toInt = 2 := rfl
  have k3 : (3 : Int32).toInt = 3 := rfl
  have k4 : (4 : Int32).toInt = 4 := rfl
  have k6 : (6 : Int32).toInt = 6 := rfl
  have k10 : (10 : Int32).toInt = 10 := rfl
  have k56 : (56 : Int32).toInt = 56 := rfl
  have k100 : (100 : Int32).toInt = 100 := rfl
  refine qq_st (lv' := [some (.ref (gob G 0)), some (.int v1), some (.int v2), none]) rfl rfl rfl ?_
  refine qq_T (fX5_ahead.eq_1 ..) ?_
  refine q_iload_n (pc := 0) K dX5_ahead_0 rfl rfl ?_
  refine q_iconst (pc := 1) (v := 0) K dX5_ahead_1 (by decide) ?_
  refine q_bipush (pc := 2) (v := 100) K dX5_ahead_2 (by decide) ?_
  refine q_callSi (pc := 4) (rm := rmX5_within) K (kX5_within l hN v1 0 100 σ) gX5_ahead_X5_within rfl hdS_X5_within ⟨Nat.le_of_ble_eq_true rfl, Nat.le_of_ble_eq_true rfl⟩ rfl rfl ⟨Nat.zero_le _, Nat.zero_le _⟩ rfl rfl (Nat.le_of_ble_eq_true rfl) dX5_ahead_4 ?_
  refine q_if_eq (pc := 7) (tgt := 26) K dX5_ahead_7 (by decide) (fun c1 => ?_) (fun c1 => ?_)
  · have i37 := eqI c1
    refine q_aload_n (pc := 26) K dX5_ahead_26 rfl rfl ?_
    refine q_iconst (pc := 27) (v := 0) K dX5_ahead_27 (by decide) ?_
    refine q_callVi (pc := 28) (o := 0) (rm := rmX5_finding) K (kX5_finding l hN hG 0 σ hw (by omega)) gX5_ahead_X5_finding rfl hdV_X5_finding ⟨Nat.le_of_ble_eq_true rfl, Nat.le_of_ble_eq_true rfl⟩ rfl rfl ⟨Nat.zero_le _, Nat.zero_le _⟩ (wO_m hG) vw_4 rfl rfl (Nat.le_of_ble_eq_true rfl) dX5_ahead_28 ?_
    refine qq_nmI (fun r2 e3 => ?_)
    have hw4 : WM r2.2 := by rw [e3]; exact wX5_finding 0 hw (by omega)
    exact q_iret K hr dX5_ahead_31
  · have i38 := neI c1
    have b39 := wi_t c1
    refine q_iload_n (pc := 10) K dX5_ahead_10 rfl rfl ?_
    refine q_iconst (pc := 11) (v := 0) K dX5_ahead_11 (by decide) ?_
    refine q_iconst (pc := 12) (v := 2) K dX5_ahead_12 (by decide) ?_
    refine q_aload_n (pc := 13) K dX5_ahead_13 rfl rfl ?_
    refine q_get (pc := 14) (o := 0) (f := 0) (v := .ref (gad G 0)) K (wO_m hG) vw_4 iwX5_ahead_X5 (by decide) mX5_ahead_f9 rfl dX5_ahead_14 ?_
    refine q_iconst (pc := 17) (v := 0) K dX5_ahead_17 (by decide) ?_
    refine q_iald (pc := 18) (a := 0) K (by rw [wna_f hG]; decide) (vinN (wlm (n := 80) hG 0 rfl) (by omega) (by omega)) dX5_ahead_18 ?_
    have w5 := wm_many hw (show 0 < 4 by decide)
    refine q_iadd (pc := 19) K dX5_ahead_19 ?_
    have a6 := addI (x := 2) (y := (rA σ 0 0)) (by omega) (by omega)
    refine q_callSi (pc := 20) (rm := rmX5_within) K (kX5_within l hN v2 0 (2 + (rA σ 0 0)) σ) gX5_ahead_X5_within rfl hdS_X5_within ⟨Nat.le_of_ble_eq_true rfl, Nat.le_of_ble_eq_true rfl⟩ rfl rfl ⟨Nat.zero_le _, Nat.zero_le _⟩ rfl rfl (Nat.le_of_ble_eq_true rfl) dX5_ahead_20 ?_
    refine q_if_ne (pc := 23) (tgt := 32) K dX5_ahead_23 (by decide) (fun c7 => ?_) (fun c7 => ?_)
    · have i34 := neI c7
      have b35 := wi_t c7
      refine q_aload_n (pc := 32) K dX5_ahead_32 rfl rfl ?_
      refine q_iload_n (pc := 33) K dX5_ahead_33 rfl rfl ?_
      refine q_callVi (pc := 34) (o := 0) (rm := rmX5_isTime) K (kX5_isTime l hN hG v1 σ hw) gX5_ahead_X5_isTime rfl hdV_X5_isTime ⟨Nat.le_of_ble_eq_true rfl, Nat.le_of_ble_eq_true rfl⟩ rfl rfl ⟨Nat.zero_le _, Nat.zero_le _⟩ (wO_m hG) vw_4 rfl rfl (Nat.le_of_ble_eq_true rfl) dX5_ahead_34 ?_
      refine q_if_ne (pc := 37) (tgt := 46) K dX5_ahead_37 (by decide) (fun c8 => ?_) (fun c8 => ?_)
      · have i29 := neI c8
        refine q_aload_n (pc := 46) K dX5_ahead_46 rfl rfl ?_
        refine q_get (pc := 47) (o := 0) (f := 0) (v := .ref (gad G 0)) K (wO_m hG) vw_4 iwX5_ahead_X5 (by decide) mX5_ahead_f9 rfl dX5_ahead_47 ?_
        refine q_aload_n (pc := 50) K dX5_ahead_50 rfl rfl ?_
        refine q_get (pc := 51) (o := 0) (f := 2) (v := .ref (gad G 2)) K (wO_m hG) vw_4 iwX5_ahead_X5 (by decide) mX5_ahead_f16 rfl dX5_ahead_51 ?_
        refine q_callSv (pc := 54) (rm := rmX5_row) K (kX5_row l hN hG 0 (by decide) 2 (by decide) σ (by omega)) gX5_ahead_X5_row rfl hdS_X5_row ⟨Nat.le_of_ble_eq_true rfl, Nat.le_of_ble_eq_true rfl⟩ rfl rfl ⟨Nat.zero_le _, Nat.zero_le _⟩ rfl rfl (Nat.le_of_ble_eq_true rfl) dX5_ahead_54 ?_
        refine qq_nmV (fun r9 e10 => ?_)
        have hw11 : WM r9 := by rw [e10]; exact wX5_row 0 (by decide) 2 (by decide) hw (by omega)
        have me10 := row0 (show 0 ≠ 2 by decide) e10
        refine q_aload_n (pc := 57) K dX5_ahead_57 rfl rfl ?_
        refine q_iload_n (pc := 58) K dX5_ahead_58 rfl rfl ?_
        refine q_callVi (pc := 59) (o := 0) (rm := rmX5_holdingBehind) K (kX5_holdingBehind l hN hG v1 r9 hw11 (by omega)) gX5_ahead_X5_holdingBehind rfl hdV_X5_holdingBehind ⟨Nat.le_of_ble_eq_true rfl, Nat.le_of_ble_eq_true rfl⟩ rfl rfl ⟨Nat.zero_le _, Nat.zero_le _⟩ (wO_m hG) vw_4 rfl rfl (Nat.le_of_ble_eq_true rfl) dX5_ahead_59 ?_
        refine qq_nmI (fun r12 e13 => ?_)
        have hw14 : WM r12.2 := by rw [e13]; exact wX5_holdingBehind v1 hw11 (by omega)
        have hbe13 := hbB hw14 e13
        have hme13 := hbm e13
        refine q_istore_n (pc := 62) (lv' := [some (.ref (gob G 0)), some (.int v1), some (.int v2), some (.int r12.1)]) K dX5_ahead_62 rfl (by decide) (Nat.le_of_ble_eq_true rfl) rfl ?_
        refine q_iload_n (pc := 63) K dX5_ahead_63 rfl rfl ?_
        refine q_if_ne (pc := 64) (tgt := 71) K dX5_ahead_64 (by decide) (fun c15 => ?_) (fun c15 => ?_)
        · have i24 := neI c15
          refine q_iload_n (pc := 71) K dX5_ahead_71 rfl rfl ?_
          refine q_iconst (pc := 72) (v := 1) K dX5_ahead_72 (by decide) ?_
          refine q_icmp_ne (pc := 73) (tgt := 86) K dX5_ahead_73 (by decide) (fun c16 => ?_) (fun c16 => ?_)
          · have i22 := neI c16
            refine q_iload_n (pc := 86) K dX5_ahead_86 rfl rfl ?_
            refine q_iconst (pc := 87) (v := 2) K dX5_ahead_87 (by decide) ?_
            refine q_icmp_ne (pc := 88) (tgt := 105) K dX5_ahead_88 (by decide) (fun c17 => ?_) (fun c17 => ?_)
            · have i20 := neI c17
              refine q_aload_n (pc := 105) K dX5_ahead_105 rfl rfl ?_
              refine q_get (pc := 106) (o := 0) (f := 2) (v := .ref (gad G 2)) K (wO_m hG) vw_4 iwX5_ahead_X5 (by decide) mX5_ahead_f16 rfl dX5_ahead_106 ?_
              refine q_bipush (pc := 109) (v := 56) K dX5_ahead_109 (by decide) ?_
              refine q_iload_n (pc := 111) K dX5_ahead_111 rfl rfl ?_
              refine q_iadd (pc := 112) K dX5_ahead_112 ?_
              refine q_iconst (pc := 113) (v := 3) K dX5_ahead_113 (by decide) ?_
              refine q_isub (pc := 114) K dX5_ahead_114 ?_
              have a18 := addI (x := 56) (y := v2) (by omega) (by omega)
              have a19 := subI (x := (56 + v2)) (y := 3) (by omega) (by omega)
              refine q_iald (pc := 115) (a := 2) K (by rw [wna_f hG]; decide) (vinN (wlm (n := 80) hG 2 rfl) (by omega) (by omega)) dX5_ahead_115 ?_
              exact q_iret K hr dX5_ahead_116
            · have i21 := eqI c17
              refine q_aload_n (pc := 91) K dX5_ahead_91 rfl rfl ?_
              refine q_get (pc := 92) (o := 0) (f := 2) (v := .ref (gad G 2)) K (wO_m hG) vw_4 iwX5_ahead_X5 (by decide) mX5_ahead_f16 rfl dX5_ahead_92 ?_
              refine q_bipush (pc := 95) (v := 10) K dX5_ahead_95 (by decide) ?_
              refine q_bipush (pc := 97) (v := 6) K dX5_ahead_97 (by decide) ?_
              refine q_callSi (pc := 99) (rm := rmX5_sumOf) K (kX5_sumOf l hN hG 2 (by decide) 10 6 r12.2 hw14 (by omega)) gX5_ahead_X5_sumOf rfl hdS_X5_sumOf ⟨Nat.le_of_ble_eq_true rfl, Nat.le_of_ble_eq_true rfl⟩ rfl rfl ⟨Nat.zero_le _, Nat.zero_le _⟩ rfl rfl (Nat.le_of_ble_eq_true rfl) dX5_ahead_99 ?_
              refine q_goto (pc := 102) (tgt := 116) K dX5_ahead_102 (by decide) ?_
              exact q_iret K hr dX5_ahead_116
          · have i23 := eqI c16
            refine q_aload_n (pc := 76) K dX5_ahead_76 rfl rfl ?_
            refine q_get (pc := 77) (o := 0) (f := 2) (v := .ref (gad G 2)) K (wO_m hG) vw_4 iwX5_ahead_X5 (by decide) mX5_ahead_f16 rfl dX5_ahead_77 ?_
            refine q_callSi (pc := 80) (rm := rmX5_ran) K (kX5_ran l hN hG 2 (by decide) r12.2 hw14) gX5_ahead_X5_ran rfl hdS_X5_ran ⟨Nat.le_of_ble_eq_true rfl, Nat.le_of_ble_eq_true rfl⟩ rfl rfl ⟨Nat.zero_le _, Nat.zero_le _⟩ rfl rfl (Nat.le_of_ble_eq_true rfl) dX5_ahead_80 ?_
            refine q_goto (pc := 83) (tgt := 116) K dX5_ahead_83 (by decide) ?_
            exact q_iret K hr dX5_ahead_116
        · have i25 := eqI c15
          refine q_iload_n (pc := 67) K dX5_ahead_67 rfl rfl ?_
          refine q_goto (pc := 68) (tgt := 116) K dX5_ahead_68 (by decide) ?_
          exact q_iret K hr dX5_ahead_116
      · have i30 := eqI c8
        refine q_aload_n (pc := 40) K dX5_ahead_40 rfl rfl ?_
        refine q_iconst (pc := 41) (v := 4) K dX5_ahead_41 (by decide) ?_
        refine q_callVi (pc := 42) (o := 0) (rm := rmX5_finding) K (kX5_finding l hN hG 4 σ hw (by omega)) gX5_ahead_X5_finding rfl hdV_X5_finding ⟨Nat.le_of_ble_eq_true rfl, Nat.le_of_ble_eq_true rfl⟩ rfl rfl ⟨Nat.zero_le _, Nat.zero_le _⟩ (wO_m hG) vw_4 rfl rfl (Nat.le_of_ble_eq_true rfl) dX5_ahead_42 ?_
        refine qq_nmI (fun r26 e27 => ?_)
        have hw28 : WM r26.2 := by rw [e27]; exact wX5_finding 4 hw (by omega)
        exact q_iret K hr dX5_ahead_45
    · have i36 := eqI c7
      refine q_aload_n (pc := 26) K dX5_ahead_26 rfl rfl ?_
      refine q_iconst (pc := 27) (v := 0) K dX5_ahead_27 (by decide) ?_
      refine q_callVi (pc := 28) (o := 0) (rm := rmX5_finding) K (kX5_finding l hN hG 0 σ hw (by omega)) gX5_ahead_X5_finding rfl hdV_X5_finding ⟨Nat.le_of_ble_eq_true rfl, Nat.le_of_ble_eq_true rfl⟩ rfl rfl ⟨Nat.zero_le _, Nat.zero_le _⟩ (wO_m hG) vw_4 rfl rfl (Nat.le_of_ble_eq_true rfl) dX5_ahead_28 ?_
      refine qq_nmI (fun r31 e32 => ?_)
      have hw33 : WM r31.2 := by rw [e32]; exact wX5_finding 0 hw (by omega)
      exact q_iret K hr dX5_ahead_31
theorem hdV_X5_endOf : yX5_endOf.cls = RX5 ∧ yX5_endOf.cls ≠ "java/lang/invoke/MethodHandle" ∧ yX5_endOf.cls ≠ "java/lang/invoke/VarHandle" ∧ (parseMethodDescriptor yX5_endOf.desc).map (fun d => d.parameters.length) = some 1 := by decide +kernel
theorem mX5_endOf_f16 : Cond.fieldLink RX5 16 "WaxTreatiesModel" "tried" "[I" ∈ wsX5_endOf := List.mem_of_getElem? (i := 1) rfl
theorem iwX5_endOf_X5 : ∀ w ∈ wsX50, w ∈ wsX5_endOf := fun w h => List.mem_cons_of_mem _ (List.mem_append_right _ h)
set_option maxRecDepth 100000 in
set_option maxHeartbeats 4000000 in
theorem lX5_endOf_2 {p : Program} (l : Launch) {e : Env} {s : State} {m : MethodId} {args : Array Value} {below : List Frame} {meth : Method} {c : Code} {Q : State → Prop} {G : gT} (hN : wN G) (hG : gfl G = false) (K : qK p s m args meth c cX5_endOf 4 RX5 wsX5_endOf G) : ∀ (k : Nat) (v1 v2 : Int32) (σ : sg) (hw : WM σ) (hv2 : 0 ≤ v2.toInt ∧ v2.toInt ≤ 101) (hd : -1 ≤ v1.toInt ∧ v1.toInt < (rA σ 2 0).toInt) (hmu : (101 - v2.toInt).toNat < k) {ρ : Type} {E : ρ → Prop} {f : Int32 × sg → ρ} (hk : ∀ r : Int32 × sg, (WM r.2) → (0 ≤ r.1.toInt ∧ r.1.toInt ≤ 101) → (-1 ≤ v1.toInt ∧ v1.toInt < (rA r.2 2 0).toInt) → qq p l e (headSpec wsX5_endOf rmX5_endOf).room s m args below meth c Q 4 G E (f r) 34 [none, none, some (.int r.1), none] [] r.2), qq p l e (headSpec wsX5_endOf rmX5_endOf).room s m args below meth c Q 4 G E (bnd (LX5_endOf_2 k v1 v2 σ) f) 2 [some (.ref (gob G 0)), some (.int v1), some (.int v2), none] [] σ := by
  intro k
  induction k with
  | zero => intro v1 v2 σ hw hv2 hd hmu ρ E f hk; exact absurd hmu (Nat.not_lt_zero _)
  | succ k ih =>
    intro v1 v2 σ hw hv2 hd hmu ρ E f hk
    have k0 : (0 : Int32).toInt = 0 := rfl
    have k1 : (1 : Int32).toInt = 1 := rfl
    have k100 : (100 : Int32).toInt = 100 := rfl
    refine qq_in ?_
    refine qq_T (LX5_endOf_2.eq_2 ..) ?_
    refine q_iload_n (pc := 2) K dX5_endOf_2 rfl rfl ?_
    refine q_bipush (pc := 3) (v := 100) K dX5_endOf_3 (by decide) ?_
    refine q_icmp_gt (pc := 5) (tgt := 34) K dX5_endOf_5 (by decide) (fun c1 => ?_) (fun c1 => ?_)
    · have i9 := ltI c1
      refine qq_drop 0 (lv' := [none, some (.int v1), some (.int v2), none]) rfl ?_
      refine qq_drop 1 (lv' := [none, none, some (.int v2), none]) rfl ?_
      exact qq_leaf (hk (v2, σ) hw (by omega) (by omega))
    · have i10 := nltI c1
      refine q_aload_n (pc := 8) K dX5_endOf_8 rfl rfl ?_
      refine q_get (pc := 9) (o := 0) (f := 2) (v := .ref (gad G 2)) K (wO_m hG) vw_4 iwX5_endOf_X5 (by decide) mX5_endOf_f16 rfl dX5_endOf_9 ?_
      refine q_iload_n (pc := 12) K dX5_endOf_12 rfl rfl ?_
      refine q_callSi (pc := 13) (rm := rmX5_holds) K (kX5_holds l hN hG 2 (by decide) v1 σ hw (by omega)) gX5_endOf_X5_holds rfl hdS_X5_holds ⟨Nat.le_of_ble_eq_true rfl, Nat.le_of_ble_eq_true rfl⟩ rfl rfl ⟨Nat.zero_le _, Nat.zero_le _⟩ rfl rfl (Nat.le_of_ble_eq_true rfl) dX5_endOf_13 ?_
      refine q_if_eq (pc := 16) (tgt := 34) K dX5_endOf_16 (by decide) (fun c2 => ?_) (fun c2 => ?_)
      · have i7 := eqI c2
        refine qq_drop 0 (lv' := [none, some (.int v1), some (.int v2), none]) rfl ?_
        refine qq_drop 1 (lv' := [none, none, some (.int v2), none]) rfl ?_
        exact qq_leaf (hk (v2, σ) hw (by omega) (by omega))
      · have i8 := neI c2
        refine q_aload_n (pc := 19) K dX5_endOf_19 rfl rfl ?_
        refine q_aload_n (pc := 20) K dX5_endOf_20 rfl rfl ?_
        refine q_get (pc := 21) (o := 0) (f := 2) (v := .ref (gad G 2)) K (wO_m hG) vw_4 iwX5_endOf_X5 (by decide) mX5_endOf_f16 rfl dX5_endOf_21 ?_
        refine q_callVi (pc := 24) (o := 0) (rm := rmX5_anHour) K (kX5_anHour l hN hG 2 (by decide) σ hw) gX5_endOf_X5_anHour rfl hdV_X5_anHour ⟨Nat.le_of_ble_eq_true rfl, Nat.le_of_ble_eq_true rfl⟩ rfl rfl ⟨Nat.zero_le _, Nat.zero_le _⟩ (wO_m hG) vw_4 rfl rfl (Nat.le_of_ble_eq_true rfl) dX5_endOf_24 ?_
        refine qq_nmI (fun r3 e4 => ?_)
        have hw5 : WM r3.2 := by rw [e4]; exact wX5_anHour 2 (by decide) hw 
        have me4 := manyA (show 2 < 4 by decide) e4
        have ne4 := manyA0 e4
        refine q_istore_n (pc := 27) (lv' := [some (.ref (gob G 0)), some (.int v1), some (.int v2), some (.int r3.1)]) K dX5_endOf_27 rfl (by decide) (Nat.le_of_ble_eq_true rfl) rfl ?_
        refine q_iinc (pc := 28) (v := (v2 + 1)) (lv' := [some (.ref (gob G 0)), some (.int v1), some (.int (v2 + 1)), some (.int r3.1)]) K dX5_endOf_28 rfl rfl (by decide) rfl ?_
        refine q_goto (pc := 31) (tgt := 2) K dX5_endOf_31 (by decide) ?_
        refine qq_drop 3 (lv' := [some (.ref (gob G 0)), some (.int v1), some (.int (v2 + 1)), none]) rfl ?_
        have a6 := addI (x := v2) (y := 1) (by omega) (by omega)
        exact qq_out (ih v1 (v2 + 1) r3.2 hw5 (by omega) (by omega) (by omega) hk)
set_option maxRecDepth 100000 in
set_option maxHeartbeats 4000000 in
theorem kX5_endOf (l : Launch) {G : gT} (hN : wN G) (hG : gfl G = false) (v1 : Int32) (σ : sg) (hw : WM σ) (hd : -1 ≤ v1.toInt ∧ v1.toInt < (rA σ 2 0).toInt) : cM l yX5_endOf wsX5_endOf rmX5_endOf G [.ref (gob G 0), .int v1] σ (some (.int (fX5_endOf v1 σ).1)) (fX5_endOf v1 σ).2 := by
  refine cM_of (maxL := 4) (ret := (some .int)) (cc := cX5_endOf) (fX5_endOf v1 σ) RX5 hN (by decide +kernel) rfl rfl (Nat.le_of_ble_eq_true rfl) rfl ?_
  intro p e s m args below meth c K hr
  have k0 : (0 : Int32).toInt = 0 := rfl
  refine qq_st (lv' := [some (.ref (gob G 0)), some (.int v1), none, none]) rfl rfl rfl ?_
  refine qq_T (fX5_endOf.eq_1 ..) ?_
  refine q_iconst (pc := 0) (v := 0) K dX5_endOf_0 (by decide) ?_
  refine q_istore_n (pc := 1) (lv' := [some (.ref (gob G 0)), some (.int v1), some (.int 0), none]) K dX5_endOf_1 rfl (by decide) (Nat.le_of_ble_eq_true rfl) rfl ?_
  refine lX5_endOf_2 l hN hG K 102 v1 0 σ hw (by omega) (by omega) (by omega) (fun r11 hw13 x14 x15 => ?_)
  refine q_iload_n (pc := 34) K dX5_endOf_34 rfl rfl ?_
  exact q_iret K hr dX5_endOf_35
theorem hdV_X5_ends : yX5_ends.cls = RX5 ∧ yX5_ends.cls ≠ "java/lang/invoke/MethodHandle" ∧ yX5_ends.cls ≠ "java/lang/invoke/VarHandle" ∧ (parseMethodDescriptor yX5_ends.desc).map (fun d => d.parameters.length) = some 1 := by decide +kernel
theorem mX5_ends_f9 : Cond.fieldLink RX5 9 "WaxTreatiesModel" "now" "[I" ∈ wsX5_ends := List.mem_of_getElem? (i := 1) rfl
theorem iwX5_ends_X5 : ∀ w ∈ wsX50, w ∈ wsX5_ends := fun w h => List.mem_cons_of_mem _ (List.mem_append_right _ h)
theorem mX5_ends_f16 : Cond.fieldLink RX5 16 "WaxTreatiesModel" "tried" "[I" ∈ wsX5_ends := List.mem_of_getElem? (i := 2) rfl
set_option maxRecDepth 100000 in
set_option maxHeartbeats 4000000 in
theorem kX5_ends (l : Launch) {G : gT} (hN : wN G) (hG : gfl G = false) (v1 : Int32) (σ : sg) (hw : WM σ) : cM l yX5_ends wsX5_ends rmX5_ends G [.ref (gob G 0), .int v1] σ (some (.int (fX5_ends v1 σ).1)) (fX5_ends v1 σ).2 := by
  refine cM_of (maxL := 3) (ret := (some .int)) (cc := cX5_ends) (fX5_ends v1 σ) RX5 hN (by decide +kernel) rfl rfl (Nat.le_of_ble_eq_true rfl) rfl ?_
  intro p e s m args below meth c K hr
  have k0 : (0 : Int32).toInt = 0 := rfl
  have k3 : (3 : Int32).toInt = 3 := rfl
  have k4 : (4 : Int32).toInt = 4 := rfl
  have k100 : (100 : Int32).toInt = 100 := rfl
  refine qq_st (lv' := [some (.ref (gob G 0)), some (.int v1), none]) rfl rfl rfl ?_
  refine qq_T (fX5_ends.eq_1 ..) ?_
  refine q_aload_n (pc := 0) K dX5_ends_0 rfl rfl ?_
  refine q_iload_n (pc := 1) K dX5_ends_1 rfl rfl ?_
  refine q_callVi (pc := 2) (o := 0) (rm := rmX5_isDeed) K (kX5_isDeed l hN hG v1 σ hw) gX5_ends_X5_isDeed rfl hdV_X5_isDeed ⟨Nat.le_of_ble_eq_true rfl, Nat.le_of_ble_eq_true rfl⟩ rfl rfl ⟨Nat.zero_le _, Nat.zero_le _⟩ (wO_m hG) vw_4 rfl rfl (Nat.le_of_ble_eq_true rfl) dX5_ends_2 ?_
  refine q_if_ne (pc := 5) (tgt := 14) K dX5_ends_5 (by decide) (fun c1 => ?_) (fun c1 => ?_)
  · have i23 := neI c1
    have b24 := wiD_t hw c1
    refine q_aload_n (pc := 14) K dX5_ends_14 rfl rfl ?_
    refine q_bipush (pc := 15) (v := 100) K dX5_ends_15 (by decide) ?_
    refine q_callVi (pc := 17) (o := 0) (rm := rmX5_isTime) K (kX5_isTime l hN hG 100 σ hw) gX5_ends_X5_isTime rfl hdV_X5_isTime ⟨Nat.le_of_ble_eq_true rfl, Nat.le_of_ble_eq_true rfl⟩ rfl rfl ⟨Nat.zero_le _, Nat.zero_le _⟩ (wO_m hG) vw_4 rfl rfl (Nat.le_of_ble_eq_true rfl) dX5_ends_17 ?_
    refine q_if_ne (pc := 20) (tgt := 29) K dX5_ends_20 (by decide) (fun c2 => ?_) (fun c2 => ?_)
    · have i18 := neI c2
      refine q_aload_n (pc := 29) K dX5_ends_29 rfl rfl ?_
      refine q_get (pc := 30) (o := 0) (f := 0) (v := .ref (gad G 0)) K (wO_m hG) vw_4 iwX5_ends_X5 (by decide) mX5_ends_f9 rfl dX5_ends_30 ?_
      refine q_aload_n (pc := 33) K dX5_ends_33 rfl rfl ?_
      refine q_get (pc := 34) (o := 0) (f := 2) (v := .ref (gad G 2)) K (wO_m hG) vw_4 iwX5_ends_X5 (by decide) mX5_ends_f16 rfl dX5_ends_34 ?_
      refine q_callSv (pc := 37) (rm := rmX5_row) K (kX5_row l hN hG 0 (by decide) 2 (by decide) σ (by omega)) gX5_ends_X5_row rfl hdS_X5_row ⟨Nat.le_of_ble_eq_true rfl, Nat.le_of_ble_eq_true rfl⟩ rfl rfl ⟨Nat.zero_le _, Nat.zero_le _⟩ rfl rfl (Nat.le_of_ble_eq_true rfl) dX5_ends_37 ?_
      refine qq_nmV (fun r3 e4 => ?_)
      have hw5 : WM r3 := by rw [e4]; exact wX5_row 0 (by decide) 2 (by decide) hw (by omega)
      have me4 := row0 (show 0 ≠ 2 by decide) e4
      refine q_aload_n (pc := 40) K dX5_ends_40 rfl rfl ?_
      refine q_iload_n (pc := 41) K dX5_ends_41 rfl rfl ?_
      refine q_callVi (pc := 42) (o := 0) (rm := rmX5_endOf) K (kX5_endOf l hN hG v1 r3 hw5 (by omega)) gX5_ends_X5_endOf rfl hdV_X5_endOf ⟨Nat.le_of_ble_eq_true rfl, Nat.le_of_ble_eq_true rfl⟩ rfl rfl ⟨Nat.zero_le _, Nat.zero_le _⟩ (wO_m hG) vw_4 rfl rfl (Nat.le_of_ble_eq_true rfl) dX5_ends_42 ?_
      refine qq_nmI (fun r6 e7 => ?_)
      have hw8 : WM r6.2 := by rw [e7]; exact wX5_endOf v1 hw5 (by omega)
      have eoe7 := eoM e7
      refine q_istore_n (pc := 45) (lv' := [some (.ref (gob G 0)), some (.int v1), some (.int r6.1)]) K dX5_ends_45 rfl (by decide) (Nat.le_of_ble_eq_true rfl) rfl ?_
      refine q_iload_n (pc := 46) K dX5_ends_46 rfl rfl ?_
      refine q_bipush (pc := 47) (v := 100) K dX5_ends_47 (by decide) ?_
      refine q_icmp_le (pc := 49) (tgt := 60) K dX5_ends_49 (by decide) (fun c9 => ?_) (fun c9 => ?_)
      · have i13 := leI c9
        refine q_iload_n (pc := 60) K dX5_ends_60 rfl rfl ?_
        exact q_iret K hr dX5_ends_61
      · have i14 := nleI c9
        refine q_aload_n (pc := 52) K dX5_ends_52 rfl rfl ?_
        refine q_iconst (pc := 53) (v := 3) K dX5_ends_53 (by decide) ?_
        refine q_callVi (pc := 54) (o := 0) (rm := rmX5_finding) K (kX5_finding l hN hG 3 r6.2 hw8 (by omega)) gX5_ends_X5_finding rfl hdV_X5_finding ⟨Nat.le_of_ble_eq_true rfl, Nat.le_of_ble_eq_true rfl⟩ rfl rfl ⟨Nat.zero_le _, Nat.zero_le _⟩ (wO_m hG) vw_4 rfl rfl (Nat.le_of_ble_eq_true rfl) dX5_ends_54 ?_
        refine qq_nmI (fun r10 e11 => ?_)
        have hw12 : WM r10.2 := by rw [e11]; exact wX5_finding 3 hw8 (by omega)
        refine q_goto (pc := 57) (tgt := 61) K dX5_ends_57 (by decide) ?_
        exact q_iret K hr dX5_ends_61
    · have i19 := eqI c2
      refine q_aload_n (pc := 23) K dX5_ends_23 rfl rfl ?_
      refine q_iconst (pc := 24) (v := 4) K dX5_ends_24 (by decide) ?_
      refine q_callVi (pc := 25) (o := 0) (rm := rmX5_finding) K (kX5_finding l hN hG 4 σ hw (by omega)) gX5_ends_X5_finding rfl hdV_X5_finding ⟨Nat.le_of_ble_eq_true rfl, Nat.le_of_ble_eq_true rfl⟩ rfl rfl ⟨Nat.zero_le _, Nat.zero_le _⟩ (wO_m hG) vw_4 rfl rfl (Nat.le_of_ble_eq_true rfl) dX5_ends_25 ?_
      refine qq_nmI (fun r15 e16 => ?_)
      have hw17 : WM r15.2 := by rw [e16]; exact wX5_finding 4 hw (by omega)
      exact q_iret K hr dX5_ends_28
  · have i25 := eqI c1
    refine q_aload_n (pc := 8) K dX5_ends_8 rfl rfl ?_
    refine q_iconst (pc := 9) (v := 0) K dX5_ends_9 (by decide) ?_
    refine q_callVi (pc := 10) (o := 0) (rm := rmX5_finding) K (kX5_finding l hN hG 0 σ hw (by omega)) gX5_ends_X5_finding rfl hdV_X5_finding ⟨Nat.le_of_ble_eq_true rfl, Nat.le_of_ble_eq_true rfl⟩ rfl rfl ⟨Nat.zero_le _, Nat.zero_le _⟩ (wO_m hG) vw_4 rfl rfl (Nat.le_of_ble_eq_true rfl) dX5_ends_10 ?_
    refine qq_nmI (fun r20 e21 => ?_)
    have hw22 : WM r20.2 := by rw [e21]; exact wX5_finding 0 hw (by omega)
    exact q_iret K hr dX5_ends_13
theorem hdV_X5_soonest : yX5_soonest.cls = RX5 ∧ yX5_soonest.cls ≠ "java/lang/invoke/MethodHandle" ∧ yX5_soonest.cls ≠ "java/lang/invoke/VarHandle" ∧ (parseMethodDescriptor yX5_soonest.desc).map (fun d => d.parameters.length) = some 0 := by decide +kernel
theorem mX5_soonest_f9 : Cond.fieldLink RX5 9 "WaxTreatiesModel" "now" "[I" ∈ wsX5_soonest := List.mem_of_getElem? (i := 1) rfl
theorem iwX5_soonest_X5 : ∀ w ∈ wsX50, w ∈ wsX5_soonest := fun w h => List.mem_cons_of_mem _ (List.mem_append_right _ h)
theorem mX5_soonest_f16 : Cond.fieldLink RX5 16 "WaxTreatiesModel" "tried" "[I" ∈ wsX5_soonest := List.mem_of_getElem? (i := 2) rfl
set_option maxRecDepth 100000 in
set_option maxHeartbeats 4000000 in
theorem lX5_soonest_22 {p : Program} (l : Launch) {e : Env} {s : State} {m : MethodId} {args : Array Value} {below : List Frame} {meth : Method} {c : Code} {Q : State → Prop} {G : gT} (hN : wN G) (hG : gfl G = false) (K : qK p s m args meth c cX5_soonest 5 RX5 wsX5_soonest G) : ∀ (k : Nat) (v1 v2 v3 : Int32) (σ : sg) (hw : WM σ) (hv3 : 0 ≤ v3.toInt ∧ v3.toInt ≤ 8) (hmu : (8 - v3.toInt).toNat < k) {ρ : Type} {E : ρ → Prop} {f : Int32 × sg → ρ} (hk : ∀ r : Int32 × sg, (WM r.2) → qq p l e (headSpec wsX5_soonest rmX5_soonest).room s m args below meth c Q 5 G E (f r) 67 [some (.ref (gob G 0)), some (.int r.1), none, none, none] [] r.2), qq p l e (headSpec wsX5_soonest rmX5_soonest).room s m args below meth c Q 5 G E (bnd (LX5_soonest_22 k v1 v2 v3 σ) f) 22 [some (.ref (gob G 0)), some (.int v1), some (.int v2), some (.int v3), none] [] σ := by
  intro k
  induction k with
  | zero => intro v1 v2 v3 σ hw hv3 hmu ρ E f hk; exact absurd hmu (Nat.not_lt_zero _)
  | succ k ih =>
    intro v1 v2 v3 σ hw hv3 hmu ρ E f hk
    have k0 : (0 : Int32).toInt = 0 := rfl
    have k1 : (1 : Int32).toInt = 1 := rfl
    refine qq_in ?_
    refine qq_T (LX5_soonest_22.eq_2 ..) ?_
    refine q_iload_n (pc := 22) K dX5_soonest_22 rfl rfl ?_
    refine q_aload_n (pc := 23) K dX5_soonest_23 rfl rfl ?_
    refine q_get (pc := 24) (o := 0) (f := 0) (v := .ref (gad G 0)) K (wO_m hG) vw_4 iwX5_soonest_X5 (by decide) mX5_soonest_f9 rfl dX5_soonest_24 ?_
    refine q_iconst (pc := 27) (v := 0) K dX5_soonest_27 (by decide) ?_
    refine q_iald (pc := 28) (a := 0) K (by rw [wna_f hG]; decide) (vinN (wlm (n := 80) hG 0 rfl) (by omega) (by omega)) dX5_soonest_28 ?_
    have w2 := wm_many hw (show 0 < 4 by decide)
    refine q_icmp_ge (pc := 29) (tgt := 67) K dX5_soonest_29 (by decide) (fun c3 => ?_) (fun c3 => ?_)
    · have i15 := leI c3
      refine qq_drop 2 (lv' := [some (.ref (gob G 0)), some (.int v1), none, some (.int v3), none]) rfl ?_
      refine qq_drop 3 (lv' := [some (.ref (gob G 0)), some (.int v1), none, none, none]) rfl ?_
      exact qq_leaf (hk (v1, σ) hw)
    · have i16 := nleI c3
      refine q_aload_n (pc := 32) K dX5_soonest_32 rfl rfl ?_
      refine q_get (pc := 33) (o := 0) (f := 0) (v := .ref (gad G 0)) K (wO_m hG) vw_4 iwX5_soonest_X5 (by decide) mX5_soonest_f9 rfl dX5_soonest_33 ?_
      refine q_aload_n (pc := 36) K dX5_soonest_36 rfl rfl ?_
      refine q_get (pc := 37) (o := 0) (f := 2) (v := .ref (gad G 2)) K (wO_m hG) vw_4 iwX5_soonest_X5 (by decide) mX5_soonest_f16 rfl dX5_soonest_37 ?_
      refine q_callSv (pc := 40) (rm := rmX5_row) K (kX5_row l hN hG 0 (by decide) 2 (by decide) σ (by omega)) gX5_soonest_X5_row rfl hdS_X5_row ⟨Nat.le_of_ble_eq_true rfl, Nat.le_of_ble_eq_true rfl⟩ rfl rfl ⟨Nat.zero_le _, Nat.zero_le _⟩ rfl rfl (Nat.le_of_ble_eq_true rfl) dX5_soonest_40 ?_
      refine qq_nmV (fun r4 e5 => ?_)
      have hw6 : WM r4 := by rw [e5]; exact wX5_row 0 (by decide) 2 (by decide) hw (by omega)
      have me5 := row0 (show 0 ≠ 2 by decide) e5
      refine q_aload_n (pc := 43) K dX5_soonest_43 rfl rfl ?_
      refine q_iload_n (pc := 44) K dX5_soonest_44 rfl rfl ?_
      refine q_callVi (pc := 45) (o := 0) (rm := rmX5_endOf) K (kX5_endOf l hN hG v3 r4 hw6 (by omega)) gX5_soonest_X5_endOf rfl hdV_X5_endOf ⟨Nat.le_of_ble_eq_true rfl, Nat.le_of_ble_eq_true rfl⟩ rfl rfl ⟨Nat.zero_le _, Nat.zero_le _⟩ (wO_m hG) vw_4 rfl rfl (Nat.le_of_ble_eq_true rfl) dX5_soonest_45 ?_
      refine qq_nmI (fun r7 e8 => ?_)
      have hw9 : WM r7.2 := by rw [e8]; exact wX5_endOf v3 hw6 (by omega)
      have eoe8 := eoM e8
      refine q_istore (pc := 48) (lv' := [some (.ref (gob G 0)), some (.int v1), some (.int v2), some (.int v3), some (.int r7.1)]) K dX5_soonest_48 (by decide) (Nat.le_of_ble_eq_true rfl) rfl ?_
      refine q_iload (pc := 50) K dX5_soonest_50 rfl ?_
      refine q_iload_n (pc := 52) K dX5_soonest_52 rfl rfl ?_
      refine q_icmp_ge (pc := 53) (tgt := 61) K dX5_soonest_53 (by decide) (fun c10 => ?_) (fun c10 => ?_)
      · have i13 := leI c10
        refine q_iinc (pc := 61) (v := (v3 + 1)) (lv' := [some (.ref (gob G 0)), some (.int v1), some (.int v2), some (.int (v3 + 1)), some (.int r7.1)]) K dX5_soonest_61 rfl rfl (by decide) rfl ?_
        refine q_goto (pc := 64) (tgt := 22) K dX5_soonest_64 (by decide) ?_
        refine qq_drop 4 (lv' := [some (.ref (gob G 0)), some (.int v1), some (.int v2), some (.int (v3 + 1)), none]) rfl ?_
        have a11 := addI (x := v3) (y := 1) (by omega) (by omega)
        exact qq_out (ih v1 v2 (v3 + 1) r7.2 hw9 (by omega) (by omega) hk)
      · have i14 := nleI c10
        refine q_iload_n (pc := 56) K dX5_soonest_56 rfl rfl ?_
        refine q_istore_n (pc := 57) (lv' := [some (.ref (gob G 0)), some (.int v3), some (.int v2), some (.int v3), some (.int r7.1)]) K dX5_soonest_57 rfl (by decide) (Nat.le_of_ble_eq_true rfl) rfl ?_
        refine q_iload (pc := 58) K dX5_soonest_58 rfl ?_
        refine q_istore_n (pc := 60) (lv' := [some (.ref (gob G 0)), some (.int v3), some (.int r7.1), some (.int v3), some (.int r7.1)]) K dX5_soonest_60 rfl (by decide) (Nat.le_of_ble_eq_true rfl) rfl ?_
        refine q_iinc (pc := 61) (v := (v3 + 1)) (lv' := [some (.ref (gob G 0)), some (.int v3), some (.int r7.1), some (.int (v3 + 1)), some (.int r7.1)]) K dX5_soonest_61 rfl rfl (by decide) rfl ?_
        refine q_goto (pc := 64) (tgt := 22) K dX5_soonest_64 (by decide) ?_
        refine qq_drop 4 (lv' := [some (.ref (gob G 0)), some (.int v3), some (.int r7.1), some (.int (v3 + 1)), none]) rfl ?_
        have a12 := addI (x := v3) (y := 1) (by omega) (by omega)
        exact qq_out (ih v3 r7.1 (v3 + 1) r7.2 hw9 (by omega) (by omega) hk)
set_option maxRecDepth 100000 in
set_option maxHeartbeats 4000000 in
theorem kX5_soonest (l : Launch) {G : gT} (hN : wN G) (hG : gfl G = false) (σ : sg) (hw : WM σ) : cM l yX5_soonest wsX5_soonest rmX5_soonest G [.ref (gob G 0)] σ (some (.int (fX5_soonest σ).1)) (fX5_soonest σ).2 := by
  refine cM_of (maxL := 5) (ret := (some .int)) (cc := cX5_soonest) (fX5_soonest σ) RX5 hN (by decide +kernel) rfl rfl (Nat.le_of_ble_eq_true rfl) rfl ?_
  intro p e s m args below meth c K hr
  have km1 : ((-1) : Int32).toInt = -1 := rfl
  have k0 : (0 : Int32).toInt = 0 := rfl
  have k3 : (3 : Int32).toInt = 3 := rfl
  have k4 : (4 : Int32).toInt = 4 := rfl
  have k100 : (100 : Int32).toInt = 100 := rfl
  have k101 : (101 : Int32).toInt = 101 := rfl
  refine qq_st (lv' := [some (.ref (gob G 0)), none, none, none, none]) rfl rfl rfl ?_
  refine qq_T (fX5_soonest.eq_1 ..) ?_
  refine q_aload_n (pc := 0) K dX5_soonest_0 rfl rfl ?_
  refine q_bipush (pc := 1) (v := 100) K dX5_soonest_1 (by decide) ?_
  refine q_callVi (pc := 3) (o := 0) (rm := rmX5_isTime) K (kX5_isTime l hN hG 100 σ hw) gX5_soonest_X5_isTime rfl hdV_X5_isTime ⟨Nat.le_of_ble_eq_true rfl, Nat.le_of_ble_eq_true rfl⟩ rfl rfl ⟨Nat.zero_le _, Nat.zero_le _⟩ (wO_m hG) vw_4 rfl rfl (Nat.le_of_ble_eq_true rfl) dX5_soonest_3 ?_
  refine q_if_ne (pc := 6) (tgt := 15) K dX5_soonest_6 (by decide) (fun c1 => ?_) (fun c1 => ?_)
  · have i29 := neI c1
    refine q_iconst (pc := 15) (v := (-1)) K dX5_soonest_15 (by decide) ?_
    refine q_istore_n (pc := 16) (lv' := [some (.ref (gob G 0)), some (.int (-1)), none, none, none]) K dX5_soonest_16 rfl (by decide) (Nat.le_of_ble_eq_true rfl) rfl ?_
    refine q_bipush (pc := 17) (v := 101) K dX5_soonest_17 (by decide) ?_
    refine q_istore_n (pc := 19) (lv' := [some (.ref (gob G 0)), some (.int (-1)), some (.int 101), none, none]) K dX5_soonest_19 rfl (by decide) (Nat.le_of_ble_eq_true rfl) rfl ?_
    refine q_iconst (pc := 20) (v := 0) K dX5_soonest_20 (by decide) ?_
    refine q_istore_n (pc := 21) (lv' := [some (.ref (gob G 0)), some (.int (-1)), some (.int 101), some (.int 0), none]) K dX5_soonest_21 rfl (by decide) (Nat.le_of_ble_eq_true rfl) rfl ?_
    refine lX5_soonest_22 l hN hG K 9 (-1) 101 0 σ hw (by omega) (by omega) (fun r17 hw19 => ?_)
    refine q_iload_n (pc := 67) K dX5_soonest_67 rfl rfl ?_
    refine q_if_ge (pc := 68) (tgt := 79) K dX5_soonest_68 (by decide) (fun c20 => ?_) (fun c20 => ?_)
    · have i24 := leI c20
      refine q_iload_n (pc := 79) K dX5_soonest_79 rfl rfl ?_
      exact q_iret K hr dX5_soonest_80
    · have i25 := nleI c20
      refine q_aload_n (pc := 71) K dX5_soonest_71 rfl rfl ?_
      refine q_iconst (pc := 72) (v := 3) K dX5_soonest_72 (by decide) ?_
      refine q_callVi (pc := 73) (o := 0) (rm := rmX5_finding) K (kX5_finding l hN hG 3 r17.2 hw19 (by omega)) gX5_soonest_X5_finding rfl hdV_X5_finding ⟨Nat.le_of_ble_eq_true rfl, Nat.le_of_ble_eq_true rfl⟩ rfl rfl ⟨Nat.zero_le _, Nat.zero_le _⟩ (wO_m hG) vw_4 rfl rfl (Nat.le_of_ble_eq_true rfl) dX5_soonest_73 ?_
      refine qq_nmI (fun r21 e22 => ?_)
      have hw23 : WM r21.2 := by rw [e22]; exact wX5_finding 3 hw19 (by omega)
      refine q_goto (pc := 76) (tgt := 80) K dX5_soonest_76 (by decide) ?_
      exact q_iret K hr dX5_soonest_80
  · have i30 := eqI c1
    refine q_aload_n (pc := 9) K dX5_soonest_9 rfl rfl ?_
    refine q_iconst (pc := 10) (v := 4) K dX5_soonest_10 (by decide) ?_
    refine q_callVi (pc := 11) (o := 0) (rm := rmX5_finding) K (kX5_finding l hN hG 4 σ hw (by omega)) gX5_soonest_X5_finding rfl hdV_X5_finding ⟨Nat.le_of_ble_eq_true rfl, Nat.le_of_ble_eq_true rfl⟩ rfl rfl ⟨Nat.zero_le _, Nat.zero_le _⟩ (wO_m hG) vw_4 rfl rfl (Nat.le_of_ble_eq_true rfl) dX5_soonest_11 ?_
    refine qq_nmI (fun r26 e27 => ?_)
    have hw28 : WM r26.2 := by rw [e27]; exact wX5_finding 4 hw (by omega)
    exact q_iret K hr dX5_soonest_14
theorem hdV_X5_longest : yX5_longest.cls = RX5 ∧ yX5_longest.cls ≠ "java/lang/invoke/MethodHandle" ∧ yX5_longest.cls ≠ "java/lang/invoke/VarHandle" ∧ (parseMethodDescriptor yX5_longest.desc).map (fun d => d.parameters.length) = some 3 := by decide +kernel
theorem mX5_longest_f9 : Cond.fieldLink RX5 9 "WaxTreatiesModel" "now" "[I" ∈ wsX5_longest := List.mem_of_getElem? (i := 1) rfl
theorem iwX5_longest_X5 : ∀ w ∈ wsX50, w ∈ wsX5_longest := fun w h => List.mem_cons_of_mem _ (List.mem_append_right _ h)
theorem mX5_longest_f16 : Cond.fieldLink RX5 16 "WaxTreatiesModel" "tried" "[I" ∈ wsX5_longest := List.mem_of_getElem? (i := 2) rfl
set_option maxRecDepth 100000 in
set_option maxHeartbeats 4000000 in
theorem lX5_longest_9 {p : Program} (l : Launch) {e : Env} {s : State} {m : MethodId} {args : Array Value} {below : List Frame} {meth : Method} {c : Code} {Q : State → Prop} {G : gT} (hN : wN G) (hG : gfl G = false) (K : qK p s m args meth c cX5_longest 8 RX5 wsX5_longest G) : ∀ (k : Nat) (v1 v2 v3 v4 v5 v6 : Int32) (σ : sg) (hw : WM σ) (hv6 : 0 ≤ v6.toInt ∧ v6.toInt ≤ 7) (hp : (v2.toInt = 40 ∧ v3.toInt = 6) ∨ (v2.toInt = 32 ∧ v3.toInt = 7)) (hd : 0 ≤ v1.toInt ∧ v1.toInt < (rA σ 0 0).toInt) (hmu : (7 - v6.toInt).toNat < k) {ρ : Type} {E : ρ → Prop} {f : Int32 × sg → ρ} (hk : ∀ r : Int32 × sg, (WM r.2) → (0 ≤ v1.toInt ∧ v1.toInt < (rA r.2 0 0).toInt) → qq p l e (headSpec wsX5_longest rmX5_longest).room s m args below meth c Q 8 G E (f r) 64 [none, none, none, none, some (.int r.1), none, none, none] [] r.2), qq p l e (headSpec wsX5_longest rmX5_longest).room s m args below meth c Q 8 G E (bnd (LX5_longest_9 k v1 v2 v3 v4 v5 v6 σ) f) 9 [some (.ref (gob G 0)), some (.int v1), some (.int v2), some (.int v3), some (.int v4), some (.int v5), some (.int v6), none] [] σ := by
  intro k
  induction k with
  | zero => intro v1 v2 v3 v4 v5 v6 σ hw hv6 hp hd hmu ρ E f hk; exact absurd hmu (Nat.not_lt_zero _)
  | succ k ih =>
    intro v1 v2 v3 v4 v5 v6 σ hw hv6 hp hd hmu ρ E f hk
    have k0 : (0 : Int32).toInt = 0 := rfl
    have k1 : (1 : Int32).toInt = 1 := rfl
    have q0 := wm_many hw (show 0 < 4 by decide)
    refine qq_in ?_
    refine qq_T (LX5_longest_9.eq_2 ..) ?_
    refine q_iload (pc := 9) K dX5_longest_9 rfl ?_
    refine q_iload_n (pc := 11) K dX5_longest_11 rfl rfl ?_
    refine q_icmp_ge (pc := 12) (tgt := 64) K dX5_longest_12 (by decide) (fun c1 => ?_) (fun c1 => ?_)
    · have i19 := leI c1
      refine qq_drop 0 (lv' := [none, some (.int v1), some (.int v2), some (.int v3), some (.int v4), some (.int v5), some (.int v6), none]) rfl ?_
      refine qq_drop 1 (lv' := [none, none, some (.int v2), some (.int v3), some (.int v4), some (.int v5), some (.int v6), none]) rfl ?_
      refine qq_drop 2 (lv' := [none, none, none, some (.int v3), some (.int v4), some (.int v5), some (.int v6), none]) rfl ?_
      refine qq_drop 3 (lv' := [none, none, none, none, some (.int v4), some (.int v5), some (.int v6), none]) rfl ?_
      refine qq_drop 5 (lv' := [none, none, none, none, some (.int v4), none, some (.int v6), none]) rfl ?_
      refine qq_drop 6 (lv' := [none, none, none, none, some (.int v4), none, none, none]) rfl ?_
      exact qq_leaf (hk (v4, σ) hw (by omega))
    · have i20 := nleI c1
      refine q_aload_n (pc := 15) K dX5_longest_15 rfl rfl ?_
      refine q_get (pc := 16) (o := 0) (f := 0) (v := .ref (gad G 0)) K (wO_m hG) vw_4 iwX5_longest_X5 (by decide) mX5_longest_f9 rfl dX5_longest_16 ?_
      refine q_aload_n (pc := 19) K dX5_longest_19 rfl rfl ?_
      refine q_get (pc := 20) (o := 0) (f := 2) (v := .ref (gad G 2)) K (wO_m hG) vw_4 iwX5_longest_X5 (by decide) mX5_longest_f16 rfl dX5_longest_20 ?_
      refine q_callSv (pc := 23) (rm := rmX5_row) K (kX5_row l hN hG 0 (by decide) 2 (by decide) σ (by omega)) gX5_longest_X5_row rfl hdS_X5_row ⟨Nat.le_of_ble_eq_true rfl, Nat.le_of_ble_eq_true rfl⟩ rfl rfl ⟨Nat.zero_le _, Nat.zero_le _⟩ rfl rfl (Nat.le_of_ble_eq_true rfl) dX5_longest_23 ?_
      refine qq_nmV (fun r2 e3 => ?_)
      have hw4 : WM r2 := by rw [e3]; exact wX5_row 0 (by decide) 2 (by decide) hw (by omega)
      have me3 := row0 (show 0 ≠ 2 by decide) e3
      refine q_aload_n (pc := 26) K dX5_longest_26 rfl rfl ?_
      refine q_get (pc := 27) (o := 0) (f := 2) (v := .ref (gad G 2)) K (wO_m hG) vw_4 iwX5_longest_X5 (by decide) mX5_longest_f16 rfl dX5_longest_27 ?_
      refine q_iload_n (pc := 30) K dX5_longest_30 rfl rfl ?_
      refine q_iload_n (pc := 31) K dX5_longest_31 rfl rfl ?_
      refine q_iadd (pc := 32) K dX5_longest_32 ?_
      refine q_iload (pc := 33) K dX5_longest_33 rfl ?_
      have a5 := addI (x := v2) (y := v1) (by omega) (by omega)
      refine q_iast (pc := 35) (a := 2) K (by rw [wna_f hG]; decide) (vinN (wlm (n := 80) hG 2 rfl) (by omega) (by omega)) dX5_longest_35 (fun s6 e7 => ?_)
      have hw8 : WM s6 := by rw [e7]; exact wmLg hw4 (show 2 < 4 by decide) (by omega)
      have m9 := mKeep e7 (by omega)
      have m10 := many6 e7 (show 0 ≠ 2 by decide)
      refine q_aload_n (pc := 36) K dX5_longest_36 rfl rfl ?_
      refine q_iload_n (pc := 37) K dX5_longest_37 rfl rfl ?_
      refine q_callVi (pc := 38) (o := 0) (rm := rmX5_endOf) K (kX5_endOf l hN hG v1 s6 hw8 (by omega)) gX5_longest_X5_endOf rfl hdV_X5_endOf ⟨Nat.le_of_ble_eq_true rfl, Nat.le_of_ble_eq_true rfl⟩ rfl rfl ⟨Nat.zero_le _, Nat.zero_le _⟩ (wO_m hG) vw_4 rfl rfl (Nat.le_of_ble_eq_true rfl) dX5_longest_38 ?_
      refine qq_nmI (fun r11 e12 => ?_)
      have hw13 : WM r11.2 := by rw [e12]; exact wX5_endOf v1 hw8 (by omega)
      have eoe12 := eoM e12
      refine q_istore (pc := 41) (lv' := [some (.ref (gob G 0)), some (.int v1), some (.int v2), some (.int v3), some (.int v4), some (.int v5), some (.int v6), some (.int r11.1)]) K dX5_longest_41 (by decide) (Nat.le_of_ble_eq_true rfl) rfl ?_
      refine q_iload (pc := 43) K dX5_longest_43 rfl ?_
      refine q_iload (pc := 45) K dX5_longest_45 rfl ?_
      refine q_icmp_le (pc := 47) (tgt := 58) K dX5_longest_47 (by decide) (fun c14 => ?_) (fun c14 => ?_)
      · have i17 := leI c14
        refine q_iinc (pc := 58) (v := (v6 + 1)) (lv' := [some (.ref (gob G 0)), some (.int v1), some (.int v2), some (.int v3), some (.int v4), some (.int v5), some (.int (v6 + 1)), some (.int r11.1)]) K dX5_longest_58 rfl rfl (by decide) rfl ?_
        refine q_goto (pc := 61) (tgt := 9) K dX5_longest_61 (by decide) ?_
        refine qq_drop 7 (lv' := [some (.ref (gob G 0)), some (.int v1), some (.int v2), some (.int v3), some (.int v4), some (.int v5), some (.int (v6 + 1)), none]) rfl ?_
        have a15 := addI (x := v6) (y := 1) (by omega) (by omega)
        exact qq_out (ih v1 v2 v3 v4 v5 (v6 + 1) r11.2 hw13 (by omega) (by omega) (by omega) (by omega) hk)
      · have i18 := nleI c14
        refine q_iload (pc := 50) K dX5_longest_50 rfl ?_
        refine q_istore (pc := 52) (lv' := [some (.ref (gob G 0)), some (.int v1), some (.int v2), some (.int v3), some (.int v6), some (.int v5), some (.int v6), some (.int r11.1)]) K dX5_longest_52 (by decide) (Nat.le_of_ble_eq_true rfl) rfl ?_
        refine q_iload (pc := 54) K dX5_longest_54 rfl ?_
        refine q_istore (pc := 56) (lv' := [some (.ref (gob G 0)), some (.int v1), some (.int v2), some (.int v3), some (.int v6), some (.int r11.1), some (.int v6), some (.int r11.1)]) K dX5_longest_56 (by decide) (Nat.le_of_ble_eq_true rfl) rfl ?_
        refine q_iinc (pc := 58) (v := (v6 + 1)) (lv' := [some (.ref (gob G 0)), some (.int v1), some (.int v2), some (.int v3), some (.int v6), some (.int r11.1), some (.int (v6 + 1)), some (.int r11.1)]) K dX5_longest_58 rfl rfl (by decide) rfl ?_
        refine q_goto (pc := 61) (tgt := 9) K dX5_longest_61 (by decide) ?_
        refine qq_drop 7 (lv' := [some (.ref (gob G 0)), some (.int v1), some (.int v2), some (.int v3), some (.int v6), some (.int r11.1), some (.int (v6 + 1)), none]) rfl ?_
        have a16 := addI (x := v6) (y := 1) (by omega) (by omega)
        exact qq_out (ih v1 v2 v3 v6 r11.1 (v6 + 1) r11.2 hw13 (by omega) (by omega) (by omega) (by omega) hk)
set_option maxRecDepth 100000 in
set_option maxHeartbeats 4000000 in
theorem kX5_longest (l : Launch) {G : gT} (hN : wN G) (hG : gfl G = false) (v1 : Int32) (v2 : Int32) (v3 : Int32) (σ : sg) (hw : WM σ) (hp : (v2.toInt = 40 ∧ v3.toInt = 6) ∨ (v2.toInt = 32 ∧ v3.toInt = 7)) (hd : 0 ≤ v1.toInt ∧ v1.toInt < (rA σ 0 0).toInt) : cM l yX5_longest wsX5_longest rmX5_longest G [.ref (gob G 0), .int v1, .int v2, .int v3] σ (some (.int (fX5_longest v1 v2 v3 σ).1)) (fX5_longest v1 v2 v3 σ).2 := by
  refine cM_of (maxL := 8) (ret := (some .int)) (cc := cX5_longest) (fX5_longest v1 v2 v3 σ) RX5 hN (by decide +kernel) rfl rfl (Nat.le_of_ble_eq_true rfl) rfl ?_
  intro p e s m args below meth c K hr
  have km1 : ((-1) : Int32).toInt = -1 := rfl
  have k0 : (0 : Int32).toInt = 0 := rfl
  refine qq_st (lv' := [some (.ref (gob G 0)), some (.int v1), some (.int v2), some (.int v3), none, none, none, none]) rfl rfl rfl ?_
  refine qq_T (fX5_longest.eq_1 ..) ?_
  have q0 := wm_many hw (show 0 < 4 by decide)
  refine q_iconst (pc := 0) (v := 0) K dX5_longest_0 (by decide) ?_
  refine q_istore (pc := 1) (lv' := [some (.ref (gob G 0)), some (.int v1), some (.int v2), some (.int v3), some (.int 0), none, none, none]) K dX5_longest_1 (by decide) (Nat.le_of_ble_eq_true rfl) rfl ?_
  refine q_iconst (pc := 3) (v := (-1)) K dX5_longest_3 (by decide) ?_
  refine q_istore (pc := 4) (lv' := [some (.ref (gob G 0)), some (.int v1), some (.int v2), some (.int v3), some (.int 0), some (.int (-1)), none, none]) K dX5_longest_4 (by decide) (Nat.le_of_ble_eq_true rfl) rfl ?_
  refine q_iconst (pc := 6) (v := 0) K dX5_longest_6 (by decide) ?_
  refine q_istore (pc := 7) (lv' := [some (.ref (gob G 0)), some (.int v1), some (.int v2), some (.int v3), some (.int 0), some (.int (-1)), some (.int 0), none]) K dX5_longest_7 (by decide) (Nat.le_of_ble_eq_true rfl) rfl ?_
  refine lX5_longest_9 l hN hG K 8 v1 v2 v3 0 (-1) 0 σ hw (by omega) (by omega) (by omega) (by omega) (fun r21 hw23 x24 => ?_)
  refine q_iload (pc := 64) K dX5_longest_64 rfl ?_
  exact q_iret K hr dX5_longest_66
theorem hdV_X5_place : yX5_place.cls = RX5 ∧ yX5_place.cls ≠ "java/lang/invoke/MethodHandle" ∧ yX5_place.cls ≠ "java/lang/invoke/VarHandle" ∧ (parseMethodDescriptor yX5_place.desc).map (fun d => d.parameters.length) = some 1 := by decide +kernel
set_option maxRecDepth 100000 in
set_option maxHeartbeats 4000000 in
theorem kX5_place (l : Launch) {G : gT} (hN : wN G) (hG : gfl G = false) (v1 : Int32) (σ : sg) (hw : WM σ) : cM l yX5_place wsX5_place rmX5_place G [.ref (gob G 0), .int v1] σ (some (.int (fX5_place v1 σ).1)) (fX5_place v1 σ).2 := by
  refine cM_of (maxL := 3) (ret := (some .int)) (cc := cX5_place) (fX5_place v1 σ) RX5 hN (by decide +kernel) rfl rfl (Nat.le_of_ble_eq_true rfl) rfl ?_
  intro p e s m args below meth c K hr
  have k0 : (0 : Int32).toInt = 0 := rfl
  have k6 : (6 : Int32).toInt = 6 := rfl
  have k40 : (40 : Int32).toInt = 40 := rfl
  have k100 : (100 : Int32).toInt = 100 := rfl
  refine qq_st (lv' := [some (.ref (gob G 0)), some (.int v1), none]) rfl rfl rfl ?_
  refine qq_T (fX5_place.eq_1 ..) ?_
  refine q_aload_n (pc := 0) K dX5_place_0 rfl rfl ?_
  refine q_aload_n (pc := 1) K dX5_place_1 rfl rfl ?_
  refine q_iload_n (pc := 2) K dX5_place_2 rfl rfl ?_
  refine q_callVi (pc := 3) (o := 0) (rm := rmX5_isDeed) K (kX5_isDeed l hN hG v1 σ hw) gX5_place_X5_isDeed rfl hdV_X5_isDeed ⟨Nat.le_of_ble_eq_true rfl, Nat.le_of_ble_eq_true rfl⟩ rfl rfl ⟨Nat.zero_le _, Nat.zero_le _⟩ (wO_m hG) vw_4 rfl rfl (Nat.le_of_ble_eq_true rfl) dX5_place_3 ?_
  refine q_bipush (pc := 6) (v := 100) K dX5_place_6 (by decide) ?_
  refine q_callVi (pc := 8) (o := 0) (rm := rmX5_lacks) K (kX5_lacks l hN hG (fX5_isDeed v1 σ) 100 σ hw) gX5_place_X5_lacks rfl hdV_X5_lacks ⟨Nat.le_of_ble_eq_true rfl, Nat.le_of_ble_eq_true rfl⟩ rfl rfl ⟨Nat.zero_le _, Nat.zero_le _⟩ (wO_m hG) vw_4 rfl rfl (Nat.le_of_ble_eq_true rfl) dX5_place_8 ?_
  have lr := lkR (fX5_isDeed v1 σ) 100 σ
  refine q_istore_n (pc := 11) (lv' := [some (.ref (gob G 0)), some (.int v1), some (.int (fX5_lacks (fX5_isDeed v1 σ) 100 σ))]) K dX5_place_11 rfl (by decide) (Nat.le_of_ble_eq_true rfl) rfl ?_
  refine q_iload_n (pc := 12) K dX5_place_12 rfl rfl ?_
  refine q_if_lt (pc := 13) (tgt := 24) K dX5_place_13 (by decide) (fun c1 => ?_) (fun c1 => ?_)
  · have i8 := ltI c1
    have b9 := lkD_t hw c1
    refine q_aload_n (pc := 24) K dX5_place_24 rfl rfl ?_
    refine q_iload_n (pc := 25) K dX5_place_25 rfl rfl ?_
    refine q_bipush (pc := 26) (v := 40) K dX5_place_26 (by decide) ?_
    refine q_bipush (pc := 28) (v := 6) K dX5_place_28 (by decide) ?_
    refine q_callVi (pc := 30) (o := 0) (rm := rmX5_longest) K (kX5_longest l hN hG v1 40 6 σ hw (by omega) (by omega)) gX5_place_X5_longest rfl hdV_X5_longest ⟨Nat.le_of_ble_eq_true rfl, Nat.le_of_ble_eq_true rfl⟩ rfl rfl ⟨Nat.zero_le _, Nat.zero_le _⟩ (wO_m hG) vw_4 rfl rfl (Nat.le_of_ble_eq_true rfl) dX5_place_30 ?_
    refine qq_nmI (fun r2 e3 => ?_)
    have hw4 : WM r2.2 := by rw [e3]; exact wX5_longest v1 40 6 hw (by omega) (by omega)
    exact q_iret K hr dX5_place_33
  · have i10 := nltI c1
    refine q_aload_n (pc := 16) K dX5_place_16 rfl rfl ?_
    refine q_iload_n (pc := 17) K dX5_place_17 rfl rfl ?_
    refine q_callVi (pc := 18) (o := 0) (rm := rmX5_finding) K (kX5_finding l hN hG (fX5_lacks (fX5_isDeed v1 σ) 100 σ) σ hw (by omega)) gX5_place_X5_finding rfl hdV_X5_finding ⟨Nat.le_of_ble_eq_true rfl, Nat.le_of_ble_eq_true rfl⟩ rfl rfl ⟨Nat.zero_le _, Nat.zero_le _⟩ (wO_m hG) vw_4 rfl rfl (Nat.le_of_ble_eq_true rfl) dX5_place_18 ?_
    refine qq_nmI (fun r5 e6 => ?_)
    have hw7 : WM r5.2 := by rw [e6]; exact wX5_finding (fX5_lacks (fX5_isDeed v1 σ) 100 σ) hw (by omega)
    refine q_goto (pc := 21) (tgt := 33) K dX5_place_21 (by decide) ?_
    exact q_iret K hr dX5_place_33
theorem hdV_X5_kindFor : yX5_kindFor.cls = RX5 ∧ yX5_kindFor.cls ≠ "java/lang/invoke/MethodHandle" ∧ yX5_kindFor.cls ≠ "java/lang/invoke/VarHandle" ∧ (parseMethodDescriptor yX5_kindFor.desc).map (fun d => d.parameters.length) = some 1 := by decide +kernel
set_option maxRecDepth 100000 in
set_option maxHeartbeats 4000000 in
theorem kX5_kindFor (l : Launch) {G : gT} (hN : wN G) (hG : gfl G = false) (v1 : Int32) (σ : sg) (hw : WM σ) : cM l yX5_kindFor wsX5_kindFor rmX5_kindFor G [.ref (gob G 0), .int v1] σ (some (.int (fX5_kindFor v1 σ).1)) (fX5_kindFor v1 σ).2 := by
  refine cM_of (maxL := 3) (ret := (some .int)) (cc := cX5_kindFor) (fX5_kindFor v1 σ) RX5 hN (by decide +kernel) rfl rfl (Nat.le_of_ble_eq_true rfl) rfl ?_
  intro p e s m args below meth c K hr
  have k0 : (0 : Int32).toInt = 0 := rfl
  have k7 : (7 : Int32).toInt = 7 := rfl
  have k32 : (32 : Int32).toInt = 32 := rfl
  have k100 : (100 : Int32).toInt = 100 := rfl
  refine qq_st (lv' := [some (.ref (gob G 0)), some (.int v1), none]) rfl rfl rfl ?_
  refine qq_T (fX5_kindFor.eq_1 ..) ?_
  refine q_aload_n (pc := 0) K dX5_kindFor_0 rfl rfl ?_
  refine q_aload_n (pc := 1) K dX5_kindFor_1 rfl rfl ?_
  refine q_iload_n (pc := 2) K dX5_kindFor_2 rfl rfl ?_
  refine q_callVi (pc := 3) (o := 0) (rm := rmX5_isDeed) K (kX5_isDeed l hN hG v1 σ hw) gX5_kindFor_X5_isDeed rfl hdV_X5_isDeed ⟨Nat.le_of_ble_eq_true rfl, Nat.le_of_ble_eq_true rfl⟩ rfl rfl ⟨Nat.zero_le _, Nat.zero_le _⟩ (wO_m hG) vw_4 rfl rfl (Nat.le_of_ble_eq_true rfl) dX5_kindFor_3 ?_
  refine q_bipush (pc := 6) (v := 100) K dX5_kindFor_6 (by decide) ?_
  refine q_callVi (pc := 8) (o := 0) (rm := rmX5_lacks) K (kX5_lacks l hN hG (fX5_isDeed v1 σ) 100 σ hw) gX5_kindFor_X5_lacks rfl hdV_X5_lacks ⟨Nat.le_of_ble_eq_true rfl, Nat.le_of_ble_eq_true rfl⟩ rfl rfl ⟨Nat.zero_le _, Nat.zero_le _⟩ (wO_m hG) vw_4 rfl rfl (Nat.le_of_ble_eq_true rfl) dX5_kindFor_8 ?_
  have lr := lkR (fX5_isDeed v1 σ) 100 σ
  refine q_istore_n (pc := 11) (lv' := [some (.ref (gob G 0)), some (.int v1), some (.int (fX5_lacks (fX5_isDeed v1 σ) 100 σ))]) K dX5_kindFor_11 rfl (by decide) (Nat.le_of_ble_eq_true rfl) rfl ?_
  refine q_iload_n (pc := 12) K dX5_kindFor_12 rfl rfl ?_
  refine q_if_lt (pc := 13) (tgt := 24) K dX5_kindFor_13 (by decide) (fun c1 => ?_) (fun c1 => ?_)
  · have i8 := ltI c1
    have b9 := lkD_t hw c1
    refine q_aload_n (pc := 24) K dX5_kindFor_24 rfl rfl ?_
    refine q_iload_n (pc := 25) K dX5_kindFor_25 rfl rfl ?_
    refine q_bipush (pc := 26) (v := 32) K dX5_kindFor_26 (by decide) ?_
    refine q_bipush (pc := 28) (v := 7) K dX5_kindFor_28 (by decide) ?_
    refine q_callVi (pc := 30) (o := 0) (rm := rmX5_longest) K (kX5_longest l hN hG v1 32 7 σ hw (by omega) (by omega)) gX5_kindFor_X5_longest rfl hdV_X5_longest ⟨Nat.le_of_ble_eq_true rfl, Nat.le_of_ble_eq_true rfl⟩ rfl rfl ⟨Nat.zero_le _, Nat.zero_le _⟩ (wO_m hG) vw_4 rfl rfl (Nat.le_of_ble_eq_true rfl) dX5_kindFor_30 ?_
    refine qq_nmI (fun r2 e3 => ?_)
    have hw4 : WM r2.2 := by rw [e3]; exact wX5_longest v1 32 7 hw (by omega) (by omega)
    exact q_iret K hr dX5_kindFor_33
  · have i10 := nltI c1
    refine q_aload_n (pc := 16) K dX5_kindFor_16 rfl rfl ?_
    refine q_iload_n (pc := 17) K dX5_kindFor_17 rfl rfl ?_
    refine q_callVi (pc := 18) (o := 0) (rm := rmX5_finding) K (kX5_finding l hN hG (fX5_lacks (fX5_isDeed v1 σ) 100 σ) σ hw (by omega)) gX5_kindFor_X5_finding rfl hdV_X5_finding ⟨Nat.le_of_ble_eq_true rfl, Nat.le_of_ble_eq_true rfl⟩ rfl rfl ⟨Nat.zero_le _, Nat.zero_le _⟩ (wO_m hG) vw_4 rfl rfl (Nat.le_of_ble_eq_true rfl) dX5_kindFor_18 ?_
    refine qq_nmI (fun r5 e6 => ?_)
    have hw7 : WM r5.2 := by rw [e6]; exact wX5_finding (fX5_lacks (fX5_isDeed v1 σ) 100 σ) hw (by omega)
    refine q_goto (pc := 21) (tgt := 33) K dX5_kindFor_21 (by decide) ?_
    exact q_iret K hr dX5_kindFor_33
