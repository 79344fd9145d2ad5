def rmX5_bears : Room := { frames := 5, cells := 0, slots := 0, locals := 114 }
def LX5_bears_40 : Nat → Int32 → Int32 → Int32 → sg → Int32 × sg
  | 0, v1, v2, v4, σ => (0, σ)
  | k + 1, v1, v2, v4, σ => (if v4 < 0 then bnd (fX5_finding 3 σ) (fun r11 => (r11.1, r11.2)) else bnd (fX5_row 0 2 σ) (fun r14 => bnd (sA r14 2 1 v4) (fun s17 => bnd (fX5_holdingBehind v2 s17) (fun r22 => (if ((jshr r22.1 v1) &&& 1) = 1 then (v4, r22.2) else LX5_bears_40 k v1 v2 (v4 + (-1)) r22.2)))))
def fX5_bears (v1 : Int32) (v2 : Int32) (σ : sg) : Int32 × sg := (if (fX5_isDeed v1 σ) = 0 then bnd (fX5_finding (fX5_lacks 0 v2 σ) σ) (fun r2 => (r2.1, r2.2)) else (if (fX5_isAhead v2) = 0 then bnd (fX5_finding (fX5_lacks 0 v2 σ) σ) (fun r6 => (r6.1, r6.2)) else (if (fX5_lacks 1 v2 σ) < 0 then LX5_bears_40 42 v1 v2 40 σ else bnd (fX5_finding (fX5_lacks 1 v2 σ) σ) (fun r30 => (r30.1, r30.2)))))
def rmX5_feed : Room := { frames := 1, cells := 0, slots := 0, locals := 22 }
def LX5_feed_40 : Nat → Int32 → Int32 → sg → sg
  | 0, v1, v3, σ => σ
  | k + 1, v1, v3, σ => (if v3 < 0 then σ else bnd (sA σ 4 (rF σ 1) ((jshr v1 v3) &&& 255)) (fun s6 => bnd (sF9 s6 1 ((rF s6 1) + 1)) (fun s11 => LX5_feed_40 k v1 (v3 + (-8)) s11)))
def fX5_feed (v1 : Int32) (v2 : Int32) (σ : sg) : Int32 × sg := (if (fX5_within v2 1 4) = 0 then bnd (fX5_finding 0 σ) (fun r29 => (r29.1, r29.2)) else (if ((rF σ 1) + v2) ≤ 120 then bnd (LX5_feed_40 33 v1 ((8 * v2) - 8) σ) (fun r20 => ((rF r20 1), r20)) else bnd (fX5_finding 1 σ) (fun r24 => (r24.1, r24.2))))
set_option maxRecDepth 100000 in
set_option maxHeartbeats 4000000 in
theorem wLX5_bears_40 : ∀ (k : Nat) (v1 v2 v4 : Int32) (σ : sg) (hw : WM σ) (hv4 : -1 ≤ v4.toInt ∧ v4.toInt ≤ 40) (hnv2 : v2.toInt ≤ 100) (hmu : (v4.toInt + 1).toNat < k), WMi (LX5_bears_40 k v1 v2 v4 σ) := by
  intro k
  induction k with
  | zero => intro v1 v2 v4 σ hw hv4 hnv2 hmu; exact absurd hmu (Nat.not_lt_zero _)
  | succ k ih =>
    intro v1 v2 v4 σ hw hv4 hnv2 hmu
    have km1 : ((-1) : Int32).toInt = -1 := rfl
    have k0 : (0 : Int32).toInt = 0 := rfl
    have k1 : (1 : Int32).toInt = 1 := rfl
    have k3 : (3 : Int32).toInt = 3 := rfl
    rw [show LX5_bears_40 (k + 1) v1 v2 v4 σ = _ from LX5_bears_40.eq_2 ..]
    refine wf_ite (fun c10 => ?_) (fun c10 => ?_)
    · have i28 := ltI c10
      refine wf_bnd (fun r11 e12 => ?_)
      have hw13 : WM r11.2 := by rw [e12]; exact wX5_finding 3 hw (by omega)
      exact hw13
    · have i29 := nltI c10
      refine wf_bnd (fun r14 e15 => ?_)
      have hw16 : WM r14 := by rw [e15]; exact wX5_row 0 (by decide) 2 (by decide) hw (by omega)
      have me15 := row0 (show 0 ≠ 2 by decide) e15
      refine wf_bnd (fun s17 e18 => ?_)
      have hw19 : WM s17 := by rw [e18]; exact wmRn hw16 (by decide) (by omega) (by omega) (by omega) (by omega)
      have m20 := mKeep e18 (by omega)
      have m21 := many6 e18 (show 0 ≠ 2 by decide)
      refine wf_bnd (fun r22 e23 => ?_)
      have hw24 : WM r22.2 := by rw [e23]; exact wX5_holdingBehind v2 hw19 (by omega)
      have hbe23 := hbB hw24 e23
      have hme23 := hbm e23
      refine wf_ite (fun c25 => ?_) (fun c25 => ?_)
      · have i27 := eqI c25
        exact hw24
      · have i26 := neI c25
        exact ih v1 v2 (v4 + (-1)) r22.2 hw24 (decB (pos0 (by assumption)) hv4.2).1 (by omega) (Nat.lt_of_lt_of_le (decB (pos0 (by assumption)) hv4.2).2 (Nat.le_of_lt_succ hmu))
set_option maxRecDepth 100000 in
set_option maxHeartbeats 4000000 in
theorem wX5_bears (v1 : Int32) (v2 : Int32) {σ : sg} (hw : WM σ) : WMi (fX5_bears v1 v2 σ) := by
  have k0 : (0 : Int32).toInt = 0 := rfl
  have k1 : (1 : Int32).toInt = 1 := rfl
  have k40 : (40 : Int32).toInt = 40 := rfl
  rw [show fX5_bears v1 v2 σ = _ from fX5_bears.eq_1 ..]
  refine wf_ite (fun c1 => ?_) (fun c1 => ?_)
  · have i38 := eqI c1
    have lr := lkR 0 v2 σ
    have lz := lkZ v2 σ
    refine wf_bnd (fun r2 e3 => ?_)
    have hw4 : WM r2.2 := by rw [e3]; exact wX5_finding (fX5_lacks 0 v2 σ) hw (by omega)
    exact hw4
  · have i39 := neI c1
    have b40 := wiD_t hw c1
    refine wf_ite (fun c5 => ?_) (fun c5 => ?_)
    · have i35 := eqI c5
      have lr := lkR 0 v2 σ
      have lz := lkZ v2 σ
      refine wf_bnd (fun r6 e7 => ?_)
      have hw8 : WM r6.2 := by rw [e7]; exact wX5_finding (fX5_lacks 0 v2 σ) hw (by omega)
      exact hw8
    · have i36 := neI c5
      have b37 := wiA_t c5
      have lr := lkR 1 v2 σ
      refine wf_ite (fun c9 => ?_) (fun c9 => ?_)
      · have i33 := ltI c9
        exact wLX5_bears_40 42 v1 v2 40 σ hw (by omega) (by omega) (by omega)
      · have i34 := nltI c9
        refine wf_bnd (fun r30 e31 => ?_)
        have hw32 : WM r30.2 := by rw [e31]; exact wX5_finding (fX5_lacks 1 v2 σ) hw (by omega)
        exact hw32
def PLX5_feed_40 : sg → Prop := fun r => (WM r) ∧ True
set_option maxRecDepth 100000 in
set_option maxHeartbeats 4000000 in
theorem wLX5_feed_40 : ∀ (k : Nat) (v1 v3 : Int32) (σ : sg) (hw : WM σ) (hv3 : -8 ≤ v3.toInt ∧ v3.toInt ≤ 24) (ht : (rF σ 1).toInt * 8 + v3.toInt + 8 ≤ 960) (hmu : (v3.toInt + 8).toNat < k), PLX5_feed_40 (LX5_feed_40 k v1 v3 σ) := by
  intro k
  induction k with
  | zero => intro v1 v3 σ hw hv3 ht hmu; exact absurd hmu (Nat.not_lt_zero _)
  | succ k ih =>
    intro v1 v3 σ hw hv3 ht hmu
    have km8 : ((-8) : Int32).toInt = -8 := rfl
    have k0 : (0 : Int32).toInt = 0 := rfl
    have k1 : (1 : Int32).toInt = 1 := rfl
    have k255 : (255 : Int32).toInt = 255 := rfl
    rw [show LX5_feed_40 (k + 1) v1 v3 σ = _ from LX5_feed_40.eq_2 ..]
    refine wf_ite (fun c4 => ?_) (fun c4 => ?_)
    · have i16 := ltI c4
      exact ⟨hw, trivial⟩
    · have i17 := nltI c4
      have w5 := wm_taped hw
      refine wf_bnd (fun s6 e7 => ?_)
      have hw8 : WM s6 := by rw [e7]; exact wmA hw (by omega)
      have m9 := many6 e7 (show 0 ≠ 4 by decide)
      have w10 := wm_taped hw8
      have q1 := congrArg Int32.toInt (show rF s6 1 = rF σ 1 by simp only [sA_F, *])
      have a13 := addI (x := (rF s6 1)) (y := 1) (by omega) (by omega)
      refine wf_bnd (fun s11 e12 => ?_)
      have hw14 : WM s11 := by rw [e12]; exact wmFt hw8 (by omega) (by omega)
      have f15 := congrArg Int32.toInt (show rF s11 1 = ((rF s6 1) + 1) by rw [e12]; exact sF_same9)
      exact ih v1 (v3 + (-8)) s11 hw14 (decF (pos0 (by assumption)) hv3.2).1 (decT (pos0 (by assumption)) hv3.2 ht (by omega)) (Nat.lt_of_lt_of_le (decF (pos0 (by assumption)) hv3.2).2.1 (Nat.le_of_lt_succ hmu))
set_option maxRecDepth 100000 in
set_option maxHeartbeats 4000000 in
theorem wX5_feed (v1 : Int32) (v2 : Int32) {σ : sg} (hw : WM σ) : WMi (fX5_feed v1 v2 σ) := by
  have k0 : (0 : Int32).toInt = 0 := rfl
  have k1 : (1 : Int32).toInt = 1 := rfl
  have k4 : (4 : Int32).toInt = 4 := rfl
  have k8 : (8 : Int32).toInt = 8 := rfl
  have k120 : (120 : Int32).toInt = 120 := rfl
  rw [show fX5_feed v1 v2 σ = _ from fX5_feed.eq_1 ..]
  refine wf_ite (fun c1 => ?_) (fun c1 => ?_)
  · have i34 := eqI c1
    refine wf_bnd (fun r29 e30 => ?_)
    have hw31 : WM r29.2 := by rw [e30]; exact wX5_finding 0 hw (by omega)
    exact hw31
  · have i32 := neI c1
    have b33 := wi_t c1
    have w2 := wm_taped hw
    have t1 := addI (x := rF σ 1) (y := v2) (by omega) (by omega)
    refine wf_ite (fun c3 => ?_) (fun c3 => ?_)
    · have i27 := leI c3
      have a18 := mulI (x := 8) (y := v2) (by first | omega | (simp only [k8]; omega)) (by first | omega | (simp only [k8]; omega))
      simp only [k8] at a18
      have a19 := subI (x := (8 * v2)) (y := 8) (by omega) (by omega)
      refine wf_bnd (fun r20 e21 => ?_)
      obtain ⟨hw22, _⟩ := (show PLX5_feed_40 r20 from by rw [e21]; exact wLX5_feed_40 33 v1 ((8 * v2) - 8) σ hw (by omega) (by omega) (by omega))
      have w23 := wm_taped hw22
      exact hw22
    · have i28 := nleI c3
      refine wf_bnd (fun r24 e25 => ?_)
      have hw26 : WM r24.2 := by rw [e25]; exact wX5_finding 1 hw (by omega)
      exact hw26
theorem hdV_X5_bears : yX5_bears.cls = RX5 ∧ yX5_bears.cls ≠ "java/lang/invoke/MethodHandle" ∧ yX5_bears.cls ≠ "java/lang/invoke/VarHandle" ∧ (parseMethodDescriptor yX5_bears.desc).map (fun d => d.parameters.length) = some 2 := by decide +kernel
theorem mX5_bears_f9 : Cond.fieldLink RX5 9 "WaxTreatiesModel" "now" "[I" ∈ wsX5_bears := List.mem_of_getElem? (i := 1) rfl
theorem iwX5_bears_X5 : ∀ w ∈ wsX50, w ∈ wsX5_bears := fun w h => List.mem_cons_of_mem _ (List.mem_append_right _ h)
theorem mX5_bears_f16 : Cond.fieldLink RX5 16 "WaxTreatiesModel" "tried" "[I" ∈ wsX5_bears := List.mem_of_getElem? (i := 2) rfl
set_option maxRecDepth 100000 in
set_option maxHeartbeats 4000000 in
theorem lX5_bears_40 {p : Program} (l : Launch) {e : Env} {s : State} {m : MethodId} {args : Array Value} {below : List Frame} {meth : Method} {c : Code} {G : gT} (hN : wN G) (hG : gfl G = false) (K : qK p s m args meth c cX5_bears 5 RX5 wsX5_bears G) : ∀ (k : Nat) (v1 v2 v4 : Int32) (σ : sg) (hw : WM σ) (hv4 : -1 ≤ v4.toInt ∧ v4.toInt ≤ 40) (hnv2 : v2.toInt ≤ 100) (hmu : (v4.toInt + 1).toNat < k) (hr : meth.sig.returnType = some .int) (T0 : Int32 × sg), qq p l e (headSpec wsX5_bears rmX5_bears).room s m args below meth c (MQ below (cQ G (some (.int T0.1)) T0.2) args s 0 0 (wA G)) 5 G (fun T => T = T0) (LX5_bears_40 k v1 v2 v4 σ) 40 [some (.ref (gob G 0)), some (.int v1), some (.int v2), none, some (.int v4)] [] σ := by
  intro k
  induction k with
  | zero => intro v1 v2 v4 σ hw hv4 hnv2 hmu hr T0; exact absurd hmu (Nat.not_lt_zero _)
  | succ k ih =>
    intro v1 v2 v4 σ hw hv4 hnv2 hmu hr T0
    have km1 : ((-1) : Int32).toInt = -1 := rfl
    have k0 : (0 : Int32).toInt = 0 := rfl
    have k1 : (1 : Int32).toInt = 1 := rfl
    have k3 : (3 : Int32).toInt = 3 := rfl
    refine qq_T (LX5_bears_40.eq_2 ..) ?_
    refine q_iload (pc := 40) K dX5_bears_40 rfl ?_
    refine q_if_lt (pc := 42) (tgt := 86) K dX5_bears_42 (by decide) (fun c10 => ?_) (fun c10 => ?_)
    · have i28 := ltI c10
      refine q_aload_n (pc := 86) K dX5_bears_86 rfl rfl ?_
      refine q_iconst (pc := 87) (v := 3) K dX5_bears_87 (by decide) ?_
      refine q_callVi (pc := 88) (o := 0) (rm := rmX5_finding) K (kX5_finding l hN hG 3 σ hw (by omega)) gX5_bears_X5_finding rfl hdV_X5_finding ⟨Nat.le_of_ble_eq_true rfl, Nat.le_of_ble_eq_true rfl⟩ rfl rfl ⟨Nat.zero_le _, Nat.zero_le _⟩ (wO_m hG) vw_4 rfl rfl (Nat.le_of_ble_eq_true rfl) dX5_bears_88 ?_
      refine qq_nmI (fun r11 e12 => ?_)
      have hw13 : WM r11.2 := by rw [e12]; exact wX5_finding 3 hw (by omega)
      exact q_iret K hr dX5_bears_91
    · have i29 := nltI c10
      refine q_aload_n (pc := 45) K dX5_bears_45 rfl rfl ?_
      refine q_get (pc := 46) (o := 0) (f := 0) (v := .ref (gad G 0)) K (wO_m hG) vw_4 iwX5_bears_X5 (by decide) mX5_bears_f9 rfl dX5_bears_46 ?_
      refine q_aload_n (pc := 49) K dX5_bears_49 rfl rfl ?_
      refine q_get (pc := 50) (o := 0) (f := 2) (v := .ref (gad G 2)) K (wO_m hG) vw_4 iwX5_bears_X5 (by decide) mX5_bears_f16 rfl dX5_bears_50 ?_
      refine q_callSv (pc := 53) (rm := rmX5_row) K (kX5_row l hN hG 0 (by decide) 2 (by decide) σ (by omega)) gX5_bears_X5_row rfl hdS_X5_row ⟨Nat.le_of_ble_eq_true rfl, Nat.le_of_ble_eq_true rfl⟩ rfl rfl ⟨Nat.zero_le _, Nat.zero_le _⟩ rfl rfl (Nat.le_of_ble_eq_true rfl) dX5_bears_53 ?_
      refine qq_nmV (fun r14 e15 => ?_)
      have hw16 : WM r14 := by rw [e15]; exact wX5_row 0 (by decide) 2 (by decide) hw (by omega)
      have me15 := row0 (show 0 ≠ 2 by decide) e15
      refine q_aload_n (pc := 56) K dX5_bears_56 rfl rfl ?_
      refine q_get (pc := 57) (o := 0) (f := 2) (v := .ref (gad G 2)) K (wO_m hG) vw_4 iwX5_bears_X5 (by decide) mX5_bears_f16 rfl dX5_bears_57 ?_
      refine q_iconst (pc := 60) (v := 1) K dX5_bears_60 (by decide) ?_
      refine q_iload (pc := 61) K dX5_bears_61 rfl ?_
      refine q_iast (pc := 63) (a := 2) K (by rw [wna_f hG]; decide) (vinN (wlm (n := 80) hG 2 rfl) (by omega) (by omega)) dX5_bears_63 (fun s17 e18 => ?_)
      have hw19 : WM s17 := by rw [e18]; exact wmRn hw16 (by decide) (by omega) (by omega) (by omega) (by omega)
      have m20 := mKeep e18 (by omega)
      have m21 := many6 e18 (show 0 ≠ 2 by decide)
      refine q_aload_n (pc := 64) K dX5_bears_64 rfl rfl ?_
      refine q_iload_n (pc := 65) K dX5_bears_65 rfl rfl ?_
      refine q_callVi (pc := 66) (o := 0) (rm := rmX5_holdingBehind) K (kX5_holdingBehind l hN hG v2 s17 hw19 (by omega)) gX5_bears_X5_holdingBehind rfl hdV_X5_holdingBehind ⟨Nat.le_of_ble_eq_true rfl, Nat.le_of_ble_eq_true rfl⟩ rfl rfl ⟨Nat.zero_le _, Nat.zero_le _⟩ (wO_m hG) vw_4 rfl rfl (Nat.le_of_ble_eq_true rfl) dX5_bears_66 ?_
      refine qq_nmI (fun r22 e23 => ?_)
      have hw24 : WM r22.2 := by rw [e23]; exact wX5_holdingBehind v2 hw19 (by omega)
      have hbe23 := hbB hw24 e23
      have hme23 := hbm e23
      refine q_iload_n (pc := 69) K dX5_bears_69 rfl rfl ?_
      refine q_ishr (pc := 70) K dX5_bears_70 ?_
      refine q_iconst (pc := 71) (v := 1) K dX5_bears_71 (by decide) ?_
      refine q_iand (pc := 72) K dX5_bears_72 ?_
      refine q_iconst (pc := 73) (v := 1) K dX5_bears_73 (by decide) ?_
      refine q_icmp_ne (pc := 74) (tgt := 80) K dX5_bears_74 (by decide) (fun c25 => ?_) (fun c25 => ?_)
      · have i26 := neI c25
        refine q_iinc (pc := 80) (v := (v4 + (-1))) (lv' := [some (.ref (gob G 0)), some (.int v1), some (.int v2), none, some (.int (v4 + (-1)))]) K dX5_bears_80 rfl rfl (by decide) rfl ?_
        refine q_goto (pc := 83) (tgt := 40) K dX5_bears_83 (by decide) ?_
        exact ih v1 v2 (v4 + (-1)) r22.2 hw24 (decB (pos0 (by assumption)) hv4.2).1 (by omega) (Nat.lt_of_lt_of_le (decB (pos0 (by assumption)) hv4.2).2 (Nat.le_of_lt_succ hmu)) hr _
      · have i27 := eqI c25
        refine q_iload (pc := 77) K dX5_bears_77 rfl ?_
        exact q_iret K hr dX5_bears_79
set_option maxRecDepth 100000 in
set_option maxHeartbeats 4000000 in
theorem kX5_bears (l : Launch) {G : gT} (hN : wN G) (hG : gfl G = false) (v1 : Int32) (v2 : Int32) (σ : sg) (hw : WM σ) : cM l yX5_bears wsX5_bears rmX5_bears G [.ref (gob G 0), .int v1, .int v2] σ (some (.int (fX5_bears v1 v2 σ).1)) (fX5_bears v1 v2 σ).2 := by
  refine cM_of (maxL := 5) (ret := (some .int)) (cc := cX5_bears) (fX5_bears v1 v2 σ) RX5 hN (by decide +kernel) rfl rfl (Nat.le_of_ble_eq_true rfl) rfl ?_
  intro p e s m args below meth c K hr
  have k0 : (0 : Int32).toInt = 0 := rfl
  have k1 : (1 : Int32).toInt = 1 := rfl
  have k40 : (40 : Int32).toInt = 40 := rfl
  refine qq_st (lv' := [some (.ref (gob G 0)), some (.int v1), some (.int v2), none, none]) rfl rfl rfl ?_
  refine qq_T (fX5_bears.eq_1 ..) ?_
  refine q_aload_n (pc := 0) K dX5_bears_0 rfl rfl ?_
  refine q_aload_n (pc := 1) K dX5_bears_1 rfl rfl ?_
  refine q_iload_n (pc := 2) K dX5_bears_2 rfl rfl ?_
  refine q_callVi (pc := 3) (o := 0) (rm := rmX5_isDeed) K (kX5_isDeed l hN hG v1 σ hw) gX5_bears_X5_isDeed rfl hdV_X5_isDeed ⟨Nat.le_of_ble_eq_true rfl, Nat.le_of_ble_eq_true rfl⟩ rfl rfl ⟨Nat.zero_le _, Nat.zero_le _⟩ (wO_m hG) vw_4 rfl rfl (Nat.le_of_ble_eq_true rfl) dX5_bears_3 ?_
  refine q_if_eq (pc := 6) (tgt := 20) K dX5_bears_6 (by decide) (fun c1 => ?_) (fun c1 => ?_)
  · have i38 := eqI c1
    refine q_iconst (pc := 20) (v := 0) K dX5_bears_20 (by decide) ?_
    refine q_iload_n (pc := 21) K dX5_bears_21 rfl rfl ?_
    refine q_callVi (pc := 22) (o := 0) (rm := rmX5_lacks) K (kX5_lacks l hN hG 0 v2 σ hw) gX5_bears_X5_lacks rfl hdV_X5_lacks ⟨Nat.le_of_ble_eq_true rfl, Nat.le_of_ble_eq_true rfl⟩ rfl rfl ⟨Nat.zero_le _, Nat.zero_le _⟩ (wO_m hG) vw_4 rfl rfl (Nat.le_of_ble_eq_true rfl) dX5_bears_22 ?_
    have lr := lkR 0 v2 σ
    have lz := lkZ v2 σ
    refine q_istore_n (pc := 25) (lv' := [some (.ref (gob G 0)), some (.int v1), some (.int v2), some (.int (fX5_lacks 0 v2 σ)), none]) K dX5_bears_25 rfl (by decide) (Nat.le_of_ble_eq_true rfl) rfl ?_
    refine q_iload_n (pc := 26) K dX5_bears_26 rfl rfl ?_
    refine q_if_lt_f (pc := 27) (tgt := 36) K (lk0 _ _) dX5_bears_27 (by decide) ?_
    refine q_aload_n (pc := 30) K dX5_bears_30 rfl rfl ?_
    refine q_iload_n (pc := 31) K dX5_bears_31 rfl rfl ?_
    refine q_callVi (pc := 32) (o := 0) (rm := rmX5_finding) K (kX5_finding l hN hG (fX5_lacks 0 v2 σ) σ hw (by omega)) gX5_bears_X5_finding rfl hdV_X5_finding ⟨Nat.le_of_ble_eq_true rfl, Nat.le_of_ble_eq_true rfl⟩ rfl rfl ⟨Nat.zero_le _, Nat.zero_le _⟩ (wO_m hG) vw_4 rfl rfl (Nat.le_of_ble_eq_true rfl) dX5_bears_32 ?_
    refine qq_nmI (fun r2 e3 => ?_)
    have hw4 : WM r2.2 := by rw [e3]; exact wX5_finding (fX5_lacks 0 v2 σ) hw (by omega)
    exact q_iret K hr dX5_bears_35
  · have i39 := neI c1
    have b40 := wiD_t hw c1
    refine q_iload_n (pc := 9) K dX5_bears_9 rfl rfl ?_
    refine q_callSi (pc := 10) (rm := rmX5_isAhead) K (kX5_isAhead l hN v2 σ) gX5_bears_X5_isAhead rfl hdS_X5_isAhead ⟨Nat.le_of_ble_eq_true rfl, Nat.le_of_ble_eq_true rfl⟩ rfl rfl ⟨Nat.zero_le _, Nat.zero_le _⟩ rfl rfl (Nat.le_of_ble_eq_true rfl) dX5_bears_10 ?_
    refine q_if_eq (pc := 13) (tgt := 20) K dX5_bears_13 (by decide) (fun c5 => ?_) (fun c5 => ?_)
    · have i35 := eqI c5
      refine q_iconst (pc := 20) (v := 0) K dX5_bears_20 (by decide) ?_
      refine q_iload_n (pc := 21) K dX5_bears_21 rfl rfl ?_
      refine q_callVi (pc := 22) (o := 0) (rm := rmX5_lacks) K (kX5_lacks l hN hG 0 v2 σ hw) gX5_bears_X5_lacks rfl hdV_X5_lacks ⟨Nat.le_of_ble_eq_true rfl, Nat.le_of_ble_eq_true rfl⟩ rfl rfl ⟨Nat.zero_le _, Nat.zero_le _⟩ (wO_m hG) vw_4 rfl rfl (Nat.le_of_ble_eq_true rfl) dX5_bears_22 ?_
      have lr := lkR 0 v2 σ
      have lz := lkZ v2 σ
      refine q_istore_n (pc := 25) (lv' := [some (.ref (gob G 0)), some (.int v1), some (.int v2), some (.int (fX5_lacks 0 v2 σ)), none]) K dX5_bears_25 rfl (by decide) (Nat.le_of_ble_eq_true rfl) rfl ?_
      refine q_iload_n (pc := 26) K dX5_bears_26 rfl rfl ?_
      refine q_if_lt_f (pc := 27) (tgt := 36) K (lk0 _ _) dX5_bears_27 (by decide) ?_
      refine q_aload_n (pc := 30) K dX5_bears_30 rfl rfl ?_
      refine q_iload_n (pc := 31) K dX5_bears_31 rfl rfl ?_
      refine q_callVi (pc := 32) (o := 0) (rm := rmX5_finding) K (kX5_finding l hN hG (fX5_lacks 0 v2 σ) σ hw (by omega)) gX5_bears_X5_finding rfl hdV_X5_finding ⟨Nat.le_of_ble_eq_true rfl, Nat.le_of_ble_eq_true rfl⟩ rfl rfl ⟨Nat.zero_le _, Nat.zero_le _⟩ (wO_m hG) vw_4 rfl rfl (Nat.le_of_ble_eq_true rfl) dX5_bears_32 ?_
      refine qq_nmI (fun r6 e7 => ?_)
      have hw8 : WM r6.2 := by rw [e7]; exact wX5_finding (fX5_lacks 0 v2 σ) hw (by omega)
      exact q_iret K hr dX5_bears_35
    · have i36 := neI c5
      have b37 := wiA_t c5
      refine q_iconst (pc := 16) (v := 1) K dX5_bears_16 (by decide) ?_
      refine q_goto (pc := 17) (tgt := 21) K dX5_bears_17 (by decide) ?_
      refine q_iload_n (pc := 21) K dX5_bears_21 rfl rfl ?_
      refine q_callVi (pc := 22) (o := 0) (rm := rmX5_lacks) K (kX5_lacks l hN hG 1 v2 σ hw) gX5_bears_X5_lacks rfl hdV_X5_lacks ⟨Nat.le_of_ble_eq_true rfl, Nat.le_of_ble_eq_true rfl⟩ rfl rfl ⟨Nat.zero_le _, Nat.zero_le _⟩ (wO_m hG) vw_4 rfl rfl (Nat.le_of_ble_eq_true rfl) dX5_bears_22 ?_
      have lr := lkR 1 v2 σ
      refine q_istore_n (pc := 25) (lv' := [some (.ref (gob G 0)), some (.int v1), some (.int v2), some (.int (fX5_lacks 1 v2 σ)), none]) K dX5_bears_25 rfl (by decide) (Nat.le_of_ble_eq_true rfl) rfl ?_
      refine q_iload_n (pc := 26) K dX5_bears_26 rfl rfl ?_
      refine q_if_lt (pc := 27) (tgt := 36) K dX5_bears_27 (by decide) (fun c9 => ?_) (fun c9 => ?_)
      · have i33 := ltI c9
        refine q_bipush (pc := 36) (v := 40) K dX5_bears_36 (by decide) ?_
        refine q_istore (pc := 38) (lv' := [some (.ref (gob G 0)), some (.int v1), some (.int v2), some (.int (fX5_lacks 1 v2 σ)), some (.int 40)]) K dX5_bears_38 (by decide) (Nat.le_of_ble_eq_true rfl) rfl ?_
        refine qq_drop 3 (lv' := [some (.ref (gob G 0)), some (.int v1), some (.int v2), none, some (.int 40)]) rfl ?_
        exact lX5_bears_40 l hN hG K 42 v1 v2 40 σ hw (by omega) (by omega) (by omega) hr _
      · have i34 := nltI c9
        refine q_aload_n (pc := 30) K dX5_bears_30 rfl rfl ?_
        refine q_iload_n (pc := 31) K dX5_bears_31 rfl rfl ?_
        refine q_callVi (pc := 32) (o := 0) (rm := rmX5_finding) K (kX5_finding l hN hG (fX5_lacks 1 v2 σ) σ hw (by omega)) gX5_bears_X5_finding rfl hdV_X5_finding ⟨Nat.le_of_ble_eq_true rfl, Nat.le_of_ble_eq_true rfl⟩ rfl rfl ⟨Nat.zero_le _, Nat.zero_le _⟩ (wO_m hG) vw_4 rfl rfl (Nat.le_of_ble_eq_true rfl) dX5_bears_32 ?_
        refine qq_nmI (fun r30 e31 => ?_)
        have hw32 : WM r30.2 := by rw [e31]; exact wX5_finding (fX5_lacks 1 v2 σ) hw (by omega)
        exact q_iret K hr dX5_bears_35
theorem hdV_X5_feed : yX5_feed.cls = RX5 ∧ yX5_feed.cls ≠ "java/lang/invoke/MethodHandle" ∧ yX5_feed.cls ≠ "java/lang/invoke/VarHandle" ∧ (parseMethodDescriptor yX5_feed.desc).map (fun d => d.parameters.length) = some 2 := by decide +kernel
theorem mX5_feed_f179 : Cond.fieldLink RX5 179 "WaxTreatiesModel" "taped" "I" ∈ wsX5_feed := List.mem_of_getElem? (i := 1) rfl
theorem iwX5_feed_X5 : ∀ w ∈ wsX50, w ∈ wsX5_feed := fun w h => List.mem_cons_of_mem _ (List.mem_append_right _ h)
theorem mX5_feed_f22 : Cond.fieldLink RX5 22 "WaxTreatiesModel" "tape" "[I" ∈ wsX5_feed := List.mem_of_getElem? (i := 2) rfl
set_option maxRecDepth 100000 in
set_option maxHeartbeats 4000000 in
theorem lX5_feed_40 {p : Program} (l : Launch) {e : Env} {s : State} {m : MethodId} {args : Array Value} {below : List Frame} {meth : Method} {c : Code} {Q : State → Prop} {G : gT} (hN : wN G) (hG : gfl G = false) (K : qK p s m args meth c cX5_feed 4 RX5 wsX5_feed G) : ∀ (k : Nat) (v1 v3 : Int32) (σ : sg) (hw : WM σ) (hv3 : -8 ≤ v3.toInt ∧ v3.toInt ≤ 24) (ht : (rF σ 1).toInt * 8 + v3.toInt + 8 ≤ 960) (hmu : (v3.toInt + 8).toNat < k) {ρ : Type} {E : ρ → Prop} {f : sg → ρ} (hk : ∀ r : sg, (WM r) → qq p l e (headSpec wsX5_feed rmX5_feed).room s m args below meth c Q 4 G E (f r) 76 [some (.ref (gob G 0)), none, none, none] [] r), qq p l e (headSpec wsX5_feed rmX5_feed).room s m args below meth c Q 4 G E (bnd (LX5_feed_40 k v1 v3 σ) f) 40 [some (.ref (gob G 0)), some (.int v1), none, some (.int v3)] [] σ := by
  intro k
  induction k with
  | zero => intro v1 v3 σ hw hv3 ht hmu ρ E f hk; exact absurd hmu (Nat.not_lt_zero _)
  | succ k ih =>
    intro v1 v3 σ hw hv3 ht hmu ρ E f hk
    have km8 : ((-8) : Int32).toInt = -8 := rfl
    have k0 : (0 : Int32).toInt = 0 := rfl
    have k1 : (1 : Int32).toInt = 1 := rfl
    have k255 : (255 : Int32).toInt = 255 := rfl
    refine qq_in ?_
    refine qq_T (LX5_feed_40.eq_2 ..) ?_
    refine q_iload_n (pc := 40) K dX5_feed_40 rfl rfl ?_
    refine q_if_lt (pc := 41) (tgt := 76) K dX5_feed_41 (by decide) (fun c4 => ?_) (fun c4 => ?_)
    · have i16 := ltI c4
      refine qq_drop 1 (lv' := [some (.ref (gob G 0)), none, none, some (.int v3)]) rfl ?_
      refine qq_drop 3 (lv' := [some (.ref (gob G 0)), none, none, none]) rfl ?_
      exact qq_leaf (hk σ hw)
    · have i17 := nltI c4
      refine q_aload_n (pc := 44) K dX5_feed_44 rfl rfl ?_
      refine q_get (pc := 45) (o := 0) (f := 5) (v := .ref (gad G 4)) K (wO_m hG) vw_4 iwX5_feed_X5 (by decide) mX5_feed_f22 rfl dX5_feed_45 ?_
      refine q_aload_n (pc := 48) K dX5_feed_48 rfl rfl ?_
      refine q_get (pc := 49) (o := 0) (f := 6) (v := .int (rF σ 1)) K (wO_m hG) vw_4 iwX5_feed_X5 (by decide) mX5_feed_f179 rfl dX5_feed_49 ?_
      have w5 := wm_taped hw
      refine q_iload_n (pc := 52) K dX5_feed_52 rfl rfl ?_
      refine q_iload_n (pc := 53) K dX5_feed_53 rfl rfl ?_
      refine q_ishr (pc := 54) K dX5_feed_54 ?_
      refine q_sipush (pc := 55) (v := 255) K dX5_feed_55 (by decide) ?_
      refine q_iand (pc := 58) K dX5_feed_58 ?_
      refine q_iast (pc := 59) (a := 4) K (by rw [wna_f hG]; decide) (vinN (wlm (n := 120) hG 4 rfl) (by omega) (by omega)) dX5_feed_59 (fun s6 e7 => ?_)
      have hw8 : WM s6 := by rw [e7]; exact wmA hw (by omega)
      have m9 := many6 e7 (show 0 ≠ 4 by decide)
      refine q_aload_n (pc := 60) K dX5_feed_60 rfl rfl ?_
      refine q_dup (pc := 61) K dX5_feed_61 rfl ?_
      refine q_get (pc := 62) (o := 0) (f := 6) (v := .int (rF s6 1)) K (wO_m hG) vw_4 iwX5_feed_X5 (by decide) mX5_feed_f179 rfl dX5_feed_62 ?_
      have w10 := wm_taped hw8
      refine q_iconst (pc := 65) (v := 1) K dX5_feed_65 (by decide) ?_
      refine q_iadd (pc := 66) K dX5_feed_66 ?_
      have q1 := congrArg Int32.toInt (show rF s6 1 = rF σ 1 by simp only [sA_F, *])
      have a13 := addI (x := (rF s6 1)) (y := 1) (by omega) (by omega)
      refine q_put (pc := 67) (o := 0) (f := 6) (i := 1) (ty := .int) K tyX5 tyX5_ok nmX5 (wO_m hG) vw_4 iwX5_feed_X5 (by decide) mX5_feed_f179 rfl (tyX5_ok 6 (by decide)) rfl rfl (Nat.le_of_ble_eq_true rfl) (wP_m6 hG _) dX5_feed_67 (fun s11 e12 => ?_)
      have hw14 : WM s11 := by rw [e12]; exact wmFt hw8 (by omega) (by omega)
      have f15 := congrArg Int32.toInt (show rF s11 1 = ((rF s6 1) + 1) by rw [e12]; exact sF_same9)
      refine q_iinc (pc := 70) (v := (v3 + (-8))) (lv' := [some (.ref (gob G 0)), some (.int v1), none, some (.int (v3 + (-8)))]) K dX5_feed_70 rfl rfl (by decide) rfl ?_
      refine q_goto (pc := 73) (tgt := 40) K dX5_feed_73 (by decide) ?_
      exact qq_out (ih v1 (v3 + (-8)) s11 hw14 (decF (pos0 (by assumption)) hv3.2).1 (decT (pos0 (by assumption)) hv3.2 ht (by omega)) (Nat.lt_of_lt_of_le (decF (pos0 (by assumption)) hv3.2).2.1 (Nat.le_of_lt_succ hmu)) hk)
set_option maxRecDepth 100000 in
set_option maxHeartbeats 4000000 in
theorem kX5_feed (l : Launch) {G : gT} (hN : wN G) (hG : gfl G = false) (v1 : Int32) (v2 : Int32) (σ : sg) (hw : WM σ) : cM l yX5_feed wsX5_feed rmX5_feed G [.ref (gob G 0), .int v1, .int v2] σ (some (.int (fX5_feed v1 v2 σ).1)) (fX5_feed v1 v2 σ).2 := by
  refine cM_of (maxL := 4) (ret := (some .int)) (cc := cX5_feed) (fX5_feed v1 v2 σ) RX5 hN (by decide +kernel) rfl rfl (Nat.le_of_ble_eq_true rfl) rfl ?_
  intro p e s m args below meth c K hr
  have k0 : (0 : Int32).toInt = 0 := rfl
  have k1 : (1 : Int32).toInt = 1 := rfl
  have k4 : (4 : Int32).toInt = 4 := rfl
  have k8 : (8 : Int32).toInt = 8 := rfl
  have k120 : (120 : Int32).toInt = 120 := rfl
  refine qq_st (lv' := [some (.ref (gob G 0)), some (.int v1), some (.int v2), none]) rfl rfl rfl ?_
  refine qq_T (fX5_feed.eq_1 ..) ?_
  refine q_iload_n (pc := 0) K dX5_feed_0 rfl rfl ?_
  refine q_iconst (pc := 1) (v := 1) K dX5_feed_1 (by decide) ?_
  refine q_iconst (pc := 2) (v := 4) K dX5_feed_2 (by decide) ?_
  refine q_callSi (pc := 3) (rm := rmX5_within) K (kX5_within l hN v2 1 4 σ) gX5_feed_X5_within rfl hdS_X5_within ⟨Nat.le_of_ble_eq_true rfl, Nat.le_of_ble_eq_true rfl⟩ rfl rfl ⟨Nat.zero_le _, Nat.zero_le _⟩ rfl rfl (Nat.le_of_ble_eq_true rfl) dX5_feed_3 ?_
  refine q_if_ne (pc := 6) (tgt := 15) K dX5_feed_6 (by decide) (fun c1 => ?_) (fun c1 => ?_)
  · have i32 := neI c1
    have b33 := wi_t c1
    refine q_aload_n (pc := 15) K dX5_feed_15 rfl rfl ?_
    refine q_get (pc := 16) (o := 0) (f := 6) (v := .int (rF σ 1)) K (wO_m hG) vw_4 iwX5_feed_X5 (by decide) mX5_feed_f179 rfl dX5_feed_16 ?_
    have w2 := wm_taped hw
    refine q_iload_n (pc := 19) K dX5_feed_19 rfl rfl ?_
    refine q_iadd (pc := 20) K dX5_feed_20 ?_
    refine q_bipush (pc := 21) (v := 120) K dX5_feed_21 (by decide) ?_
    have t1 := addI (x := rF σ 1) (y := v2) (by omega) (by omega)
    refine q_icmp_le (pc := 23) (tgt := 32) K dX5_feed_23 (by decide) (fun c3 => ?_) (fun c3 => ?_)
    · have i27 := leI c3
      refine q_bipush (pc := 32) (v := 8) K dX5_feed_32 (by decide) ?_
      refine q_iload_n (pc := 34) K dX5_feed_34 rfl rfl ?_
      refine q_imul (pc := 35) K dX5_feed_35 ?_
      refine q_bipush (pc := 36) (v := 8) K dX5_feed_36 (by decide) ?_
      refine q_isub (pc := 38) K dX5_feed_38 ?_
      refine q_istore_n (pc := 39) (lv' := [some (.ref (gob G 0)), some (.int v1), some (.int v2), some (.int ((8 * v2) - 8))]) K dX5_feed_39 rfl (by decide) (Nat.le_of_ble_eq_true rfl) rfl ?_
      refine qq_drop 2 (lv' := [some (.ref (gob G 0)), some (.int v1), none, some (.int ((8 * v2) - 8))]) rfl ?_
      have a18 := mulI (x := 8) (y := v2) (by first | omega | (simp only [k8]; omega)) (by first | omega | (simp only [k8]; omega))
      simp only [k8] at a18
      have a19 := subI (x := (8 * v2)) (y := 8) (by omega) (by omega)
      refine lX5_feed_40 l hN hG K 33 v1 ((8 * v2) - 8) σ hw (by omega) (by omega) (by omega) (fun r20 hw22 => ?_)
      refine q_aload_n (pc := 76) K dX5_feed_76 rfl rfl ?_
      refine q_get (pc := 77) (o := 0) (f := 6) (v := .int (rF r20 1)) K (wO_m hG) vw_4 iwX5_feed_X5 (by decide) mX5_feed_f179 rfl dX5_feed_77 ?_
      have w23 := wm_taped hw22
      exact q_iret K hr dX5_feed_80
    · have i28 := nleI c3
      refine q_aload_n (pc := 26) K dX5_feed_26 rfl rfl ?_
      refine q_iconst (pc := 27) (v := 1) K dX5_feed_27 (by decide) ?_
      refine q_callVi (pc := 28) (o := 0) (rm := rmX5_finding) K (kX5_finding l hN hG 1 σ hw (by omega)) gX5_feed_X5_finding rfl hdV_X5_finding ⟨Nat.le_of_ble_eq_true rfl, Nat.le_of_ble_eq_true rfl⟩ rfl rfl ⟨Nat.zero_le _, Nat.zero_le _⟩ (wO_m hG) vw_4 rfl rfl (Nat.le_of_ble_eq_true rfl) dX5_feed_28 ?_
      refine qq_nmI (fun r24 e25 => ?_)
      have hw26 : WM r24.2 := by rw [e25]; exact wX5_finding 1 hw (by omega)
      exact q_iret K hr dX5_feed_31
  · have i34 := eqI c1
    refine q_aload_n (pc := 9) K dX5_feed_9 rfl rfl ?_
    refine q_iconst (pc := 10) (v := 0) K dX5_feed_10 (by decide) ?_
    refine q_callVi (pc := 11) (o := 0) (rm := rmX5_finding) K (kX5_finding l hN hG 0 σ hw (by omega)) gX5_feed_X5_finding rfl hdV_X5_finding ⟨Nat.le_of_ble_eq_true rfl, Nat.le_of_ble_eq_true rfl⟩ rfl rfl ⟨Nat.zero_le _, Nat.zero_le _⟩ (wO_m hG) vw_4 rfl rfl (Nat.le_of_ble_eq_true rfl) dX5_feed_11 ?_
    refine qq_nmI (fun r29 e30 => ?_)
    have hw31 : WM r29.2 := by rw [e30]; exact wX5_finding 0 hw (by omega)
    exact q_iret K hr dX5_feed_14
