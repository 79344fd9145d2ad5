section EQ24
/-- a row with a deed more -/
def LAY (r : Nat → Int32) (n : Nat) (kd sh wx on : Int32) (r' : Nat → Int32) : Prop := r' 0 = nI (n + 1) ∧ r' (32 + n) = kd ∧ r' (40 + n) = sh ∧ r' (48 + n) = wx ∧ r' (56 + n) = 0 ∧ r' (64 + n) = 0 ∧ r' (72 + n) = on ∧ ∀ k : Nat, k < 80 → k ≠ 0 → k ≠ 32 + n → k ≠ 40 + n → k ≠ 48 + n → k ≠ 56 + n → k ≠ 64 + n → k ≠ 72 + n → r' k = r k
theorem lay_wax {r r' : Nat → Int32} {n : Nat} (n8 : n < 8) {kd sh wx on x : Int32} (h : LAY r n kd sh wx on r') : LAY r n kd sh x on (upd r' (48 + n) x) := by
  obtain ⟨h0, h1, h2, h3, h4, h5, h6, h7⟩ := h
  exact ⟨by rw [pk_un (by omega)]; exact h0, by rw [pk_un (by omega)]; exact h1, by rw [pk_un (by omega)]; exact h2, pk_us, by rw [pk_un (by omega)]; exact h4, by rw [pk_un (by omega)]; exact h5, by rw [pk_un (by omega)]; exact h6, fun k k0 k1 k2 k3 k4 k5 k6 k7 => by rw [pk_un k4]; exact h7 k k0 k1 k2 k3 k4 k5 k6 k7⟩
theorem lay_on {r r' : Nat → Int32} {n : Nat} (n8 : n < 8) {kd sh wx on x : Int32} (h : LAY r n kd sh wx on r') : LAY r n kd sh wx x (upd r' (72 + n) x) := by
  obtain ⟨h0, h1, h2, h3, h4, h5, h6, h7⟩ := h
  exact ⟨by rw [pk_un (by omega)]; exact h0, by rw [pk_un (by omega)]; exact h1, by rw [pk_un (by omega)]; exact h2, by rw [pk_un (by omega)]; exact h3, by rw [pk_un (by omega)]; exact h4, by rw [pk_un (by omega)]; exact h5, pk_us, fun k k0 k1 k2 k3 k4 k5 k6 k7 => by rw [pk_un k7]; exact h7 k k0 k1 k2 k3 k4 k5 k6 k7⟩
theorem add_ir {n : Nat} {σ τ : sg} {r : Nat → Int32} {kd sh wx on : Int32} (h : TK σ τ) (h5 : rF τ 5 = 0) (hc : RC σ 1 r n) (n8 : n < 8) (b0 : 0 ≤ kd.toInt ∧ kd.toInt ≤ 6) (b1 : 0 ≤ sh.toInt ∧ sh.toInt ≤ 5) (b2 : 1 ≤ wx.toInt ∧ wx.toInt ≤ 99) (b4 : -1 ≤ on.toInt ∧ on.toInt < n) {τ2 : sg} (hm : FM 0 τ τ2) (hl : LAY r n kd sh wx on (τ2.1 0)) : IR σ τ (1, (fX0_addDeed 1 kd sh wx on σ).2) τ2 := by
  have hc' : RC σ 1 (((va_up τ.1 0 r, τ.2) : sg).1 0) n := by
    show RC σ 1 (va_up τ.1 0 r 0) n
    rw [va_up_self]; exact hc
  have hf := full_eq hc'
  rw [if_pos n8] at hf
  obtain ⟨h0, h1, h2, h3, h4, h6, h7, h8⟩ := hl
  obtain ⟨a1, a2, a3⟩ := add_rc hc hf n8 b0 b1 b2 b4 h0 h1 h2 h3 h4 h6 h7 h8
  exact ir_ok h h5 a3 hm a1
/-- what a deed told hangs on -/
theorem on_ir {n : Nat} {σ τ : sg} {r : Nat → Int32} {kd sh wx : Int32} (h : TK σ τ) (h5 : rF τ 5 = 0) (hc : RC σ 1 r n) (n8 : n < 8) (b0 : 0 ≤ kd.toInt ∧ kd.toInt ≤ 6) (b1 : 0 ≤ sh.toInt ∧ sh.toInt ≤ 5) (b2 : 1 ≤ wx.toInt ∧ wx.toInt ≤ 99) (hl : LAY r n kd sh wx (-1) (τ.1 0)) : IR σ τ (bnd (fX3_takesWord 12 σ) (fun r37 => (if r37.1 = 0 then bnd (fX0_addDeed 1 kd sh wx (-1) r37.2) (fun r41 => ((1 : Int32), r41.2)) else bnd (fX3_takeNumber 0 ((rF r37.2 (7 * 1 + 1)) - 1) r37.2) (fun r46 => (if r46.1 = (-1) then (0, r46.2) else bnd (fX0_addDeed 1 kd sh wx r46.1 r46.2) (fun r50 => (1, r50.2))))))) (bnd (fX5_takes 12 τ) (fun r27 => (if r27.1 = 0 then r27.2 else bnd (fX5_number (nI n - 1) r27.2) (fun r32 => bnd (sA r32.2 0 (72 + nI n) r32.1) (fun s36 => s36))))) := by
  have km : (-1 : Int32).toInt = -1 := rfl
  have k1 : (1 : Int32).toInt = 1 := rfl
  have n3 := nI_toInt (n := n) (by omega)
  have nm := subI (x := nI n) (y := 1) (by omega) (by omega)
  have i72 := ixC (c := 72) (C := 72) n3 (by omega) rfl (by decide)
  obtain ⟨t1, t2, t3⟩ := takes_eq h h5 (w := 12) (by decide)
  refine bnd2 (P := IR σ τ) (fun u v eu ev => ?_)
  rw [← eu, ← ev] at t1 t2
  rw [← ev] at t3
  have hc2 := rc_go (by decide) t2 hc
  have v0 : v.2.1 0 = τ.1 0 := by rw [t2.2.2.2.1.1]
  refine ir_go (go_gx t2) ?_
  rcases t3 with z | z
  · rw [if_pos (t1.trans z), if_pos z]
    simp only [bndE]
    exact add_ir t2.1 t2.2.1 hc2 n8 b0 b1 b2 (by omega) fm_rfl (by rw [v0]; exact hl)
  · rw [if_neg (show ¬ u.1 = 0 by rw [t1, z]; decide), if_neg (show ¬ v.1 = 0 by rw [z]; decide), hc2.1.2.2]
    refine bnd2 (P := IR u.2 v.2) (fun x y ex ey => ?_)
    rcases number_eq t2.1 t2.2.1 (hi := nI n - 1) (by omega) with ⟨a1, a2, a3, a4, g⟩ | ⟨a3, a4⟩
    · have x1 : x.1 = fX5_numberHere v.2 := by rw [ex, a3]
      have x2 : x.2 = fX3_step u.2 := by rw [ex, a3]
      have y1 : y.1 = fX5_numberHere v.2 := by rw [ey, a4]
      have y2 : y.2 = fX5_next (sF9 v.2 5 0) := by rw [ey, a4]
      rw [← x2, ← y2] at g
      rw [if_neg (show ¬ x.1 = -1 by rw [x1]; exact no_m1 a1)]
      have hc3 := rc_go (by decide) g hc2
      have y0 : y.2.1 0 = τ.1 0 := by rw [g.2.2.2.1.1, v0]
      refine ir_go (go_gx g) ?_
      simp only [bndE]
      rw [x1, y1]
      refine add_ir g.1 g.2.1 hc3 n8 b0 b1 b2 (by omega) fm_A ?_
      rw [sAs i72, y0]
      exact lay_on n8 hl
    · have x1 : x.1 = -1 := by rw [ex, a3]
      have x2 : x.2 = u.2 := by rw [ex, a3]
      have b : BAD v.2 y.2 := by rw [ey, a4]; exact bad_5
      rw [if_pos x1, x2]
      simp only [bndE]
      exact ir_bad t2.1 (bad_A b)
theorem numT {τ : sg} (h5 : rF τ 5 = 0) {x : Int32} (h : fX5_within (fX5_numberHere τ) 0 x = 1) : fX5_number x τ = (fX5_numberHere τ, fX5_next (sF9 τ 5 0)) := by
  unfold fX5_number
  simp only [bndE]
  rw [if_pos h5, if_neg (show ¬ fX5_within (fX5_numberHere τ) 0 x = 0 by rw [h]; decide), sF_same9, if_pos rfl]
theorem nh_5 {τ : sg} {x : Int32} : fX5_numberHere (sF9 τ 5 x) = fX5_numberHere τ := nh_cong rfl (sF_other (by decide)) (sF_other (by decide)) (sF_other (by decide))
/-- a deed told, behind its shelf -/
theorem told_ir {n : Nat} {σ τ : sg} {r : Nat → Int32} {kd sh : Int32} (h : TK σ τ) (h5 : rF τ 5 = 0) (hc : RC σ 1 r n) (n8 : n < 8) (b0 : 0 ≤ kd.toInt ∧ kd.toInt ≤ 6) (b1 : 0 ≤ sh.toInt ∧ sh.toInt ≤ 5) (hl : LAY r n kd sh 40 (-1) (τ.1 0)) : IR σ τ (bnd (fX3_takesWord 11 σ) (fun r9 => (if r9.1 = 0 then bnd (fX3_takesWord 12 r9.2) (fun r13 => (if r13.1 = 0 then bnd (fX0_addDeed 1 kd sh 40 (-1) r13.2) (fun r17 => ((1 : Int32), r17.2)) else bnd (fX3_takeNumber 0 ((rF r13.2 (7 * 1 + 1)) - 1) r13.2) (fun r22 => (if r22.1 = (-1) then (0, r22.2) else bnd (fX0_addDeed 1 kd sh 40 r22.1 r22.2) (fun r26 => (1, r26.2)))))) else bnd (fX3_takeNumber 1 99 r9.2) (fun r33 => (if r33.1 = (-1) then (0, r33.2) else bnd (fX3_takesWord 12 r33.2) (fun r37 => (if r37.1 = 0 then bnd (fX0_addDeed 1 kd sh r33.1 (-1) r37.2) (fun r41 => (1, r41.2)) else bnd (fX3_takeNumber 0 ((rF r37.2 (7 * 1 + 1)) - 1) r37.2) (fun r46 => (if r46.1 = (-1) then (0, r46.2) else bnd (fX0_addDeed 1 kd sh r33.1 r46.1 r46.2) (fun r50 => (1, r50.2))))))))))) (bnd (fX5_takes 11 τ) (fun r23 => (if r23.1 = 0 then bnd (fX5_takes 12 r23.2) (fun r27 => (if r27.1 = 0 then r27.2 else bnd (fX5_number (nI n - 1) r27.2) (fun r32 => bnd (sA r32.2 0 (72 + nI n) r32.1) (fun s36 => s36)))) else (if (fX5_within (fX5_numberHere r23.2) 1 99) = 0 then bnd (sF9 r23.2 5 1) (fun s75 => bnd (fX5_number 99 s75) (fun r83 => bnd (sA r83.2 0 (48 + nI n) r83.1) (fun s87 => bnd (fX5_takes 12 s87) (fun r92 => (if r92.1 = 0 then r92.2 else bnd (fX5_number (nI n - 1) r92.2) (fun r97 => bnd (sA r97.2 0 (72 + nI n) r97.1) (fun s101 => s101))))))) else bnd (sF9 r23.2 5 0) (fun s43 => bnd (fX5_number 99 s43) (fun r51 => bnd (sA r51.2 0 (48 + nI n) r51.1) (fun s55 => bnd (fX5_takes 12 s55) (fun r60 => (if r60.1 = 0 then r60.2 else bnd (fX5_number (nI n - 1) r60.2) (fun r65 => bnd (sA r65.2 0 (72 + nI n) r65.1) (fun s69 => s69))))))))))) := by
  have k1 : (1 : Int32).toInt = 1 := rfl
  have k0 : (0 : Int32).toInt = 0 := rfl
  have k99 : (99 : Int32).toInt = 99 := rfl
  have n3 := nI_toInt (n := n) (by omega)
  have i48 := ixC (c := 48) (C := 48) n3 (by omega) rfl (by decide)
  obtain ⟨t1, t2, t3⟩ := takes_eq h h5 (w := 11) (by decide)
  refine bnd2 (P := IR σ τ) (fun u v eu ev => ?_)
  rw [← eu, ← ev] at t1 t2
  rw [← ev] at t3
  have hc2 := rc_go (by decide) t2 hc
  have v0 : v.2.1 0 = τ.1 0 := by rw [t2.2.2.2.1.1]
  refine ir_go (go_gx t2) ?_
  rcases t3 with z | z
  · rw [if_pos (t1.trans z), if_pos z]
    exact on_ir t2.1 t2.2.1 hc2 n8 b0 b1 ⟨by decide, by decide⟩ (by rw [v0]; exact hl)
  · rw [if_neg (show ¬ u.1 = 0 by rw [t1, z]; decide), if_neg (show ¬ v.1 = 0 by rw [z]; decide)]
    refine bndL (P := IR u.2 v.2) (fun x ex => ?_)
    rcases num_tk t2.1 t2.2.1 (lo := 1) (hi := 99) (by decide) (by decide) with ⟨a1, a2, a3, a4⟩ | ⟨a1, a2⟩
    · have x1 : x.1 = fX5_numberHere v.2 := by rw [ex, a4]
      have x2 : x.2 = fX3_step u.2 := by rw [ex, a4]
      rw [if_neg (show ¬ x.1 = -1 by rw [x1]; exact no_m1 (by omega)), if_neg (show ¬ fX5_within (fX5_numberHere v.2) 1 99 = 0 by rw [a1]; decide)]
      refine bndR (P := IR u.2 v.2) (fun s43 e43 => ?_)
      refine bndR (P := IR u.2 v.2) (fun r51 e51 => ?_)
      have w5 : rF s43 5 = 0 := by rw [e43, sF_same9]
      have nh : fX5_numberHere s43 = fX5_numberHere v.2 := by rw [e43, nh_5]
      have w : fX5_within (fX5_numberHere s43) 0 99 = 1 := by
        rw [nh]
        rcases within01 (v := fX5_numberHere v.2) (a := 0) (b := 99) with q | q
        · omega
        · exact q.1
      rw [numT w5 w] at e51
      have y1 : r51.1 = fX5_numberHere v.2 := by rw [e51, nh]
      have y2 : r51.2 = fX5_next (sF9 s43 5 0) := by rw [e51]
      have tk : TK u.2 s43 := by rw [e43]; exact tk_5 t2.1
      have g := go_step0 tk w5
      rw [← x2, ← y2] at g
      have gm : GX u.2 v.2 x.2 r51.2 := by
        refine ⟨g.1, g.2.1, cf_xf g.2.2.1, yf_tr ⟨fun _ _ _ => by rw [e43]; rfl, fun i hi => by rw [e43]; exact sF_other (by omega)⟩ (rf_yf g.2.2.2.1), ?_⟩
        have := g.2.2.2.2
        rw [e43, sF_other (by decide)] at this
        exact this
      have hc3 := rc_go (by decide) g hc2
      have y0 : r51.2.1 0 = τ.1 0 := by rw [g.2.2.2.1.1, e43]; exact v0
      refine ir_go gm ?_
      refine bndR (P := IR x.2 r51.2) (fun s55 e55 => ?_)
      have f0 : FM 0 r51.2 s55 := by rw [e55]; exact fm_A
      have f1 : ∀ i : Nat, rF s55 i = rF r51.2 i := fun i => congrFun f0.2 i
      have tk2 : TK x.2 s55 := tk_cong g.1 rfl (fun _ _ _ => rfl) (f0.1 4 (by decide) (by decide)) (f1 1) (f1 3) (f1 4)
      have h55 : rF s55 5 = 0 := (f1 5).trans g.2.1
      have gx2 : GX x.2 r51.2 x.2 s55 := ⟨tk2, h55, ⟨fun _ _ => rfl, fun _ _ => rfl⟩, fm_yf f0, by rw [f1 3]; exact Int.le_refl _⟩
      refine ir_go gx2 ?_
      rw [x1]
      refine on_ir tk2 h55 hc3 n8 b0 b1 ⟨by omega, by omega⟩ ?_
      rw [e55, sAs i48, y0, y1]
      exact lay_wax n8 hl
    · have x1 : x.1 = -1 := by rw [ex, a2]
      have x2 : x.2 = u.2 := by rw [ex, a2]
      rw [if_pos x1, if_pos a1, x2]
      refine bndR (P := fun T U => IR u.2 v.2 T U) (fun s75 e75 => ?_)
      have b : BAD v.2 s75 := by rw [e75]; exact bad_5
      rw [numW (bad_n b)]
      refine bndR (P := fun T U => IR u.2 v.2 T U) (fun r83 e83 => ?_)
      have c : BAD v.2 r83.2 := by rw [e83]; exact bad_55 b
      refine bndR (P := fun T U => IR u.2 v.2 T U) (fun s87 e87 => ?_)
      have d : BAD v.2 s87 := by rw [e87]; exact bad_A c
      rw [takesW (bad_n d)]
      refine bndR (P := fun T U => IR u.2 v.2 T U) (fun r92 e92 => ?_)
      have q1 : r92.1 = 0 := by rw [e92]
      have q2 : r92.2 = s87 := by rw [e92]
      rw [if_pos q1, q2]
      exact ir_bad t2.1 d
theorem deed_ir {n : Nat} {σ τ : sg} {kd : Int32} (h : TK σ τ) (h5 : rF τ 5 = 0) (hc : RC σ 1 (τ.1 0) n) (b0 : 0 ≤ kd.toInt ∧ kd.toInt ≤ 6) : IR σ τ (fX3_readDeed 1 kd σ) (fX5_deedTold kd τ) := by
  have k5 : (5 : Int32).toInt = 5 := rfl
  have k8 : (8 : Int32).toInt = 8 := rfl
  obtain ⟨n8, n1, n2, n3⟩ := rc_n hc
  have hf := full_eq hc
  rw [fX3_readDeed, fX5_deedTold, n1]
  by_cases c : n < 8
  · rw [if_pos c] at hf
    rw [if_pos hf, if_neg (show ¬ nI n = 8 from fun q => by have := eqI q; omega)]
    refine bndR (P := IR σ τ) (fun s3 e3 => ?_)
    have w5 : rF s3 5 = 0 := by rw [e3, sF_same9]
    have tk : TK σ s3 := by rw [e3]; exact tk_5 h
    rw [if_pos w5]
    refine bnd2 (P := IR σ τ) (fun u v eu ev => ?_)
    have g := go_step tk w5
    rw [← eu, ← ev] at g
    have gm : GX σ τ u v := by
      refine ⟨g.1, g.2.1, cf_xf g.2.2.1, yf_tr ⟨fun _ _ _ => by rw [e3]; rfl, fun i hi => by rw [e3]; exact sF_other (by omega)⟩ (rf_yf g.2.2.2.1), ?_⟩
      have := g.2.2.2.2
      rw [e3, sF_other (by decide)] at this
      exact this
    have v0 : v.1 0 = τ.1 0 := by rw [g.2.2.2.1.1, e3]; rfl
    have hc2 : RC u 1 (v.1 0) n := by rw [v0]; exact rc_go (by decide) g hc
    refine ir_go gm ?_
    rw [fX5_shelfTold, bx]
    refine bnd2 (P := IR u v) (fun x y ex ey => ?_)
    rcases number_eq g.1 g.2.1 (hi := 5) (by decide) with ⟨a1, a2, a3, a4, g2⟩ | ⟨a3, a4⟩
    · have x1 : x.1 = fX5_numberHere v := by rw [ex, a3]
      have x2 : x.2 = fX3_step u := by rw [ex, a3]
      have y1 : y.1 = fX5_numberHere v := by rw [ey, a4]
      have y2 : y.2 = fX5_next (sF9 v 5 0) := by rw [ey, a4]
      rw [← x2, ← y2] at g2
      have hc3 := rc_go0 g2 hc2
      have yn := (rc_n hc3).2.1
      rw [if_neg (show ¬ x.1 = -1 by rw [x1]; exact no_m1 a1), if_pos g2.2.1, yn]
      refine ir_go (go_gx g2) ?_
      refine bndR (P := IR x.2 y.2) (fun r20 e20 => ?_)
      obtain ⟨l1, l2⟩ := lays_row n8 yn (kd := kd) (sh := y.1)
      rw [← e20] at l1 l2
      have f1 : ∀ i : Nat, rF r20 i = rF y.2 i := fun i => congrFun l2.2 i
      have tk2 : TK x.2 r20 := tk_cong g2.1 rfl (fun _ _ _ => rfl) (l2.1 4 (by decide) (by decide)) (f1 1) (f1 3) (f1 4)
      have h55 : rF r20 5 = 0 := (f1 5).trans g2.2.1
      have gx2 : GX x.2 y.2 x.2 r20 := ⟨tk2, h55, ⟨fun _ _ => rfl, fun _ _ => rfl⟩, fm_yf l2, by rw [f1 3]; exact Int.le_refl _⟩
      refine ir_go gx2 ?_
      rw [x1, ← y1]
      refine told_ir tk2 h55 hc3 c b0 (by rw [y1]; omega) ?_
      rw [l1]
      exact ⟨pk_us, by rw [pk_un (by omega), pk_un (by omega), pk_un (by omega), pk_un (by omega), pk_un (by omega), pk_un (by omega), pk_us], by rw [pk_un (by omega), pk_un (by omega), pk_un (by omega), pk_un (by omega), pk_un (by omega), pk_us], by rw [pk_un (by omega), pk_un (by omega), pk_un (by omega), pk_un (by omega), pk_us], by rw [pk_un (by omega), pk_un (by omega), pk_un (by omega), pk_us], by rw [pk_un (by omega), pk_un (by omega), pk_us], by rw [pk_un (by omega), pk_us], fun k _ h1 h2 h3 h4 h5 h6 h7 => by rw [pk_un h1, pk_un h7, pk_un h6, pk_un h5, pk_un h4, pk_un h3, pk_un h2]⟩
    · have x1 : x.1 = -1 := by rw [ex, a3]
      have x2 : x.2 = u := by rw [ex, a3]
      have b : BAD v y.2 := by rw [ey, a4]; exact bad_5
      rw [if_pos x1, if_neg (bad_n b), x2]
      exact ir_bad g.1 b
  · rw [if_neg c] at hf
    rw [if_neg (show ¬ fX0_isFull 1 σ = 0 by rw [hf]; decide), if_pos (show nI n = 8 from Int32.toInt.inj (by omega))]
    refine bndR (P := fun T U => IR σ τ T U) (fun s es => ?_)
    have b : BAD τ s := by rw [es]; exact bad_5
    rw [if_neg (bad_n b)]
    exact ir_bad h b
theorem item_ir {n : Nat} {σ τ : sg} (h : TK σ τ) (h5 : rF τ 5 = 0) (hc : RC σ 1 (τ.1 0) n) : IR σ τ (fX3_readItem 1 σ) (fX5_item τ) := by
  have k0 : (0 : Int32).toInt = 0 := rfl
  obtain ⟨kq, kb⟩ := kind_eq h h5
  rw [fX3_readItem, fX5_item, kq]
  simp only [bx]
  rcases kb with kb | kb
  · rw [if_pos kb, if_pos (show fX5_kindHere τ < 0 by rw [kb]; decide)]
    obtain ⟨t1, t2, t3⟩ := takes_eq h h5 (w := 7) (by decide)
    refine bnd2 (P := IR σ τ) (fun u v eu ev => ?_)
    rw [← eu, ← ev] at t1 t2
    rw [← ev] at t3
    have c1 := rc_go0 t2 hc
    refine ir_go (go_gx t2) ?_
    rcases t3 with z | z
    · rw [if_pos (t1.trans z), if_pos z]
      obtain ⟨p1, p2, p3⟩ := takes_eq t2.1 t2.2.1 (w := 8) (by decide)
      refine bnd2 (P := IR u.2 v.2) (fun u2 v2 eu2 ev2 => ?_)
      rw [← eu2, ← ev2] at p1 p2
      rw [← ev2] at p3
      have c2 := rc_go0 p2 c1
      refine ir_go (go_gx p2) ?_
      rcases p3 with z | z
      · rw [if_pos (p1.trans z), if_pos z]
        obtain ⟨q1, q2, q3⟩ := takes_eq p2.1 p2.2.1 (w := 9) (by decide)
        refine bnd2 (P := IR u2.2 v2.2) (fun u3 v3 eu3 ev3 => ?_)
        rw [← eu3, ← ev3] at q1 q2
        rw [← ev3] at q3
        have c3 := rc_go0 q2 c2
        refine ir_go (go_gx q2) ?_
        rcases q3 with z | z
        · rw [if_pos (q1.trans z), if_pos z]
          obtain ⟨s1, s2, s3⟩ := takes_eq q2.1 q2.2.1 (w := 10) (by decide)
          refine bnd2 (P := IR u3.2 v3.2) (fun u4 v4 eu4 ev4 => ?_)
          rw [← eu4, ← ev4] at s1 s2
          rw [← ev4] at s3
          have c4 := rc_go0 s2 c3
          refine ir_go (go_gx s2) ?_
          rcases s3 with z | z
          · rw [if_pos (s1.trans z), if_pos z]
            refine bndR (P := fun T U => IR u4.2 v4.2 T U) (fun s es => ?_)
            rw [es]
            exact ir_bad s2.1 bad_5
          · rw [if_neg (show ¬ u4.1 = 0 by rw [s1, z]; decide), if_neg (show ¬ v4.1 = 0 by rw [z]; decide)]
            exact summer_ir s2.1 s2.2.1 c4
        · rw [if_neg (show ¬ u3.1 = 0 by rw [q1, z]; decide), if_neg (show ¬ v3.1 = 0 by rw [z]; decide)]
          simp only [bndE]
          exact candle_ir q2.1 q2.2.1 c3
      · rw [if_neg (show ¬ u2.1 = 0 by rw [p1, z]; decide), if_neg (show ¬ v2.1 = 0 by rw [z]; decide)]
        simp only [bndE]
        exact ice_ir p2.1 p2.2.1 c2
    · rw [if_neg (show ¬ u.1 = 0 by rw [t1, z]; decide), if_neg (show ¬ v.1 = 0 by rw [z]; decide)]
      simp only [bndE]
      exact shutter_ir t2.1 t2.2.1 c1
  · rw [if_neg (no_m1 kb.1), if_neg (geM0 kb.1)]
    simp only [bndE]
    exact deed_ir h h5 hc kb
/-- the text's end: well, or not -/
def TX (σ τ : sg) (T U : Int32 × sg) : Prop := XF σ T.2 ∧ YF τ U.2 ∧ ((T.1 = U.1 ∧ 0 ≤ T.1.toInt ∧ rF U.2 5 = 0 ∧ rF U.2 1 ≤ rF U.2 3 ∧ ∃ n : Nat, RC T.2 1 (U.2.1 0) n) ∨ (T.1 = -1 - rF U.2 3 ∧ 0 ≤ (rF U.2 3).toInt ∧ (rF U.2 5 = 1 ∨ (rF U.2 5 = 0 ∧ ¬ rF U.2 1 ≤ rF U.2 3))))
theorem tx_tr {σ τ σ1 τ1 : sg} {T U : Int32 × sg} (f : XF σ σ1) (g : YF τ τ1) (h : TX σ1 τ1 T U) : TX σ τ T U := ⟨xf_tr f h.1, yf_tr g h.2.1, h.2.2⟩
theorem tk_end {σ τ : sg} (h : TK σ τ) : rF σ 25 = 0 ↔ rF τ 1 ≤ rF τ 3 := by
  obtain ⟨b, t23, t24, ⟨p0, p1, p2⟩, s25, _⟩ := h
  refine ⟨fun q => ?_, fun q => ?_⟩
  · apply Int32.le_iff_toInt_le.mpr
    by_cases c : (rF τ 3).toInt < (rF τ 1).toInt
    · exfalso
      have bL := b.2.2.1
      obtain ⟨y1, y2, y3⟩ := byte_at b (v := rF τ 3) (d := (rF τ 3).toInt.toNat) (by omega) (by omega)
      rw [s25, t23, y1] at q
      exact (sort_eq y3).2.2.2.1 q
    · omega
  · rw [s25, t23, byte_out b (leI q)]
    decide
theorem eqText : ∀ (k k' d : Nat) (v : Int32) (σ τ : sg) (n : Nat), TK σ τ → rF τ 5 = 0 → RC σ 1 (τ.1 0) n → v.toInt = d → d ≤ 120 → (d : Int) ≤ (rF τ 3).toInt → 120 - d < k → 120 - d < k' → TX σ τ (LX3_readText_11 1 k v σ) (bnd (fX5_item τ) (fun r => LX5_text_31 k' (v + 1) r)) := by
  intro k
  induction k with
  | zero => intro k' d v σ τ n _ _ _ _ _ _ h; exact absurd h (Nat.not_lt_zero _)
  | succ k ih =>
    intro k' d v σ τ n h h5 hc hv hd hp hk hk'
    have k1 : (1 : Int32).toInt = 1 := rfl
    have k120 : (120 : Int32).toInt = 120 := rfl
    have e1 := addI (x := v) (y := 1) (by omega) (by omega)
    have ir := item_ir h h5 hc
    have p0 := h.2.2.2.1.1
    have bL := h.1.2.2.1
    cases k' with
    | zero => exact absurd hk' (Nat.not_lt_zero _)
    | succ k' =>
      -- no item is read where the reference is wrong
      have wrongU : ∀ U : sg, rF U 5 = 1 → LX5_text_31 (k' + 1) (v + 1) U = (v + 1, U) := fun U hU => by
        rw [LX5_text_31, if_neg (by rw [hU]; decide)]
      rw [LX3_readText_11]
      by_cases cc : 120 ≤ v
      · have q := leI cc
        rw [if_pos cc]
        -- the tape is at its end: there is no item
        have endd : rF σ 25 = 0 := (tk_end h).mpr (Int32.le_iff_toInt_le.mpr (by omega))
        refine bndR (P := TX σ τ) (fun U eU => ?_)
        rw [← eU] at ir
        have no : ∀ w : Nat, fX3_isWord w σ = 0 := fun w => by
          unfold fX3_isWord
          rw [if_neg (by rw [endd]; decide)]
        have noT : ∀ w : Nat, fX3_takesWord w σ = (0, σ) := fun w => by
          unfold fX3_takesWord
          rw [no, if_pos rfl]
        have kn : fX3_kindOfWord σ = -1 := by
          rcases eqKW (σ := σ) 8 0 0 rfl (by decide) (by decide) (fun i hi => absurd hi (Nat.not_lt_zero _)) with ⟨i, i1, i2, i3⟩ | ⟨a1, a2⟩
          · exact absurd (no i) i2
          · exact a2
        have rd : fX3_readItem 1 σ = (0, σ) := by
          rw [fX3_readItem, kn, if_pos rfl]
          simp only [noT, bndE, if_true]
        rw [rd] at ir
        rcases ir.2.2 with ⟨a, _⟩ | ⟨_, a, b, _⟩
        · have a' : (0 : Int32) = 1 := a
          exact absurd a' (by decide)
        · rw [wrongU U a]
          have b' : rF σ 23 = rF U 3 := b
          exact ⟨⟨fun _ _ => rfl, fun _ _ => rfl⟩, ir.2.1, Or.inr ⟨by rw [b'], by show 0 ≤ (rF U 3).toInt; rw [← b', h.2.1]; exact p0, Or.inl a⟩⟩
      · have q := nleI cc
        rw [if_neg cc]
        refine bnd2 (P := TX σ τ) (fun T U eT eU => ?_)
        rw [← eT, ← eU] at ir
        obtain ⟨x1, y1, st⟩ := ir
        rcases st with ⟨a, ⟨n', tk, u5, rc⟩, mo⟩ | ⟨a, b, c, nn⟩
        · rw [if_neg (show ¬ T.1 = 0 by rw [a]; decide), LX5_text_31, if_pos u5, semi_eq tk u5]
          have p03 := tk.2.2.2.1.1
          by_cases c0 : rF T.2 25 = 0
          · rw [if_pos c0, if_neg (show ¬ rF T.2 25 = 3 by rw [c0]; decide), if_pos rfl]
            exact ⟨x1, y1, Or.inl ⟨rfl, by show 0 ≤ (v + 1).toInt; omega, u5, (tk_end tk).mp c0, n', rc⟩⟩
          · rw [if_neg c0]
            by_cases c3 : rF T.2 25 = 3
            · rw [if_pos c3, if_pos c3, if_neg z10]
              have g := go_step tk u5
              have s3 := tk.2.2.2.2.2.1 c3
              have st := step_tk tk
              refine tx_tr x1 y1 ?_
              refine bnd2 (P := TX T.2 U) (fun u w eu ew => ?_)
              rw [← eu, ← ew] at g
              rw [← ew] at st
              refine tx_tr (cf_xf g.2.2.1) (rf_yf g.2.2.2.1) ?_
              exact ih k' (d + 1) (v + 1) u w n' g.1 g.2.1 (rc_go0 g rc) (by omega) (by omega) (by have := st.2.2.2; omega) (by omega) (by omega)
            · rw [if_neg c3, if_neg c3, if_pos rfl]
              refine ⟨x1, y1, Or.inr ⟨?_, p03, Or.inr ⟨u5, fun z => c0 ((tk_end tk).mpr z)⟩⟩⟩
              show -1 - rF T.2 23 = -1 - rF U 3
              rw [tk.2.1]
        · rw [if_pos a, wrongU U b]
          exact ⟨x1, y1, Or.inr ⟨by show -1 - rF T.2 23 = -1 - rF U 3; rw [c], nn, Or.inl b⟩⟩
end EQ24
