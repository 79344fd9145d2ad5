section EQ18
theorem jmC {a b : Int32} : ((jmin a b).toInt = b.toInt ∧ jmin a b = b ∧ b.toInt < a.toInt) ∨ ((jmin a b).toInt = a.toInt ∧ jmin a b = a ∧ a.toInt ≤ b.toInt) := by
  unfold jmin
  by_cases c : b < a
  · rw [if_pos c]
    exact Or.inl ⟨rfl, rfl, ltI c⟩
  · rw [if_neg c]
    exact Or.inr ⟨rfl, rfl, nltI c⟩
theorem hb5_v {w : Int32} {m : Nat} (hw : w.toInt = m) (hm : m ≤ 100) (τ : sg) : fX5_holdingBehind w τ = (fX5_holding 2 (h5 2 m 0 τ).2, (h5 2 m 0 τ).2) := by
  have k0 : (0 : Int32).toInt = 0 := rfl
  rw [fX5_holdingBehind, hb5_h 101 m w 0 0 τ (by omega) (by omega)]
  simp only [bndE]
/-- that with so many blocks more a peace doesn't hold -/
def WB (n m D S : Nat) (r0 : Nat → Int32) (Y : Int32) : Prop := ∃ ρ μ : sg, RC ρ 1 (μ.1 2) n ∧ (∀ k : Nat, k < 80 → μ.1 2 k = if k = 10 + S then Y else r0 k) ∧ pH 2 (h5 2 m 0 μ).2 D = 0
theorem wb_other {n m D S : Nat} {r0 : Nat → Int32} {Y Z i sh : Int32} (h : WB n m D S r0 Y) (hS : S < 6) (hsh : sh.toInt = S) (hi : i.toInt = (10 + S : Nat)) (hD : D < n) (hZ : 0 ≤ Z.toInt ∧ Z.toInt ≤ 99) (c : Z = Y ∨ ((m : Int) ≤ Y.toInt ∧ (m : Int) ≤ Z.toInt)) {s : sg} (hs : ∀ k : Nat, k < 80 → s.1 2 k = r0 k) : pH 2 (h5 2 m 0 (sA s 2 i Z)).2 D = 0 ∧ ∃ ρ : sg, RC ρ 1 ((sA s 2 i Z).1 2) n := by
  obtain ⟨ρ, μ, h1, h2, h3⟩ := h
  have e1 : ∀ k : Nat, k < 80 → (sA s 2 i Y).1 2 k = μ.1 2 k := fun k hk => by
    rw [sAs hi, h2 k hk]
    by_cases q : k = 10 + S
    · rw [if_pos q, q, pk_us]
    · rw [if_neg q, pk_un q]; exact hs k hk
  have r1 : RC ρ 1 ((sA s 2 i Y).1 2) n := rc_r h1 e1
  have p1 : pH 2 (h5 2 m 0 (sA s 2 i Y)).2 D = 0 := (pH_row r1 h1 hD).trans h3
  have e2 : sA s 2 i Z = sA (sA s 2 i Y) 2 i Z := sA_twice.symm
  refine ⟨?_, ?_⟩
  · rcases c with c | ⟨c1, c2⟩
    · rw [c]; exact p1
    · obtain ⟨z, hz⟩ := cmHm hi hS m Z ρ (sA s 2 i Y) r1 c2 (by rw [rA_own]; exact c1)
      rw [e2, hz]
      have g := hq0 (show 2 < 4 by decide) m 0 ρ _ r1
      rw [pH_ice hi hS g.2.1 hD]
      exact p1
  · rw [e2]
    exact ⟨_, rcIce r1 hS hsh hi hZ⟩
/-- the reference goes on where the class knows that nothing changes any more -/
theorem blk2 {n m D S e : Nat} {r0 : Nat → Int32} {a w sh Ye : Int32} (n8 : n ≤ 8) (hn : r0 0 = nI n) (hw : w.toInt = m) (hm : m ≤ 100) (ha : a.toInt = D) (hD : D < n) (hS : S < 6) (hsh : sh.toInt = S) (hr : r0 (40 + D) = sh) (hx : 0 ≤ (r0 (10 + S)).toInt ∧ (r0 (10 + S)).toInt ≤ 99) (hB : WB n m D S r0 Ye) (hY : ∀ v : Int32, (e : Int) < v.toInt → v.toInt ≤ 99 → jmin 99 (r0 (10 + S) + v) = Ye ∨ ((m : Int) ≤ Ye.toInt ∧ (m : Int) ≤ (jmin 99 (r0 (10 + S) + v)).toInt)) : ∀ (k d : Nat) (v : Int32) (τ : sg), τ.1 0 = r0 → v.toInt = d → e < d → d ≤ 100 → 100 - d < k → ∃ μ : sg, KM τ μ ∧ LX5_blocks_39 k a w v τ = fX5_finding 3 μ := by
  intro k
  induction k with
  | zero => intro d v τ _ _ _ _ h; exact absurd h (Nat.not_lt_zero _)
  | succ k ih =>
    intro d v τ h0 hv he hd hk
    have k1 : (1 : Int32).toInt = 1 := rfl
    have k99 : (99 : Int32).toInt = 99 := rfl
    rw [LX5_blocks_39]
    simp only [bx]
    by_cases cc : 99 < v
    · rw [if_pos cc]
      exact ⟨τ, km_rfl, rfl⟩
    · have q := nltI cc
      have e1 := addI (x := v) (y := 1) (by omega) (by omega)
      have i10 := ixC (c := 10) (C := 10) hsh (by omega) rfl (by decide)
      have i40 := ixC (c := 40) (C := 40) ha (by omega) rfl (by decide)
      rw [if_neg cc]
      refine wf_bnd (P := fun T => ∃ μ : sg, KM τ μ ∧ T = fX5_finding 3 μ) (fun s es => ?_)
      have ro : RO 0 2 τ s := by rw [es]; exact row_eq (by decide)
      have fs : FM 2 τ s := by rw [es]; exact row_fm (by decide)
      have s0 : s.1 0 = r0 := (ro.2.1 0 (by decide)).trans h0
      have s2 : ∀ k : Nat, k < 80 → s.1 2 k = r0 k := fun k hk => by rw [ro.2.2 k hk, h0]
      refine wf_bnd (P := fun T => ∃ μ : sg, KM τ μ ∧ T = fX5_finding 3 μ) (fun t et => ?_)
      have t1 : t = sA s 2 (10 + sh) (jmin 99 (r0 (10 + S) + v)) := by
        have f1 : rA s 0 (40 + a) = sh := by rw [rAd i40, s0, hr]
        have f2 : rA s 2 (10 + sh) = r0 (10 + S) := by rw [rAd i10, s2 _ (by omega)]
        rw [et, f1, fX5_brings, f2]
        rfl
      have yb := addI (x := r0 (10 + S)) (y := v) (by omega) (by omega)
      have zb : 0 ≤ (jmin 99 (r0 (10 + S) + v)).toInt ∧ (jmin 99 (r0 (10 + S) + v)).toInt ≤ 99 := by
        rcases jmC (a := 99) (b := r0 (10 + S) + v) with ⟨j1, j2, j3⟩ | ⟨j1, j2, j3⟩
        · omega
        · omega
      obtain ⟨p, ρ, hρ⟩ := wb_other (s := s) hB hS hsh i10 hD zb (hY v (by omega) q) s2
      rw [← t1] at p hρ
      have ft : FM 2 s t := by rw [t1]; exact fm_A
      have g := hq0 (show 2 < 4 by decide) m 0 ρ t hρ
      rw [hb5_v hw hm]
      simp only [bndE]
      have mk := holding_mk (a := 2) (τ := (h5 2 m 0 t).2) n8 g.2.1.1.2.1
      have bt := bit_h mk n8 ha hD
      rw [if_neg (fun y => by rw [bt.mp y] at p; exact absurd p (by decide))]
      have fh : FM 2 τ (h5 2 m 0 t).2 := fm_tr fs (fm_tr ft g.2.2.2)
      obtain ⟨μ, u1, u2⟩ := ih (d + 1) (v + 1) (h5 2 m 0 t).2 ((fh.1 0 (by decide) (by decide)).trans h0) (by omega) (by omega) (by omega) (by omega)
      exact ⟨μ, km_tr (fm_km fh) u1, u2⟩
theorem blk1 {n m D S e : Nat} {r0 : Nat → Int32} {a w sh E : Int32} (hw : w.toInt = m) (hm1 : 1 ≤ m) (hm : m ≤ 100) (ha : a.toInt = D) (hD : D < n) (hS : S < 6) (hsh : sh.toInt = S) (hr : r0 (40 + D) = sh) (hx : 0 ≤ (r0 (10 + S)).toInt ∧ (r0 (10 + S)).toInt ≤ 99) (hE : E = jmin w (99 - r0 (10 + S))) (he : E.toInt = e) : ∀ (k k' d : Nat) (v : Int32) (σ τ : sg), GG n σ τ → τ.1 0 = r0 → v.toInt = d → d ≤ e + 1 → (0 < d → WB n m D S r0 (jmin 99 (r0 (10 + S) + nI (d - 1)))) → e + 1 - d < k → 100 - d < k' → RR (LX4_blocks_50 k a w sh E v σ) (LX5_blocks_39 k' a w v τ) := by
  intro k
  have k1 : (1 : Int32).toInt = 1 := rfl
  have k99 : (99 : Int32).toInt = 99 := rfl
  have e0 := subI (x := 99) (y := r0 (10 + S)) (by omega) (by omega)
  have eb : (e : Int) ≤ 99 ∧ ((e : Int) = 99 - (r0 (10 + S)).toInt ∨ ((e : Int) = m ∧ (m : Int) ≤ 99 - (r0 (10 + S)).toInt)) := by
    rcases jmC (a := w) (b := 99 - r0 (10 + S)) with ⟨j1, j2, j3⟩ | ⟨j1, j2, j3⟩
    · rw [← hE] at j1; omega
    · rw [← hE] at j1; omega
  induction k with
  | zero => intro k' d v σ τ _ _ _ _ _ h; exact absurd h (Nat.not_lt_zero _)
  | succ k ih =>
    intro k' d v σ τ h h0 hv hd hB hk hk'
    have n8 := h.2.1.1
    by_cases cd : d = e + 1
    · rw [LX4_blocks_50, if_pos (Int32.lt_iff_toInt_lt.mpr (by omega))]
      simp only [bx]
      have hB1 := hB (by omega)
      have ed : d - 1 = e := by omega
      rw [ed] at hB1
      obtain ⟨μ, u1, u2⟩ := blk2 (e := e) n8 (by rw [← h0]; exact h.2.1.2.1) hw hm ha hD hS hsh hr hx hB1 (fun x q1 q2 => by
        have n4 := nI_toInt (n := e) (by omega)
        have y1 := addI (x := r0 (10 + S)) (y := x) (by omega) (by omega)
        have y2 := addI (x := r0 (10 + S)) (y := nI e) (by omega) (by omega)
        rcases jmC (a := 99) (b := r0 (10 + S) + x) with ⟨j1, j2, j3⟩ | ⟨j1, j2, j3⟩
        · rcases jmC (a := 99) (b := r0 (10 + S) + nI e) with ⟨l1, l2, l3⟩ | ⟨l1, l2, l3⟩
          · exact Or.inr (by omega)
          · exact Or.inr (by omega)
        · rcases jmC (a := 99) (b := r0 (10 + S) + nI e) with ⟨l1, l2, l3⟩ | ⟨l1, l2, l3⟩
          · exact Or.inr (by omega)
          · exact Or.inl (j2.trans l2.symm)) k' d v τ h0 hv (by omega) (by omega) hk'
      rw [u2]
      exact rr3 (rg_keep h.1 kd_rfl u1)
    · cases k' with
      | zero => exact absurd hk' (Nat.not_lt_zero _)
      | succ k' =>
        have e1 := addI (x := v) (y := 1) (by omega) (by omega)
        rw [LX4_blocks_50, LX5_blocks_39, if_neg (fun q => by have := ltI q; omega), if_neg (fun q => by have := ltI q; omega)]
        obtain ⟨t1, t2, t3⟩ := try_rc h
        have ro : RO 0 2 τ (fX5_row 0 2 τ) := row_eq (by decide)
        refine bnd2 (P := RR) (fun r s er es => ?_)
        rw [← er, ← es] at t1
        rw [← er] at t2
        rw [← es] at t3 ro
        have i10 := ixC (c := 10) (C := 10) hsh (by omega) rfl (by decide)
        have i40 := ixC (c := 40) (C := 40) ha (by omega) rfl (by decide)
        have f1 : rA s 0 (40 + a) = sh := by rw [rAd i40, ro.2.1 0 (by decide), h0, hr]
        have f2 : rA s 2 (10 + sh) = r0 (10 + S) := by rw [rAd i10, ro.2.2 _ (by omega), h0]
        rw [f1]
        obtain ⟨u1, u2, u3⟩ := bring_eq t1 hsh hS (x := v) (by omega)
        refine bnd2 (P := RR) (fun r2 s2 er2 es2 => ?_)
        rw [← er2, ← es2] at u1
        rw [← er2] at u2
        rw [← es2] at u3
        refine bnd2 (P := RR) (fun r3 s3 er3 es3 => ?_)
        obtain ⟨b1, b2, b3, b4, b5, b6, b7⟩ := hb_eq rfl rfl (w := w) hw hm u1
        obtain ⟨c1, c2⟩ := holdsBehind_eq (show 2 < 4 by decide) ha hD u1 hw hm
        rw [← es3] at b2 b4 b5 b6
        rw [← er3] at c1 c2
        rw [← b5] at c1 b6
        have fh := fm_tr t3 (fm_tr u3 b4)
        have gg : GG n r3.2 s3.2 := gg_fd h (fd_tr t2 (fd_tr u2 c2)) fh
        have mk : MK s3.1 n (pH 2 s3.2) := by rw [b6]; exact holding_mk n8 b2.1.2.1
        have bt := bit_h mk n8 ha hD
        rw [c1]
        rcases pH01 (a := 2) (d := D) (τ := s3.2) with z | z
        · rw [if_pos z, if_neg (fun y => by rw [bt.mp y] at z; exact absurd z (by decide))]
          refine ih k' (d + 1) (v + 1) r3.2 s3.2 gg ((fh.1 0 (by decide) (by decide)).trans h0) (by omega) (by omega) (fun _ => ?_) (by omega) (by omega)
          refine ⟨r2, s2, u1, fun k hk => ?_, by rw [← b5]; exact z⟩
          have ev : v = nI d := vnI hv (by omega)
          rw [show d + 1 - 1 = d by omega, ← ev]
          have t5 : s2.1 2 = upd (s.1 2) (10 + S) (jmin 99 (r0 (10 + S) + v)) := by
            rw [es2, fX5_brings]
            simp only [bndE]
            rw [sAs i10, f2]
          rw [t5]
          by_cases c : k = 10 + S
          · rw [if_pos c, c, pk_us]
          · rw [if_neg c, pk_un c, ro.2.2 k hk, h0]
        · rw [if_neg (by rw [z]; decide), if_pos (bt.mpr z)]
          exact ⟨rfl, gg.1⟩
theorem m_blocks {σ τ : sg} (h : RG σ τ) (a b : Int32) : RR (fX4_blocks a b σ) (fX5_blocks a b τ) := by
  obtain ⟨n, hc⟩ := h.1
  have g0 : GG n σ τ := ⟨h, hc⟩
  have n8 := hc.1.1
  have k99 : (99 : Int32).toInt = 99 := rfl
  unfold fX4_blocks fX5_blocks fX5_isAhead
  simp only [bx]
  rw [lacks0]
  rcases dn_eq g0 a b with ⟨q1, q2 | ⟨q2, q3⟩⟩ | ⟨q1, q2, q3, q4⟩ | ⟨q1, q2, q3, q4, q5, q6⟩
  · rw [q1, if_neg z51, if_pos q2]; exact rr0 h
  · rw [q1, if_neg z51, if_neg (dn1 q2), if_pos q3]; exact rr0 h
  · rw [q1, if_neg z55, if_neg (dn1 q2), if_neg (show ¬ fX5_within b 1 100 = 0 by rw [q3]; decide), lacks4 rfl q4, if_neg z40]; exact rr4 h
  · rw [if_pos q1, if_neg (dn1 q2), if_neg (show ¬ fX5_within b 1 100 = 0 by rw [q3]; decide), lacksN rfl q4, if_pos zm1]
    obtain ⟨d, hv, hd⟩ := deed_n hc (dn1 q2)
    have sh := rc_shelf hc hd hv
    have hsh : (rA τ 0 (40 + a)).toInt = ((rA τ 0 (40 + a)).toInt.toNat : Nat) := by omega
    have i10 := ixC (c := 10) (C := 10) hsh (by omega) rfl (by decide)
    have i40 := ixC (c := 40) (C := 40) hv (by omega) rfl (by decide)
    have ic := rc_ice hc (d := (rA τ 0 (40 + a)).toInt.toNat) (by omega) hsh i10
    have ei := rAd (σ := τ) (b := 0) i10
    rw [ei] at ic
    have e0 := subI (x := 99) (y := τ.1 0 (10 + (rA τ 0 (40 + a)).toInt.toNat)) (by omega) (by omega)
    have eb : 0 ≤ (jmin b (99 - τ.1 0 (10 + (rA τ 0 (40 + a)).toInt.toNat))).toInt ∧ (jmin b (99 - τ.1 0 (10 + (rA τ 0 (40 + a)).toInt.toNat))).toInt ≤ 99 := by
      rcases jmC (a := b) (b := 99 - τ.1 0 (10 + (rA τ 0 (40 + a)).toInt.toNat)) with ⟨j1, j2, j3⟩ | ⟨j1, j2, j3⟩
      · omega
      · omega
    rw [sh.1, ic.1]
    exact blk1 (m := b.toInt.toNat) (D := d) (S := (rA τ 0 (40 + a)).toInt.toNat) (e := (jmin b (99 - τ.1 0 (10 + (rA τ 0 (40 + a)).toInt.toNat))).toInt.toNat) (r0 := τ.1 0) (by omega) (by omega) (by omega) hv hd (by omega) hsh (rAd i40).symm ic.2 rfl (by omega) 102 101 0 0 σ τ g0 rfl rfl (Nat.zero_le _) (fun q => absurd q (Nat.lt_irrefl _)) (by omega) (by omega)
end EQ18
