section EQ9
theorem full_eq {σ τ : sg} {j a n : Nat} (h : RC σ j (τ.1 a) n) : fX0_isFull j σ = if n < 8 then 0 else 1 := by
  obtain ⟨n8, n1, n2, n3⟩ := rc_n h
  have k8 : (8 : Int32).toInt = 8 := rfl
  unfold fX0_isFull
  rw [n2]
  by_cases c : n < 8
  · rw [if_pos c, if_pos (Int32.lt_iff_toInt_lt.mpr (by omega))]
  · rw [if_neg c, if_neg (fun q => by have := ltI q; omega)]
/-- a deed more -/
theorem add_rc {σ : sg} {j n : Nat} {r r' : Nat → Int32} {kd sh wx on : Int32} (h : RC σ j r n) (hf : fX0_isFull j σ = 0) (hn : n < 8) (b0 : 0 ≤ kd.toInt ∧ kd.toInt ≤ 6) (b1 : 0 ≤ sh.toInt ∧ sh.toInt ≤ 5) (b2 : 1 ≤ wx.toInt ∧ wx.toInt ≤ 99) (b4 : -1 ≤ on.toInt ∧ on.toInt < n) (q0 : r' 0 = nI (n + 1)) (t0 : r' (32 + n) = kd) (t1 : r' (40 + n) = sh) (t2 : r' (48 + n) = wx) (t3 : r' (56 + n) = 0) (t5 : r' (64 + n) = 0) (t4 : r' (72 + n) = on) (he : ∀ k : Nat, k < 80 → k ≠ 0 → k ≠ 32 + n → k ≠ 40 + n → k ≠ 48 + n → k ≠ 56 + n → k ≠ 64 + n → k ≠ 72 + n → r' k = r k) : RC (fX0_addDeed j kd sh wx on σ).2 j r' (n + 1) ∧ (fX0_addDeed j kd sh wx on σ).1 = nI n ∧ FD j σ (fX0_addDeed j kd sh wx on σ).2 := by
  obtain ⟨h1, h2, h3, h4, h5, h6, h7, h8, h9, h10⟩ := h
  have n3 : (nI n).toInt = n := nI_toInt (by omega)
  have k1 : (1 : Int32).toInt = 1 := rfl
  rw [fX0_addDeed, hf, if_pos rfl, h1.2.2]
  simp only [bndE]
  have f1 : nI n + 1 = nI (n + 1) := Int32.toInt.inj (by rw [addI (by omega) (by omega), n3, k1, nI_toInt (by omega)]; omega)
  refine ⟨?_, trivial, ?_⟩
  · show RC (sF9 (sA (sA (sA (sA (sA σ (8 * j) (nI n) kd) (8 * j + 1) (nI n) sh) (8 * j + 2) (nI n) wx) (8 * j + 3) (nI n) 0) (8 * j + 4) (nI n) on) (7 * j + 1) (rF σ (7 * j + 1) + 1)) j r' (n + 1)
    rw [h1.2.2, f1]
    have mk : MK (rF σ (7 * j)) (n + 1) (fun d => r' (64 + d)) := mk_grow0 (mk_ext h7 (fun d hd => (he _ (by omega) (by omega) (by omega) (by omega) (by omega) (by omega) (by omega) (by omega)).symm)) t5
    refine ⟨⟨by omega, q0, sF_same9⟩, by rw [sF_other (by omega), he 1 (by omega) (by omega) (by omega) (by omega) (by omega) (by omega) (by omega) (by omega)]; exact h2, by rw [sF_other (by omega), he 2 (by omega) (by omega) (by omega) (by omega) (by omega) (by omega) (by omega) (by omega)]; exact h3, by rw [sF_other (by omega), he 3 (by omega) (by omega) (by omega) (by omega) (by omega) (by omega) (by omega) (by omega)]; exact h4, by rw [sF_other (by omega)]; exact mk_ext h5 (fun s hs => (he _ (by omega) (by omega) (by omega) (by omega) (by omega) (by omega) (by omega) (by omega)).symm), by rw [sF_other (by omega)]; exact mk_ext h6 (fun s hs => (he _ (by omega) (by omega) (by omega) (by omega) (by omega) (by omega) (by omega) (by omega)).symm), by rw [sF_other (by omega)]; exact mk, fun s hs => ?_, fun k hk => ?_, fun t d ht hd => ?_⟩
    · rw [he _ (by omega) (by omega) (by omega) (by omega) (by omega) (by omega) (by omega) (by omega), sF_1, sA_other (by omega), sA_other (by omega), sA_other (by omega), sA_other (by omega), sA_other (by omega)]
      exact h8 s hs
    · rw [he _ (by omega) (by omega) (by omega) (by omega) (by omega) (by omega) (by omega) (by omega), sF_1, sA_other (by omega), sA_other (by omega), sA_other (by omega), sA_other (by omega), sA_other (by omega)]
      have := h9 k hk
      exact ⟨this.1, this.2.1, by omega⟩
    · rw [sF_1]
      rcases (show t = 0 ∨ t = 1 ∨ t = 2 ∨ t = 3 ∨ t = 4 by omega) with rfl | rfl | rfl | rfl | rfl
      · have z := h10 0 d (by omega)
        rw [sA_other (by omega), sA_other (by omega), sA_other (by omega), sA_other (by omega)]
        show (sA σ (8 * j) (nI n) kd).1 (8 * j) d = r' (32 + d) ∧ BD 0 d (r' (32 + d)).toInt
        rw [sAs n3]
        by_cases c : d = n
        · subst c; rw [pk_us, t0]; exact ⟨rfl, bd0 b0⟩
        · rw [pk_un c, he _ (by omega) (by omega) (by omega) (by omega) (by omega) (by omega) (by omega) (by omega)]; exact z (by omega)
      · have z := h10 1 d (by omega)
        rw [sA_other (by omega), sA_other (by omega), sA_other (by omega), sAs n3, sA_other (by omega)]
        show upd (σ.1 (8 * j + 1)) n sh d = r' (40 + d) ∧ BD 1 d (r' (40 + d)).toInt
        by_cases c : d = n
        · subst c; rw [pk_us, t1]; exact ⟨rfl, bd1 b1⟩
        · rw [pk_un c, he _ (by omega) (by omega) (by omega) (by omega) (by omega) (by omega) (by omega) (by omega)]; exact z (by omega)
      · have z := h10 2 d (by omega)
        rw [sA_other (by omega), sA_other (by omega), sAs n3, sA_other (by omega), sA_other (by omega)]
        show upd (σ.1 (8 * j + 2)) n wx d = r' (48 + d) ∧ BD 2 d (r' (48 + d)).toInt
        by_cases c : d = n
        · subst c; rw [pk_us, t2]; exact ⟨rfl, bd2 b2⟩
        · rw [pk_un c, he _ (by omega) (by omega) (by omega) (by omega) (by omega) (by omega) (by omega) (by omega)]; exact z (by omega)
      · have z := h10 3 d (by omega)
        rw [sA_other (by omega), sAs n3, sA_other (by omega), sA_other (by omega), sA_other (by omega)]
        show upd (σ.1 (8 * j + 3)) n 0 d = r' (56 + d) ∧ BD 3 d (r' (56 + d)).toInt
        by_cases c : d = n
        · subst c; rw [pk_us, t3]; exact ⟨rfl, bd3 ⟨by decide, by decide⟩⟩
        · rw [pk_un c, he _ (by omega) (by omega) (by omega) (by omega) (by omega) (by omega) (by omega) (by omega)]; exact z (by omega)
      · have z := h10 4 d (by omega)
        rw [sAs n3, sA_other (by omega), sA_other (by omega), sA_other (by omega), sA_other (by omega)]
        show upd (σ.1 (8 * j + 4)) n on d = r' (72 + d) ∧ BD 4 d (r' (72 + d)).toInt
        by_cases c : d = n
        · subst c; rw [pk_us, t4]; exact ⟨rfl, bd4 b4⟩
        · rw [pk_un c, he _ (by omega) (by omega) (by omega) (by omega) (by omega) (by omega) (by omega) (by omega)]; exact z (by omega)
  · exact fd_tr (fd_A (t := 0) (by decide)) (fd_tr (fd_A (t := 1) (by decide)) (fd_tr (fd_A (t := 2) (by decide)) (fd_tr (fd_A (t := 3) (by decide)) (fd_tr (fd_A (t := 4) (by decide)) (fd_F (t := 1) (by decide))))))
theorem lays_row {τ : sg} {n : Nat} (n8 : n ≤ 8) (n1 : rA τ 0 0 = nI n) {kd sh : Int32} : (fX5_lays kd sh τ).1 0 = upd (upd (upd (upd (upd (upd (upd (τ.1 0) (32 + n) kd) (40 + n) sh) (48 + n) 40) (56 + n) 0) (64 + n) 0) (72 + n) (-1)) 0 (nI (n + 1)) ∧ FM 0 τ (fX5_lays kd sh τ) := by
  have n3 : (nI n).toInt = n := nI_toInt (by omega)
  have k1 : (1 : Int32).toInt = 1 := rfl
  have i0 : (32 + nI n).toInt = (32 + n : Nat) := ixC n3 (by omega) rfl (by decide)
  have i1 : (40 + nI n).toInt = (40 + n : Nat) := ixC n3 (by omega) rfl (by decide)
  have i2 : (48 + nI n).toInt = (48 + n : Nat) := ixC n3 (by omega) rfl (by decide)
  have i3 : (56 + nI n).toInt = (56 + n : Nat) := ixC n3 (by omega) rfl (by decide)
  have i5 : (64 + nI n).toInt = (64 + n : Nat) := ixC n3 (by omega) rfl (by decide)
  have i4 : (72 + nI n).toInt = (72 + n : Nat) := ixC n3 (by omega) rfl (by decide)
  have f1 : nI n + 1 = nI (n + 1) := Int32.toInt.inj (by rw [addI (by omega) (by omega), n3, k1, nI_toInt (by omega)]; omega)
  unfold fX5_lays
  simp only [bndE]
  rw [n1]
  refine ⟨?_, ?_⟩
  · rw [sAs (d := 0) rfl, rA0 (by omega), rA0 (by omega), rA0 (by omega), rA0 (by omega), rA0 (by omega), rA0 (by omega), n1, f1, sAs i4, sAs i5, sAs i3, sAs i2, sAs i1, sAs i0]
  · exact fm_tr fm_A (fm_tr fm_A (fm_tr fm_A (fm_tr fm_A (fm_tr fm_A (fm_tr fm_A fm_A)))))
theorem m_deed {σ τ : sg} (h : RG σ τ) (a b : Int32) : RR (fX4_deed a b σ) (fX5_deed a b τ) := by
  obtain ⟨n, hc⟩ := h.1
  obtain ⟨n8, n1, n2, n3⟩ := rc_n hc
  have k8 : (8 : Int32).toInt = 8 := rfl
  have k1 : (1 : Int32).toInt = 1 := rfl
  have k40 : (40 : Int32).toInt = 40 := rfl
  have km : (-1 : Int32).toInt = -1 := rfl
  unfold fX4_deed fX5_deed
  simp only [bx]
  rw [show fX1_isKind a = fX5_isKind a from rfl, show fX4_isShelf b = fX5_isShelf b from rfl]
  by_cases c1 : fX5_isKind a = 0
  · rw [if_pos c1, if_pos c1]; exact rr0 h
  · rw [if_neg c1, if_neg c1]
    by_cases c2 : fX5_isShelf b = 0
    · rw [if_pos c2, if_pos c2]; exact rr0 h
    · rw [if_neg c2, if_neg c2]
      have ba := (within01 (v := a) (a := 0) (b := 6)).resolve_left (fun q => c1 q.1)
      have bb := (within01 (v := b) (a := 0) (b := 5)).resolve_left (fun q => c2 q.1)
      have hf := full_eq hc
      by_cases c3 : n < 8
      · rw [if_pos c3] at hf
        rw [if_pos hf, if_neg (fun q => by have := eqI q; rw [n1] at this; omega)]
        refine bndR (P := RR) (fun s es => ?_)
        have l := lays_row n8 n1 (kd := a) (sh := b)
        rw [← es] at l
        obtain ⟨a1, a2, a3⟩ := add_rc (r' := s.1 0) hc hf c3 (kd := a) (sh := b) (wx := 40) (on := -1) ba.2 bb.2 (by omega) (by omega)
          (by rw [l.1, pk_us])
          (by rw [l.1, pk_un (by omega), pk_un (by omega), pk_un (by omega), pk_un (by omega), pk_un (by omega), pk_un (by omega), pk_us])
          (by rw [l.1, pk_un (by omega), pk_un (by omega), pk_un (by omega), pk_un (by omega), pk_un (by omega), pk_us])
          (by rw [l.1, pk_un (by omega), pk_un (by omega), pk_un (by omega), pk_un (by omega), pk_us])
          (by rw [l.1, pk_un (by omega), pk_un (by omega), pk_un (by omega), pk_us])
          (by rw [l.1, pk_un (by omega), pk_un (by omega), pk_us])
          (by rw [l.1, pk_un (by omega), pk_us])
          (fun k _ h1 h2 h3 h4 h5 h6 h7 => by rw [l.1, pk_un h1, pk_un h7, pk_un h6, pk_un h5, pk_un h4, pk_un h3, pk_un h2])
        refine ⟨?_, rg_live h a3 l.2 a1⟩
        show (fX0_addDeed 0 a b 40 (-1) σ).1 = rA s 0 0 - 1
        have e : rA s 0 0 = nI (n + 1) := by
          show s.1 0 0 = nI (n + 1)
          rw [l.1, pk_us]
        rw [a2, e]
        apply Int32.toInt.inj
        have e2 := nI_toInt (n := n + 1) (by omega)
        rw [subI (by omega) (by omega), e2, n3, k1]
        omega
      · rw [if_neg c3] at hf
        rw [if_neg (by rw [hf]; decide), if_pos (show rA τ 0 0 = 8 from Int32.toInt.inj (by rw [n1, n3, k8]; omega))]
        exact rr1 h
/-- a table's place is put -/
theorem put_rr {σ τ : sg} (h : RG σ τ) {n : Nat} (hc : RC σ 0 (τ.1 0) n) {t d : Nat} (ht : t < 5) (hd : d < n) {v x i : Int32} (hv : v.toInt = d) (hi : i.toInt = (of9 t + d : Nat)) (hb : BD t d x.toInt) : RR (fX4_put (8 * 0 + t) v x σ) (bnd (sA τ 0 i x) (fun s9 => ((rA τ 0 i), s9))) := by
  rw [fX4_put]
  refine bnd2 (P := RR) (fun r s er es => ?_)
  refine ⟨(rcG hc ht hd hv hi).1, ?_⟩
  show RG r s
  rw [er, es]
  exact rg_live h (fd_A (by omega)) fm_A (rcT hc ht hd hv hi hb)
theorem m_change {σ τ : sg} (h : RG σ τ) (a b c : Int32) : RR (fX4_change a b c σ) (fX5_change a b c τ) := by
  obtain ⟨n, hc⟩ := h.1
  obtain ⟨n8, n1, n2, n3⟩ := rc_n hc
  have km : (-1 : Int32).toInt = -1 := rfl
  have k1 : (1 : Int32).toInt = 1 := rfl
  unfold fX4_change fX5_change
  simp only [bx]
  rw [deed_eq hc]
  by_cases c1 : fX5_isDeed a τ = 0
  · rw [if_pos c1, if_pos c1]; exact rr0 h
  · obtain ⟨d, hv, hd⟩ := deed_n hc c1
    obtain ⟨x0, x1, x2, x3, x4, x5⟩ := ixT hv (by omega)
    have ea := subI (x := a) (y := 1) (by omega) (by omega)
    rw [if_neg c1, if_neg c1]
    by_cases w0 : b = 0
    · subst w0
      have e : fX5_mayBe a 0 c = fX5_within c 0 6 := by unfold fX5_mayBe; rw [if_pos rfl]; rfl
      rw [if_pos rfl, e, show fX1_isKind c = fX5_within c 0 6 from rfl, show (32 + 8 * 0 : Int32) = 32 by decide]
      rcases within01 (v := c) (a := 0) (b := 6) with q | q
      · rw [if_pos q.1, if_pos q.1]; exact rr0 h
      · rw [if_neg (by rw [q.1]; decide), if_neg (by rw [q.1]; decide)]
        exact put_rr h hc (t := 0) (by decide) hd hv x0 (bd0 q.2)
    · rw [if_neg w0]
      by_cases w1 : b = 1
      · subst w1
        have e : fX5_mayBe a 1 c = fX5_within c 0 5 := by unfold fX5_mayBe; rw [if_neg (by decide), if_pos rfl]; rfl
        rw [if_pos rfl, e, show fX4_isShelf c = fX5_within c 0 5 from rfl, show (32 + 8 * 1 : Int32) = 40 by decide]
        rcases within01 (v := c) (a := 0) (b := 5) with q | q
        · rw [if_pos q.1, if_pos q.1]; exact rr0 h
        · rw [if_neg (by rw [q.1]; decide), if_neg (by rw [q.1]; decide)]
          exact put_rr h hc (t := 1) (by decide) hd hv x1 (bd1 q.2)
      · rw [if_neg w1]
        by_cases w2 : b = 2
        · subst w2
          have e : fX5_mayBe a 2 c = fX5_within c 1 99 := by unfold fX5_mayBe; rw [if_neg (by decide), if_neg (by decide), if_pos rfl]
          rw [if_pos rfl, e, show fX4_isWax c = fX5_within c 1 99 from rfl, show (32 + 8 * 2 : Int32) = 48 by decide]
          rcases within01 (v := c) (a := 1) (b := 99) with q | q
          · rw [if_pos q.1, if_pos q.1]; exact rr0 h
          · rw [if_neg (by rw [q.1]; decide), if_neg (by rw [q.1]; decide)]
            exact put_rr h hc (t := 2) (by decide) hd hv x2 (bd2 q.2)
        · rw [if_neg w2]
          by_cases w3 : b = 3
          · subst w3
            have e : fX5_mayBe a 3 c = fX5_within c 0 99 := by unfold fX5_mayBe; rw [if_neg (by decide), if_neg (by decide), if_neg (by decide), if_pos rfl]
            rw [if_pos rfl, e, within_eq, show (32 + 8 * 3 : Int32) = 56 by decide]
            rcases within01 (v := c) (a := 0) (b := 99) with q | q
            · rw [if_pos q.1, if_pos q.1]; exact rr0 h
            · rw [if_neg (by rw [q.1]; decide), if_neg (by rw [q.1]; decide)]
              exact put_rr h hc (t := 3) (by decide) hd hv x3 (bd3 q.2)
          · rw [if_neg w3]
            by_cases w5 : b = 5
            · subst w5
              have e : fX5_mayBe a 5 c = if fX5_within c (-1) (a - 1) = 0 then 0 else 1 := by unfold fX5_mayBe; rw [if_neg (by decide), if_neg (by decide), if_neg (by decide), if_neg (by decide), if_pos rfl]
              rw [if_neg (by decide), if_pos rfl, e, within_eq, show (32 + 8 * 5 : Int32) = 72 by decide]
              rcases within01 (v := c) (a := -1) (b := a - 1) with q | q
              · rw [if_pos q.1, if_pos q.1, if_pos rfl]; exact rr0 h
              · rw [if_neg (by rw [q.1]; decide), if_neg (by rw [q.1]; decide)]
                exact put_rr h hc (t := 4) (by decide) hd hv x4 (bd4 (by omega))
            · have e : fX5_mayBe a b c = 0 := by unfold fX5_mayBe; rw [if_neg w0, if_neg w1, if_neg w2, if_neg w3, if_neg w5]
              rw [if_neg w5, e, if_pos rfl, ite_self]
              exact rr0 h
theorem run_eq {σ τ : sg} {n : Nat} (hc : RC σ 0 (τ.1 0) n) {v : Int32} {d : Nat} (hd : d < n) (hv : v.toInt = d) : fX0_hasRun 0 v σ = rA τ 0 (64 + v) ∧ (rA τ 0 (64 + v) = 0 ∨ rA τ 0 (64 + v) = 1) := by
  have n8 := hc.1.1
  exact rc_run hc hd hv (ixT hv (by omega)).2.2.2.2.2
theorem m_of {σ τ : sg} (h : RG σ τ) (a b : Int32) : RR (fX4_of a b σ) (fX5_of a b τ) := by
  obtain ⟨n, hc⟩ := h.1
  obtain ⟨n8, n1, n2, n3⟩ := rc_n hc
  unfold fX4_of fX5_of
  simp only [bx]
  rw [deed_eq hc]
  by_cases c1 : fX5_isDeed a τ = 0
  · rw [if_pos c1, if_pos c1]; exact rr0 h
  · obtain ⟨d, hv, hd⟩ := deed_n hc c1
    rw [if_neg c1, if_neg c1]
    have mem : ∀ i : Nat, i < 10 → fX5_within (nI i) 0 9 = 1 := by decide
    have out : ∀ z : Int32, RR (z, σ) (z, τ) := fun z => ⟨rfl, h⟩
    by_cases w0 : b = 0
    · subst w0
      rw [if_pos rfl, if_neg (by decide), if_neg (by decide), if_neg (by decide), if_neg (by decide), if_neg (by decide), show (32 + 8 * 0 : Int32) = 32 by decide, (rc_kind hc hd hv).1]
      exact out _
    · rw [if_neg w0]
      by_cases w1 : b = 1
      · subst w1
        rw [if_pos rfl, if_neg (by decide), if_neg (by decide), if_neg (by decide), if_neg (by decide), if_neg (by decide), show (32 + 8 * 1 : Int32) = 40 by decide, (rc_shelf hc hd hv).1]
        exact out _
      · rw [if_neg w1]
        by_cases w2 : b = 2
        · subst w2
          rw [if_pos rfl, if_neg (by decide), if_neg (by decide), if_neg (by decide), if_neg (by decide), if_neg (by decide), show (32 + 8 * 2 : Int32) = 48 by decide, (rc_wax hc hd hv).1]
          exact out _
        · rw [if_neg w2]
          by_cases w3 : b = 3
          · subst w3
            rw [if_pos rfl, if_neg (by decide), if_neg (by decide), if_neg (by decide), if_neg (by decide), if_neg (by decide), show (32 + 8 * 3 : Int32) = 56 by decide, (rc_soft hc hd hv).1]
            exact out _
          · rw [if_neg w3]
            by_cases w4 : b = 4
            · subst w4
              rw [if_pos rfl, if_neg (show ¬ fX5_within 4 0 9 = 0 by decide), if_neg (show ¬ (4 : Int32) = 6 by decide), if_neg (show ¬ (4 : Int32) = 7 by decide), if_neg (show ¬ (4 : Int32) = 8 by decide), if_neg (show ¬ (4 : Int32) = 9 by decide), show (32 + 8 * 4 : Int32) = 64 by decide, (run_eq hc hd hv).1]
              rcases (run_eq hc hd hv).2 with q | q
              · rw [if_pos q, q]; exact out _
              · rw [if_neg (by rw [q]; decide), q]; exact out _
            · rw [if_neg w4]
              by_cases w5 : b = 5
              · subst w5
                rw [if_pos rfl, if_neg (by decide), if_neg (by decide), if_neg (by decide), if_neg (by decide), if_neg (by decide), show (32 + 8 * 5 : Int32) = 72 by decide, (rc_on hc hd hv).1]
                exact out _
              · rw [if_neg w5]
                by_cases w6 : b = 6
                · subst w6
                  rw [if_pos rfl, if_neg (by decide), if_pos rfl, (rc_kind hc hd hv).1, (rc_wax hc hd hv).1, stands_eq]
                  exact out _
                · rw [if_neg w6]
                  by_cases w7 : b = 7
                  · subst w7
                    rw [if_pos rfl, if_neg (by decide), if_neg (by decide), if_pos rfl, (rc_kind hc hd hv).1, runs_eq]
                    exact out _
                  · rw [if_neg w7]
                    by_cases w8 : b = 8
                    · subst w8
                      have sh := rc_shelf hc hd hv
                      rw [if_pos rfl, if_neg (by decide), if_neg (by decide), if_neg (by decide), if_pos rfl, (rc_kind hc hd hv).1, sh.1, feels_eq, heatOf_eq hc (d := (rA τ 0 (40 + a)).toInt.toNat) (by omega) (by omega), rc_hour hc]
                      exact out _
                    · rw [if_neg w8]
                      by_cases w9 : b = 9
                      · subst w9
                        rw [if_pos rfl, if_neg (show ¬ fX5_within 9 0 9 = 0 by decide), if_neg (show ¬ (9 : Int32) = 6 by decide), if_neg (show ¬ (9 : Int32) = 7 by decide), if_neg (show ¬ (9 : Int32) = 8 by decide), if_pos (show (9 : Int32) = 9 from rfl), peaceHolds_eq hc hv hd]
                        by_cases z : fX5_holds 0 a τ = 0
                        · rw [if_pos z, if_pos z]; exact out _
                        · rw [if_neg z, if_neg z]; exact out _
                      · rw [if_neg w9]
                        rcases within01 (v := b) (a := 0) (b := 9) with q | ⟨q, q2, q3⟩
                        · rw [if_pos q.1]; exact rr0 h
                        · have k0 : (0 : Int32).toInt = 0 := rfl
                          have k1 : (1 : Int32).toInt = 1 := rfl
                          have k2 : (2 : Int32).toInt = 2 := rfl
                          have k3 : (3 : Int32).toInt = 3 := rfl
                          have k4 : (4 : Int32).toInt = 4 := rfl
                          have k5 : (5 : Int32).toInt = 5 := rfl
                          have k6 : (6 : Int32).toInt = 6 := rfl
                          have k7 : (7 : Int32).toInt = 7 := rfl
                          have k8 : (8 : Int32).toInt = 8 := rfl
                          have k9 : (9 : Int32).toInt = 9 := rfl
                          have y0 := neI w0
                          have y1 := neI w1
                          have y2 := neI w2
                          have y3 := neI w3
                          have y4 := neI w4
                          have y5 := neI w5
                          have y6 := neI w6
                          have y7 := neI w7
                          have y8 := neI w8
                          have y9 := neI w9
                          omega
end EQ9
