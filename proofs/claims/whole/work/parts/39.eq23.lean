section EQ23
/-- what an item leaves alone, here and there -/
def XF (σ ρ : sg) : Prop := (∀ b : Nat, b < 8 ∨ 16 ≤ b → ρ.1 b = σ.1 b) ∧ (∀ i : Nat, i < 7 ∨ (14 ≤ i ∧ i < 23) ∨ 27 ≤ i → rF ρ i = rF σ i)
def YF (τ ρ : sg) : Prop := (∀ b : Nat, b ≠ 0 → b ≠ 6 → ρ.1 b = τ.1 b) ∧ (∀ i : Nat, i < 3 → rF ρ i = rF τ i)
theorem xf_tr {σ ρ μ : sg} (h : XF σ ρ) (g : XF ρ μ) : XF σ μ := ⟨fun b hb => (g.1 b hb).trans (h.1 b hb), fun i hi => (g.2 i hi).trans (h.2 i hi)⟩
theorem yf_tr {σ ρ μ : sg} (h : YF σ ρ) (g : YF ρ μ) : YF σ μ := ⟨fun b hb hc => (g.1 b hb hc).trans (h.1 b hb hc), fun i hi => (g.2 i hi).trans (h.2 i hi)⟩
theorem cf_xf {σ ρ : sg} (h : CF σ ρ) : XF σ ρ := ⟨fun b _ => by rw [h.1], fun i hi => h.2 i (by omega)⟩
theorem rf_yf {σ ρ : sg} (h : RF σ ρ) : YF σ ρ := ⟨fun b _ _ => by rw [h.1], fun i hi => h.2 i (by omega)⟩
theorem fd_xf {σ ρ : sg} (h : FD 1 σ ρ) : XF σ ρ := ⟨fun b hb => h.1 b (by omega), fun i hi => h.2 i (by omega)⟩
theorem fm_yf {σ ρ : sg} (h : FM 0 σ ρ) : YF σ ρ := ⟨fun b h1 h2 => h.1 b h1 h2, fun i _ => congrFun h.2 i⟩
/-- all is well so far -/
def GX (σ τ σ' τ' : sg) : Prop := TK σ' τ' ∧ rF τ' 5 = 0 ∧ XF σ σ' ∧ YF τ τ' ∧ (rF τ 3).toInt ≤ (rF τ' 3).toInt
theorem go_gx {σ τ σ' τ' : sg} (h : GO σ τ σ' τ') : GX σ τ σ' τ' := ⟨h.1, h.2.1, cf_xf h.2.2.1, rf_yf h.2.2.2.1, h.2.2.2.2⟩
theorem gx_tr {σ τ σ1 τ1 σ2 τ2 : sg} (h : GX σ τ σ1 τ1) (g : GX σ1 τ1 σ2 τ2) : GX σ τ σ2 τ2 := ⟨g.1, g.2.1, xf_tr h.2.2.1 g.2.2.1, yf_tr h.2.2.2.1 g.2.2.2.1, Int.le_trans h.2.2.2.2 g.2.2.2.2⟩
/-- the reader's fault, in the reference -/
def BAD (τ U : sg) : Prop := rF U 5 = 1 ∧ rF U 3 = rF τ 3 ∧ YF τ U
theorem bad_5 {τ : sg} : BAD τ (sF9 τ 5 1) := ⟨sF_same9, sF_other (by decide), fun _ _ _ => rfl, fun i hi => sF_other (by omega)⟩
theorem bad_55 {τ U : sg} (h : BAD τ U) : BAD τ (sF9 U 5 1) := ⟨sF_same9, (sF_other (by decide)).trans h.2.1, yf_tr h.2.2 ⟨fun _ _ _ => rfl, fun i hi => sF_other (by omega)⟩⟩
theorem bad_A {τ U : sg} {i x : Int32} (h : BAD τ U) : BAD τ (sA U 0 i x) := ⟨h.1, h.2.1, yf_tr h.2.2 ⟨fun b hb _ => sA_other hb, fun _ _ => rfl⟩⟩
theorem bad_n {τ U : sg} (h : BAD τ U) : ¬ rF U 5 = 0 := by rw [h.1]; decide
/-- an item read: well, or not -/
def IR (σ τ : sg) (T : Int32 × sg) (U : sg) : Prop := XF σ T.2 ∧ YF τ U ∧ ((T.1 = 1 ∧ (∃ n : Nat, TK T.2 U ∧ rF U 5 = 0 ∧ RC T.2 1 (U.1 0) n) ∧ (rF τ 3).toInt ≤ (rF U 3).toInt) ∨ (T.1 = 0 ∧ rF U 5 = 1 ∧ rF T.2 23 = rF U 3 ∧ 0 ≤ (rF U 3).toInt))
theorem ir_go {σ τ σ1 τ1 : sg} {T : Int32 × sg} {U : sg} (g : GX σ τ σ1 τ1) (h : IR σ1 τ1 T U) : IR σ τ T U := by
  refine ⟨xf_tr g.2.2.1 h.1, yf_tr g.2.2.2.1 h.2.1, ?_⟩
  rcases h.2.2 with ⟨a, b, c⟩ | a
  · exact Or.inl ⟨a, b, Int.le_trans g.2.2.2.2 c⟩
  · exact Or.inr a
theorem ir_ok {n : Nat} {σ τ σ2 τ2 : sg} (h : TK σ τ) (h5 : rF τ 5 = 0) (f : FD 1 σ σ2) (m : FM 0 τ τ2) (r : RC σ2 1 (τ2.1 0) n) : IR σ τ (1, σ2) τ2 := by
  have mf : ∀ i : Nat, rF τ2 i = rF τ i := fun i => congrFun m.2 i
  refine ⟨fd_xf f, fm_yf m, Or.inl ⟨rfl, ⟨n, tk_cong h (f.1 24 (by omega)) (fun i h1 h2 => f.2 i (by omega)) (m.1 4 (by decide) (by decide)) (mf 1) (mf 3) (mf 4), (mf 5).trans h5, r⟩, ?_⟩⟩
  rw [mf 3]
  exact Int.le_refl _
theorem ir_bad {σ τ U : sg} (h : TK σ τ) (b : BAD τ U) : IR σ τ (0, σ) U :=
  ⟨⟨fun _ _ => rfl, fun _ _ => rfl⟩, b.2.2, Or.inr ⟨rfl, b.1, h.2.1.trans b.2.1.symm, by rw [b.2.1]; exact h.2.2.2.1.1⟩⟩
theorem rc_go {n j : Nat} {σ τ σ' τ' : sg} {r : Nat → Int32} (hj : j < 3) (g : GO σ τ σ' τ') (h : RC σ j r n) : RC σ' j r n :=
  rc_cong h (fun t ht => by rw [g.2.2.1.1]) (fun t ht => g.2.2.1.2 _ (by omega))
theorem rc_go0 {n : Nat} {σ τ σ' τ' : sg} (g : GO σ τ σ' τ') (h : RC σ 1 (τ.1 0) n) : RC σ' 1 (τ'.1 0) n := by
  rw [g.2.2.2.1.1]
  exact rc_go (by decide) g h
theorem eitherW {τ : sg} (h5 : ¬ rF τ 5 = 0) {a b : Nat} : fX5_either a b τ = (0, sF9 τ 5 1) := by
  unfold fX5_either
  rw [takesW h5]
  refine wf_bnd (P := fun T => T = ((0 : Int32), sF9 τ 5 1)) (fun r er => ?_)
  have r1 : r.1 = 0 := by rw [er]
  have r2 : r.2 = τ := by rw [er]
  rw [if_pos r1, r2, wantsW h5]
  refine wf_bnd (P := fun T => T = ((0 : Int32), sF9 τ 5 1)) (fun s es => ?_)
  rw [if_pos r1, es]
/-- one of two words -/
theorem either_eq {σ τ : sg} (h : TK σ τ) (h5 : rF τ 5 = 0) {a b : Nat} (ha : a < 17) (hb : b < 17) : ((fX3_takesWord a σ).1 = 1 ∧ (fX5_either a b τ).1 = 1 ∧ GO σ τ (fX3_takesWord a σ).2 (fX5_either a b τ).2) ∨ ((fX3_takesWord a σ).1 = 0 ∧ (fX3_takesWord b (fX3_takesWord a σ).2).1 = 1 ∧ (fX5_either a b τ).1 = 0 ∧ GO σ τ (fX3_takesWord b (fX3_takesWord a σ).2).2 (fX5_either a b τ).2) ∨ ((fX3_takesWord a σ).1 = 0 ∧ (fX3_takesWord b (fX3_takesWord a σ).2).1 = 0 ∧ (fX3_takesWord b (fX3_takesWord a σ).2).2 = σ ∧ BAD τ (fX5_either a b τ).2) := by
  obtain ⟨t1, t2, t3⟩ := takes_eq h h5 ha
  unfold fX5_either
  generalize er : fX5_takes a τ = r at t1 t2 t3
  rcases t3 with z | z
  · have c0 : (fX3_takesWord a σ).1 = 0 := t1.trans z
    have s2 : (fX3_takesWord a σ).2 = σ := by
      unfold fX3_takesWord at c0 ⊢
      by_cases c : fX3_isWord a σ = 0
      · rw [if_pos c]
      · rw [if_neg c] at c0
        exact absurd c0 c
    have rr : r.2 = τ := by
      have z' := z
      rw [← er] at z' ⊢
      unfold fX5_takes at z' ⊢
      by_cases c : fX5_isWord a τ = 0
      · rw [if_pos c]
      · rw [if_neg c] at z'
        exact absurd z' c
    rw [s2]
    rcases wants_eq h h5 hb with ⟨w1, w2⟩ | ⟨w1, w2⟩
    · refine Or.inr (Or.inr ⟨c0, by rw [w1], by rw [w1], ?_⟩)
      simp only [bndE]
      rw [if_pos z, if_pos z, rr, w2]
      exact bad_5
    · refine Or.inr (Or.inl ⟨c0, w1, ?_⟩)
      simp only [bndE]
      rw [if_pos z, if_pos z, rr]
      exact ⟨rfl, w2⟩
  · refine Or.inl ⟨t1.trans z, ?_⟩
    simp only [bndE]
    rw [if_neg (by rw [z]; decide), if_neg (by rw [z]; decide)]
    exact ⟨rfl, t2⟩
theorem no_m1 {x : Int32} (h : 0 ≤ x.toInt) : ¬ x = -1 := fun q => by
  have := eqI q
  have km : (-1 : Int32).toInt = -1 := rfl
  omega
/-- a shelf's item: what comes first -/
theorem shutter_ir {n : Nat} {σ τ : sg} (h : TK σ τ) (h5 : rF τ 5 = 0) (hc : RC σ 1 (τ.1 0) n) : IR σ τ (fX3_readShutter 1 σ) (fX5_shelfItem 0 τ) := by
  have k5 : (5 : Int32).toInt = 5 := rfl
  rw [fX3_readShutter, fX5_shelfItem, fX5_shelfTold, bx]
  refine bnd2 (P := IR σ τ) (fun r s er es => ?_)
  rcases number_eq h h5 (hi := 5) (by decide) with ⟨a1, a2, a3, a4, g⟩ | ⟨a3, a4⟩
  · have r1 : r.1 = fX5_numberHere τ := by rw [er, a3]
    have r2 : r.2 = fX3_step σ := by rw [er, a3]
    have s1 : s.1 = fX5_numberHere τ := by rw [es, a4]
    have s2 : s.2 = fX5_next (sF9 τ 5 0) := by rw [es, a4]
    rw [← r2, ← s2] at g
    rw [if_neg (show ¬ r.1 = -1 by rw [r1]; exact no_m1 a1), if_neg z01, if_pos (show (0 : Int32) = 0 from rfl)]
    refine ir_go (go_gx g) ?_
    have hc2 := rc_go0 g hc
    have hv : s.1.toInt = (s.1.toInt.toNat : Nat) := by rw [s1]; omega
    have hv6 : s.1.toInt.toNat < 6 := by rw [s1]; omega
    have i4 : (4 + 6 * 0 + s.1).toInt = (4 + s.1.toInt.toNat : Nat) := by
      rw [show (4 + 6 * 0 : Int32) = 4 by decide]
      exact ixC hv (by omega) rfl (by decide)
    rw [r1, ← s1]
    rcases either_eq g.1 g.2.1 (a := 13) (b := 14) (by decide) (by decide) with ⟨e1, e2, e3⟩ | ⟨e1, e2, e3, e4⟩ | ⟨e1, e2, e3, e4⟩
    · refine bnd2 (P := IR r.2 s.2) (fun u v eu ev => ?_)
      rw [← eu] at e1 e3
      rw [← ev] at e2 e3
      rw [if_neg (show ¬ u.1 = 0 by rw [e1]; decide), if_pos e3.2.1, e1, e2]
      refine ir_go (go_gx e3) ?_
      have hc3 := rc_go0 e3 hc2
      refine bnd2 (P := IR u.2 v.2) (fun x y ex ey => ?_)
      have ex2 : x = sF9 u.2 (7 * 1 + 2) (fX4_with (rF u.2 (7 * 1 + 2)) s.1) := by rw [ex, fX0_setShutter, if_neg z10]; rfl
      exact ir_ok e3.1 e3.2.1 (by rw [ex2]; exact fd_F (by decide)) (by rw [ey]; exact fm_A) (by rw [ex2, ey]; exact rcOpen1 hc3 hv6 hv i4)
    · refine bnd2 (P := IR r.2 s.2) (fun u v eu ev => ?_)
      rw [← eu] at e1 e2 e4
      rw [← ev] at e3 e4
      rw [if_pos e1, if_pos e4.2.1, e3]
      refine bndL (P := IR r.2 s.2) (fun w ew => ?_)
      rw [← ew] at e2 e4
      rw [if_neg (show ¬ w.1 = 0 by rw [e2]; decide), e1]
      refine ir_go (go_gx e4) ?_
      have hc3 := rc_go0 e4 hc2
      refine bnd2 (P := IR w.2 v.2) (fun x y ex ey => ?_)
      have ex2 : x = sF9 w.2 (7 * 1 + 2) (fX4_without (rF w.2 (7 * 1 + 2)) s.1) := by rw [ex, fX0_setShutter, if_pos rfl]; rfl
      exact ir_ok e4.1 e4.2.1 (by rw [ex2]; exact fd_F (by decide)) (by rw [ey]; exact fm_A) (by rw [ex2, ey]; exact rcOpen0 hc3 hv6 hv i4)
    · refine bnd2 (P := IR r.2 s.2) (fun u v eu ev => ?_)
      rw [← eu] at e1 e2 e3
      rw [← ev] at e4
      rw [if_pos e1, if_neg (bad_n e4)]
      refine bndL (P := fun T U => IR r.2 s.2 T U) (fun w ew => ?_)
      rw [← ew] at e2 e3
      rw [if_pos e2, e3]
      exact ir_bad g.1 e4
  · have r1 : r.1 = -1 := by rw [er, a3]
    have r2 : r.2 = σ := by rw [er, a3]
    have s2 : s.2 = sF9 τ 5 1 := by rw [es, a4]
    have b : BAD τ s.2 := by rw [s2]; exact bad_5
    rw [if_pos r1, if_neg z01, if_pos (show (0 : Int32) = 0 from rfl), r2, eitherW (bad_n b)]
    refine bndR (P := fun T U => IR σ τ T U) (fun v ev => ?_)
    have b2 : BAD τ v.2 := by rw [ev]; exact bad_55 b
    rw [if_neg (bad_n b2)]
    exact ir_bad h b2
theorem candle_ir {n : Nat} {σ τ : sg} (h : TK σ τ) (h5 : rF τ 5 = 0) (hc : RC σ 1 (τ.1 0) n) : IR σ τ (fX3_readCandle 1 σ) (fX5_shelfItem 2 τ) := by
  have k5 : (5 : Int32).toInt = 5 := rfl
  rw [fX3_readCandle, fX5_shelfItem, fX5_shelfTold, bx]
  refine bnd2 (P := IR σ τ) (fun r s er es => ?_)
  rcases number_eq h h5 (hi := 5) (by decide) with ⟨a1, a2, a3, a4, g⟩ | ⟨a3, a4⟩
  · have r1 : r.1 = fX5_numberHere τ := by rw [er, a3]
    have r2 : r.2 = fX3_step σ := by rw [er, a3]
    have s1 : s.1 = fX5_numberHere τ := by rw [es, a4]
    have s2 : s.2 = fX5_next (sF9 τ 5 0) := by rw [es, a4]
    rw [← r2, ← s2] at g
    rw [if_neg (show ¬ r.1 = -1 by rw [r1]; exact no_m1 a1), if_neg (show ¬ (2 : Int32) = 1 by decide), if_neg (show ¬ (2 : Int32) = 0 by decide)]
    refine ir_go (go_gx g) ?_
    have hc2 := rc_go0 g hc
    have hv : s.1.toInt = (s.1.toInt.toNat : Nat) := by rw [s1]; omega
    have hv6 : s.1.toInt.toNat < 6 := by rw [s1]; omega
    have i4 : (4 + 6 * 2 + s.1).toInt = (16 + s.1.toInt.toNat : Nat) := by
      rw [show (4 + 6 * 2 : Int32) = 16 by decide]
      exact ixC hv (by omega) rfl (by decide)
    rw [r1, ← s1]
    rcases either_eq g.1 g.2.1 (a := 15) (b := 16) (by decide) (by decide) with ⟨e1, e2, e3⟩ | ⟨e1, e2, e3, e4⟩ | ⟨e1, e2, e3, e4⟩
    · refine bnd2 (P := IR r.2 s.2) (fun u v eu ev => ?_)
      rw [← eu] at e1 e3
      rw [← ev] at e2 e3
      rw [if_neg (show ¬ u.1 = 0 by rw [e1]; decide), if_pos e3.2.1, e1, e2]
      refine ir_go (go_gx e3) ?_
      have hc3 := rc_go0 e3 hc2
      refine bnd2 (P := IR u.2 v.2) (fun x y ex ey => ?_)
      have ex2 : x = sF9 u.2 (7 * 1 + 3) (fX4_with (rF u.2 (7 * 1 + 3)) s.1) := by rw [ex, fX0_setCandle, if_neg z10]; rfl
      exact ir_ok e3.1 e3.2.1 (by rw [ex2]; exact fd_F (by decide)) (by rw [ey]; exact fm_A) (by rw [ex2, ey]; exact rcCand1 hc3 hv6 hv i4)
    · refine bnd2 (P := IR r.2 s.2) (fun u v eu ev => ?_)
      rw [← eu] at e1 e2 e4
      rw [← ev] at e3 e4
      rw [if_pos e1, if_pos e4.2.1, e3]
      refine bndL (P := IR r.2 s.2) (fun w ew => ?_)
      rw [← ew] at e2 e4
      rw [if_neg (show ¬ w.1 = 0 by rw [e2]; decide), e1]
      refine ir_go (go_gx e4) ?_
      have hc3 := rc_go0 e4 hc2
      refine bnd2 (P := IR w.2 v.2) (fun x y ex ey => ?_)
      have ex2 : x = sF9 w.2 (7 * 1 + 3) (fX4_without (rF w.2 (7 * 1 + 3)) s.1) := by rw [ex, fX0_setCandle, if_pos rfl]; rfl
      exact ir_ok e4.1 e4.2.1 (by rw [ex2]; exact fd_F (by decide)) (by rw [ey]; exact fm_A) (by rw [ex2, ey]; exact rcCand0 hc3 hv6 hv i4)
    · refine bnd2 (P := IR r.2 s.2) (fun u v eu ev => ?_)
      rw [← eu] at e1 e2 e3
      rw [← ev] at e4
      rw [if_pos e1, if_neg (bad_n e4)]
      refine bndL (P := fun T U => IR r.2 s.2 T U) (fun w ew => ?_)
      rw [← ew] at e2 e3
      rw [if_pos e2, e3]
      exact ir_bad g.1 e4
  · have r1 : r.1 = -1 := by rw [er, a3]
    have r2 : r.2 = σ := by rw [er, a3]
    have s2 : s.2 = sF9 τ 5 1 := by rw [es, a4]
    have b : BAD τ s.2 := by rw [s2]; exact bad_5
    rw [if_pos r1, if_neg (show ¬ (2 : Int32) = 1 by decide), if_neg (show ¬ (2 : Int32) = 0 by decide), r2, eitherW (bad_n b)]
    refine bndR (P := fun T U => IR σ τ T U) (fun v ev => ?_)
    have b2 : BAD τ v.2 := by rw [ev]; exact bad_55 b
    rw [if_neg (bad_n b2)]
    exact ir_bad h b2
theorem ice_ir {n : Nat} {σ τ : sg} (h : TK σ τ) (h5 : rF τ 5 = 0) (hc : RC σ 1 (τ.1 0) n) : IR σ τ (fX3_readIce 1 σ) (fX5_shelfItem 1 τ) := by
  have k5 : (5 : Int32).toInt = 5 := rfl
  have k99 : (99 : Int32).toInt = 99 := rfl
  rw [fX3_readIce, fX5_shelfItem, fX5_shelfTold, bx]
  refine bnd2 (P := IR σ τ) (fun r s er es => ?_)
  rcases number_eq h h5 (hi := 5) (by decide) with ⟨a1, a2, a3, a4, g⟩ | ⟨a3, a4⟩
  · have r1 : r.1 = fX5_numberHere τ := by rw [er, a3]
    have r2 : r.2 = fX3_step σ := by rw [er, a3]
    have s1 : s.1 = fX5_numberHere τ := by rw [es, a4]
    have s2 : s.2 = fX5_next (sF9 τ 5 0) := by rw [es, a4]
    rw [← r2, ← s2] at g
    rw [if_neg (show ¬ r.1 = -1 by rw [r1]; exact no_m1 a1), if_pos (show (1 : Int32) = 1 from rfl)]
    refine ir_go (go_gx g) ?_
    have hc2 := rc_go0 g hc
    have hv : s.1.toInt = (s.1.toInt.toNat : Nat) := by rw [s1]; omega
    have hv6 : s.1.toInt.toNat < 6 := by rw [s1]; omega
    have i4 : (4 + 6 * 1 + s.1).toInt = (10 + s.1.toInt.toNat : Nat) := by
      rw [show (4 + 6 * 1 : Int32) = 10 by decide]
      exact ixC hv (by omega) rfl (by decide)
    rw [r1, ← s1]
    refine bnd2 (P := IR r.2 s.2) (fun u v eu ev => ?_)
    rcases number_eq g.1 g.2.1 (hi := 99) (by decide) with ⟨b1, b2, b3, b4, g2⟩ | ⟨b3, b4⟩
    · have u1 : u.1 = fX5_numberHere s.2 := by rw [eu, b3]
      have u2 : u.2 = fX3_step r.2 := by rw [eu, b3]
      have v1 : v.1 = fX5_numberHere s.2 := by rw [ev, b4]
      have v2 : v.2 = fX5_next (sF9 s.2 5 0) := by rw [ev, b4]
      rw [← u2, ← v2] at g2
      rw [if_neg (show ¬ u.1 = -1 by rw [u1]; exact no_m1 b1), if_pos g2.2.1, u1, v1]
      refine ir_go (go_gx g2) ?_
      have hc3 := rc_go0 g2 hc2
      refine bnd2 (P := IR u.2 v.2) (fun x y ex ey => ?_)
      exact ir_ok g2.1 g2.2.1 (by rw [ex]; exact fd_A (by decide)) (by rw [ey]; exact fm_A) (by rw [ex, ey]; exact rcIce hc3 hv6 hv i4 (by omega))
    · have u1 : u.1 = -1 := by rw [eu, b3]
      have u2 : u.2 = r.2 := by rw [eu, b3]
      have b : BAD s.2 v.2 := by rw [ev, b4]; exact bad_5
      rw [if_pos u1, if_neg (bad_n b), u2]
      exact ir_bad g.1 b
  · have r1 : r.1 = -1 := by rw [er, a3]
    have r2 : r.2 = σ := by rw [er, a3]
    have s2 : s.2 = sF9 τ 5 1 := by rw [es, a4]
    have b : BAD τ s.2 := by rw [s2]; exact bad_5
    rw [if_pos r1, if_pos (show (1 : Int32) = 1 from rfl), r2, numW (bad_n b)]
    refine bndR (P := fun T U => IR σ τ T U) (fun v ev => ?_)
    have b2 : BAD τ v.2 := by rw [ev]; exact bad_55 b
    rw [if_neg (bad_n b2)]
    exact ir_bad h b2
theorem summer_ir {n : Nat} {σ τ : sg} (h : TK σ τ) (h5 : rF τ 5 = 0) (hc : RC σ 1 (τ.1 0) n) : IR σ τ (bnd (fX3_readSummer 1 σ) (fun r18 => (if r18.1 = 0 then (0, r18.2) else (1, r18.2)))) (bnd (fX5_number 40 τ) (fun r26 => bnd (sA r26.2 0 1 r26.1) (fun s29 => s29))) := by
  have k40 : (40 : Int32).toInt = 40 := rfl
  rw [fX3_readSummer, bndA]
  refine bnd2 (P := IR σ τ) (fun r s er es => ?_)
  rcases number_eq h h5 (hi := 40) (by decide) with ⟨a1, a2, a3, a4, g⟩ | ⟨a3, a4⟩
  · have r1 : r.1 = fX5_numberHere τ := by rw [er, a3]
    have r2 : r.2 = fX3_step σ := by rw [er, a3]
    have s1 : s.1 = fX5_numberHere τ := by rw [es, a4]
    have s2 : s.2 = fX5_next (sF9 τ 5 0) := by rw [es, a4]
    rw [← r2, ← s2] at g
    rw [if_neg (show ¬ r.1 = -1 by rw [r1]; exact no_m1 a1), bndA, r1, s1]
    refine ir_go (go_gx g) ?_
    have hc2 := rc_go0 g hc
    refine bnd2 (P := IR r.2 s.2) (fun x y ex ey => ?_)
    refine bndL (P := fun T U => IR r.2 s.2 T U) (fun w ew => ?_)
    have w1 : w.1 = 1 := by rw [ew]
    have w2 : w.2 = x := by rw [ew]
    rw [if_neg (by rw [w1]; decide), w2]
    exact ir_ok g.1 g.2.1 (by rw [ex]; exact fd_F (by decide)) (by rw [ey]; exact fm_A) (by rw [ex, ey]; exact rcSum hc2 (by omega) rfl)
  · have r1 : r.1 = -1 := by rw [er, a3]
    have r2 : r.2 = σ := by rw [er, a3]
    have s2 : s.2 = sF9 τ 5 1 := by rw [es, a4]
    have b : BAD τ s.2 := by rw [s2]; exact bad_5
    rw [if_pos r1]
    refine bndL (P := fun T U => IR σ τ T U) (fun w ew => ?_)
    have w1 : w.1 = 0 := by rw [ew]
    have w2 : w.2 = r.2 := by rw [ew]
    rw [if_pos w1, w2, r2]
    refine bndR (P := fun T U => IR σ τ T U) (fun y ey => ?_)
    rw [ey]
    exact ir_bad h (bad_A b)
end EQ23
