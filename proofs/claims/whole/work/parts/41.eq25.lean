section EQ25
theorem text_rg {σ τ σf τf : sg} {n : Nat} (h : RG σ τ) (c1 : ∀ b : Nat, (16 ≤ b ∧ b < 23) ∨ (24 ≤ b ∧ b < 30) → σf.1 b = σ.1 b) (c2 : ∀ i : Nat, (14 ≤ i ∧ i < 22) ∨ 27 ≤ i → rF σf i = rF σ i) (c3 : rF σf 22 = 0) (d1 : ∀ b : Nat, b ≠ 0 → b ≠ 3 → b ≠ 6 → τf.1 b = τ.1 b) (d2 : rF τf 0 = rF τ 0) (d3 : rF τf 1 = 0) (rc : RC σf 0 (τf.1 0) n) : RG σf τf := by
  obtain ⟨⟨_, h1⟩, ⟨h2, h3, h4⟩, ⟨h5, h6, h7, h8⟩, h9, h10⟩ := h
  have k1 := d1 1 (by decide) (by decide) (by decide)
  have k4 := d1 4 (by decide) (by decide) (by decide)
  have k5 := d1 5 (by decide) (by decide) (by decide)
  have k7 := d1 7 (by decide) (by decide) (by decide)
  have k8 := d1 8 (by decide) (by decide) (by decide)
  have k9 := d1 9 (by decide) (by decide) (by decide)
  refine ⟨⟨n, rc⟩, ⟨?_, ?_, fun q => ?_⟩, ⟨?_, ?_, ?_, fun i hi => ?_⟩, fun i hi => ?_, fun s hs => ⟨?_, ?_, ?_, ?_, fun i hi => ?_⟩⟩
  · rw [d2, c2 21 (by omega)]; exact h2
  · rw [c2 21 (by omega)]; exact h3
  · rw [c2 21 (by omega)] at q
    obtain ⟨m, hm⟩ := h4 q
    exact ⟨m, rc_at hm (fun t ht => c1 _ (by omega)) (fun t ht => c2 _ (by omega)) k1⟩
  · rw [c3, d3]
  · rw [d3]; decide
  · rw [d3]; decide
  · rw [k4, c1 24 (by omega)]; exact h8 i hi
  · rw [k5, c1 29 (by omega)]; exact h9 i hi
  · rw [k7, c2 _ (by omega)]; exact (h10 s hs).1
  · rw [k8, c2 _ (by omega)]; exact (h10 s hs).2.1
  · rw [k8]; exact (h10 s hs).2.2.1
  · rw [k8]; exact (h10 s hs).2.2.2.1
  · rw [k9, c1 _ (by omega)]; exact (h10 s hs).2.2.2.2 i hi
theorem m_text {σ τ : sg} (h : RG σ τ) : RR (fX4_text σ) (fX5_text τ) := by
  obtain ⟨n, hc⟩ := h.1
  have k0 : (0 : Int32).toInt = 0 := rfl
  have km : (-1 : Int32).toInt = -1 := rfl
  have tp := h.2.2.1
  rw [fX4_text, fX5_text]
  refine bnd2 (P := RR) (fun r1 u1 er1 eu1 => ?_)
  have f1 : FD 1 σ r1 := by rw [er1]; exact take_fd
  have c1 : RC r1 1 (τ.1 0) n := by rw [er1]; exact take_rc (by decide) hc
  have ro : RO 0 3 τ u1 := by rw [eu1]; exact row_eq (by decide)
  refine bndR (P := RR) (fun u4 eu4 => ?_)
  refine bndR (P := RR) (fun u10 eu10 => ?_)
  have g1 : u10.1 = u1.1 := by rw [eu10, eu4]; rfl
  have g4 : rF u10 4 = 0 := by rw [eu10, sF_same9]
  have g5 : rF u10 5 = 0 := by rw [eu10, sF_other (by decide), eu4, sF_same9]
  have gO : ∀ i : Nat, i < 4 → rF u10 i = rF τ i := fun i hi => by rw [eu10, sF_other (by omega), eu4, sF_other (by omega)]; exact congrFun ro.1 i
  rw [fX3_readText, bndA]
  refine bndL (P := RR) (fun s1 es1 => ?_)
  have s24 : rF s1 24 = 0 := by rw [es1, sF_same9]
  have sO : ∀ i : Nat, i ≠ 24 → rF s1 i = rF r1 i := fun i hi => by rw [es1]; exact sF_other hi
  have s1r : s1.1 = r1.1 := by rw [es1]; rfl
  have tb : TB s1 u10 := by
    refine ⟨?_, ?_, ?_, fun k hk => ?_⟩
    · rw [sO 22 (by decide), f1.2 22 (by omega), gO 1 (by decide)]; exact tp.1
    · rw [gO 1 (by decide)]; exact tp.2.1
    · rw [gO 1 (by decide)]; exact tp.2.2.1
    · rw [s1r, f1.1 24 (by omega), g1, ro.2.1 4 (by decide)]; exact tp.2.2.2 k hk
  have nx := next_eq tb (s24.trans g4.symm) (by rw [g4]; decide) (by rw [g4]; exact tb.2.1)
  rw [bndA]
  refine bnd2 (P := RR) (fun r5 u17 er5 eu17 => ?_)
  rw [← er5, ← eu17] at nx
  obtain ⟨tk, cf, rf, ge⟩ := nx
  have w5 : rF u17 5 = 0 := (rf.2 5 (by decide)).trans g5
  have c5 : RC r5 1 (u17.1 0) n := by
    rw [rf.1, g1, ro.2.1 0 (by decide)]
    exact rc_cong c1 (fun t ht => by rw [cf.1, s1r]) (fun t ht => (cf.2 _ (by omega)).trans (sO _ (by omega)))
  rw [← bndA (x := fX5_item u17) (f := fun r20 => LX5_text_31 122 1 r20)]
  have tx := eqText 121 122 0 0 r5 u17 n tk w5 c5 rfl (by decide) (by have := tk.2.2.2.1.1; omega) (by decide) (by decide)
  rw [show (0 + 1 : Int32) = 1 by decide] at tx
  refine bnd2 (P := RR) (fun r4 u39 er4 eu39 => ?_)
  rw [← er4, ← eu39] at tx
  obtain ⟨xf, yf, tc⟩ := tx
  -- what is as it was, from the beginning
  have xr : ∀ b : Nat, b < 8 ∨ 16 ≤ b → r4.2.1 b = σ.1 b := fun b hb => by rw [xf.1 b hb, cf.1, s1r]; exact f1.1 b (by omega)
  have xF : ∀ i : Nat, i < 7 ∨ (14 ≤ i ∧ i < 23) ∨ 27 ≤ i → rF r4.2 i = rF σ i := fun i hi => by rw [xf.2 i hi, cf.2 i (by omega), sO i (by omega)]; exact f1.2 i (by omega)
  have yr : ∀ b : Nat, b ≠ 0 → b ≠ 6 → u39.2.1 b = u1.1 b := fun b h1 h2 => by rw [yf.1 b h1 h2, rf.1, g1]
  have yF : ∀ i : Nat, i < 3 → rF u39.2 i = rF τ i := fun i hi => by rw [yf.2 i hi, rf.2 i (by omega)]; exact gO i (by omega)
  refine bndL (P := RR) (fun s7 es7 => ?_)
  have s7r : s7.1 = r4.2.1 := by rw [es7]; rfl
  have s7z : rF s7 22 = 0 := by rw [es7, sF_same9]
  have s7o : ∀ i : Nat, i ≠ 22 → rF s7 i = rF r4.2 i := fun i hi => by rw [es7]; exact sF_other hi
  rcases tc with ⟨t1, t2, t3, t4, n', t5⟩ | ⟨t1, t2, t3⟩
  · rw [if_neg (geM0 t2), if_pos t3, if_pos t4]
    refine bndL (P := RR) (fun r13 er13 => ?_)
    refine bndR (P := RR) (fun v68 ev68 => ?_)
    refine bndR (P := RR) (fun v74 ev74 => ?_)
    have v5 : rF v74 5 = 0 := by rw [ev74, sF_other (by decide), ev68, sF_same9]
    have v1 : rF v74 1 = 0 := by rw [ev74, sF_same9]
    have vr : v74.1 = u39.2.1 := by rw [ev74, ev68]; rfl
    have v0 : rF v74 0 = rF τ 0 := by rw [ev74, sF_other (by decide), ev68, sF_other (by decide)]; exact yF 0 (by decide)
    rw [if_pos v5]
    refine ⟨t1, ?_⟩
    show RG r13 v74
    have f0 : FD 0 s7 r13 := by rw [er13]; exact take_fd
    have rc : RC r13 0 (v74.1 0) n' := by
      rw [er13, vr]
      exact take_rc (by decide) (rc_cong t5 (fun t ht => by rw [s7r]) (fun t ht => s7o _ (by omega)))
    exact text_rg h (fun b hb => by rw [f0.1 b (by omega), s7r]; exact xr b (by omega)) (fun i hi => by rw [f0.2 i (by omega), s7o i (by omega)]; exact xF i (by omega)) (by rw [f0.2 22 (by omega)]; exact s7z) (fun b h0 h3 h6 => by rw [vr, yr b h0 h6]; exact ro.2.1 b h3) v0 v1 rc
  · have e1 := subI (x := -1) (y := rF u39.2 3) (by have := Int32.toInt_lt (rF u39.2 3); omega) (by omega)
    have neg : r4.1 < 0 := by rw [t1]; exact ltM0 (by omega)
    rw [if_pos neg]
    have fin : RR (r4.1, s7) (bnd (sF9 u39.2 5 1) (fun s44 => bnd (sF9 s44 1 0) (fun s50 => (if (rF s50 5) = 0 then (u39.1, s50) else bnd (fX5_row 3 0 s50) (fun r58 => (((-1) - (rF r58 3)), r58)))))) := by
      refine bndR (P := RR) (fun v44 ev44 => ?_)
      refine bndR (P := RR) (fun v50 ev50 => ?_)
      have v5 : rF v50 5 = 1 := by rw [ev50, sF_other (by decide), ev44, sF_same9]
      have v1 : rF v50 1 = 0 := by rw [ev50, sF_same9]
      have v3 : rF v50 3 = rF u39.2 3 := by rw [ev50, sF_other (by decide), ev44, sF_other (by decide)]
      have v0 : rF v50 0 = rF τ 0 := by rw [ev50, sF_other (by decide), ev44, sF_other (by decide)]; exact yF 0 (by decide)
      have vr : v50.1 = u39.2.1 := by rw [ev50, ev44]; rfl
      rw [if_neg (by rw [v5]; decide)]
      refine bndR (P := RR) (fun x ex => ?_)
      have r3 : RO 3 0 v50 x := by rw [ex]; exact row_eq (by decide)
      have x3 : rF x 3 = rF u39.2 3 := (congrFun r3.1 3).trans v3
      refine ⟨by rw [t1]; show _ = -1 - rF x 3; rw [x3], ?_⟩
      show RG s7 x
      have rc : RC s7 0 (x.1 0) n := by
        have h7 : RC s7 0 (τ.1 0) n := rc_cong hc (fun t ht => by rw [s7r]; exact xr _ (by omega)) (fun t ht => by rw [s7o _ (by omega)]; exact xF _ (by omega))
        refine rc_r h7 (fun k hk => ?_)
        rw [r3.2.2 k hk, vr, yr 3 (by decide) (by decide)]
        exact ro.2.2 k hk
      exact text_rg h (fun b hb => by rw [s7r]; exact xr b (by omega)) (fun i hi => by rw [s7o i (by omega)]; exact xF i (by omega)) s7z (fun b h0 h3 h6 => by rw [r3.2.1 b h0, vr, yr b h0 h6]; exact ro.2.1 b h3) ((congrFun r3.1 0).trans v0) ((congrFun r3.1 1).trans v1) rc
    rcases t3 with t3 | ⟨t3, t4⟩
    · rw [if_neg (show ¬ rF u39.2 5 = 0 by rw [t3]; decide)]
      exact fin
    · rw [if_pos t3, if_neg t4]
      exact fin
end EQ25
