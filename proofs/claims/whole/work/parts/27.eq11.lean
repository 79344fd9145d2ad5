section EQ11
theorem bvs (x : BitVec 32) (s : Nat) (hs : s ≤ 24) : (x >>> s) &&& 255#32 = (x.sshiftRight s) &&& 255#32 := by
  apply BitVec.eq_of_getLsbD_eq
  intro i hi
  rw [BitVec.getLsbD_and, BitVec.getLsbD_and, BitVec.getLsbD_ushiftRight, BitVec.getLsbD_sshiftRight]
  by_cases c : i < 8
  · have : ¬ 32 ≤ i := by omega
    rw [if_pos (by omega)]
    simp [this]
  · have z : ∀ i : Nat, i < 32 → 8 ≤ i → (255#32).getLsbD i = false := by decide
    rw [z i hi (by omega), Bool.and_false, Bool.and_false]
theorem shB0 (x : Int32) : (jushr x 0) &&& 255 = (jshr x 0) &&& 255 := by
  apply Int32.toBitVec_inj.1
  exact bvs x.toBitVec 0 (by decide)
theorem shB8 (x : Int32) : (jushr x 8) &&& 255 = (jshr x 8) &&& 255 := by
  apply Int32.toBitVec_inj.1
  exact bvs x.toBitVec 8 (by decide)
theorem shB16 (x : Int32) : (jushr x 16) &&& 255 = (jshr x 16) &&& 255 := by
  apply Int32.toBitVec_inj.1
  exact bvs x.toBitVec 16 (by decide)
theorem shB24 (x : Int32) : (jushr x 24) &&& 255 = (jshr x 24) &&& 255 := by
  apply Int32.toBitVec_inj.1
  exact bvs x.toBitVec 24 (by decide)
/-- the set of open shutters, and of shut ones -/
theorem open_m {σ : sg} {j n : Nat} {r : Nat → Int32} (h : RC σ j r n) : ∃ m : Nat, m < 64 ∧ rF σ (7 * j + 2) = nI m ∧ ∀ s : Nat, s < 6 → r (4 + s) = i01 (m.testBit s) := by
  obtain ⟨m, hm, e, hb⟩ := h.2.2.2.2.1
  have D9 : ∀ m : Nat, m < 256 → m.testBit 6 = false → m.testBit 7 = false → m < 64 := by decide +kernel
  refine ⟨m, D9 m hm ?_ ?_, e, fun s hs => ?_⟩
  · have := hb 6 (by decide)
    rw [if_neg (by decide)] at this
    exact i01_inj (b := false) this
  · have := hb 7 (by decide)
    rw [if_neg (by decide)] at this
    exact i01_inj (b := false) this
  · have := hb s (by omega)
    rw [if_pos hs] at this
    exact this.symm
theorem eqShut {τ : sg} : ∀ (k d : Nat) (c v : Int32), v.toInt = d → d ≤ 6 → 6 - d < k → MK c d (fun s => if τ.1 0 (4 + s) = 0 then 1 else 0) → MK (LX5_shut_4 k c v τ) 6 (fun s => if τ.1 0 (4 + s) = 0 then 1 else 0) := by
  intro k
  induction k with
  | zero => intro d c v _ _ h; exact absurd h (Nat.not_lt_zero _)
  | succ k ih =>
    intro d c v hv hd hk hs
    have k1 : (1 : Int32).toInt = 1 := rfl
    have k6 : (6 : Int32).toInt = 6 := rfl
    rw [LX5_shut_4]
    by_cases cc : 6 ≤ v
    · have := leI cc
      have e : d = 6 := by omega
      rw [if_pos cc, ← e]; exact hs
    · have q := nleI cc
      have e1 := addI (x := v) (y := 1) (by omega) (by omega)
      rw [if_neg cc, rAd (ixC (c := 4) (C := 4) hv (by omega) rfl (by decide)), Int32.or_zero]
      by_cases c2 : τ.1 0 (4 + d) = 0
      · rw [if_pos c2]
        exact ih (d + 1) (fX4_with c v) (v + 1) (by omega) (by omega) (by omega) (mk_grow1 hs hv (by omega) (by rw [if_pos c2]))
      · rw [if_neg c2]
        exact ih (d + 1) c (v + 1) (by omega) (by omega) (by omega) (mk_grow0 hs (by rw [if_neg c2]))
theorem shutD9 : ∀ m : Nat, m < 64 → ∀ s : Nat, s < 8 → i01 ((63 ^^^ m).testBit s) = if s < 6 then (if i01 (m.testBit s) = 0 then 1 else 0) else 0 := by decide +kernel
theorem shutB9 : ∀ m : Nat, m < 64 → (63 ^^^ m) < 64 := by decide +kernel
theorem shut_m {τ : sg} {m : Nat} (hm : m < 64) (h : ∀ s : Nat, s < 6 → τ.1 0 (4 + s) = i01 (m.testBit s)) : fX5_shut τ = nI (63 ^^^ m) := by
  have g : MK (fX5_shut τ) 6 (fun s => if τ.1 0 (4 + s) = 0 then 1 else 0) := by
    rw [fX5_shut]
    refine wf_bnd (P := fun T => MK T 6 (fun s => if τ.1 0 (4 + s) = 0 then 1 else 0)) (fun r er => ?_)
    rw [er]
    exact eqShut 7 0 0 0 rfl (by decide) (by decide) (mk_0 _)
  refine mk_uniq g ⟨63 ^^^ m, Nat.lt_trans (shutB9 m hm) (by decide), rfl, fun d hd => ?_⟩
  rw [shutD9 m hm d hd]
  by_cases c : d < 6
  · rw [if_pos c, if_pos c]
    show _ = if τ.1 0 (4 + d) = 0 then (1 : Int32) else 0
    rw [h d c]
  · rw [if_neg c, if_neg c]
theorem cntD9 : ∀ m : Nat, m < 64 → 63 &&& (nI (63 ^^^ m) ^^^ (-1)) = nI m := by decide +kernel
theorem m_count {σ τ : sg} (h : RG σ τ) (a : Int32) : RR (fX4_count a σ) (fX5_count a τ) := by
  obtain ⟨n, hc⟩ := h.1
  obtain ⟨n8, n1, n2, n3⟩ := rc_n hc
  unfold fX4_count fX5_count
  simp only [bx]
  have out : ∀ z y : Int32, z = y → RR (z, σ) (y, τ) := fun z y e => ⟨e, h⟩
  by_cases w0 : a = 0
  · rw [if_pos w0, if_pos w0]; exact out _ _ (rc_hour hc)
  · rw [if_neg w0, if_neg w0]
    by_cases w1 : a = 1
    · rw [if_pos w1, if_pos w1]; exact out _ _ (n2.trans n1.symm)
    · rw [if_neg w1, if_neg w1]
      by_cases w2 : a = 2
      · rw [if_pos w2, if_pos w2]; exact out _ _ (rc_sum hc).1
      · rw [if_neg w2, if_neg w2]
        by_cases w3 : a = 3
        · rw [if_pos w3, if_pos w3]
          obtain ⟨m, hm, e, hb⟩ := open_m hc
          refine out _ _ ?_
          rw [shut_m hm hb, cntD9 m hm]
          exact e
        · rw [if_neg w3, if_neg w3]
          by_cases w4 : a = 4
          · rw [if_pos w4, if_pos w4]; exact out _ _ (ice_all hc)
          · rw [if_neg w4, if_neg w4]
            by_cases w5 : a = 5
            · rw [if_pos w5, if_pos w5]; exact out _ _ h.2.2.1.1
            · rw [if_neg w5, if_neg w5]
              by_cases w6 : a = 6
              · rw [if_pos w6, if_pos w6]; exact out _ _ (rc_z hc)
              · rw [if_neg w6, if_neg w6]
                by_cases w7 : a = 7
                · rw [if_pos w7, if_pos w7]; exact out _ _ (spots_eq hc)
                · rw [if_neg w7, if_neg w7]; exact rr0 h
theorem eqStA {σ τ : sg} (h : ∀ k : Nat, k < 7 → σ.1 29 k = τ.1 5 k) {w : Int32} (hw : w < 0) : ∀ (k d : Nat) (c v : Int32), v.toInt = d → d ≤ 7 → LX4_status_32 k c v σ = LX5_status_20 k w c v τ := by
  intro k
  induction k with
  | zero => intro d c v _ _; rfl
  | succ k ih =>
    intro d c v hv hd
    have k1 : (1 : Int32).toInt = 1 := rfl
    have k7 : (7 : Int32).toInt = 7 := rfl
    rw [LX4_status_32, LX5_status_20]
    by_cases cc : 7 ≤ v
    · rw [if_pos cc, if_pos cc]
    · have q := nleI cc
      have e1 := addI (x := v) (y := 1) (by omega) (by omega)
      rw [if_neg cc, if_neg cc, if_pos hw, rAd hv, rAd hv, h d (by omega)]
      exact ih (d + 1) _ (v + 1) (by omega) (by omega)
theorem eqStB {τ : sg} {w : Int32} {e : Nat} (hw : w.toInt = e) (he : e < 7) : ∀ (k d : Nat) (c v : Int32), v.toInt = d → d ≤ 7 → 7 - d < k → (d ≤ e → c = 0) → (e < d → c = τ.1 5 e) → LX5_status_20 k w c v τ = τ.1 5 e := by
  intro k
  induction k with
  | zero => intro d c v _ _ h; exact absurd h (Nat.not_lt_zero _)
  | succ k ih =>
    intro d c v hv hd hk h1 h2
    have k1 : (1 : Int32).toInt = 1 := rfl
    have k7 : (7 : Int32).toInt = 7 := rfl
    rw [LX5_status_20]
    by_cases cc : 7 ≤ v
    · have := leI cc
      rw [if_pos cc]
      exact h2 (by omega)
    · have q := nleI cc
      have e1 := addI (x := v) (y := 1) (by omega) (by omega)
      rw [if_neg cc, if_neg (geM0 (by omega))]
      by_cases c2 : w = v
      · have c3 := eqI c2
        have c4 : d = e := by omega
        rw [if_pos c2, rAd hv, h1 (by omega), Int32.zero_add]
        exact ih (d + 1) _ (v + 1) (by omega) (by omega) (by omega) (fun z => by omega) (fun _ => by rw [c4])
      · have c3 := neI c2
        rw [if_neg c2, Int32.add_zero]
        exact ih (d + 1) c (v + 1) (by omega) (by omega) (by omega) (fun z => h1 (by omega)) (fun z => h2 (by omega))
theorem m_status {σ τ : sg} (h : RG σ τ) (a : Int32) : RR (fX4_status a σ) (fX5_status a τ) := by
  have k0 : (0 : Int32).toInt = 0 := rfl
  have km : (-1 : Int32).toInt = -1 := rfl
  have k6 : (6 : Int32).toInt = 6 := rfl
  unfold fX4_status fX5_status
  simp only [bx]
  rw [within_eq]
  rcases within01 (v := a) (a := -1) (b := 6) with q | ⟨q, q2, q3⟩
  · rw [if_pos q.1, if_pos q.1]; exact rr0 h
  · have q0 : ¬ fX5_within a (-1) 6 = 0 := by rw [q]; decide
    rw [if_neg q0, if_neg q0]
    by_cases c : a < 0
    · rw [if_pos c]
      refine bnd2 (P := RR) (fun r s er es => ⟨?_, h⟩)
      show r = s
      rw [er, es]
      exact eqStA h.2.2.2.1 c 8 0 0 0 rfl (by decide)
    · have c1 := nltI c
      have hv : a.toInt = (a.toInt.toNat : Nat) := by omega
      rw [if_neg c]
      refine bndR (P := RR) (fun s es => ⟨?_, h⟩)
      show rA σ 29 a = s
      rw [es, eqStB hv (by omega) 8 0 0 0 rfl (by decide) (by decide) (fun _ => rfl) (fun z => absurd z (Nat.not_lt_zero _)), rAd hv]
      exact h.2.2.2.1 _ (by omega)
theorem m_hang {σ τ : sg} (h : RG σ τ) (a : Int32) : RR (fX4_hang a σ) (fX5_hang a τ) := by
  obtain ⟨n, hc⟩ := h.1
  unfold fX4_hang fX5_hang
  simp only [bx]
  rw [deed_eq hc]
  by_cases c1 : fX5_isDeed a τ = 0
  · rw [if_pos c1, if_pos c1]; exact rr0 h
  · obtain ⟨d, hv, hd⟩ := deed_n hc c1
    rw [if_neg c1, if_neg c1]
    refine bndR (P := RR) (fun s es => ⟨?_, h⟩)
    rw [es]
    exact hang_eq hc hv hd
/-- what falls with a deed -/
theorem falls_eq {σ τ : sg} {n : Nat} (hc : RC σ 0 (τ.1 0) n) {v : Int32} {d : Nat} (hv : v.toInt = d) (hd : d < n) : fX0_fallingWith 0 v σ = (fX5_fallsWith v τ).1 ∧ FM 2 τ (fX5_fallsWith v τ).2 ∧ fJ6_bitCount_0f7a4 (fX0_fallingWith 0 v σ) = fX5_bits (fX5_fallsWith v τ).1 := by
  obtain ⟨n8, n1, n2, n3⟩ := rc_n hc
  have x5 := (ixT hv (by omega)).2.2.2.2.2
  have p := rc_pc hc
  have key : fX0_fallingWith 0 v σ = (fX5_fallsWith v τ).1 ∧ FM 2 τ (fX5_fallsWith v τ).2 := by
    unfold fX5_fallsWith
    refine bndR (P := fun (u : Int32) (T : Int32 × sg) => u = T.1 ∧ FM 2 τ T.2) (fun r er => bndR (P := fun (u : Int32) (T : Int32 × sg) => u = T.1 ∧ FM 2 τ T.2) (fun s es => ?_))
    have ro : RO 0 2 τ r := by rw [er]; exact row_eq (by decide)
    have f2 : FM 2 τ s := fm_tr (show FM 2 τ r by rw [er]; exact row_fm (by decide)) (by rw [es]; exact fm_A)
    have e0 : s.1 0 = τ.1 0 := f2.1 0 (by decide) (by decide)
    have p0 : PC σ 0 (rF σ (7 * 0)) (s.1 0) n := by rw [e0]; exact p
    have s2 : s.1 2 = upd (r.1 2) (64 + d) 1 := by rw [es, sAs x5]
    have p2 : PC σ 0 (fX4_with (rF σ (7 * 0)) v) (s.1 2) n := by
      refine ⟨n8, ?_, n2, mk_ext (mk_with p.2.2.2.1 n8 hv hd) (fun c hcn => ?_), fun c hcn => ?_⟩
      · rw [s2, pk_un (by omega), ro.2.2 0 (by decide)]; exact p.2.1
      · show upd (fun d => τ.1 0 (64 + d)) d 1 c = s.1 2 (64 + c)
        rw [s2]
        by_cases q : c = d
        · subst q; rw [pk_us, pk_us]
        · rw [pk_un q, pk_un (by omega), ro.2.2 _ (by omega)]
      · rw [s2, pk_un (by omega), ro.2.2 _ (by omega)]
        exact p.2.2.2.2 c hcn
    refine ⟨?_, f2⟩
    unfold fX0_fallingWith
    rw [peaces_eq p0, peaces_eq p2]
  refine ⟨key.1, key.2, ?_⟩
  rw [← key.1]
  obtain ⟨b1, b2⟩ := mk_bd (peaces_mk p)
  have b3 := andLe (x := fX0_peaces 0 (rF σ (7 * 0)) σ) (y := (fX0_peaces 0 (fX4_with (rF σ (7 * 0)) v) σ) ^^^ (-1)) b1
  unfold fX0_fallingWith
  generalize (fX0_peaces 0 (rF σ (7 * 0)) σ) &&& ((fX0_peaces 0 (fX4_with (rF σ (7 * 0)) v) σ) ^^^ (-1)) = z at b3
  rw [vnI (v := z) (d := z.toInt.toNat) (by omega) (by omega)]
  exact bitC9 _ (by omega)
theorem m_falls {σ τ : sg} (h : RG σ τ) (a : Int32) : RR (fX4_falls a σ) (fX5_falls a τ) := by
  obtain ⟨n, hc⟩ := h.1
  unfold fX4_falls fX5_falls
  simp only [bx]
  rw [deed_eq hc]
  by_cases c1 : fX5_isDeed a τ = 0
  · rw [if_pos c1, if_pos c1]; exact rr0 h
  · obtain ⟨d, hv, hd⟩ := deed_n hc c1
    obtain ⟨f1, f2, f3⟩ := falls_eq hc hv hd
    rw [if_neg c1, if_neg c1]
    exact ⟨f1, rg_keep h kd_rfl (fm_km f2)⟩
theorem eqWar {σ τ : sg} {n : Nat} (h : RC σ 0 (τ.1 0) n) : ∀ (k d : Nat) (c v : Int32), v.toInt = d → d ≤ n → n - d < k → LX4_war_19 k (fX0_peaces 0 (rF σ (7 * 0)) σ) c v σ = LX5_war_4 k c v τ := by
  intro k
  induction k with
  | zero => intro d c v _ _ h; exact absurd h (Nat.not_lt_zero _)
  | succ k ih =>
    intro d c v hv hd hk
    obtain ⟨n8, n1, n2, n3⟩ := rc_n h
    have k1 : (1 : Int32).toInt = 1 := rfl
    have k0 : (0 : Int32).toInt = 0 := rfl
    have km : (-1 : Int32).toInt = -1 := rfl
    rw [LX4_war_19, LX5_war_4, n2, n1]
    by_cases cc : nI n ≤ v
    · rw [if_pos cc, if_pos cc]
    · have q := nleI cc
      have dn : d < n := by omega
      have e1 := addI (x := v) (y := 1) (by omega) (by omega)
      have on := rc_on h dn hv
      have hh : fX4_has (fX0_peaces 0 (rF σ (7 * 0)) σ) v = fX5_holds 0 v τ := peaceHolds_eq h hv dn
      have hr := holds_rec (pc_on (rc_pc h)) hv dn
      have e2 : rA τ 0 (72 + v) = τ.1 0 (72 + d) := rAd (ixC hv (by omega) rfl (by decide))
      have e3 : rA τ 0 (64 + v) = τ.1 0 (64 + d) := rAd (ixC hv (by omega) rfl (by decide))
      have g0 := ih (d + 1) c (v + 1) (by omega) (by omega) (by omega)
      have g1 := ih (d + 1) (c + 1) (v + 1) (by omega) (by omega) (by omega)
      rw [if_neg cc, if_neg cc, hh, on.1, e2, e3, Int32.add_zero]
      rw [e2] at on
      by_cases c2 : (τ.1 0 (72 + d)).toInt < 0
      · rw [if_pos c2] at hr
        have z1 : ¬ 0 ≤ τ.1 0 (72 + d) := fun z => by have := leI z; omega
        have z2 : τ.1 0 (72 + d) = -1 := m1I (by omega)
        rw [if_neg z1, if_pos z2]
        by_cases c3 : τ.1 0 (64 + d) = 0
        · rw [if_pos c3] at hr ⊢
          rw [hr, if_neg (show ¬ (1 : Int32) = 0 by decide)]
          exact g1
        · rw [if_neg c3] at hr ⊢
          rw [hr, if_pos (show (0 : Int32) = 0 from rfl)]
          exact g0
      · have z1 : 0 ≤ τ.1 0 (72 + d) := leM0 (by omega)
        have z2 : ¬ τ.1 0 (72 + d) = -1 := fun z => by have := eqI z; omega
        rw [if_pos z1, if_neg z2, ite_self]
        exact g0
theorem m_war {σ τ : sg} (h : RG σ τ) : fX4_war σ = fX5_war τ := by
  obtain ⟨n, hc⟩ := h.1
  have n8 := hc.1.1
  rw [fX4_war, fX5_war]
  refine bnd2 (P := fun x y => x = y) (fun r s er es => ?_)
  rw [er, es]
  exact eqWar hc 9 0 0 0 rfl (by omega) (by omega)
theorem eqKey {σ : sg} {n : Nat} : ∀ (k d : Nat) (b c v : Int32) (τ : sg), RC σ 0 (τ.1 0) n → v.toInt = d → d ≤ n → n - d < k → (b.toInt = -1 ∨ 0 ≤ b.toInt) → LX4_key_6 k b c v σ = (LX5_key_6 k b c v τ).1 ∧ KM τ (LX5_key_6 k b c v τ).2 ∧ ((LX4_key_6 k b c v σ).toInt = -1 ∨ 0 ≤ (LX4_key_6 k b c v σ).toInt) := by
  intro k
  induction k with
  | zero => intro d b c v τ _ _ _ h; exact absurd h (Nat.not_lt_zero _)
  | succ k ih =>
    intro d b c v τ h hv hd hk hb
    obtain ⟨n8, n1, n2, n3⟩ := rc_n h
    have k1 : (1 : Int32).toInt = 1 := rfl
    rw [LX4_key_6, LX5_key_6, n2, n1]
    by_cases cc : nI n ≤ v
    · rw [if_pos cc, if_pos cc]
      exact ⟨rfl, km_rfl, hb⟩
    · have q := nleI cc
      have dn : d < n := by omega
      have e1 := addI (x := v) (y := 1) (by omega) (by omega)
      obtain ⟨f1, f2, f3⟩ := falls_eq h hv dn
      rw [if_neg cc, if_neg cc, f3]
      refine bndR (P := fun (u : Int32) (T : Int32 × sg) => u = T.1 ∧ KM τ T.2 ∧ (u.toInt = -1 ∨ 0 ≤ u.toInt)) (fun r er => ?_)
      have fr : FM 2 τ r.2 := by rw [er]; exact f2
      have hr : RC σ 0 (r.2.1 0) n := by rw [fr.1 0 (by decide) (by decide)]; exact h
      rw [← er]
      by_cases c2 : fX5_bits r.1 ≤ c
      · rw [if_pos c2, if_pos c2]
        have z := ih (d + 1) b c (v + 1) r.2 hr (by omega) (by omega) (by omega) hb
        exact ⟨z.1, km_tr (fm_km fr) z.2.1, z.2.2⟩
      · rw [if_neg c2, if_neg c2]
        have z := ih (d + 1) v (fX5_bits r.1) (v + 1) r.2 hr (by omega) (by omega) (by omega) (by omega)
        exact ⟨z.1, km_tr (fm_km fr) z.2.1, z.2.2⟩
theorem m_key {σ τ : sg} (h : RG σ τ) : RR (fX4_key σ) (fX5_key τ) := by
  obtain ⟨n, hc⟩ := h.1
  have n8 := hc.1.1
  have k0 : (0 : Int32).toInt = 0 := rfl
  have km : (-1 : Int32).toInt = -1 := rfl
  unfold fX4_key fX5_key
  simp only [bx]
  refine bnd2 (P := RR) (fun r s er es => ?_)
  obtain ⟨z1, z2, z3⟩ := eqKey 9 0 (-1) (-1) 0 τ hc rfl (by omega) (by omega) (Or.inl rfl)
  rw [← er, ← es] at z1
  rw [← es] at z2
  rw [← er] at z3
  have g : RG σ s.2 := rg_keep h kd_rfl z2
  rw [z1] at z3 ⊢
  by_cases c : s.1 = -1
  · rw [if_pos c, if_neg (fun q => by have := leI q; have := eqI c; omega)]
    exact rr3 g
  · have c2 := neI c
    rw [if_neg c, if_pos (leM0 (by omega))]
    exact ⟨rfl, g⟩
/-- a byte goes onto the tape -/
theorem rg_byte {σ τ : sg} (h : RG σ τ) {x : Int32} (hx : 0 ≤ x.toInt ∧ x.toInt ≤ 255) (hl : (rF τ 1).toInt < 120) : RG (sF9 (sA σ 24 (rF σ 22) x) 22 (rF (sA σ 24 (rF σ 22) x) 22 + 1)) (sF9 (sA τ 4 (rF τ 1) x) 1 (rF (sA τ 4 (rF τ 1) x) 1 + 1)) := by
  have k1 : (1 : Int32).toInt = 1 := rfl
  obtain ⟨⟨n, h1⟩, ⟨h2, h3, h4⟩, ⟨h5, h6, h7, h8⟩, h9, h10⟩ := h
  have e1 := addI (x := rF τ 1) (y := 1) (by omega) (by omega)
  have g : RG (sA σ 24 (rF σ 22) x) (sA τ 4 (rF τ 1) x) := by
    have hv : (rF τ 1).toInt = ((rF τ 1).toInt.toNat : Nat) := by omega
    refine ⟨⟨n, rc_at h1 (fun t ht => sA_other (by omega)) (fun t ht => rfl) (sA_other (by decide))⟩, ⟨h2, h3, fun q => ?_⟩, ⟨h5, h6, h7, fun i hi => ?_⟩, fun i hi => ?_, fun s hs => ⟨?_, ?_, ?_, ?_, fun i hi => ?_⟩⟩
    · obtain ⟨m, hm⟩ := h4 q
      exact ⟨m, rc_at hm (fun t ht => sA_other (by omega)) (fun t ht => rfl) (sA_other (by decide))⟩
    · rw [h5, sAs hv, sAs hv]
      by_cases e : i = (rF τ 1).toInt.toNat
      · subst e; rw [pk_us, pk_us]; exact ⟨rfl, hx⟩
      · rw [pk_un e, pk_un e]; exact h8 i hi
    · rw [sA_other (by decide), sA_other (by decide)]; exact h9 i hi
    · rw [sA_other (by decide)]; exact (h10 s hs).1
    · rw [sA_other (by decide)]; exact (h10 s hs).2.1
    · rw [sA_other (by decide)]; exact (h10 s hs).2.2.1
    · rw [sA_other (by decide)]; exact (h10 s hs).2.2.2.1
    · rw [sA_other (by omega), sA_other (by decide)]; exact (h10 s hs).2.2.2.2 i hi
  have e2 : rF (sA σ 24 (rF σ 22) x) 22 + 1 = rF (sA τ 4 (rF τ 1) x) 1 + 1 := by
    show rF σ 22 + 1 = rF τ 1 + 1
    rw [h5]
  rw [e2]
  exact rg_len g (by show 0 ≤ (rF τ 1 + 1).toInt ∧ (rF τ 1 + 1).toInt ≤ 120; omega)
theorem byte_bd (x : Int32) : 0 ≤ (x &&& 255).toInt ∧ (x &&& 255).toInt ≤ 255 := by
  have k255 : (255 : Int32).toInt = 255 := rfl
  rw [Int32.and_comm]
  have := andLe (x := 255) (y := x) (by decide)
  omega
theorem shB9 : ∀ i : Nat, i < 4 → (8 * nI i : Int32) = nI (8 * i) := by decide
theorem feedA {u : Int32} {d : Nat} (e2 : (u + -8).toInt = u.toInt + (-8 : Int32).toInt) (hu : u.toInt = 8 * ((d : Int) - 1)) (c : ¬ d = 0) : (u + -8).toInt = 8 * (((d - 1 : Nat) : Int) - 1) := by
  have km8 : (-8 : Int32).toInt = -8 := rfl
  omega
theorem eqFeed {w : Int32} : ∀ (k k' d : Nat) (v u : Int32) (σ τ : sg), RG σ τ → v.toInt = (d : Int) - 1 → u.toInt = 8 * ((d : Int) - 1) → d ≤ 4 → (rF τ 1).toInt + d ≤ 120 → d < k → d < k' → RG (LX4_feed_41 k w v σ) (LX5_feed_40 k' w u τ) := by
  intro k
  induction k with
  | zero => intro k' d v u σ τ _ _ _ _ _ h; exact absurd h (Nat.not_lt_zero _)
  | succ k ih =>
    intro k' d v u σ τ h hv hu hd hl hk hk'
    have k0 : (0 : Int32).toInt = 0 := rfl
    have km : (-1 : Int32).toInt = -1 := rfl
    have km8 : (-8 : Int32).toInt = -8 := rfl
    cases k' with
    | zero => exact absurd hk' (Nat.not_lt_zero _)
    | succ k' =>
      rw [LX4_feed_41, LX5_feed_40]
      by_cases c : d = 0
      · rw [if_pos (ltM0 (by omega)), if_pos (ltM0 (by omega))]; exact h
      · have e1 := addI (x := v) (y := -1) (by omega) (by omega)
        have e2 := addI (x := u) (y := -8) (by omega) (by omega)
        have ev : v = nI (d - 1) := vnI (by omega) (by omega)
        have eu : u = nI (8 * (d - 1)) := vnI (by omega) (by omega)
        have same : (jushr w (8 * v)) &&& 255 = (jshr w u) &&& 255 := by
          rw [ev, eu, shB9 (d - 1) (by omega)]
          rcases (show d = 1 ∨ d = 2 ∨ d = 3 ∨ d = 4 by omega) with rfl | rfl | rfl | rfl
          · exact shB0 w
          · exact shB8 w
          · exact shB16 w
          · exact shB24 w
        rw [if_neg (geM0 (by omega)), if_neg (geM0 (by omega)), same]
        have b := byte_bd (jshr w u)
        generalize (jshr w u) &&& 255 = x at b
        have hl2 : ¬ 120 ≤ rF σ 22 := fun q => by
          have := leI q
          have k120 : (120 : Int32).toInt = 120 := rfl
          have := h.2.2.1.1
          rw [this] at q
          have := leI q
          omega
        have ap : fX3_append x σ = sF9 (sA σ 24 (rF σ 22) x) 22 (rF (sA σ 24 (rF σ 22) x) 22 + 1) := by
          rw [fX3_append, if_neg hl2]
          rfl
        have k1 : (1 : Int32).toInt = 1 := rfl
        refine bnd2 (P := RG) (fun r s er es => ?_)
        refine bndR (P := RG) (fun s2 es2 => ?_)
        have g : RG r s2 := by
          rw [er, ap, es2, es]
          exact rg_byte h b (by omega)
        have e3 : (rF s2 1).toInt = (rF τ 1).toInt + 1 := by
          rw [es2, sF_same9, es]
          show (rF τ 1 + 1).toInt = _
          have := h.2.2.1.2.1
          rw [addI (by omega) (by omega), k1]
        exact ih k' (d - 1) (v + -1) (u + -8) r s2 g (by omega) (feedA e2 hu c) (by omega) (by omega) (by omega) (by omega)
theorem m_feed {σ τ : sg} (h : RG σ τ) (a b : Int32) : RR (fX4_feed a b σ) (fX5_feed a b τ) := by
  have k1 : (1 : Int32).toInt = 1 := rfl
  have k4 : (4 : Int32).toInt = 4 := rfl
  have k8 : (8 : Int32).toInt = 8 := rfl
  have k120 : (120 : Int32).toInt = 120 := rfl
  obtain ⟨h5, h6, h7, h8⟩ := h.2.2.1
  unfold fX4_feed fX5_feed
  simp only [bx]
  rw [within_eq, h5]
  rcases within01 (v := b) (a := 1) (b := 4) with q | ⟨q, q2, q3⟩
  · rw [if_pos q.1, if_pos q.1]; exact rr0 h
  · have q0 : ¬ fX5_within b 1 4 = 0 := by rw [q]; decide
    rw [if_neg q0, if_neg q0]
    by_cases c : rF τ 1 + b ≤ 120
    · rw [if_pos c, if_pos c]
      have c2 := leI c
      have e1 := addI (x := rF τ 1) (y := b) (by omega) (by omega)
      have e2 := subI (x := b) (y := 1) (by omega) (by omega)
      have e3 := mulI (x := 8) (y := b) (by rw [k8]; omega) (by rw [k8]; omega)
      rw [k8] at e3
      have e4 := subI (x := 8 * b) (y := 8) (by omega) (by omega)
      refine bnd2 (P := RR) (fun r s er es => ?_)
      have g : RG r s := by
        rw [er, es]
        exact eqFeed 5 33 b.toInt.toNat _ _ σ τ h (by omega) (by omega) (by omega) (by omega) (by omega) (by omega)
      exact ⟨g.2.2.1.1, g⟩
    · rw [if_neg c, if_neg c]; exact rr1 h
end EQ11
