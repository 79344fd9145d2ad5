section EQ16
theorem cmpT {a n z : Int32} : (0 < lg_cmp (a.toInt64 + n.toInt64) z.toInt64) ↔ z.toInt < a.toInt + n.toInt := by
  have l1 := Int32.toInt_lt a
  have l2 := Int32.toInt_lt n
  have l3 := Int32.le_toInt a
  have l4 := Int32.le_toInt n
  have b : (a.toInt + n.toInt).bmod (2 ^ 64) = a.toInt + n.toInt := by
    rw [Int.bmod_def]
    split <;> omega
  have e : (z.toInt64 < a.toInt64 + n.toInt64) ↔ z.toInt < a.toInt + n.toInt := by
    rw [Int64.lt_iff_toInt_lt, Int64.toInt_add, Int32.toInt_toInt64, Int32.toInt_toInt64, Int32.toInt_toInt64, b]
  rw [← e]
  unfold lg_cmp
  by_cases c : z.toInt64 < a.toInt64 + n.toInt64
  · rw [if_pos c]
    exact ⟨fun _ => c, fun _ => by decide⟩
  · rw [if_neg c]
    refine ⟨fun h => ?_, fun h => absurd h c⟩
    split at h
    · exact absurd h (by decide)
    · exact absurd h (by decide)
theorem range_eq {σ τ : sg} (h : RG σ τ) {a : Int32} {s : Nat} (hs : s < 4) (ha2 : a.toNatClampNeg = s) (f n : Int32) : (fX2_hasRange s f n σ = 1 ∧ 0 ≤ f.toInt ∧ 0 ≤ n.toInt ∧ f.toInt + n.toInt ≤ (rA τ 8 a).toInt) ∨ (fX2_hasRange s f n σ = 0 ∧ ¬ (0 ≤ f.toInt ∧ 0 ≤ n.toInt ∧ f.toInt + n.toInt ≤ (rA τ 8 a).toInt)) := by
  have k0 : (0 : Int32).toInt = 0 := rfl
  obtain ⟨e1, e2, e3⟩ := size_eq h hs ha2
  unfold fX2_hasRange
  rw [e1]
  by_cases c1 : f < 0
  · have := ltI c1
    rw [if_pos c1]
    exact Or.inr ⟨rfl, fun q => by omega⟩
  · have d1 := nltI c1
    rw [if_neg c1]
    by_cases c2 : n < 0
    · have := ltI c2
      rw [if_pos c2]
      exact Or.inr ⟨rfl, fun q => by omega⟩
    · have d2 := nltI c2
      have l2 := Int32.toInt_lt n
      have e4 := subI (x := rA τ 8 a) (y := n) (by omega) (by omega)
      rw [if_neg c2]
      by_cases c3 : rA τ 8 a - n < f
      · have := ltI c3
        rw [if_pos c3]
        exact Or.inr ⟨rfl, fun q => by omega⟩
      · have := nltI c3
        rw [if_neg c3]
        exact Or.inl ⟨rfl, by omega, by omega, by omega⟩
/-- numbers go over to the row that holds them meanwhile -/
theorem eqCp1 {a f n x3 x4 : Int32} {s F N : Nat} (hs : s < 4) (ha : a.toInt = s) (hf : f.toInt = F) (hn : n.toInt = N) (hF : F + N ≤ 40) : ∀ (k d : Nat) (v : Int32) (τ : sg), v.toInt = d → d ≤ N → N - d < k → (∀ e : Nat, e < d → τ.1 10 e = τ.1 9 (40 * s + F + e)) → (LX5_copy_135 k a f x3 x4 n v τ).2 = τ.2 ∧ (∀ b : Nat, b ≠ 10 → (LX5_copy_135 k a f x3 x4 n v τ).1 b = τ.1 b) ∧ (∀ e : Nat, e < N → (LX5_copy_135 k a f x3 x4 n v τ).1 10 e = τ.1 9 (40 * s + F + e)) := by
  intro k
  induction k with
  | zero => intro d v τ _ _ h; exact absurd h (Nat.not_lt_zero _)
  | succ k ih =>
    intro d v τ hv hd hk he
    have k1 : (1 : Int32).toInt = 1 := rfl
    rw [LX5_copy_135]
    by_cases cc : n ≤ v
    · have := leI cc
      rw [if_pos cc]
      exact ⟨rfl, fun _ _ => rfl, fun e h => he e (by omega)⟩
    · have q := nleI cc
      have e1 := addI (x := v) (y := 1) (by omega) (by omega)
      have i1 := ix40 hs ha (by omega) hf
      have i2 := addI (x := 40 * a + f) (y := v) (by omega) (by omega)
      have i3 : (40 * a + f + v).toInt = (40 * s + F + d : Nat) := by omega
      rw [if_neg cc]
      refine wf_bnd (P := fun T : sg => T.2 = τ.2 ∧ (∀ b : Nat, b ≠ 10 → T.1 b = τ.1 b) ∧ (∀ e : Nat, e < N → T.1 10 e = τ.1 9 (40 * s + F + e))) (fun r er => ?_)
      have o : ∀ b : Nat, b ≠ 10 → r.1 b = τ.1 b := fun b hb => by rw [er]; exact sA_other hb
      obtain ⟨g1, g2, g3⟩ := ih (d + 1) (v + 1) r (by omega) (by omega) (by omega) (fun e h => by
        rw [o 9 (by decide), er, sAs hv, rAd i3]
        by_cases c : e = d
        · subst c; exact pk_us
        · rw [pk_un c]; exact he e (by omega))
      exact ⟨g1.trans (by rw [er]; rfl), fun b hb => (g2 b hb).trans (o b hb), fun e h => by rw [g3 e h, o 9 (by decide)]⟩
theorem eqCp2 {a f n : Int32} {s F N : Nat} (hs : s < 4) (ha : a.toInt = s) (hf : f.toInt = F) (hn : n.toInt = N) (hF : F + N ≤ 40) (w : Nat → Int32) : ∀ (k d : Nat) (v : Int32) (τ : sg), v.toInt = d → d ≤ N → N - d < k → (∀ i : Nat, τ.1 9 i = if 40 * s + F ≤ i ∧ i < 40 * s + F + d then τ.1 10 (i - (40 * s + F)) else w i) → (LX5_copy_172 k a f n v τ).2 = τ.2 ∧ (∀ b : Nat, b ≠ 9 → (LX5_copy_172 k a f n v τ).1 b = τ.1 b) ∧ (∀ i : Nat, (LX5_copy_172 k a f n v τ).1 9 i = if 40 * s + F ≤ i ∧ i < 40 * s + F + N then τ.1 10 (i - (40 * s + F)) else w i) := by
  intro k
  induction k with
  | zero => intro d v τ _ _ h; exact absurd h (Nat.not_lt_zero _)
  | succ k ih =>
    intro d v τ hv hd hk he
    have k1 : (1 : Int32).toInt = 1 := rfl
    rw [LX5_copy_172]
    by_cases cc : n ≤ v
    · have := leI cc
      have e : d = N := by omega
      rw [if_pos cc]
      subst e
      exact ⟨rfl, fun _ _ => rfl, he⟩
    · have q := nleI cc
      have e1 := addI (x := v) (y := 1) (by omega) (by omega)
      have i1 := ix40 hs ha (by omega) hf
      have i2 := addI (x := 40 * a + f) (y := v) (by omega) (by omega)
      have i3 : (40 * a + f + v).toInt = (40 * s + F + d : Nat) := by omega
      rw [if_neg cc]
      refine wf_bnd (P := fun T : sg => T.2 = τ.2 ∧ (∀ b : Nat, b ≠ 9 → T.1 b = τ.1 b) ∧ (∀ i : Nat, T.1 9 i = if 40 * s + F ≤ i ∧ i < 40 * s + F + N then τ.1 10 (i - (40 * s + F)) else w i)) (fun r er => ?_)
      have o : ∀ b : Nat, b ≠ 9 → r.1 b = τ.1 b := fun b hb => by rw [er]; exact sA_other hb
      obtain ⟨g1, g2, g3⟩ := ih (d + 1) (v + 1) r (by omega) (by omega) (by omega) (fun i => by
        rw [o 10 (by decide), er, sAs i3, rAd hv]
        by_cases c : i = 40 * s + F + d
        · subst c
          rw [pk_us, if_pos (by omega)]
          rw [show 40 * s + F + d - (40 * s + F) = d by omega]
        · rw [pk_un c, he i]
          by_cases c2 : 40 * s + F ≤ i ∧ i < 40 * s + F + d
          · rw [if_pos c2, if_pos (by omega)]
          · rw [if_neg c2, if_neg (by omega)])
      exact ⟨g1.trans (by rw [er]; rfl), fun b hb => (g2 b hb).trans (o b hb), fun i => by rw [g3 i, o 10 (by decide)]⟩
theorem m_copy {σ τ : sg} (h : RG σ τ) (a b c e g : Int32) : RR (fX4_copy a b c e g σ) (fX5_copy a b c e g τ) := by
  have k0 : (0 : Int32).toInt = 0 := rfl
  have k3 : (3 : Int32).toInt = 3 := rfl
  unfold fX4_copy fX5_copy
  simp only [bx]
  rw [show ∀ x : Int32, fX4_isSheet x = fX5_isSheet x from fun x => rfl]
  by_cases c1 : fX5_isSheet a = 0
  · rw [if_pos c1, if_pos c1]; exact rr0 h
  · rw [if_neg c1, if_neg c1, show ∀ x : Int32, fX4_isSheet x = fX5_isSheet x from fun x => rfl]
    by_cases c2 : fX5_isSheet c = 0
    · rw [if_pos c2, if_pos c2]; exact rr0 h
    · rw [if_neg c2, if_neg c2]
      have qa := (within01 (v := a) (a := 0) (b := 3)).resolve_left (fun q => c1 q.1)
      have qc := (within01 (v := c) (a := 0) (b := 3)).resolve_left (fun q => c2 q.1)
      have a0 := clI (i := a) (by omega)
      have c0 := clI (i := c) (by omega)
      obtain ⟨s, ha2⟩ : ∃ s : Nat, a.toNatClampNeg = s := ⟨_, rfl⟩
      obtain ⟨t, hc2⟩ : ∃ t : Nat, c.toNatClampNeg = t := ⟨_, rfl⟩
      have hs : s < 4 := by omega
      have ht : t < 4 := by omega
      have ha : a.toInt = s := by omega
      have hc : c.toInt = t := by omega
      have ba : rF σ (27 + 2 * s) = rA τ 7 a := by rw [(h.2.2.2.2 s hs).1, ← ha2]; rfl
      have bc : rF σ (27 + 2 * t) = rA τ 7 c := by rw [(h.2.2.2.2 t ht).1, ← hc2]; rfl
      rw [ha2, hc2]
      unfold fX2_isMissing
      rw [ba, bc]
      by_cases c3 : rA τ 7 a = 0
      · rw [if_pos c3, if_pos c3, if_neg z10]; exact rr5 h
      · rw [if_neg c3, if_neg c3, if_pos (show (0 : Int32) = 0 from rfl)]
        by_cases c4 : rA τ 7 c = 0
        · rw [if_pos c4, if_pos c4, if_neg z10]; exact rr5 h
        · rw [if_neg c4, if_neg c4, if_pos (show (0 : Int32) = 0 from rfl)]
          by_cases c5 : rA τ 7 a = rA τ 7 c
          · rw [if_pos c5, if_pos c5]
            have bad : ¬ (0 ≤ b.toInt ∧ 0 ≤ g.toInt ∧ b.toInt + g.toInt ≤ (rA τ 8 a).toInt) ∨ ¬ (0 ≤ e.toInt ∧ 0 ≤ g.toInt ∧ e.toInt + g.toInt ≤ (rA τ 8 c).toInt) → RR (if fX2_hasRange s b g σ = 0 then fX4_found (-1000001) σ else (if fX2_hasRange t e g σ = 0 then fX4_found (-1000001) σ else bnd (sC σ (25 + s) b (25 + t) e g) (fun s19 => (g, s19)))) (fX5_finding 0 τ) := fun z => by
              rcases range_eq h hs ha2 b g with ⟨r1, r2⟩ | ⟨r1, r2⟩
              · rw [if_neg (by rw [r1]; decide)]
                rcases range_eq h ht hc2 e g with ⟨p1, p2⟩ | ⟨p1, p2⟩
                · rcases z with z | z
                  · exact absurd r2 z
                  · exact absurd p2 z
                · rw [if_pos p1]; exact rr0 h
              · rw [if_pos r1]; exact rr0 h
            by_cases d1 : g < 0
            · have := ltI d1
              rw [if_pos d1]
              exact bad (Or.inl (fun q => by omega))
            · have f1 := nltI d1
              rw [if_neg d1]
              by_cases d2 : b < 0
              · have := ltI d2
                rw [if_pos d2]
                exact bad (Or.inl (fun q => by omega))
              · have f2 := nltI d2
                rw [if_neg d2]
                by_cases d3 : e < 0
                · have := ltI d3
                  rw [if_pos d3]
                  exact bad (Or.inr (fun q => by omega))
                · have f3 := nltI d3
                  rw [if_neg d3]
                  by_cases d4 : 0 < lg_cmp (b.toInt64 + g.toInt64) (rA τ 8 a).toInt64
                  · have := cmpT.mp d4
                    rw [if_pos d4]
                    exact bad (Or.inl (fun q => by omega))
                  · have f4 : ¬ (rA τ 8 a).toInt < b.toInt + g.toInt := fun q => d4 (cmpT.mpr q)
                    rw [if_neg d4]
                    by_cases d5 : 0 < lg_cmp (e.toInt64 + g.toInt64) (rA τ 8 c).toInt64
                    · have := cmpT.mp d5
                      rw [if_pos d5]
                      exact bad (Or.inr (fun q => by omega))
                    · have f5 : ¬ (rA τ 8 c).toInt < e.toInt + g.toInt := fun q => d5 (cmpT.mpr q)
                      obtain ⟨y1, y2, y3⟩ := size_eq h hs ha2
                      obtain ⟨w1, w2, w3⟩ := size_eq h ht hc2
                      have r1 := (range_eq h hs ha2 b g).resolve_right (fun q => q.2 ⟨by omega, by omega, by omega⟩)
                      have r2 := (range_eq h ht hc2 e g).resolve_right (fun q => q.2 ⟨by omega, by omega, by omega⟩)
                      rw [if_neg d5, if_neg (show ¬ fX2_hasRange s b g σ = 0 by rw [r1.1]; decide), if_neg (show ¬ fX2_hasRange t e g σ = 0 by rw [r2.1]; decide)]
                      have hb : b.toInt = (b.toInt.toNat : Nat) := by omega
                      have hg : g.toInt = (g.toInt.toNat : Nat) := by omega
                      have he : e.toInt = (e.toInt.toNat : Nat) := by omega
                      refine bndL (P := RR) (fun r er => bndR (P := RR) (fun x ex => bndR (P := RR) (fun y ey => ⟨rfl, ?_⟩)))
                      obtain ⟨m1, m2, m3⟩ := eqCp1 (n := g) (x3 := c) (x4 := e) hs ha hb hg (by omega) 41 0 0 τ rfl (Nat.zero_le _) (by omega) (fun e he => absurd he (Nat.not_lt_zero _))
                      rw [← ex] at m1 m2 m3
                      obtain ⟨l1, l2, l3⟩ := eqCp2 (n := g) ht hc he hg (by omega) (x.1 9) 41 0 0 x rfl (Nat.zero_le _) (by omega) (fun i => by rw [if_neg (by omega)])
                      rw [← ey] at l1 l2 l3
                      have cb := clI (i := b) (by omega)
                      have ce := clI (i := e) (by omega)
                      have cg := clI (i := g) (by omega)
                      have row : ∀ u : Nat, u ≠ 25 + t → r.1 u = σ.1 u := fun u hu => by rw [er]; exact sC_oth hu
                      have rfl2 : ∀ u : Nat, rF r u = rF σ u := fun u => by rw [er]; rfl
                      have yr : ∀ u : Nat, u ≠ 9 → u ≠ 10 → y.1 u = τ.1 u := fun u h9 h10 => (l2 u h9).trans (m2 u h10)
                      have yf : y.2 = τ.2 := l1.trans m1
                      have xr : x.1 9 = τ.1 9 := m2 9 (by decide)
                      have rt : r.1 (25 + t) = va_cpy (σ.1 (25 + s)) (σ.1 (25 + t)) b.toNatClampNeg e.toNatClampNeg g.toNatClampNeg := by
                        rw [er]
                        exact va_up_self _ _ _
                      show RG r y
                      obtain ⟨⟨n, h1⟩, ⟨h2, h3, h4⟩, ⟨h5, h6, h7, h8⟩, h9, h10⟩ := h
                      refine ⟨⟨n, rc_at h1 (fun t ht => row _ (by omega)) (fun t ht => rfl2 _) (yr 0 (by decide) (by decide))⟩, ⟨?_, ?_, fun q => ?_⟩, ⟨?_, ?_, ?_, fun i hi => ?_⟩, fun i hi => ?_, fun u hu => ⟨?_, ?_, ?_, ?_, fun i hi => ?_⟩⟩
                      · rw [rfl2]; exact (congrFun yf 0).trans h2
                      · rw [rfl2]; exact h3
                      · rw [rfl2] at q
                        obtain ⟨m, hm⟩ := h4 q
                        exact ⟨m, rc_at hm (fun t ht => row _ (by omega)) (fun t ht => rfl2 _) (yr 1 (by decide) (by decide))⟩
                      · rw [rfl2]; exact h5.trans (congrFun yf 1).symm
                      · rw [show rF y 1 = rF τ 1 from congrFun yf 1]; exact h6
                      · rw [show rF y 1 = rF τ 1 from congrFun yf 1]; exact h7
                      · rw [row 24 (by omega), yr 4 (by decide) (by decide)]; exact h8 i hi
                      · rw [row 29 (by omega), yr 5 (by decide) (by decide)]; exact h9 i hi
                      · rw [rfl2, yr 7 (by decide) (by decide)]; exact (h10 u hu).1
                      · rw [rfl2, yr 8 (by decide) (by decide)]; exact (h10 u hu).2.1
                      · rw [yr 8 (by decide) (by decide)]; exact (h10 u hu).2.2.1
                      · rw [yr 8 (by decide) (by decide)]; exact (h10 u hu).2.2.2.1
                      · rw [l3, xr]
                        by_cases c6 : u = t
                        · subst c6
                          rw [rt]
                          unfold va_cpy
                          by_cases c7 : e.toNatClampNeg ≤ i ∧ i < e.toNatClampNeg + g.toNatClampNeg
                          · rw [if_pos c7, if_pos (by omega), m3 _ (by omega), (h10 s hs).2.2.2.2 _ (by omega)]
                            rw [show 40 * s + (b.toNatClampNeg + (i - e.toNatClampNeg)) = 40 * s + b.toInt.toNat + (40 * u + i - (40 * u + e.toInt.toNat)) by omega]
                          · rw [if_neg c7, if_neg (by omega)]
                            exact (h10 u hu).2.2.2.2 i hi
                        · rw [row _ (by omega), if_neg (by omega)]
                          exact (h10 u hu).2.2.2.2 i hi
          · rw [if_neg c5, if_neg c5]; exact rr2 h
end EQ16
