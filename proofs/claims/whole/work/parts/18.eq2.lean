section EQ2
theorem bnd2 {α β γ δ : Type} {P : β → δ → Prop} {x : α} {y : γ} {f : α → β} {g : γ → δ} (h : ∀ r s, r = x → s = y → P (f r) (g s)) : P (bnd x f) (bnd y g) := h x y rfl rfl
theorem bndL {α β δ : Type} {P : β → δ → Prop} {x : α} {f : α → β} {u : δ} (h : ∀ r, r = x → P (f r) u) : P (bnd x f) u := h x rfl
theorem bndR {α β δ : Type} {P : β → δ → Prop} {x : α} {f : α → δ} {u : β} (h : ∀ r, r = x → P u (f r)) : P u (bnd x f) := h x rfl
theorem bndE {α β : Type} {x : α} {f : α → β} : bnd x f = f x := congrArg f (Eq.refl x)
theorem mk_01 {M : Int32} {n : Nat} {p : Nat → Int32} (h : MK M n p) {d : Nat} (hd : d < n) (hn : n ≤ 8) : p d = 0 ∨ p d = 1 := by
  obtain ⟨m, hm, rfl, hb⟩ := h
  have e := hb d (by omega)
  rw [if_pos hd] at e
  rw [← e]
  cases m.testBit d
  · exact Or.inl rfl
  · exact Or.inr rfl
theorem mk_has' {M : Int32} {n : Nat} {p : Nat → Int32} (h : MK M n p) (hn : n ≤ 8) {v : Int32} {d : Nat} (hv : v.toInt = d) (hd : d < n) : fX4_has M v = p d := by
  rw [mk_has h hv (by omega), if_pos hd]
theorem rc_n {σ τ : sg} {j a n : Nat} (h : RC σ j (τ.1 a) n) : n ≤ 8 ∧ rA τ a 0 = nI n ∧ rF σ (7 * j + 1) = nI n ∧ (nI n).toInt = n := ⟨h.1.1, h.1.2.1, h.1.2.2, nI_toInt (by have := h.1.1; omega)⟩
theorem rc_sum {σ τ : sg} {j a n : Nat} (h : RC σ j (τ.1 a) n) : rF σ (7 * j + 5) = rA τ a 1 ∧ 0 ≤ (rA τ a 1).toInt ∧ (rA τ a 1).toInt ≤ 40 := h.2.1
theorem rc_hour {σ τ : sg} {j a n : Nat} (h : RC σ j (τ.1 a) n) : rF σ (7 * j + 4) = rA τ a 2 := h.2.2.1
theorem rc_z {σ τ : sg} {j a n : Nat} (h : RC σ j (τ.1 a) n) : rF σ (7 * j + 6) = rA τ a 3 := h.2.2.2.1
theorem rc_run {σ τ : sg} {j a n : Nat} (h : RC σ j (τ.1 a) n) {v i : Int32} {d : Nat} (hd : d < n) (hv : v.toInt = d) (hi : i.toInt = (64 + d : Nat)) : fX4_has (rF σ (7 * j)) v = rA τ a i ∧ (rA τ a i = 0 ∨ rA τ a i = 1) := by
  have q := h.2.2.2.2.2.2.1
  rw [rAd hi]
  exact ⟨mk_has' q h.1.1 hv hd, mk_01 q hd h.1.1⟩
theorem rc_open {σ τ : sg} {j a n : Nat} (h : RC σ j (τ.1 a) n) {v i : Int32} {d : Nat} (hd : d < 6) (hv : v.toInt = d) (hi : i.toInt = (4 + d : Nat)) : fX4_has (rF σ (7 * j + 2)) v = rA τ a i ∧ (rA τ a i = 0 ∨ rA τ a i = 1) := by
  have q := h.2.2.2.2.1
  rw [rAd hi]
  exact ⟨mk_has' q (by decide) hv hd, mk_01 q hd (by decide)⟩
theorem rc_cand {σ τ : sg} {j a n : Nat} (h : RC σ j (τ.1 a) n) {v i : Int32} {d : Nat} (hd : d < 6) (hv : v.toInt = d) (hi : i.toInt = (16 + d : Nat)) : fX4_has (rF σ (7 * j + 3)) v = rA τ a i ∧ (rA τ a i = 0 ∨ rA τ a i = 1) := by
  have q := h.2.2.2.2.2.1
  rw [rAd hi]
  exact ⟨mk_has' q (by decide) hv hd, mk_01 q hd (by decide)⟩
theorem rc_ice {σ τ : sg} {j a n : Nat} (h : RC σ j (τ.1 a) n) {v i : Int32} {d : Nat} (hd : d < 6) (hv : v.toInt = d) (hi : i.toInt = (10 + d : Nat)) : rA σ (8 * j + 5) v = rA τ a i ∧ 0 ≤ (rA τ a i).toInt ∧ (rA τ a i).toInt ≤ 99 := by
  rw [rAd hv, rAd hi]
  exact h.2.2.2.2.2.2.2.1 d hd
theorem rc_spot {σ τ : sg} {j a n : Nat} (h : RC σ j (τ.1 a) n) {v i : Int32} {d : Nat} (hd : d < 10) (hv : v.toInt = d) (hi : i.toInt = (22 + d : Nat)) : rA σ (8 * j + 6) v = rA τ a i ∧ -1 ≤ (rA τ a i).toInt ∧ (rA τ a i).toInt < n := by
  rw [rAd hv, rAd hi]
  exact h.2.2.2.2.2.2.2.2.1 d hd
theorem rcSum {σ τ : sg} {j a n : Nat} (h : RC σ j (τ.1 a) n) {x i : Int32} (hb : 0 ≤ x.toInt ∧ x.toInt ≤ 40) (hi : i.toInt = 1) : RC (sF9 σ (7 * j + 5) x) j ((sA τ a i x).1 a) n := by
  obtain ⟨h1, h2, h3, h4, h5, h6, h7, h8, h9, h10⟩ := h
  have hn := h1.1
  rw [sAs (d := 1) hi]
  exact ⟨⟨h1.1, by rw [pk_un (by omega)]; exact h1.2.1, by rw [sF_other (by omega)]; exact h1.2.2⟩, ⟨by rw [pk_us]; exact sF_same9, by rw [pk_us]; exact hb⟩, by rw [sF_other (by omega), pk_un (by omega)]; exact h3, by rw [sF_other (by omega), pk_un (by omega)]; exact h4, by rw [sF_other (by omega)]; exact mk_ext h5 (fun s hs => (pk_un (by omega)).symm), by rw [sF_other (by omega)]; exact mk_ext h6 (fun s hs => (pk_un (by omega)).symm), by rw [sF_other (by omega)]; exact mk_ext h7 (fun s hs => (pk_un (by omega)).symm), fun s hs => by rw [pk_un (by omega)]; exact h8 s hs, fun k hk => by rw [pk_un (by omega)]; exact h9 k hk, fun u c hu hc => by have := of_ge hu; rw [pk_un (by omega)]; exact h10 u c hu hc⟩
theorem rcHour {σ τ : sg} {j a n : Nat} (h : RC σ j (τ.1 a) n) {x i : Int32} (hi : i.toInt = 2) : RC (sF9 σ (7 * j + 4) x) j ((sA τ a i x).1 a) n := by
  obtain ⟨h1, h2, h3, h4, h5, h6, h7, h8, h9, h10⟩ := h
  have hn := h1.1
  rw [sAs (d := 2) hi]
  exact ⟨⟨h1.1, by rw [pk_un (by omega)]; exact h1.2.1, by rw [sF_other (by omega)]; exact h1.2.2⟩, by rw [sF_other (by omega), pk_un (by omega)]; exact h2, by rw [pk_us]; exact sF_same9, by rw [sF_other (by omega), pk_un (by omega)]; exact h4, by rw [sF_other (by omega)]; exact mk_ext h5 (fun s hs => (pk_un (by omega)).symm), by rw [sF_other (by omega)]; exact mk_ext h6 (fun s hs => (pk_un (by omega)).symm), by rw [sF_other (by omega)]; exact mk_ext h7 (fun s hs => (pk_un (by omega)).symm), fun s hs => by rw [pk_un (by omega)]; exact h8 s hs, fun k hk => by rw [pk_un (by omega)]; exact h9 k hk, fun u c hu hc => by have := of_ge hu; rw [pk_un (by omega)]; exact h10 u c hu hc⟩
theorem rcZ {σ τ : sg} {j a n : Nat} (h : RC σ j (τ.1 a) n) {x i : Int32} (hi : i.toInt = 3) : RC (sF9 σ (7 * j + 6) x) j ((sA τ a i x).1 a) n := by
  obtain ⟨h1, h2, h3, h4, h5, h6, h7, h8, h9, h10⟩ := h
  have hn := h1.1
  rw [sAs (d := 3) hi]
  exact ⟨⟨h1.1, by rw [pk_un (by omega)]; exact h1.2.1, by rw [sF_other (by omega)]; exact h1.2.2⟩, by rw [sF_other (by omega), pk_un (by omega)]; exact h2, by rw [sF_other (by omega), pk_un (by omega)]; exact h3, by rw [pk_us]; exact sF_same9, by rw [sF_other (by omega)]; exact mk_ext h5 (fun s hs => (pk_un (by omega)).symm), by rw [sF_other (by omega)]; exact mk_ext h6 (fun s hs => (pk_un (by omega)).symm), by rw [sF_other (by omega)]; exact mk_ext h7 (fun s hs => (pk_un (by omega)).symm), fun s hs => by rw [pk_un (by omega)]; exact h8 s hs, fun k hk => by rw [pk_un (by omega)]; exact h9 k hk, fun u c hu hc => by have := of_ge hu; rw [pk_un (by omega)]; exact h10 u c hu hc⟩
theorem rcRun1 {σ τ : sg} {j a n : Nat} (h : RC σ j (τ.1 a) n) {v i : Int32} {d : Nat} (hd : d < n) (hv : v.toInt = d) (hi : i.toInt = (64 + d : Nat)) : RC (sF9 σ (7 * j) (fX4_with (rF σ (7 * j)) v)) j ((sA τ a i 1).1 a) n := by
  obtain ⟨h1, h2, h3, h4, h5, h6, h7, h8, h9, h10⟩ := h
  have hn := h1.1
  rw [sAs (d := 64 + d) hi]
  exact ⟨⟨h1.1, by rw [pk_un (by omega)]; exact h1.2.1, by rw [sF_other (by omega)]; exact h1.2.2⟩, by rw [sF_other (by omega), pk_un (by omega)]; exact h2, by rw [sF_other (by omega), pk_un (by omega)]; exact h3, by rw [sF_other (by omega), pk_un (by omega)]; exact h4, by rw [sF_other (by omega)]; exact mk_ext h5 (fun s hs => (pk_un (by omega)).symm), by rw [sF_other (by omega)]; exact mk_ext h6 (fun s hs => (pk_un (by omega)).symm), by rw [sF_same9]; exact mk_ext (mk_with h7 hn hv hd) (fun s hs => if q : s = d then (by rw [q, pk_us, pk_us]) else (by rw [pk_un q, pk_un (by omega)])), fun s hs => by rw [pk_un (by omega)]; exact h8 s hs, fun k hk => by rw [pk_un (by omega)]; exact h9 k hk, fun u c hu hc => by have := of_ge hu; rw [pk_un (of_no64 hu (show c < 8 by omega) (show d < 8 by omega))]; exact h10 u c hu hc⟩
theorem rcRun0 {σ τ : sg} {j a n : Nat} (h : RC σ j (τ.1 a) n) {v i : Int32} {d : Nat} (hd : d < n) (hv : v.toInt = d) (hi : i.toInt = (64 + d : Nat)) : RC (sF9 σ (7 * j) (fX4_without (rF σ (7 * j)) v)) j ((sA τ a i 0).1 a) n := by
  obtain ⟨h1, h2, h3, h4, h5, h6, h7, h8, h9, h10⟩ := h
  have hn := h1.1
  rw [sAs (d := 64 + d) hi]
  exact ⟨⟨h1.1, by rw [pk_un (by omega)]; exact h1.2.1, by rw [sF_other (by omega)]; exact h1.2.2⟩, by rw [sF_other (by omega), pk_un (by omega)]; exact h2, by rw [sF_other (by omega), pk_un (by omega)]; exact h3, by rw [sF_other (by omega), pk_un (by omega)]; exact h4, by rw [sF_other (by omega)]; exact mk_ext h5 (fun s hs => (pk_un (by omega)).symm), by rw [sF_other (by omega)]; exact mk_ext h6 (fun s hs => (pk_un (by omega)).symm), by rw [sF_same9]; exact mk_ext (mk_wout h7 hn hv hd) (fun s hs => if q : s = d then (by rw [q, pk_us, pk_us]) else (by rw [pk_un q, pk_un (by omega)])), fun s hs => by rw [pk_un (by omega)]; exact h8 s hs, fun k hk => by rw [pk_un (by omega)]; exact h9 k hk, fun u c hu hc => by have := of_ge hu; rw [pk_un (of_no64 hu (show c < 8 by omega) (show d < 8 by omega))]; exact h10 u c hu hc⟩
theorem rcOpen1 {σ τ : sg} {j a n : Nat} (h : RC σ j (τ.1 a) n) {v i : Int32} {d : Nat} (hd : d < 6) (hv : v.toInt = d) (hi : i.toInt = (4 + d : Nat)) : RC (sF9 σ (7 * j + 2) (fX4_with (rF σ (7 * j + 2)) v)) j ((sA τ a i 1).1 a) n := by
  obtain ⟨h1, h2, h3, h4, h5, h6, h7, h8, h9, h10⟩ := h
  have hn := h1.1
  rw [sAs (d := 4 + d) hi]
  exact ⟨⟨h1.1, by rw [pk_un (by omega)]; exact h1.2.1, by rw [sF_other (by omega)]; exact h1.2.2⟩, by rw [sF_other (by omega), pk_un (by omega)]; exact h2, by rw [sF_other (by omega), pk_un (by omega)]; exact h3, by rw [sF_other (by omega), pk_un (by omega)]; exact h4, by rw [sF_same9]; exact mk_ext (mk_with h5 (by decide) hv hd) (fun s hs => if q : s = d then (by rw [q, pk_us, pk_us]) else (by rw [pk_un q, pk_un (by omega)])), by rw [sF_other (by omega)]; exact mk_ext h6 (fun s hs => (pk_un (by omega)).symm), by rw [sF_other (by omega)]; exact mk_ext h7 (fun s hs => (pk_un (by omega)).symm), fun s hs => by rw [pk_un (by omega)]; exact h8 s hs, fun k hk => by rw [pk_un (by omega)]; exact h9 k hk, fun u c hu hc => by have := of_ge hu; rw [pk_un (by omega)]; exact h10 u c hu hc⟩
theorem rcOpen0 {σ τ : sg} {j a n : Nat} (h : RC σ j (τ.1 a) n) {v i : Int32} {d : Nat} (hd : d < 6) (hv : v.toInt = d) (hi : i.toInt = (4 + d : Nat)) : RC (sF9 σ (7 * j + 2) (fX4_without (rF σ (7 * j + 2)) v)) j ((sA τ a i 0).1 a) n := by
  obtain ⟨h1, h2, h3, h4, h5, h6, h7, h8, h9, h10⟩ := h
  have hn := h1.1
  rw [sAs (d := 4 + d) hi]
  exact ⟨⟨h1.1, by rw [pk_un (by omega)]; exact h1.2.1, by rw [sF_other (by omega)]; exact h1.2.2⟩, by rw [sF_other (by omega), pk_un (by omega)]; exact h2, by rw [sF_other (by omega), pk_un (by omega)]; exact h3, by rw [sF_other (by omega), pk_un (by omega)]; exact h4, by rw [sF_same9]; exact mk_ext (mk_wout h5 (by decide) hv hd) (fun s hs => if q : s = d then (by rw [q, pk_us, pk_us]) else (by rw [pk_un q, pk_un (by omega)])), by rw [sF_other (by omega)]; exact mk_ext h6 (fun s hs => (pk_un (by omega)).symm), by rw [sF_other (by omega)]; exact mk_ext h7 (fun s hs => (pk_un (by omega)).symm), fun s hs => by rw [pk_un (by omega)]; exact h8 s hs, fun k hk => by rw [pk_un (by omega)]; exact h9 k hk, fun u c hu hc => by have := of_ge hu; rw [pk_un (by omega)]; exact h10 u c hu hc⟩
theorem rcCand1 {σ τ : sg} {j a n : Nat} (h : RC σ j (τ.1 a) n) {v i : Int32} {d : Nat} (hd : d < 6) (hv : v.toInt = d) (hi : i.toInt = (16 + d : Nat)) : RC (sF9 σ (7 * j + 3) (fX4_with (rF σ (7 * j + 3)) v)) j ((sA τ a i 1).1 a) n := by
  obtain ⟨h1, h2, h3, h4, h5, h6, h7, h8, h9, h10⟩ := h
  have hn := h1.1
  rw [sAs (d := 16 + d) hi]
  exact ⟨⟨h1.1, by rw [pk_un (by omega)]; exact h1.2.1, by rw [sF_other (by omega)]; exact h1.2.2⟩, by rw [sF_other (by omega), pk_un (by omega)]; exact h2, by rw [sF_other (by omega), pk_un (by omega)]; exact h3, by rw [sF_other (by omega), pk_un (by omega)]; exact h4, by rw [sF_other (by omega)]; exact mk_ext h5 (fun s hs => (pk_un (by omega)).symm), by rw [sF_same9]; exact mk_ext (mk_with h6 (by decide) hv hd) (fun s hs => if q : s = d then (by rw [q, pk_us, pk_us]) else (by rw [pk_un q, pk_un (by omega)])), by rw [sF_other (by omega)]; exact mk_ext h7 (fun s hs => (pk_un (by omega)).symm), fun s hs => by rw [pk_un (by omega)]; exact h8 s hs, fun k hk => by rw [pk_un (by omega)]; exact h9 k hk, fun u c hu hc => by have := of_ge hu; rw [pk_un (by omega)]; exact h10 u c hu hc⟩
theorem rcCand0 {σ τ : sg} {j a n : Nat} (h : RC σ j (τ.1 a) n) {v i : Int32} {d : Nat} (hd : d < 6) (hv : v.toInt = d) (hi : i.toInt = (16 + d : Nat)) : RC (sF9 σ (7 * j + 3) (fX4_without (rF σ (7 * j + 3)) v)) j ((sA τ a i 0).1 a) n := by
  obtain ⟨h1, h2, h3, h4, h5, h6, h7, h8, h9, h10⟩ := h
  have hn := h1.1
  rw [sAs (d := 16 + d) hi]
  exact ⟨⟨h1.1, by rw [pk_un (by omega)]; exact h1.2.1, by rw [sF_other (by omega)]; exact h1.2.2⟩, by rw [sF_other (by omega), pk_un (by omega)]; exact h2, by rw [sF_other (by omega), pk_un (by omega)]; exact h3, by rw [sF_other (by omega), pk_un (by omega)]; exact h4, by rw [sF_other (by omega)]; exact mk_ext h5 (fun s hs => (pk_un (by omega)).symm), by rw [sF_same9]; exact mk_ext (mk_wout h6 (by decide) hv hd) (fun s hs => if q : s = d then (by rw [q, pk_us, pk_us]) else (by rw [pk_un q, pk_un (by omega)])), by rw [sF_other (by omega)]; exact mk_ext h7 (fun s hs => (pk_un (by omega)).symm), fun s hs => by rw [pk_un (by omega)]; exact h8 s hs, fun k hk => by rw [pk_un (by omega)]; exact h9 k hk, fun u c hu hc => by have := of_ge hu; rw [pk_un (by omega)]; exact h10 u c hu hc⟩
theorem rcIce {σ τ : sg} {j a n : Nat} (h : RC σ j (τ.1 a) n) {v i x : Int32} {d : Nat} (hd : d < 6) (hv : v.toInt = d) (hi : i.toInt = (10 + d : Nat)) (hb : 0 ≤ x.toInt ∧ x.toInt ≤ 99) : RC (sA σ (8 * j + 5) v x) j ((sA τ a i x).1 a) n := by
  obtain ⟨h1, h2, h3, h4, h5, h6, h7, h8, h9, h10⟩ := h
  rw [sAs (d := 10 + d) hi, sAd hv]
  refine ⟨⟨h1.1, by rw [pk_un (by omega)]; exact h1.2.1, h1.2.2⟩, by rw [pk_un (by omega)]; exact h2, by rw [pk_un (by omega)]; exact h3, by rw [pk_un (by omega)]; exact h4, mk_ext h5 (fun s hs => (pk_un (by omega)).symm), mk_ext h6 (fun s hs => (pk_un (by omega)).symm), mk_ext h7 (fun c hc => (pk_un (by omega)).symm), fun s hs => ?_, fun s hs => ?_, fun u c hu hc => ?_⟩
  · show va_up σ.1 (8 * j + 5) _ (8 * j + 5) s = _ ∧ _
    rw [va_up_self]
    by_cases q : s = d
    · subst q
      rw [pk_us, pk_us]; exact ⟨rfl, hb⟩
    · rw [pk_un q, pk_un (by omega)]; exact h8 s hs
  · rw [pk_un (by omega)]
    show va_up σ.1 (8 * j + 5) _ (8 * j + 6) s = _ ∧ _
    rw [va_up_ne _ _ (by omega)]
    exact h9 s hs
  · have := of_ge hu
    rw [pk_un (by omega)]
    show va_up σ.1 (8 * j + 5) _ (8 * j + u) c = _ ∧ _
    rw [va_up_ne _ _ (by omega)]
    exact h10 u c hu hc
theorem rcSpot {σ τ : sg} {j a n : Nat} (h : RC σ j (τ.1 a) n) {v i x : Int32} {d : Nat} (hd : d < 10) (hv : v.toInt = d) (hi : i.toInt = (22 + d : Nat)) (hb : -1 ≤ x.toInt ∧ x.toInt < n) : RC (sA σ (8 * j + 6) v x) j ((sA τ a i x).1 a) n := by
  obtain ⟨h1, h2, h3, h4, h5, h6, h7, h8, h9, h10⟩ := h
  rw [sAs (d := 22 + d) hi, sAd hv]
  refine ⟨⟨h1.1, by rw [pk_un (by omega)]; exact h1.2.1, h1.2.2⟩, by rw [pk_un (by omega)]; exact h2, by rw [pk_un (by omega)]; exact h3, by rw [pk_un (by omega)]; exact h4, mk_ext h5 (fun s hs => (pk_un (by omega)).symm), mk_ext h6 (fun s hs => (pk_un (by omega)).symm), mk_ext h7 (fun c hc => (pk_un (by omega)).symm), fun s hs => ?_, fun s hs => ?_, fun u c hu hc => ?_⟩
  · rw [pk_un (by omega)]
    show va_up σ.1 (8 * j + 6) _ (8 * j + 5) s = _ ∧ _
    rw [va_up_ne _ _ (by omega)]
    exact h8 s hs
  · show va_up σ.1 (8 * j + 6) _ (8 * j + 6) s = _ ∧ _
    rw [va_up_self]
    by_cases q : s = d
    · subst q
      rw [pk_us, pk_us]; exact ⟨rfl, hb⟩
    · rw [pk_un q, pk_un (by omega)]; exact h9 s hs
  · have := of_ge hu
    rw [pk_un (by omega)]
    show va_up σ.1 (8 * j + 6) _ (8 * j + u) c = _ ∧ _
    rw [va_up_ne _ _ (by omega)]
    exact h10 u c hu hc
/-- heats are not of the chancery -/
theorem rcHeat {σ : sg} {j n : Nat} {r : Nat → Int32} (h : RC σ j r n) {v x : Int32} : RC (sA σ (8 * j + 7) v x) j r n :=
  rc_cong h (fun t ht => sA_other (by omega)) (fun t ht => rfl)
theorem sunD9 : ∀ m : Nat, m < 20 → 6 ≤ m → 0 ≤ (28 - 4 * jabs (nI m - 13)).toInt ∧ (28 - 4 * jabs (nI m - 13)).toInt ≤ 28 := by decide +kernel
theorem sun_bd (v : Int32) : 0 ≤ (fX5_sunAt v).toInt ∧ (fX5_sunAt v).toInt ≤ 28 := by
  unfold fX5_sunAt
  split
  · decide
  · split
    · rename_i h1 h2
      have k0 : (6 : Int32).toInt = 6 := rfl
      have k1 : (20 : Int32).toInt = 20 := rfl
      have g1 := nltI h1
      have g2 := ltI h2
      obtain ⟨m, hm, e⟩ := nI_of (x := jrem v 24) (fun q => by have := ltI q; have k0 : (0 : Int32).toInt = 0 := rfl; omega)
      rw [e] at g1 g2 ⊢
      rw [nI_toInt hm] at g1 g2
      exact sunD9 m (by omega) (by omega)
    · decide
theorem halfD9 : ∀ m : Nat, m < 29 → 0 ≤ (nI m / 2).toInt ∧ (nI m / 2).toInt ≤ 28 := by decide +kernel
theorem half_bd {x : Int32} (h : 0 ≤ x.toInt ∧ x.toInt ≤ 28) : 0 ≤ (x / 2).toInt ∧ (x / 2).toInt ≤ 28 := by
  obtain ⟨m, hm, rfl⟩ := nI_of (x := x) (fun q => by have := ltI q; have k0 : (0 : Int32).toInt = 0 := rfl; omega)
  rw [nI_toInt hm] at h
  exact halfD9 m (by omega)
theorem swp9 (a b c : Int32) : a - b + c = a + c - b := by
  rw [Int32.sub_eq_add_neg, Int32.sub_eq_add_neg, Int32.add_assoc, Int32.add_comm (-b), ← Int32.add_assoc]
theorem hb9 {S x y z w : Int32} (hS : 0 ≤ S.toInt ∧ S.toInt ≤ 40) (hx : 0 ≤ x.toInt ∧ x.toInt ≤ 28) (hy : 0 ≤ y.toInt ∧ y.toInt ≤ 30) (hz : 0 ≤ z.toInt ∧ z.toInt ≤ 10) (hw : 0 ≤ w.toInt ∧ w.toInt ≤ 12) : -100 ≤ (S + x - y - z + w).toInt ∧ (S + x - y - z + w).toInt ≤ 100 := by
  have e1 := addI (x := S) (y := x) (by omega) (by omega)
  have e2 := subI (x := S + x) (y := y) (by omega) (by omega)
  have e3 := subI (x := S + x - y) (y := z) (by omega) (by omega)
  have e4 := addI (x := S + x - y - z) (y := w) (by omega) (by omega)
  omega
theorem heat_bd {σ τ : sg} {j a n : Nat} (h : RC σ j (τ.1 a) n) {v hr : Int32} {d : Nat} (hv : v.toInt = d) (hd : d < 6) : -100 ≤ (fX5_heatOf a v hr τ).toInt ∧ (fX5_heatOf a v hr τ).toInt ≤ 100 := by
  have hS := (rc_sum h).2
  have s1 := sun_bd hr
  have s2 := half_bd s1
  have k6 : (6 : Int32).toInt = 6 := rfl
  have m := mulI (x := 6) (y := v) (by rw [k6]; omega) (by rw [k6]; omega)
  rw [k6] at m
  have y : 0 ≤ (6 * v).toInt ∧ (6 * v).toInt ≤ 30 := by omega
  unfold fX5_heatOf
  split
  · split
    · split
      · exact hb9 hS s1 y (by decide) (by decide)
      · exact hb9 hS s1 y (by decide) (by decide)
    · split
      · exact hb9 hS s1 y (by decide) (by decide)
      · exact hb9 hS s1 y (by decide) (by decide)
  · split
    · split
      · exact hb9 hS s2 y (by decide) (by decide)
      · exact hb9 hS s2 y (by decide) (by decide)
    · split
      · exact hb9 hS s2 y (by decide) (by decide)
      · exact hb9 hS s2 y (by decide) (by decide)
theorem heat_eq {σ τ : sg} {j a n : Nat} (h : RC σ j (τ.1 a) n) {v hr : Int32} {d : Nat} (hv : v.toInt = d) (hd : d < 6) : fX0_heatUnder j (fX0_sunAt hr) v σ = fX5_heatOf a v hr τ := by
  have k4 : (4 : Int32).toInt = 4 := rfl
  have k10 : (10 : Int32).toInt = 10 := rfl
  have k16 : (16 : Int32).toInt = 16 := rfl
  have i1 := addI (x := 4) (y := v) (by omega) (by omega)
  have i2 := addI (x := 10) (y := v) (by omega) (by omega)
  have i3 := addI (x := 16) (y := v) (by omega) (by omega)
  obtain ⟨ho, bo⟩ := rc_open h hd hv (i := 4 + v) (by omega)
  obtain ⟨hc, bc⟩ := rc_cand h hd hv (i := 16 + v) (by omega)
  have hi := (rc_ice h hd hv (i := 10 + v) (by omega)).1
  have hs := (rc_sum h).1
  unfold fX0_heatUnder fX5_heatOf
  rw [ho, hc, hi, hs, show fX0_sunAt hr = fX5_sunAt hr from rfl]
  generalize rA τ a (4 + v) = o at bo
  generalize rA τ a (16 + v) = c at bc
  have z01 : ¬ (0 : Int32) = 1 := by decide
  have z10 : ¬ (1 : Int32) = 0 := by decide
  rcases bo with rfl | rfl
  · rcases bc with rfl | rfl
    · simp only [if_neg z01, if_pos, swp9, Int32.sub_zero, Int32.add_zero, Int32.sub_eq_add_neg _ 10]
    · simp only [if_neg z01, if_neg z10, if_pos, swp9, Int32.sub_zero, Int32.add_zero, Int32.sub_eq_add_neg _ 10]
  · rcases bc with rfl | rfl
    · simp only [if_neg z01, if_neg z10, if_pos, swp9, Int32.sub_zero, Int32.add_zero, Int32.sub_eq_add_neg _ 10]
    · simp only [if_neg z10, if_pos, swp9, Int32.sub_zero, Int32.add_zero, Int32.sub_eq_add_neg _ 10]
/-- the heats stand alike -/
def HT (σ : sg) (j : Nat) (τ : sg) (d : Nat) : Prop := ∀ s : Nat, s < d → σ.1 (8 * j + 7) s = τ.1 6 s ∧ -100 ≤ (τ.1 6 s).toInt ∧ (τ.1 6 s).toInt ≤ 100
theorem ht_g {σ τ : sg} {j d : Nat} (h : HT σ j τ 6) {v : Int32} (hv : v.toInt = d) (hd : d < 6) : rA σ (8 * j + 7) v = rA τ 6 v ∧ -100 ≤ (rA τ 6 v).toInt ∧ (rA τ 6 v).toInt ≤ 100 := by
  rw [rAd hv, rAd hv]; exact h d hd
/-- what both sides come to, an hour within -/
def HP (j a n : Nat) (σ τ σ' τ' : sg) : Prop := RC σ' j (τ'.1 a) n ∧ HT σ' j τ' 6 ∧ FD j σ σ' ∧ FM a τ τ'
theorem hp_tr {j a n : Nat} {σ τ σ1 τ1 σ2 τ2 : sg} (g1 : FD j σ σ1) (g2 : FM a τ τ1) (h : HP j a n σ1 τ1 σ2 τ2) : HP j a n σ τ σ2 τ2 := ⟨h.1, h.2.1, fd_tr g1 h.2.2.1, fm_tr g2 h.2.2.2⟩
theorem eq10 {j a n : Nat} (ha : a < 4) : ∀ (k d : Nat) (v : Int32) (σ τ : sg), RC σ j (τ.1 a) n → v.toInt = d → d ≤ 6 → 6 - d < k → HT σ j τ d → HP j a n σ τ (LX0_passHour_10 j k (fX0_sunAt (rF σ (7 * j + 4))) v σ) (LX5_anHour_2 a k v τ) := by
  intro k
  induction k with
  | zero => intro d v σ τ _ _ _ h; exact absurd h (Nat.not_lt_zero _)
  | succ k ih =>
    intro d v σ τ h hv hd hk hh
    have k6 : (6 : Int32).toInt = 6 := rfl
    have k1 : (1 : Int32).toInt = 1 := rfl
    rw [LX0_passHour_10, LX5_anHour_2]
    by_cases c : 6 ≤ v
    · rw [if_pos c, if_pos c]
      have := leI c
      have e : d = 6 := by omega
      exact ⟨h, by rw [← e]; exact hh, fd_rfl, fm_rfl⟩
    · rw [if_neg c, if_neg c]
      have := nleI c
      have e1 := addI (x := v) (y := 1) (by omega) (by omega)
      have e2 := heat_eq h (hr := rF σ (7 * j + 4)) hv (by omega)
      have e3 := heat_bd h (hr := rA τ a 2) hv (by omega)
      rw [rc_hour h] at e2
      rw [rc_hour h, e2]
      refine bnd2 (P := HP j a n σ τ) (fun r s er es => ?_)
      have hr : RC r j (s.1 a) n := by
        rw [er, es, sA_other (show a ≠ 6 by omega)]; exact rcHeat h
      have f1 : rF r (7 * j + 4) = rA τ a 2 := by
        rw [er]
        show rF σ (7 * j + 4) = rA τ a 2
        exact rc_hour h
      have g := ih (d + 1) (v + 1) r s hr (by omega) (by omega) (by omega) (by
        intro t ht
        rw [er, es, sAs hv, sAs hv]
        by_cases q : t = d
        · subst q
          rw [pk_us, pk_us]; exact ⟨rfl, e3⟩
        · rw [pk_un q, pk_un q]; exact hh t (by omega))
      rw [f1] at g
      exact hp_tr (by rw [er]; exact fd_A (by decide)) (by rw [es]; exact fm_6) g
theorem jmax0 {y : Int32} (h : 0 ≤ y.toInt) : jmax 0 y = y := by
  unfold jmax
  split
  · rfl
  · rename_i c
    have k0 : (0 : Int32).toInt = 0 := rfl
    have := nltI c
    exact Int32.toInt.inj (by omega)
theorem soft3 {x : Int32} (h : 0 ≤ x.toInt ∧ x.toInt ≤ 99) : jmin 99 (x + 3) = fX5_softer x 3 ∧ 0 ≤ (fX5_softer x 3).toInt ∧ (fX5_softer x 3).toInt ≤ 99 := by
  have k0 : (0 : Int32).toInt = 0 := rfl
  have k3 : (3 : Int32).toInt = 3 := rfl
  have k99 : (99 : Int32).toInt = 99 := rfl
  have e := addI (x := x) (y := 3) (by omega) (by omega)
  have g : 0 ≤ (jmin 99 (x + 3)).toInt ∧ (jmin 99 (x + 3)).toInt ≤ 99 := by
    unfold jmin; split
    · rename_i c; have := ltI c; omega
    · omega
  have e2 : fX5_softer x 3 = jmin 99 (x + 3) := jmax0 g.1
  rw [e2]
  exact ⟨rfl, g⟩
end EQ2
