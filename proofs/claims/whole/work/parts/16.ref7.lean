def WX (σ : sg) : Prop := (rF σ 5 = 0 → WM σ) ∧ (∀ a : Nat, 1 ≤ a → a < 4 → RW (σ.1 a)) ∧ (0 ≤ (rF σ 1).toInt ∧ (rF σ 1).toInt ≤ 120) ∧ (∀ k : Nat, 0 ≤ (σ.1 8 k).toInt ∧ (σ.1 8 k).toInt ≤ 40) ∧ (0 ≤ (rF σ 3).toInt ∧ (rF σ 3).toInt ≤ 120) ∧ (0 ≤ (rF σ 4).toInt ∧ (rF σ 4).toInt ≤ 120)
theorem wx_of {σ : sg} (h : WM σ) : WX σ := ⟨fun _ => h, fun a _ h2 => h.1 a h2, h.2⟩
theorem is0 {x : Int32} (h : x.toInt = 0) : x = 0 := Int32.toInt_inj.mp (by rw [h]; rfl)
theorem wx_wm {σ : sg} (h : WX σ) (c : (rF σ 5).toInt = 0) : WM σ := h.1 (is0 c)
theorem wx_taped {σ : sg} (h : WX σ) : 0 ≤ (rF σ 1).toInt ∧ (rF σ 1).toInt ≤ 120 := h.2.2.1
theorem wx_from {σ : sg} (h : WX σ) : 0 ≤ (rF σ 3).toInt ∧ (rF σ 3).toInt ≤ 120 := h.2.2.2.2.1
theorem wx_to {σ : sg} (h : WX σ) : 0 ≤ (rF σ 4).toInt ∧ (rF σ 4).toInt ≤ 120 := h.2.2.2.2.2
theorem wxF5 {σ : sg} {x : Int32} (h : WX σ) (c : (rF σ 5).toInt = 0 ∨ x.toInt = 1) : WX (sF9 σ 5 x) := by
  refine ⟨fun q => ?_, h.2.1, ?_, h.2.2.2.1, ?_, ?_⟩
  · have q2 : x = 0 := by rw [← q]; exact sF_same9.symm
    rcases c with c | c
    · exact wmF (wx_wm h c) (by omega)
    · subst q2; exact absurd c (by decide)
  · rw [sF_other (by decide)]; exact h.2.2.1
  · rw [sF_other (by decide)]; exact h.2.2.2.2.1
  · rw [sF_other (by decide)]; exact h.2.2.2.2.2
theorem wxT {σ : sg} (h : WX σ) : WX (sF9 σ 1 0) := by
  refine ⟨fun q => ?_, h.2.1, ?_, h.2.2.2.1, ?_, ?_⟩
  · rw [sF_other (by decide)] at q
    exact wmFt (h.1 q) (by decide) (by decide)
  · rw [sF_same9]; decide
  · rw [sF_other (by decide)]; exact h.2.2.2.2.1
  · rw [sF_other (by decide)]; exact h.2.2.2.2.2
theorem wxRow {σ : sg} (h : WX σ) : WM (fX5_row 3 0 σ) := by
  have hab : (3 : Nat) ≠ 0 := by decide
  have e : ∀ k, rF (fX5_row 3 0 σ) k = rF σ k := fun k => by show (fX5_row 3 0 σ).2 k = σ.2 k; rw [row_F hab]
  have h3 := h.2.1 3 (by decide) (by decide)
  refine ⟨fun c hc => ?_, by rw [e]; exact h.2.2.1, fun k => by rw [row_o hab (by decide)]; exact h.2.2.2.1 k, by rw [e]; exact h.2.2.2.2.1, by rw [e]; exact h.2.2.2.2.2⟩
  by_cases q : c = 0
  · subst q
    have e0 : (fX5_row 3 0 σ).1 0 0 = σ.1 3 0 := row_c hab (by decide)
    refine ⟨by rw [e0]; exact h3.1, fun d hd => ?_, fun d hd => ?_, fun d hd => ?_⟩
    · rw [row_c hab (by omega)]; exact h3.2.1 d hd
    · rw [e0] at hd
      have := h3.1
      rw [row_c hab (by omega)]; exact h3.2.2.1 d hd
    · rw [row_c hab (by omega)]; exact h3.2.2.2 d hd
  · rw [row_o hab q]; exact h.2.1 c (by omega) hc
theorem wxOn {σ : sg} (h : WM σ) {d x : Int32} (h0 : 0 ≤ d.toInt) (hd : d.toInt < 8) (hm : (rA σ 0 0).toInt = d.toInt + 1) (hx : (rF σ 5).toInt = 0 → -1 ≤ x.toInt ∧ x.toInt < d.toInt) : WX (sA σ 0 (72 + d) x) := by
  have k72 : (72 : Int32).toInt = 72 := rfl
  have e := addI (x := 72) (y := d) (by omega) (by omega)
  refine ⟨fun q => ?_, fun a h1 h2 => ?_, h.2.1, fun k => ?_, h.2.2.2.1, h.2.2.2.2⟩
  · have q1 : (rF σ 5).toInt = 0 := by
      have : rF σ 5 = 0 := q
      rw [this]; rfl
    exact wmRo h (by decide) (by omega) (by omega) (hx q1).1 (by have := (hx q1).2; omega)
  · rw [sA_other (by omega)]; exact h.1 a h2
  · rw [sA_other (by decide)]; exact h.2.2.1 k
theorem manyF {σ s : sg} {i : Nat} {x : Int32} (e : s = sF9 σ i x) : (rA s 0 0).toInt = (rA σ 0 0).toInt := by subst e; rfl
theorem nxL8 : ∀ (k : Nat) (σ : sg), (LX5_next_8 k σ).1 = σ.1 ∧ (LX5_next_8 k σ).2 5 = σ.2 5 ∧ (LX5_next_8 k σ).2 1 = σ.2 1 := by
  intro k
  induction k with
  | zero => intro σ; exact ⟨rfl, rfl, rfl⟩
  | succ k ih =>
    intro σ
    rw [LX5_next_8]
    split
    · exact ⟨rfl, rfl, rfl⟩
    · have h := ih (sF9 σ 3 (rF σ 3 + 1))
      exact ⟨h.1, h.2.1.trans (sF_other (by decide)), h.2.2.trans (sF_other (by decide))⟩
theorem nxL70 : ∀ (k : Nat) (a b : Int32) (σ : sg), (LX5_next_70 k a b σ).1 = σ.1 ∧ (LX5_next_70 k a b σ).2 5 = σ.2 5 ∧ (LX5_next_70 k a b σ).2 1 = σ.2 1 := by
  intro k
  induction k with
  | zero => intro a b σ; exact ⟨rfl, rfl, rfl⟩
  | succ k ih =>
    intro a b σ
    have h := ih a b (sF9 σ 4 (rF σ 4 + 1))
    have h2 : (LX5_next_70 k a b (sF9 σ 4 (rF σ 4 + 1))).1 = σ.1 ∧ (LX5_next_70 k a b (sF9 σ 4 (rF σ 4 + 1))).2 5 = σ.2 5 ∧ (LX5_next_70 k a b (sF9 σ 4 (rF σ 4 + 1))).2 1 = σ.2 1 := ⟨h.1, h.2.1.trans (sF_other (by decide)), h.2.2.trans (sF_other (by decide))⟩
    rw [LX5_next_70]
    split
    · split
      · exact ⟨rfl, rfl, rfl⟩
      · split
        · exact ⟨rfl, rfl, rfl⟩
        · exact h2
    · split
      · split
        · exact ⟨rfl, rfl, rfl⟩
        · split
          · exact ⟨rfl, rfl, rfl⟩
          · exact h2
      · exact h2
/-- what the reader's next leaves -/
def NK (σ r : sg) : Prop := r.1 = σ.1 ∧ r.2 5 = σ.2 5 ∧ r.2 1 = σ.2 1
theorem nkF {σ r s : sg} {i : Nat} {x : Int32} (h : NK σ r) (e : s = sF9 r i x) (h5 : i ≠ 5) (h1 : i ≠ 1) : NK σ s := by
  subst e
  exact ⟨h.1, (sF_other (fun q => h5 q.symm)).trans h.2.1, (sF_other (fun q => h1 q.symm)).trans h.2.2⟩
theorem nkT {σ r s : sg} (h : NK σ r) (g : s.1 = r.1 ∧ s.2 5 = r.2 5 ∧ s.2 1 = r.2 1) : NK σ s := ⟨g.1.trans h.1, g.2.1.trans h.2.1, g.2.2.trans h.2.2⟩
theorem nx_NK (σ : sg) : NK σ (fX5_next σ) := by
  rw [fX5_next.eq_1]
  refine wf_bnd (P := NK σ) (fun s1 e1 => ?_)
  have h1 := nkF (show NK σ σ from ⟨rfl, rfl, rfl⟩) e1 (by decide) (by decide)
  refine wf_bnd (P := NK σ) (fun s2 e2 => ?_)
  have h2 : NK σ s2 := nkT h1 (by rw [e2]; exact nxL8 _ _)
  refine wf_bnd (P := NK σ) (fun s3 e3 => ?_)
  have h3 := nkF h2 e3 (by decide) (by decide)
  refine wf_bnd (P := NK σ) (fun s4 e4 => ?_)
  have h4 : NK σ s4 := nkT h3 (by rw [e4]; exact nxL70 _ _ _ _)
  split
  · split
    · split
      · exact wf_bnd (P := NK σ) (fun s e => nkF h4 e (by decide) (by decide))
      · exact wf_bnd (P := NK σ) (fun s e => nkF h4 e (by decide) (by decide))
    · exact wf_bnd (P := NK σ) (fun s e => nkF h4 e (by decide) (by decide))
  · exact wf_bnd (P := NK σ) (fun s e => nkF h4 e (by decide) (by decide))
theorem nx_R {σ r : sg} (e : r = fX5_next σ) : (rA r 0 0).toInt = (rA σ 0 0).toInt ∧ (rF r 5).toInt = (rF σ 5).toInt := by
  subst e
  have h := nx_NK σ
  exact ⟨by show ((fX5_next σ).1 0 _).toInt = _; rw [h.1]; rfl, congrArg Int32.toInt h.2.1⟩
theorem tk_R {w : Nat} {σ : sg} {r : Int32 × sg} (e : r = fX5_takes w σ) : (rA r.2 0 0).toInt = (rA σ 0 0).toInt ∧ (rF r.2 5).toInt = (rF σ 5).toInt ∧ (r.1.toInt ≠ 0 → (rF σ 5).toInt = 0) := by
  have hw : (fX5_isWord w σ).toInt ≠ 0 → (rF σ 5).toInt = 0 := by
    intro h
    by_cases q : (rF σ 5).toInt = 0
    · exact q
    refine absurd ?_ h
    rw [fX5_isWord.eq_1, if_neg (fun c => q (by rw [c]; rfl))]
    exact wf_bnd (P := fun x : Int32 => x.toInt = 0) (fun r e => by rw [e, LX5_isWord_31.eq_2]; rfl)
  subst e
  rw [fX5_takes.eq_1]
  split
  · exact ⟨rfl, rfl, hw⟩
  · exact wf_bnd (P := fun T : Int32 × sg => (rA T.2 0 0).toInt = (rA σ 0 0).toInt ∧ (rF T.2 5).toInt = (rF σ 5).toInt ∧ (T.1.toInt ≠ 0 → (rF σ 5).toInt = 0)) (fun r e => ⟨(nx_R e).1, (nx_R e).2, hw⟩)
theorem wn_R {w : Nat} {σ r : sg} (e : r = fX5_wants w σ) : (rA r 0 0).toInt = (rA σ 0 0).toInt ∧ ((rF r 5).toInt = 0 → (rF σ 5).toInt = 0) := by
  subst e
  rw [fX5_wants.eq_1]
  have fin : ∀ (s : sg) (x : Int32), s = sF9 σ 5 x → ((rF s 5).toInt = 0 → (rF σ 5).toInt = 0) → (rA (if rF s 5 = 0 then bnd (fX5_next s) (fun r => r) else s) 0 0).toInt = (rA σ 0 0).toInt ∧ ((rF (if rF s 5 = 0 then bnd (fX5_next s) (fun r => r) else s) 5).toInt = 0 → (rF σ 5).toInt = 0) := by
    intro s x e h
    split
    · exact wf_bnd (P := fun T : sg => (rA T 0 0).toInt = (rA σ 0 0).toInt ∧ ((rF T 5).toInt = 0 → (rF σ 5).toInt = 0)) (fun r e2 => ⟨(nx_R e2).1.trans (manyF e), fun q => h (by rw [(nx_R e2).2] at q; exact q)⟩)
    · exact ⟨manyF e, h⟩
  split
  · rename_i c
    split
    · exact wf_bnd (P := fun T : sg => (rA T 0 0).toInt = (rA σ 0 0).toInt ∧ ((rF T 5).toInt = 0 → (rF σ 5).toInt = 0)) (fun s e => fin s _ e (fun _ => by rw [c]; rfl))
    · exact wf_bnd (P := fun T : sg => (rA T 0 0).toInt = (rA σ 0 0).toInt ∧ ((rF T 5).toInt = 0 → (rF σ 5).toInt = 0)) (fun s e => fin s _ e (fun _ => by rw [c]; rfl))
  · exact wf_bnd (P := fun T : sg => (rA T 0 0).toInt = (rA σ 0 0).toInt ∧ ((rF T 5).toInt = 0 → (rF σ 5).toInt = 0)) (fun s e => fin s _ e (fun q => by
      have : rF s 5 = 1 := by rw [e]; exact sF_same9
      rw [this] at q
      exact absurd q (by decide)))
theorem nm_R {v : Int32} {σ : sg} {r : Int32 × sg} (e : r = fX5_number v σ) : (rA r.2 0 0).toInt = (rA σ 0 0).toInt ∧ ((rF r.2 5).toInt = 0 → (rF σ 5).toInt = 0 ∧ 0 ≤ r.1.toInt ∧ r.1.toInt ≤ v.toInt) := by
  subst e
  rw [fX5_number.eq_1]
  have fin : ∀ (s : sg) (x : Int32), s = sF9 σ 5 x → ((rF s 5).toInt = 0 → (rF σ 5).toInt = 0 ∧ 0 ≤ (fX5_numberHere σ).toInt ∧ (fX5_numberHere σ).toInt ≤ v.toInt) → (rA (if rF s 5 = 0 then bnd (fX5_next s) (fun r => ((fX5_numberHere σ), r)) else ((fX5_numberHere σ), s)).2 0 0).toInt = (rA σ 0 0).toInt ∧ ((rF (if rF s 5 = 0 then bnd (fX5_next s) (fun r => ((fX5_numberHere σ), r)) else ((fX5_numberHere σ), s)).2 5).toInt = 0 → (rF σ 5).toInt = 0 ∧ 0 ≤ (if rF s 5 = 0 then bnd (fX5_next s) (fun r => ((fX5_numberHere σ), r)) else ((fX5_numberHere σ), s)).1.toInt ∧ (if rF s 5 = 0 then bnd (fX5_next s) (fun r => ((fX5_numberHere σ), r)) else ((fX5_numberHere σ), s)).1.toInt ≤ v.toInt) := by
    intro s x e h
    split
    · exact wf_bnd (P := fun T : Int32 × sg => (rA T.2 0 0).toInt = (rA σ 0 0).toInt ∧ ((rF T.2 5).toInt = 0 → (rF σ 5).toInt = 0 ∧ 0 ≤ T.1.toInt ∧ T.1.toInt ≤ v.toInt)) (fun r e2 => ⟨(nx_R e2).1.trans (manyF e), fun q => h (by rw [(nx_R e2).2] at q; exact q)⟩)
    · exact ⟨manyF e, h⟩
  split
  · rename_i c
    split
    · exact wf_bnd (P := fun T : Int32 × sg => (rA T.2 0 0).toInt = (rA σ 0 0).toInt ∧ ((rF T.2 5).toInt = 0 → (rF σ 5).toInt = 0 ∧ 0 ≤ T.1.toInt ∧ T.1.toInt ≤ v.toInt)) (fun s e => fin s _ e (fun q => by
        have : rF s 5 = 1 := by rw [e]; exact sF_same9
        rw [this] at q
        exact absurd q (by decide)))
    · rename_i c2
      exact wf_bnd (P := fun T : Int32 × sg => (rA T.2 0 0).toInt = (rA σ 0 0).toInt ∧ ((rF T.2 5).toInt = 0 → (rF σ 5).toInt = 0 ∧ 0 ≤ T.1.toInt ∧ T.1.toInt ≤ v.toInt)) (fun s e => fin s _ e (fun _ => ⟨by rw [c]; rfl, (wi_t c2).1, (wi_t c2).2⟩))
  · exact wf_bnd (P := fun T : Int32 × sg => (rA T.2 0 0).toInt = (rA σ 0 0).toInt ∧ ((rF T.2 5).toInt = 0 → (rF σ 5).toInt = 0 ∧ 0 ≤ T.1.toInt ∧ T.1.toInt ≤ v.toInt)) (fun s e => fin s _ e (fun q => by
      have : rF s 5 = 1 := by rw [e]; exact sF_same9
      rw [this] at q
      exact absurd q (by decide)))
theorem st_R {σ : sg} {r : Int32 × sg} (e : r = fX5_shelfTold σ) : (rA r.2 0 0).toInt = (rA σ 0 0).toInt ∧ ((rF r.2 5).toInt = 0 → (rF σ 5).toInt = 0 ∧ 0 ≤ r.1.toInt ∧ r.1.toInt ≤ 5) := by
  subst e
  rw [fX5_shelfTold.eq_1]
  exact wf_bnd (P := fun T : Int32 × sg => (rA T.2 0 0).toInt = (rA σ 0 0).toInt ∧ ((rF T.2 5).toInt = 0 → (rF σ 5).toInt = 0 ∧ 0 ≤ T.1.toInt ∧ T.1.toInt ≤ 5)) (fun r e => nm_R (v := 5) e)
theorem ei_R {a b : Nat} {σ : sg} {r : Int32 × sg} (e : r = fX5_either a b σ) : (rF r.2 5).toInt = 0 → (rF σ 5).toInt = 0 := by
  subst e
  rw [fX5_either.eq_1]
  refine wf_bnd (P := fun T : Int32 × sg => (rF T.2 5).toInt = 0 → (rF σ 5).toInt = 0) (fun r1 e1 => ?_)
  have h1 := tk_R e1
  split
  · refine wf_bnd (P := fun T : Int32 × sg => (rF T.2 5).toInt = 0 → (rF σ 5).toInt = 0) (fun r2 e2 => ?_)
    have h2 := wn_R e2
    exact fun q => by have := h2.2 q; omega
  · exact fun q => by have : (rF r1.2 5).toInt = 0 := q; omega
theorem ly_R {a b : Int32} {σ r : sg} (hw : WM σ) (hm : (rA σ 0 0).toInt < 8) (e : r = fX5_lays a b σ) : (rA r 0 0).toInt = (rA σ 0 0).toInt + 1 := by
  subst e
  have hM := wm_many hw (show 0 < 4 by decide)
  have k1 : (1 : Int32).toInt = 1 := rfl
  have k32 : (32 : Int32).toInt = 32 := rfl
  have k40 : (40 : Int32).toInt = 40 := rfl
  have k48 : (48 : Int32).toInt = 48 := rfl
  have k56 : (56 : Int32).toInt = 56 := rfl
  have k64 : (64 : Int32).toInt = 64 := rfl
  have k72 : (72 : Int32).toInt = 72 := rfl
  have e1 := addI (x := 32) (y := rA σ 0 0) (by omega) (by omega)
  have e2 := addI (x := 40) (y := rA σ 0 0) (by omega) (by omega)
  have e3 := addI (x := 48) (y := rA σ 0 0) (by omega) (by omega)
  have e4 := addI (x := 56) (y := rA σ 0 0) (by omega) (by omega)
  have e5 := addI (x := 64) (y := rA σ 0 0) (by omega) (by omega)
  have e6 := addI (x := 72) (y := rA σ 0 0) (by omega) (by omega)
  rw [fX5_lays.eq_1]
  refine wf_bnd (P := fun T : sg => (rA T 0 0).toInt = (rA σ 0 0).toInt + 1) (fun s1 q1 => ?_)
  have m1 := mKeep q1 (by omega)
  refine wf_bnd (P := fun T : sg => (rA T 0 0).toInt = (rA σ 0 0).toInt + 1) (fun s2 q2 => ?_)
  have m2 := mKeep q2 (by omega)
  refine wf_bnd (P := fun T : sg => (rA T 0 0).toInt = (rA σ 0 0).toInt + 1) (fun s3 q3 => ?_)
  have m3 := mKeep q3 (by omega)
  refine wf_bnd (P := fun T : sg => (rA T 0 0).toInt = (rA σ 0 0).toInt + 1) (fun s4 q4 => ?_)
  have m4 := mKeep q4 (by omega)
  refine wf_bnd (P := fun T : sg => (rA T 0 0).toInt = (rA σ 0 0).toInt + 1) (fun s5 q5 => ?_)
  have m5 := mKeep q5 (by omega)
  refine wf_bnd (P := fun T : sg => (rA T 0 0).toInt = (rA σ 0 0).toInt + 1) (fun s6 q6 => ?_)
  have m6 := mKeep q6 (by omega)
  refine wf_bnd (P := fun T : sg => (rA T 0 0).toInt = (rA σ 0 0).toInt + 1) (fun s7 q7 => ?_)
  have m7 := addI (x := rA s6 0 0) (y := 1) (by omega) (by omega)
  have m8 : rA s7 0 0 = rA s6 0 0 + 1 := by rw [q7]; show (sA s6 0 0 _).1 0 _ = _; rw [show (sA s6 0 0 (rA s6 0 0 + 1)).1 0 = upd (s6.1 0) (0 : Int32).toNatClampNeg (rA s6 0 0 + 1) from sA_same, pk_us]
  show (rA s7 0 0).toInt = _
  rw [m8]
  omega

theorem fldA {σ s : sg} {a : Nat} {i x : Int32} (e : s = sA σ a i x) : (rF s 3).toInt = (rF σ 3).toInt ∧ (rF s 4).toInt = (rF σ 4).toInt ∧ (rF s 5).toInt = (rF σ 5).toInt := by subst e; exact ⟨rfl, rfl, rfl⟩
def MO (σ r : sg) : Prop := (rF r 3).toInt ≤ (rF r 4).toInt ∧ (rF σ 3).toInt ≤ (rF r 3).toInt
theorem mo_mk {σ r : sg} (h : (rF r 3).toInt ≤ (rF r 4).toInt ∧ (rF σ 3).toInt ≤ (rF r 3).toInt) : MO σ r := h
theorem nxM8 : ∀ (k : Nat) (σ : sg), (rF σ 1).toInt ≤ 120 → 0 ≤ (rF σ 3).toInt → (rF σ 3).toInt ≤ 120 → (rF σ 3).toInt ≤ (rF (LX5_next_8 k σ) 3).toInt ∧ (rF (LX5_next_8 k σ) 3).toInt ≤ 120 := by
  intro k
  induction k with
  | zero => intro σ _ _ h; exact ⟨Int.le_refl _, h⟩
  | succ k ih =>
    intro σ h1 h2 h3
    rw [LX5_next_8]
    split
    · exact ⟨Int.le_refl _, h3⟩
    · rename_i c
      have b := isB_t c
      have k1 : (1 : Int32).toInt = 1 := rfl
      have a := addI (x := rF σ 3) (y := 1) (by omega) (by omega)
      have f3 : rF (sF9 σ 3 (rF σ 3 + 1)) 3 = rF σ 3 + 1 := sF_same9
      have f1 : rF (sF9 σ 3 (rF σ 3 + 1)) 1 = rF σ 1 := sF_other (by decide)
      have g := ih (sF9 σ 3 (rF σ 3 + 1)) (by rw [f1]; omega) (by rw [f3]; omega) (by rw [f3]; omega)
      rw [f3] at g
      show (rF σ 3).toInt ≤ (rF (LX5_next_8 k (sF9 σ 3 (rF σ 3 + 1))) 3).toInt ∧ (rF (LX5_next_8 k (sF9 σ 3 (rF σ 3 + 1))) 3).toInt ≤ 120
      omega
theorem nxM70 : ∀ (k : Nat) (x y : Int32) (σ : sg), (rF σ 1).toInt ≤ 120 → 0 ≤ (rF σ 4).toInt → (rF σ 4).toInt ≤ 120 → ((rF σ 4).toInt ≤ (rF (LX5_next_70 k x y σ) 4).toInt ∧ (rF (LX5_next_70 k x y σ) 4).toInt ≤ 120) ∧ rF (LX5_next_70 k x y σ) 3 = rF σ 3 := by
  intro k
  induction k with
  | zero => intro x y σ _ _ h; exact ⟨⟨Int.le_refl _, h⟩, rfl⟩
  | succ k ih =>
    intro x y σ h1 h2 h3
    have go : (rF σ 4).toInt < (rF σ 1).toInt → ((rF σ 4).toInt ≤ (rF (LX5_next_70 k x y (sF9 σ 4 (rF σ 4 + 1))) 4).toInt ∧ (rF (LX5_next_70 k x y (sF9 σ 4 (rF σ 4 + 1))) 4).toInt ≤ 120) ∧ rF (LX5_next_70 k x y (sF9 σ 4 (rF σ 4 + 1))) 3 = rF σ 3 := by
      intro b
      have k1 : (1 : Int32).toInt = 1 := rfl
      have a := addI (x := rF σ 4) (y := 1) (by omega) (by omega)
      have f4 : rF (sF9 σ 4 (rF σ 4 + 1)) 4 = rF σ 4 + 1 := sF_same9
      have f3 : rF (sF9 σ 4 (rF σ 4 + 1)) 3 = rF σ 3 := sF_other (by decide)
      have f1 : rF (sF9 σ 4 (rF σ 4 + 1)) 1 = rF σ 1 := sF_other (by decide)
      have g := ih x y (sF9 σ 4 (rF σ 4 + 1)) (by rw [f1]; omega) (by rw [f4]; omega) (by rw [f4]; omega)
      rw [f4, f3] at g
      exact ⟨by omega, g.2⟩
    have stay : ((rF σ 4).toInt ≤ (rF σ 4).toInt ∧ (rF σ 4).toInt ≤ 120) ∧ rF σ 3 = rF σ 3 := ⟨⟨Int.le_refl _, h3⟩, rfl⟩
    rw [LX5_next_70]
    split
    · split
      · exact stay
      · split
        · exact stay
        · rename_i c; exact go (isB_t c)
    · split
      · split
        · exact stay
        · split
          · exact stay
          · rename_i c; exact go (isB_t c)
      · rename_i c; exact go (isB_t c)
theorem nx_M {σ r : sg} (hw : WM σ) (e : r = fX5_next σ) : (rF r 3).toInt ≤ (rF r 4).toInt ∧ (rF σ 4).toInt ≤ (rF r 3).toInt := by
  subst e
  have ht := wm_taped hw
  have hto := wm_to hw
  have k0 : (0 : Int32).toInt = 0 := rfl
  have k1 : (1 : Int32).toInt = 1 := rfl
  rw [fX5_next.eq_1]
  refine wf_bnd (P := fun r : sg => (rF r 3).toInt ≤ (rF r 4).toInt ∧ (rF σ 4).toInt ≤ (rF r 3).toInt) (fun s1 e1 => ?_)
  have a1 := congrArg Int32.toInt (show rF s1 3 = rF σ 4 by rw [e1]; exact sF_same9)
  have a2 := congrArg Int32.toInt (show rF s1 1 = rF σ 1 by rw [e1]; exact sF_other (by decide))
  refine wf_bnd (P := fun r : sg => (rF r 3).toInt ≤ (rF r 4).toInt ∧ (rF σ 4).toInt ≤ (rF r 3).toInt) (fun s2 e2 => ?_)
  have b1 := nxM8 121 s1 (by omega) (by omega) (by omega)
  have b2 := congrArg Int32.toInt ((nxL8 121 s1).2.2)
  rw [← e2] at b1 b2
  have b2 : (rF s2 1).toInt = (rF s1 1).toInt := b2
  refine wf_bnd (P := fun r : sg => (rF r 3).toInt ≤ (rF r 4).toInt ∧ (rF σ 4).toInt ≤ (rF r 3).toInt) (fun s3 e3 => ?_)
  have c1 := congrArg Int32.toInt (show rF s3 4 = rF s2 3 by rw [e3]; exact sF_same9)
  have c2 := congrArg Int32.toInt (show rF s3 1 = rF s2 1 by rw [e3]; exact sF_other (by decide))
  have c3 := congrArg Int32.toInt (show rF s3 3 = rF s2 3 by rw [e3]; exact sF_other (by decide))
  refine wf_bnd (P := fun r : sg => (rF r 3).toInt ≤ (rF r 4).toInt ∧ (rF σ 4).toInt ≤ (rF r 3).toInt) (fun s4 e4 => ?_)
  have d1 := nxM70 121 (fX5_isByte (rF s3 3) 97 122 s3) (fX5_isByte (rF s3 3) 48 57 s3) s3 (by omega) (by omega) (by omega)
  rw [← e4] at d1
  have d2 := congrArg Int32.toInt d1.2
  have f0 := addI (x := rF s4 4) (y := 0) (by omega) (by omega)
  have f1 := addI (x := rF s4 4) (y := 1) (by omega) (by omega)
  have fin : ∀ (s : sg) (x : Int32), s = sF9 s4 4 x → (rF s4 4).toInt ≤ x.toInt → (rF s 3).toInt ≤ (rF s 4).toInt ∧ (rF σ 4).toInt ≤ (rF s 3).toInt := by
    intro s x e h
    have g1 := congrArg Int32.toInt (show rF s 4 = x by rw [e]; exact sF_same9)
    have g2 := congrArg Int32.toInt (show rF s 3 = rF s4 3 by rw [e]; exact sF_other (by decide))
    omega
  split
  · split
    · split
      · exact wf_bnd (P := fun r : sg => (rF r 3).toInt ≤ (rF r 4).toInt ∧ (rF σ 4).toInt ≤ (rF r 3).toInt) (fun s e => fin s _ e (by omega))
      · exact wf_bnd (P := fun r : sg => (rF r 3).toInt ≤ (rF r 4).toInt ∧ (rF σ 4).toInt ≤ (rF r 3).toInt) (fun s e => fin s _ e (by omega))
    · exact wf_bnd (P := fun r : sg => (rF r 3).toInt ≤ (rF r 4).toInt ∧ (rF σ 4).toInt ≤ (rF r 3).toInt) (fun s e => fin s _ e (by omega))
  · exact wf_bnd (P := fun r : sg => (rF r 3).toInt ≤ (rF r 4).toInt ∧ (rF σ 4).toInt ≤ (rF r 3).toInt) (fun s e => fin s _ e (by omega))
theorem mo_nx {σ r : sg} (hw : WM σ) (hm : (rF σ 3).toInt ≤ (rF σ 4).toInt) (e : r = fX5_next σ) : MO σ r := by
  have h := nx_M hw e
  exact ⟨h.1, by omega⟩
theorem tk_M {w : Nat} {σ : sg} {r : Int32 × sg} (hw : WM σ) (e : r = fX5_takes w σ) (hm : (rF σ 3).toInt ≤ (rF σ 4).toInt) : MO σ r.2 := by
  subst e
  rw [fX5_takes.eq_1]
  split
  · exact ⟨hm, Int.le_refl _⟩
  · exact wf_bnd (P := fun T : Int32 × sg => MO σ T.2) (fun r e => mo_nx hw hm e)
theorem mo_n5 {σ s : sg} {x : Int32} (hw : WM σ) (e : s = sF9 σ 5 x) (hm : (rF σ 3).toInt ≤ (rF σ 4).toInt) : MO σ s ∧ ∀ r, r = fX5_next s → MO σ r := by
  have hs : WM s := by rw [e]; exact wmF hw (by decide)
  have g1 := congrArg Int32.toInt (show rF s 3 = rF σ 3 by rw [e]; exact sF_other (by decide))
  have g2 := congrArg Int32.toInt (show rF s 4 = rF σ 4 by rw [e]; exact sF_other (by decide))
  refine ⟨⟨by omega, by omega⟩, fun r er => ?_⟩
  have h := nx_M hs er
  exact ⟨h.1, by omega⟩
theorem wn_M {w : Nat} {σ r : sg} (hw : WM σ) (e : r = fX5_wants w σ) (hm : (rF σ 3).toInt ≤ (rF σ 4).toInt) : MO σ r := by
  subst e
  rw [fX5_wants.eq_1]
  have fin : ∀ (s : sg) (x : Int32), s = sF9 σ 5 x → MO σ (if rF s 5 = 0 then bnd (fX5_next s) (fun r => r) else s) := by
    intro s x e
    split
    · exact wf_bnd (P := fun T : sg => MO σ T) (fun r e2 => (mo_n5 hw e hm).2 r e2)
    · exact (mo_n5 hw e hm).1
  split
  · split
    · exact wf_bnd (P := fun T : sg => MO σ T) (fun s e => fin s _ e)
    · exact wf_bnd (P := fun T : sg => MO σ T) (fun s e => fin s _ e)
  · exact wf_bnd (P := fun T : sg => MO σ T) (fun s e => fin s _ e)
theorem nm_M {v : Int32} {σ : sg} {r : Int32 × sg} (hw : WM σ) (e : r = fX5_number v σ) (hm : (rF σ 3).toInt ≤ (rF σ 4).toInt) : MO σ r.2 := by
  subst e
  rw [fX5_number.eq_1]
  have fin : ∀ (s : sg) (x : Int32), s = sF9 σ 5 x → MO σ (if rF s 5 = 0 then bnd (fX5_next s) (fun r => ((fX5_numberHere σ), r)) else ((fX5_numberHere σ), s)).2 := by
    intro s x e
    split
    · exact wf_bnd (P := fun T : Int32 × sg => MO σ T.2) (fun r e2 => (mo_n5 hw e hm).2 r e2)
    · exact (mo_n5 hw e hm).1
  split
  · split
    · exact wf_bnd (P := fun T : Int32 × sg => MO σ T.2) (fun s e => fin s _ e)
    · exact wf_bnd (P := fun T : Int32 × sg => MO σ T.2) (fun s e => fin s _ e)
  · exact wf_bnd (P := fun T : Int32 × sg => MO σ T.2) (fun s e => fin s _ e)
theorem st_M {σ : sg} {r : Int32 × sg} (hw : WM σ) (e : r = fX5_shelfTold σ) (hm : (rF σ 3).toInt ≤ (rF σ 4).toInt) : MO σ r.2 := by
  subst e
  rw [fX5_shelfTold.eq_1]
  exact wf_bnd (P := fun T : Int32 × sg => MO σ T.2) (fun r e => nm_M hw e hm)
theorem ei_M {a b : Nat} (ha : a < 18) {σ : sg} {r : Int32 × sg} (hw : WM σ) (e : r = fX5_either a b σ) (hm : (rF σ 3).toInt ≤ (rF σ 4).toInt) : MO σ r.2 := by
  subst e
  rw [fX5_either.eq_1]
  refine wf_bnd (P := fun T : Int32 × sg => MO σ T.2) (fun r1 e1 => ?_)
  have h1 := tk_M hw e1 hm
  have hw1 : WM r1.2 := by rw [e1]; exact wX5_takes a ha hw
  split
  · refine wf_bnd (P := fun T : Int32 × sg => MO σ T.2) (fun r2 e2 => ?_)
    have h2 := wn_M hw1 e2 h1.1
    have h3 : MO σ r2 := ⟨h2.1, Int.le_trans h1.2 h2.2⟩
    exact h3
  · exact h1
theorem ly_M {a b : Int32} {σ r : sg} (e : r = fX5_lays a b σ) : (rF r 3).toInt = (rF σ 3).toInt ∧ (rF r 4).toInt = (rF σ 4).toInt ∧ (rF r 5).toInt = (rF σ 5).toInt := by
  have h : r.2 = σ.2 := by
    rw [e, fX5_lays.eq_1]
    refine wf_bnd (P := fun T : sg => T.2 = σ.2) (fun s1 e1 => ?_)
    have e1 : s1.2 = σ.2 := by rw [e1]; rfl
    refine wf_bnd (P := fun T : sg => T.2 = σ.2) (fun s2 e2 => ?_)
    have e2 : s2.2 = σ.2 := by rw [e2]; exact e1
    refine wf_bnd (P := fun T : sg => T.2 = σ.2) (fun s3 e3 => ?_)
    have e3 : s3.2 = σ.2 := by rw [e3]; exact e2
    refine wf_bnd (P := fun T : sg => T.2 = σ.2) (fun s4 e4 => ?_)
    have e4 : s4.2 = σ.2 := by rw [e4]; exact e3
    refine wf_bnd (P := fun T : sg => T.2 = σ.2) (fun s5 e5 => ?_)
    have e5 : s5.2 = σ.2 := by rw [e5]; exact e4
    refine wf_bnd (P := fun T : sg => T.2 = σ.2) (fun s6 e6 => ?_)
    have e6 : s6.2 = σ.2 := by rw [e6]; exact e5
    refine wf_bnd (P := fun T : sg => T.2 = σ.2) (fun s7 e7 => ?_)
    rw [e7]; exact e6
  exact ⟨by show (r.2 3).toInt = _; rw [h]; rfl, by show (r.2 4).toInt = _; rw [h]; rfl, by show (r.2 5).toInt = _; rw [h]; rfl⟩
theorem iw_t {w : Nat} {σ : sg} (hw : WM σ) (h : ¬ fX5_isWord w σ = 0) : (rF σ 4).toInt = (rF σ 3).toInt + (fJ0_length_8abf5 w).toInt := by
  have h1 := wm_from hw
  have h2 := wm_to hw
  have s := subI (x := rF σ 4) (y := rF σ 3) (by omega) (by omega)
  have zz : ∀ k v3, LX5_isWord_31 w (k + 1) 0 v3 σ = 0 := fun k v3 => by rw [LX5_isWord_31.eq_2]; rfl
  rw [fX5_isWord.eq_1] at h
  by_cases c : rF σ 5 = 0
  · rw [if_pos c] at h
    by_cases c2 : rF σ 4 - rF σ 3 = fJ0_length_8abf5 w
    · rw [← c2]; omega
    · rw [if_neg c2] at h
      exact absurd (wf_bnd (P := fun x : Int32 => x = 0) (fun r e => by rw [e]; exact zz 7 0)) h
  · rw [if_neg c] at h
    exact absurd (wf_bnd (P := fun x : Int32 => x = 0) (fun r e => by rw [e]; exact zz 7 0)) h
theorem nmB {r σ : sg} (h : MO σ r) : (rF r 3).toInt ≤ (rF r 4).toInt ∧ (rF σ 3).toInt ≤ (rF r 3).toInt := h
def rmX5_deedTold : Room := { frames := 8, cells := 0, slots := 0, locals := 151 }
def fX5_deedTold (v1 : Int32) (σ : sg) : sg := (if (rA σ 0 0) = 8 then bnd (sF9 σ 5 1) (fun s116 => (if (rF s116 5) = 0 then bnd (fX5_next s116) (fun r125 => bnd (fX5_shelfTold r125) (fun r128 => (if (rF r128.2 5) = 0 then bnd (fX5_lays v1 r128.1 r128.2) (fun r133 => bnd (fX5_takes 11 r133) (fun r136 => (if r136.1 = 0 then bnd (fX5_takes 12 r136.2) (fun r140 => (if r140.1 = 0 then r140.2 else bnd (fX5_number ((rA r128.2 0 0) - 1) r140.2) (fun r145 => bnd (sA r145.2 0 (72 + (rA r128.2 0 0)) r145.1) (fun s149 => s149)))) else (if (fX5_within (fX5_numberHere r136.2) 1 99) = 0 then bnd (sF9 r136.2 5 1) (fun s188 => bnd (fX5_number 99 s188) (fun r196 => bnd (sA r196.2 0 (48 + (rA r128.2 0 0)) r196.1) (fun s200 => bnd (fX5_takes 12 s200) (fun r205 => (if r205.1 = 0 then r205.2 else bnd (fX5_number ((rA r128.2 0 0) - 1) r205.2) (fun r210 => bnd (sA r210.2 0 (72 + (rA r128.2 0 0)) r210.1) (fun s214 => s214))))))) else bnd (sF9 r136.2 5 0) (fun s156 => bnd (fX5_number 99 s156) (fun r164 => bnd (sA r164.2 0 (48 + (rA r128.2 0 0)) r164.1) (fun s168 => bnd (fX5_takes 12 s168) (fun r173 => (if r173.1 = 0 then r173.2 else bnd (fX5_number ((rA r128.2 0 0) - 1) r173.2) (fun r178 => bnd (sA r178.2 0 (72 + (rA r128.2 0 0)) r178.1) (fun s182 => s182))))))))))) else r128.2))) else s116)) else bnd (sF9 σ 5 0) (fun s3 => (if (rF s3 5) = 0 then bnd (fX5_next s3) (fun r12 => bnd (fX5_shelfTold r12) (fun r15 => (if (rF r15.2 5) = 0 then bnd (fX5_lays v1 r15.1 r15.2) (fun r20 => bnd (fX5_takes 11 r20) (fun r23 => (if r23.1 = 0 then bnd (fX5_takes 12 r23.2) (fun r27 => (if r27.1 = 0 then r27.2 else bnd (fX5_number ((rA r15.2 0 0) - 1) r27.2) (fun r32 => bnd (sA r32.2 0 (72 + (rA r15.2 0 0)) r32.1) (fun s36 => s36)))) else (if (fX5_within (fX5_numberHere r23.2) 1 99) = 0 then bnd (sF9 r23.2 5 1) (fun s75 => bnd (fX5_number 99 s75) (fun r83 => bnd (sA r83.2 0 (48 + (rA r15.2 0 0)) r83.1) (fun s87 => bnd (fX5_takes 12 s87) (fun r92 => (if r92.1 = 0 then r92.2 else bnd (fX5_number ((rA r15.2 0 0) - 1) r92.2) (fun r97 => bnd (sA r97.2 0 (72 + (rA r15.2 0 0)) r97.1) (fun s101 => s101))))))) else bnd (sF9 r23.2 5 0) (fun s43 => bnd (fX5_number 99 s43) (fun r51 => bnd (sA r51.2 0 (48 + (rA r15.2 0 0)) r51.1) (fun s55 => bnd (fX5_takes 12 s55) (fun r60 => (if r60.1 = 0 then r60.2 else bnd (fX5_number ((rA r15.2 0 0) - 1) r60.2) (fun r65 => bnd (sA r65.2 0 (72 + (rA r15.2 0 0)) r65.1) (fun s69 => s69))))))))))) else r15.2))) else s3)))
def rmX5_shelfItem : Room := { frames := 9, cells := 0, slots := 0, locals := 174 }
def fX5_shelfItem (v1 : Int32) (σ : sg) : sg := bnd (fX5_shelfTold σ) (fun r1 => (if v1 = 1 then bnd (fX5_number 99 r1.2) (fun r36 => (if (rF r36.2 5) = 0 then bnd (sA r36.2 0 ((4 + (6 * v1)) + r1.1) r36.1) (fun s43 => s43) else r36.2)) else (if v1 = 0 then bnd (fX5_either 13 14 r1.2) (fun r20 => (if (rF r20.2 5) = 0 then bnd (sA r20.2 0 ((4 + (6 * v1)) + r1.1) r20.1) (fun s27 => s27) else r20.2)) else bnd (fX5_either 15 16 r1.2) (fun r6 => (if (rF r6.2 5) = 0 then bnd (sA r6.2 0 ((4 + (6 * v1)) + r1.1) r6.1) (fun s13 => s13) else r6.2)))))
def rmX5_item : Room := { frames := 10, cells := 0, slots := 0, locals := 197 }
def fX5_item (σ : sg) : sg := (if (fX5_kindHere σ) < 0 then bnd (fX5_takes 7 σ) (fun r2 => (if r2.1 = 0 then bnd (fX5_takes 8 r2.2) (fun r6 => (if r6.1 = 0 then bnd (fX5_takes 9 r6.2) (fun r10 => (if r10.1 = 0 then bnd (fX5_takes 10 r10.2) (fun r14 => (if r14.1 = 0 then bnd (sF9 r14.2 5 1) (fun s18 => s18) else bnd (fX5_number 40 r14.2) (fun r26 => bnd (sA r26.2 0 1 r26.1) (fun s29 => s29)))) else bnd (fX5_shelfItem 2 r10.2) (fun r36 => r36))) else bnd (fX5_shelfItem 1 r6.2) (fun r42 => r42))) else bnd (fX5_shelfItem 0 r2.2) (fun r48 => r48))) else bnd (fX5_deedTold (fX5_kindHere σ) σ) (fun r54 => r54))
def rmX5_text : Room := { frames := 11, cells := 0, slots := 0, locals := 218 }
def LX5_text_31 : Nat → Int32 → sg → Int32 × sg
  | 0, v1, σ => (v1, σ)
  | k + 1, v1, σ => (if (rF σ 5) = 0 then (if (fX5_isWord 17 σ) = 0 then (v1, σ) else bnd (fX5_next σ) (fun r27 => bnd (fX5_item r27) (fun r30 => LX5_text_31 k (v1 + 1) r30))) else (v1, σ))
def fX5_text (σ : sg) : Int32 × sg := bnd (fX5_row 0 3 σ) (fun r1 => bnd (sF9 r1 5 0) (fun s4 => bnd (sF9 s4 4 0) (fun s10 => bnd (fX5_next s10) (fun r17 => bnd (fX5_item r17) (fun r20 => bnd (LX5_text_31 122 1 r20) (fun r39 => (if (rF r39.2 5) = 0 then (if (rF r39.2 1) ≤ (rF r39.2 3) then bnd (sF9 r39.2 5 0) (fun s68 => bnd (sF9 s68 1 0) (fun s74 => (if (rF s74 5) = 0 then (r39.1, s74) else bnd (fX5_row 3 0 s74) (fun r82 => (((-1) - (rF r82 3)), r82))))) else bnd (sF9 r39.2 5 1) (fun s89 => bnd (sF9 s89 1 0) (fun s95 => (if (rF s95 5) = 0 then (r39.1, s95) else bnd (fX5_row 3 0 s95) (fun r103 => (((-1) - (rF r103 3)), r103)))))) else bnd (sF9 r39.2 5 1) (fun s44 => bnd (sF9 s44 1 0) (fun s50 => (if (rF s50 5) = 0 then (r39.1, s50) else bnd (fX5_row 3 0 s50) (fun r58 => (((-1) - (rF r58 3)), r58))))))))))))
set_option maxRecDepth 100000 in
set_option maxHeartbeats 4000000 in
theorem wX5_deedTold (v1 : Int32) {σ : sg} (hw : WM σ) (ho : (rF σ 3).toInt ≤ (rF σ 4).toInt) : WX (fX5_deedTold v1 σ) := by
  have k0 : (0 : Int32).toInt = 0 := rfl
  have k1 : (1 : Int32).toInt = 1 := rfl
  have k8 : (8 : Int32).toInt = 8 := rfl
  have k48 : (48 : Int32).toInt = 48 := rfl
  have k72 : (72 : Int32).toInt = 72 := rfl
  have k99 : (99 : Int32).toInt = 99 := rfl
  rw [show fX5_deedTold v1 σ = _ from fX5_deedTold.eq_1 ..]
  have w1 := wm_many hw (show 0 < 4 by decide)
  refine wf_ite (fun c2 => ?_) (fun c2 => ?_)
  · have i230 := eqI c2
    refine wf_bnd (fun s116 e117 => ?_)
    have hw118 : WM s116 := by rw [e117]; exact wmF hw (by omega)
    have n119 := congrArg Int32.toInt (show rF s116 1 = rF σ 1 by rw [e117]; exact sF_other (by decide))
    have n120 := congrArg Int32.toInt (show rF s116 3 = rF σ 3 by rw [e117]; exact sF_other (by decide))
    have n121 := congrArg Int32.toInt (show rF s116 4 = rF σ 4 by rw [e117]; exact sF_other (by decide))
    have n122 := manyF e117
    have n123 := congrArg Int32.toInt (show rF s116 5 = 1 by rw [e117]; exact sF_same9)
    refine wf_ite (fun c124 => ?_) (fun c124 => ?_)
    · have i227 := eqI c124
      refine wf_bnd (fun r125 e126 => ?_)
      have hw127 : WM r125 := by rw [e126]; exact wX5_next  hw118 
      have nxe126 := nx_R e126
      have nye126 := nx_M hw118 e126
      refine wf_bnd (fun r128 e129 => ?_)
      have hw130 : WM r128.2 := by rw [e129]; exact wX5_shelfTold  hw127 
      have ste129 := st_R e129
      have sme129 := nmB (st_M hw127 e129 (by omega))
      refine wf_ite (fun c131 => ?_) (fun c131 => ?_)
      · have i225 := eqI c131
        have w132 := wm_many hw130 (show 0 < 4 by decide)
        refine wf_bnd (fun r133 e134 => ?_)
        have hw135 : WM r133 := by rw [e134]; exact wX5_lays v1 r128.1 hw130 (by omega) (by omega)
        have lye134 := ly_R hw130 (by omega) e134
        have lze134 := ly_M e134
        refine wf_bnd (fun r136 e137 => ?_)
        have hw138 : WM r136.2 := by rw [e137]; exact wX5_takes 11 (by decide) hw135 
        have tke137 := tk_R e137
        have tme137 := nmB (tk_M hw135 e137 (by omega))
        refine wf_ite (fun c139 => ?_) (fun c139 => ?_)
        · have i223 := eqI c139
          refine wf_bnd (fun r140 e141 => ?_)
          have hw142 : WM r140.2 := by rw [e141]; exact wX5_takes 12 (by decide) hw138 
          have tke141 := tk_R e141
          have tme141 := nmB (tk_M hw138 e141 (by omega))
          refine wf_ite (fun c143 => ?_) (fun c143 => ?_)
          · have i153 := eqI c143
            exact (wx_of hw142)
          · have i154 := neI c143
            have a144 := subI (x := (rA r128.2 0 0)) (y := 1) (by omega) (by omega)
            refine wf_bnd (fun r145 e146 => ?_)
            have hw147 : WM r145.2 := by rw [e146]; exact wX5_number ((rA r128.2 0 0) - 1) hw142 
            have nme146 := nm_R e146
            have noe146 := nmB (nm_M hw142 e146 (by omega))
            have a148 := addI (x := 72) (y := (rA r128.2 0 0)) (by omega) (by omega)
            refine wf_bnd (fun s149 e150 => ?_)
            have hw151 : WX s149 := by rw [e150]; exact wxOn hw147 (by omega) (by omega) (by omega) (by omega)
            have m152 := fldA e150
            exact hw151
        · have i224 := neI c139
          refine wf_ite (fun c155 => ?_) (fun c155 => ?_)
          · have i222 := eqI c155
            refine wf_bnd (fun s188 e189 => ?_)
            have hw190 : WM s188 := by rw [e189]; exact wmF hw138 (by omega)
            have n191 := congrArg Int32.toInt (show rF s188 1 = rF r136.2 1 by rw [e189]; exact sF_other (by decide))
            have n192 := congrArg Int32.toInt (show rF s188 3 = rF r136.2 3 by rw [e189]; exact sF_other (by decide))
            have n193 := congrArg Int32.toInt (show rF s188 4 = rF r136.2 4 by rw [e189]; exact sF_other (by decide))
            have n194 := manyF e189
            have n195 := congrArg Int32.toInt (show rF s188 5 = 1 by rw [e189]; exact sF_same9)
            refine wf_bnd (fun r196 e197 => ?_)
            have hw198 : WM r196.2 := by rw [e197]; exact wX5_number 99 hw190 
            have nme197 := nm_R e197
            have noe197 := nmB (nm_M hw190 e197 (by omega))
            have a199 := addI (x := 48) (y := (rA r128.2 0 0)) (by omega) (by omega)
            refine wf_bnd (fun s200 e201 => ?_)
            have hw202 : WM s200 := by rw [e201]; exact wmRn hw198 (by decide) (by omega) (by omega) (by omega) (by omega)
            have m203 := mKeep e201 (by omega)
            have m204 := fldA e201
            refine wf_bnd (fun r205 e206 => ?_)
            have hw207 : WM r205.2 := by rw [e206]; exact wX5_takes 12 (by decide) hw202 
            have tke206 := tk_R e206
            have tme206 := nmB (tk_M hw202 e206 (by omega))
            refine wf_ite (fun c208 => ?_) (fun c208 => ?_)
            · have i218 := eqI c208
              exact (wx_of hw207)
            · have i219 := neI c208
              have a209 := subI (x := (rA r128.2 0 0)) (y := 1) (by omega) (by omega)
              refine wf_bnd (fun r210 e211 => ?_)
              have hw212 : WM r210.2 := by rw [e211]; exact wX5_number ((rA r128.2 0 0) - 1) hw207 
              have nme211 := nm_R e211
              have noe211 := nmB (nm_M hw207 e211 (by omega))
              have a213 := addI (x := 72) (y := (rA r128.2 0 0)) (by omega) (by omega)
              refine wf_bnd (fun s214 e215 => ?_)
              have hw216 : WX s214 := by rw [e215]; exact wxOn hw212 (by omega) (by omega) (by omega) (by omega)
              have m217 := fldA e215
              exact hw216
          · have i220 := neI c155
            have b221 := wi_t c155
            refine wf_bnd (fun s156 e157 => ?_)
            have hw158 : WM s156 := by rw [e157]; exact wmF hw138 (by omega)
            have n159 := congrArg Int32.toInt (show rF s156 1 = rF r136.2 1 by rw [e157]; exact sF_other (by decide))
            have n160 := congrArg Int32.toInt (show rF s156 3 = rF r136.2 3 by rw [e157]; exact sF_other (by decide))
            have n161 := congrArg Int32.toInt (show rF s156 4 = rF r136.2 4 by rw [e157]; exact sF_other (by decide))
            have n162 := manyF e157
            have n163 := congrArg Int32.toInt (show rF s156 5 = 0 by rw [e157]; exact sF_same9)
            refine wf_bnd (fun r164 e165 => ?_)
            have hw166 : WM r164.2 := by rw [e165]; exact wX5_number 99 hw158 
            have nme165 := nm_R e165
            have noe165 := nmB (nm_M hw158 e165 (by omega))
            have a167 := addI (x := 48) (y := (rA r128.2 0 0)) (by omega) (by omega)
            refine wf_bnd (fun s168 e169 => ?_)
            have hw170 : WM s168 := by rw [e169]; exact wmRn hw166 (by decide) (by omega) (by omega) (by omega) (by omega)
            have m171 := mKeep e169 (by omega)
            have m172 := fldA e169
            refine wf_bnd (fun r173 e174 => ?_)
            have hw175 : WM r173.2 := by rw [e174]; exact wX5_takes 12 (by decide) hw170 
            have tke174 := tk_R e174
            have tme174 := nmB (tk_M hw170 e174 (by omega))
            refine wf_ite (fun c176 => ?_) (fun c176 => ?_)
            · have i186 := eqI c176
              exact (wx_of hw175)
            · have i187 := neI c176
              have a177 := subI (x := (rA r128.2 0 0)) (y := 1) (by omega) (by omega)
              refine wf_bnd (fun r178 e179 => ?_)
              have hw180 : WM r178.2 := by rw [e179]; exact wX5_number ((rA r128.2 0 0) - 1) hw175 
              have nme179 := nm_R e179
              have noe179 := nmB (nm_M hw175 e179 (by omega))
              have a181 := addI (x := 72) (y := (rA r128.2 0 0)) (by omega) (by omega)
              refine wf_bnd (fun s182 e183 => ?_)
              have hw184 : WX s182 := by rw [e183]; exact wxOn hw180 (by omega) (by omega) (by omega) (by omega)
              have m185 := fldA e183
              exact hw184
      · have i226 := neI c131
        exact (wx_of hw130)
    · have i228 := neI c124
      exact (wx_of hw118)
  · have i229 := neI c2
    refine wf_bnd (fun s3 e4 => ?_)
    have hw5 : WM s3 := by rw [e4]; exact wmF hw (by omega)
    have n6 := congrArg Int32.toInt (show rF s3 1 = rF σ 1 by rw [e4]; exact sF_other (by decide))
    have n7 := congrArg Int32.toInt (show rF s3 3 = rF σ 3 by rw [e4]; exact sF_other (by decide))
    have n8 := congrArg Int32.toInt (show rF s3 4 = rF σ 4 by rw [e4]; exact sF_other (by decide))
    have n9 := manyF e4
    have n10 := congrArg Int32.toInt (show rF s3 5 = 0 by rw [e4]; exact sF_same9)
    refine wf_ite (fun c11 => ?_) (fun c11 => ?_)
    · have i114 := eqI c11
      refine wf_bnd (fun r12 e13 => ?_)
      have hw14 : WM r12 := by rw [e13]; exact wX5_next  hw5 
      have nxe13 := nx_R e13
      have nye13 := nx_M hw5 e13
      refine wf_bnd (fun r15 e16 => ?_)
      have hw17 : WM r15.2 := by rw [e16]; exact wX5_shelfTold  hw14 
      have ste16 := st_R e16
      have sme16 := nmB (st_M hw14 e16 (by omega))
      refine wf_ite (fun c18 => ?_) (fun c18 => ?_)
      · have i112 := eqI c18
        have w19 := wm_many hw17 (show 0 < 4 by decide)
        refine wf_bnd (fun r20 e21 => ?_)
        have hw22 : WM r20 := by rw [e21]; exact wX5_lays v1 r15.1 hw17 (by omega) (by omega)
        have lye21 := ly_R hw17 (by omega) e21
        have lze21 := ly_M e21
        refine wf_bnd (fun r23 e24 => ?_)
        have hw25 : WM r23.2 := by rw [e24]; exact wX5_takes 11 (by decide) hw22 
        have tke24 := tk_R e24
        have tme24 := nmB (tk_M hw22 e24 (by omega))
        refine wf_ite (fun c26 => ?_) (fun c26 => ?_)
        · have i110 := eqI c26
          refine wf_bnd (fun r27 e28 => ?_)
          have hw29 : WM r27.2 := by rw [e28]; exact wX5_takes 12 (by decide) hw25 
          have tke28 := tk_R e28
          have tme28 := nmB (tk_M hw25 e28 (by omega))
          refine wf_ite (fun c30 => ?_) (fun c30 => ?_)
          · have i40 := eqI c30
            exact (wx_of hw29)
          · have i41 := neI c30
            have a31 := subI (x := (rA r15.2 0 0)) (y := 1) (by omega) (by omega)
            refine wf_bnd (fun r32 e33 => ?_)
            have hw34 : WM r32.2 := by rw [e33]; exact wX5_number ((rA r15.2 0 0) - 1) hw29 
            have nme33 := nm_R e33
            have noe33 := nmB (nm_M hw29 e33 (by omega))
            have a35 := addI (x := 72) (y := (rA r15.2 0 0)) (by omega) (by omega)
            refine wf_bnd (fun s36 e37 => ?_)
            have hw38 : WX s36 := by rw [e37]; exact wxOn hw34 (by omega) (by omega) (by omega) (by omega)
            have m39 := fldA e37
            exact hw38
        · have i111 := neI c26
          refine wf_ite (fun c42 => ?_) (fun c42 => ?_)
          · have i109 := eqI c42
            refine wf_bnd (fun s75 e76 => ?_)
            have hw77 : WM s75 := by rw [e76]; exact wmF hw25 (by omega)
            have n78 := congrArg Int32.toInt (show rF s75 1 = rF r23.2 1 by rw [e76]; exact sF_other (by decide))
            have n79 := congrArg Int32.toInt (show rF s75 3 = rF r23.2 3 by rw [e76]; exact sF_other (by decide))
            have n80 := congrArg Int32.toInt (show rF s75 4 = rF r23.2 4 by rw [e76]; exact sF_other (by decide))
            have n81 := manyF e76
            have n82 := congrArg Int32.toInt (show rF s75 5 = 1 by rw [e76]; exact sF_same9)
            refine wf_bnd (fun r83 e84 => ?_)
            have hw85 : WM r83.2 := by rw [e84]; exact wX5_number 99 hw77 
            have nme84 := nm_R e84
            have noe84 := nmB (nm_M hw77 e84 (by omega))
            have a86 := addI (x := 48) (y := (rA r15.2 0 0)) (by omega) (by omega)
            refine wf_bnd (fun s87 e88 => ?_)
            have hw89 : WM s87 := by rw [e88]; exact wmRn hw85 (by decide) (by omega) (by omega) (by omega) (by omega)
            have m90 := mKeep e88 (by omega)
            have m91 := fldA e88
            refine wf_bnd (fun r92 e93 => ?_)
            have hw94 : WM r92.2 := by rw [e93]; exact wX5_takes 12 (by decide) hw89 
            have tke93 := tk_R e93
            have tme93 := nmB (tk_M hw89 e93 (by omega))
            refine wf_ite (fun c95 => ?_) (fun c95 => ?_)
            · have i105 := eqI c95
              exact (wx_of hw94)
            · have i106 := neI c95
              have a96 := subI (x := (rA r15.2 0 0)) (y := 1) (by omega) (by omega)
              refine wf_bnd (fun r97 e98 => ?_)
              have hw99 : WM r97.2 := by rw [e98]; exact wX5_number ((rA r15.2 0 0) - 1) hw94 
              have nme98 := nm_R e98
              have noe98 := nmB (nm_M hw94 e98 (by omega))
              have a100 := addI (x := 72) (y := (rA r15.2 0 0)) (by omega) (by omega)
              refine wf_bnd (fun s101 e102 => ?_)
              have hw103 : WX s101 := by rw [e102]; exact wxOn hw99 (by omega) (by omega) (by omega) (by omega)
              have m104 := fldA e102
              exact hw103
          · have i107 := neI c42
            have b108 := wi_t c42
            refine wf_bnd (fun s43 e44 => ?_)
            have hw45 : WM s43 := by rw [e44]; exact wmF hw25 (by omega)
            have n46 := congrArg Int32.toInt (show rF s43 1 = rF r23.2 1 by rw [e44]; exact sF_other (by decide))
            have n47 := congrArg Int32.toInt (show rF s43 3 = rF r23.2 3 by rw [e44]; exact sF_other (by decide))
            have n48 := congrArg Int32.toInt (show rF s43 4 = rF r23.2 4 by rw [e44]; exact sF_other (by decide))
            have n49 := manyF e44
            have n50 := congrArg Int32.toInt (show rF s43 5 = 0 by rw [e44]; exact sF_same9)
            refine wf_bnd (fun r51 e52 => ?_)
            have hw53 : WM r51.2 := by rw [e52]; exact wX5_number 99 hw45 
            have nme52 := nm_R e52
            have noe52 := nmB (nm_M hw45 e52 (by omega))
            have a54 := addI (x := 48) (y := (rA r15.2 0 0)) (by omega) (by omega)
            refine wf_bnd (fun s55 e56 => ?_)
            have hw57 : WM s55 := by rw [e56]; exact wmRn hw53 (by decide) (by omega) (by omega) (by omega) (by omega)
            have m58 := mKeep e56 (by omega)
            have m59 := fldA e56
            refine wf_bnd (fun r60 e61 => ?_)
            have hw62 : WM r60.2 := by rw [e61]; exact wX5_takes 12 (by decide) hw57 
            have tke61 := tk_R e61
            have tme61 := nmB (tk_M hw57 e61 (by omega))
            refine wf_ite (fun c63 => ?_) (fun c63 => ?_)
            · have i73 := eqI c63
              exact (wx_of hw62)
            · have i74 := neI c63
              have a64 := subI (x := (rA r15.2 0 0)) (y := 1) (by omega) (by omega)
              refine wf_bnd (fun r65 e66 => ?_)
              have hw67 : WM r65.2 := by rw [e66]; exact wX5_number ((rA r15.2 0 0) - 1) hw62 
              have nme66 := nm_R e66
              have noe66 := nmB (nm_M hw62 e66 (by omega))
              have a68 := addI (x := 72) (y := (rA r15.2 0 0)) (by omega) (by omega)
              refine wf_bnd (fun s69 e70 => ?_)
              have hw71 : WX s69 := by rw [e70]; exact wxOn hw67 (by omega) (by omega) (by omega) (by omega)
              have m72 := fldA e70
              exact hw71
      · have i113 := neI c18
        exact (wx_of hw17)
    · have i115 := neI c11
      exact (wx_of hw5)
set_option maxRecDepth 100000 in
set_option maxHeartbeats 4000000 in
theorem moX5_deedTold (v1 : Int32) {σ : sg} (hw : WM σ) (ho : (rF σ 3).toInt ≤ (rF σ 4).toInt) : MO σ (fX5_deedTold v1 σ) := by
  have k0 : (0 : Int32).toInt = 0 := rfl
  have k1 : (1 : Int32).toInt = 1 := rfl
  have k8 : (8 : Int32).toInt = 8 := rfl
  have k48 : (48 : Int32).toInt = 48 := rfl
  have k72 : (72 : Int32).toInt = 72 := rfl
  have k99 : (99 : Int32).toInt = 99 := rfl
  rw [show fX5_deedTold v1 σ = _ from fX5_deedTold.eq_1 ..]
  have w1 := wm_many hw (show 0 < 4 by decide)
  refine wf_ite (fun c2 => ?_) (fun c2 => ?_)
  · have i230 := eqI c2
    refine wf_bnd (fun s116 e117 => ?_)
    have hw118 : WM s116 := by rw [e117]; exact wmF hw (by omega)
    have n119 := congrArg Int32.toInt (show rF s116 1 = rF σ 1 by rw [e117]; exact sF_other (by decide))
    have n120 := congrArg Int32.toInt (show rF s116 3 = rF σ 3 by rw [e117]; exact sF_other (by decide))
    have n121 := congrArg Int32.toInt (show rF s116 4 = rF σ 4 by rw [e117]; exact sF_other (by decide))
    have n122 := manyF e117
    have n123 := congrArg Int32.toInt (show rF s116 5 = 1 by rw [e117]; exact sF_same9)
    refine wf_ite (fun c124 => ?_) (fun c124 => ?_)
    · have i227 := eqI c124
      refine wf_bnd (fun r125 e126 => ?_)
      have hw127 : WM r125 := by rw [e126]; exact wX5_next  hw118 
      have nxe126 := nx_R e126
      have nye126 := nx_M hw118 e126
      refine wf_bnd (fun r128 e129 => ?_)
      have hw130 : WM r128.2 := by rw [e129]; exact wX5_shelfTold  hw127 
      have ste129 := st_R e129
      have sme129 := nmB (st_M hw127 e129 (by omega))
      refine wf_ite (fun c131 => ?_) (fun c131 => ?_)
      · have i225 := eqI c131
        have w132 := wm_many hw130 (show 0 < 4 by decide)
        refine wf_bnd (fun r133 e134 => ?_)
        have hw135 : WM r133 := by rw [e134]; exact wX5_lays v1 r128.1 hw130 (by omega) (by omega)
        have lye134 := ly_R hw130 (by omega) e134
        have lze134 := ly_M e134
        refine wf_bnd (fun r136 e137 => ?_)
        have hw138 : WM r136.2 := by rw [e137]; exact wX5_takes 11 (by decide) hw135 
        have tke137 := tk_R e137
        have tme137 := nmB (tk_M hw135 e137 (by omega))
        refine wf_ite (fun c139 => ?_) (fun c139 => ?_)
        · have i223 := eqI c139
          refine wf_bnd (fun r140 e141 => ?_)
          have hw142 : WM r140.2 := by rw [e141]; exact wX5_takes 12 (by decide) hw138 
          have tke141 := tk_R e141
          have tme141 := nmB (tk_M hw138 e141 (by omega))
          refine wf_ite (fun c143 => ?_) (fun c143 => ?_)
          · have i153 := eqI c143
            exact mo_mk (by omega)
          · have i154 := neI c143
            have a144 := subI (x := (rA r128.2 0 0)) (y := 1) (by omega) (by omega)
            refine wf_bnd (fun r145 e146 => ?_)
            have hw147 : WM r145.2 := by rw [e146]; exact wX5_number ((rA r128.2 0 0) - 1) hw142 
            have nme146 := nm_R e146
            have noe146 := nmB (nm_M hw142 e146 (by omega))
            have a148 := addI (x := 72) (y := (rA r128.2 0 0)) (by omega) (by omega)
            refine wf_bnd (fun s149 e150 => ?_)
            have hw151 : WX s149 := by rw [e150]; exact wxOn hw147 (by omega) (by omega) (by omega) (by omega)
            have m152 := fldA e150
            exact mo_mk (by omega)
        · have i224 := neI c139
          refine wf_ite (fun c155 => ?_) (fun c155 => ?_)
          · have i222 := eqI c155
            refine wf_bnd (fun s188 e189 => ?_)
            have hw190 : WM s188 := by rw [e189]; exact wmF hw138 (by omega)
            have n191 := congrArg Int32.toInt (show rF s188 1 = rF r136.2 1 by rw [e189]; exact sF_other (by decide))
            have n192 := congrArg Int32.toInt (show rF s188 3 = rF r136.2 3 by rw [e189]; exact sF_other (by decide))
            have n193 := congrArg Int32.toInt (show rF s188 4 = rF r136.2 4 by rw [e189]; exact sF_other (by decide))
            have n194 := manyF e189
            have n195 := congrArg Int32.toInt (show rF s188 5 = 1 by rw [e189]; exact sF_same9)
            refine wf_bnd (fun r196 e197 => ?_)
            have hw198 : WM r196.2 := by rw [e197]; exact wX5_number 99 hw190 
            have nme197 := nm_R e197
            have noe197 := nmB (nm_M hw190 e197 (by omega))
            have a199 := addI (x := 48) (y := (rA r128.2 0 0)) (by omega) (by omega)
            refine wf_bnd (fun s200 e201 => ?_)
            have hw202 : WM s200 := by rw [e201]; exact wmRn hw198 (by decide) (by omega) (by omega) (by omega) (by omega)
            have m203 := mKeep e201 (by omega)
            have m204 := fldA e201
            refine wf_bnd (fun r205 e206 => ?_)
            have hw207 : WM r205.2 := by rw [e206]; exact wX5_takes 12 (by decide) hw202 
            have tke206 := tk_R e206
            have tme206 := nmB (tk_M hw202 e206 (by omega))
            refine wf_ite (fun c208 => ?_) (fun c208 => ?_)
            · have i218 := eqI c208
              exact mo_mk (by omega)
            · have i219 := neI c208
              have a209 := subI (x := (rA r128.2 0 0)) (y := 1) (by omega) (by omega)
              refine wf_bnd (fun r210 e211 => ?_)
              have hw212 : WM r210.2 := by rw [e211]; exact wX5_number ((rA r128.2 0 0) - 1) hw207 
              have nme211 := nm_R e211
              have noe211 := nmB (nm_M hw207 e211 (by omega))
              have a213 := addI (x := 72) (y := (rA r128.2 0 0)) (by omega) (by omega)
              refine wf_bnd (fun s214 e215 => ?_)
              have hw216 : WX s214 := by rw [e215]; exact wxOn hw212 (by omega) (by omega) (by omega) (by omega)
              have m217 := fldA e215
              exact mo_mk (by omega)
          · have i220 := neI c155
            have b221 := wi_t c155
            refine wf_bnd (fun s156 e157 => ?_)
            have hw158 : WM s156 := by rw [e157]; exact wmF hw138 (by omega)
            have n159 := congrArg Int32.toInt (show rF s156 1 = rF r136.2 1 by rw [e157]; exact sF_other (by decide))
            have n160 := congrArg Int32.toInt (show rF s156 3 = rF r136.2 3 by rw [e157]; exact sF_other (by decide))
            have n161 := congrArg Int32.toInt (show rF s156 4 = rF r136.2 4 by rw [e157]; exact sF_other (by decide))
            have n162 := manyF e157
            have n163 := congrArg Int32.toInt (show rF s156 5 = 0 by rw [e157]; exact sF_same9)
            refine wf_bnd (fun r164 e165 => ?_)
            have hw166 : WM r164.2 := by rw [e165]; exact wX5_number 99 hw158 
            have nme165 := nm_R e165
            have noe165 := nmB (nm_M hw158 e165 (by omega))
            have a167 := addI (x := 48) (y := (rA r128.2 0 0)) (by omega) (by omega)
            refine wf_bnd (fun s168 e169 => ?_)
            have hw170 : WM s168 := by rw [e169]; exact wmRn hw166 (by decide) (by omega) (by omega) (by omega) (by omega)
            have m171 := mKeep e169 (by omega)
            have m172 := fldA e169
            refine wf_bnd (fun r173 e174 => ?_)
            have hw175 : WM r173.2 := by rw [e174]; exact wX5_takes 12 (by decide) hw170 
            have tke174 := tk_R e174
            have tme174 := nmB (tk_M hw170 e174 (by omega))
            refine wf_ite (fun c176 => ?_) (fun c176 => ?_)
            · have i186 := eqI c176
              exact mo_mk (by omega)
            · have i187 := neI c176
              have a177 := subI (x := (rA r128.2 0 0)) (y := 1) (by omega) (by omega)
              refine wf_bnd (fun r178 e179 => ?_)
              have hw180 : WM r178.2 := by rw [e179]; exact wX5_number ((rA r128.2 0 0) - 1) hw175 
              have nme179 := nm_R e179
              have noe179 := nmB (nm_M hw175 e179 (by omega))
              have a181 := addI (x := 72) (y := (rA r128.2 0 0)) (by omega) (by omega)
              refine wf_bnd (fun s182 e183 => ?_)
              have hw184 : WX s182 := by rw [e183]; exact wxOn hw180 (by omega) (by omega) (by omega) (by omega)
              have m185 := fldA e183
              exact mo_mk (by omega)
      · have i226 := neI c131
        exact mo_mk (by omega)
    · have i228 := neI c124
      exact mo_mk (by omega)
  · have i229 := neI c2
    refine wf_bnd (fun s3 e4 => ?_)
    have hw5 : WM s3 := by rw [e4]; exact wmF hw (by omega)
    have n6 := congrArg Int32.toInt (show rF s3 1 = rF σ 1 by rw [e4]; exact sF_other (by decide))
    have n7 := congrArg Int32.toInt (show rF s3 3 = rF σ 3 by rw [e4]; exact sF_other (by decide))
    have n8 := congrArg Int32.toInt (show rF s3 4 = rF σ 4 by rw [e4]; exact sF_other (by decide))
    have n9 := manyF e4
    have n10 := congrArg Int32.toInt (show rF s3 5 = 0 by rw [e4]; exact sF_same9)
    refine wf_ite (fun c11 => ?_) (fun c11 => ?_)
    · have i114 := eqI c11
      refine wf_bnd (fun r12 e13 => ?_)
      have hw14 : WM r12 := by rw [e13]; exact wX5_next  hw5 
      have nxe13 := nx_R e13
      have nye13 := nx_M hw5 e13
      refine wf_bnd (fun r15 e16 => ?_)
      have hw17 : WM r15.2 := by rw [e16]; exact wX5_shelfTold  hw14 
      have ste16 := st_R e16
      have sme16 := nmB (st_M hw14 e16 (by omega))
      refine wf_ite (fun c18 => ?_) (fun c18 => ?_)
      · have i112 := eqI c18
        have w19 := wm_many hw17 (show 0 < 4 by decide)
        refine wf_bnd (fun r20 e21 => ?_)
        have hw22 : WM r20 := by rw [e21]; exact wX5_lays v1 r15.1 hw17 (by omega) (by omega)
        have lye21 := ly_R hw17 (by omega) e21
        have lze21 := ly_M e21
        refine wf_bnd (fun r23 e24 => ?_)
        have hw25 : WM r23.2 := by rw [e24]; exact wX5_takes 11 (by decide) hw22 
        have tke24 := tk_R e24
        have tme24 := nmB (tk_M hw22 e24 (by omega))
        refine wf_ite (fun c26 => ?_) (fun c26 => ?_)
        · have i110 := eqI c26
          refine wf_bnd (fun r27 e28 => ?_)
          have hw29 : WM r27.2 := by rw [e28]; exact wX5_takes 12 (by decide) hw25 
          have tke28 := tk_R e28
          have tme28 := nmB (tk_M hw25 e28 (by omega))
          refine wf_ite (fun c30 => ?_) (fun c30 => ?_)
          · have i40 := eqI c30
            exact mo_mk (by omega)
          · have i41 := neI c30
            have a31 := subI (x := (rA r15.2 0 0)) (y := 1) (by omega) (by omega)
            refine wf_bnd (fun r32 e33 => ?_)
            have hw34 : WM r32.2 := by rw [e33]; exact wX5_number ((rA r15.2 0 0) - 1) hw29 
            have nme33 := nm_R e33
            have noe33 := nmB (nm_M hw29 e33 (by omega))
            have a35 := addI (x := 72) (y := (rA r15.2 0 0)) (by omega) (by omega)
            refine wf_bnd (fun s36 e37 => ?_)
            have hw38 : WX s36 := by rw [e37]; exact wxOn hw34 (by omega) (by omega) (by omega) (by omega)
            have m39 := fldA e37
            exact mo_mk (by omega)
        · have i111 := neI c26
          refine wf_ite (fun c42 => ?_) (fun c42 => ?_)
          · have i109 := eqI c42
            refine wf_bnd (fun s75 e76 => ?_)
            have hw77 : WM s75 := by rw [e76]; exact wmF hw25 (by omega)
            have n78 := congrArg Int32.toInt (show rF s75 1 = rF r23.2 1 by rw [e76]; exact sF_other (by decide))
            have n79 := congrArg Int32.toInt (show rF s75 3 = rF r23.2 3 by rw [e76]; exact sF_other (by decide))
            have n80 := congrArg Int32.toInt (show rF s75 4 = rF r23.2 4 by rw [e76]; exact sF_other (by decide))
            have n81 := manyF e76
            have n82 := congrArg Int32.toInt (show rF s75 5 = 1 by rw [e76]; exact sF_same9)
            refine wf_bnd (fun r83 e84 => ?_)
            have hw85 : WM r83.2 := by rw [e84]; exact wX5_number 99 hw77 
            have nme84 := nm_R e84
            have noe84 := nmB (nm_M hw77 e84 (by omega))
            have a86 := addI (x := 48) (y := (rA r15.2 0 0)) (by omega) (by omega)
            refine wf_bnd (fun s87 e88 => ?_)
            have hw89 : WM s87 := by rw [e88]; exact wmRn hw85 (by decide) (by omega) (by omega) (by omega) (by omega)
            have m90 := mKeep e88 (by omega)
            have m91 := fldA e88
            refine wf_bnd (fun r92 e93 => ?_)
            have hw94 : WM r92.2 := by rw [e93]; exact wX5_takes 12 (by decide) hw89 
            have tke93 := tk_R e93
            have tme93 := nmB (tk_M hw89 e93 (by omega))
            refine wf_ite (fun c95 => ?_) (fun c95 => ?_)
            · have i105 := eqI c95
              exact mo_mk (by omega)
            · have i106 := neI c95
              have a96 := subI (x := (rA r15.2 0 0)) (y := 1) (by omega) (by omega)
              refine wf_bnd (fun r97 e98 => ?_)
              have hw99 : WM r97.2 := by rw [e98]; exact wX5_number ((rA r15.2 0 0) - 1) hw94 
              have nme98 := nm_R e98
              have noe98 := nmB (nm_M hw94 e98 (by omega))
              have a100 := addI (x := 72) (y := (rA r15.2 0 0)) (by omega) (by omega)
              refine wf_bnd (fun s101 e102 => ?_)
              have hw103 : WX s101 := by rw [e102]; exact wxOn hw99 (by omega) (by omega) (by omega) (by omega)
              have m104 := fldA e102
              exact mo_mk (by omega)
          · have i107 := neI c42
            have b108 := wi_t c42
            refine wf_bnd (fun s43 e44 => ?_)
            have hw45 : WM s43 := by rw [e44]; exact wmF hw25 (by omega)
            have n46 := congrArg Int32.toInt (show rF s43 1 = rF r23.2 1 by rw [e44]; exact sF_other (by decide))
            have n47 := congrArg Int32.toInt (show rF s43 3 = rF r23.2 3 by rw [e44]; exact sF_other (by decide))
            have n48 := congrArg Int32.toInt (show rF s43 4 = rF r23.2 4 by rw [e44]; exact sF_other (by decide))
            have n49 := manyF e44
            have n50 := congrArg Int32.toInt (show rF s43 5 = 0 by rw [e44]; exact sF_same9)
            refine wf_bnd (fun r51 e52 => ?_)
            have hw53 : WM r51.2 := by rw [e52]; exact wX5_number 99 hw45 
            have nme52 := nm_R e52
            have noe52 := nmB (nm_M hw45 e52 (by omega))
            have a54 := addI (x := 48) (y := (rA r15.2 0 0)) (by omega) (by omega)
            refine wf_bnd (fun s55 e56 => ?_)
            have hw57 : WM s55 := by rw [e56]; exact wmRn hw53 (by decide) (by omega) (by omega) (by omega) (by omega)
            have m58 := mKeep e56 (by omega)
            have m59 := fldA e56
            refine wf_bnd (fun r60 e61 => ?_)
            have hw62 : WM r60.2 := by rw [e61]; exact wX5_takes 12 (by decide) hw57 
            have tke61 := tk_R e61
            have tme61 := nmB (tk_M hw57 e61 (by omega))
            refine wf_ite (fun c63 => ?_) (fun c63 => ?_)
            · have i73 := eqI c63
              exact mo_mk (by omega)
            · have i74 := neI c63
              have a64 := subI (x := (rA r15.2 0 0)) (y := 1) (by omega) (by omega)
              refine wf_bnd (fun r65 e66 => ?_)
              have hw67 : WM r65.2 := by rw [e66]; exact wX5_number ((rA r15.2 0 0) - 1) hw62 
              have nme66 := nm_R e66
              have noe66 := nmB (nm_M hw62 e66 (by omega))
              have a68 := addI (x := 72) (y := (rA r15.2 0 0)) (by omega) (by omega)
              refine wf_bnd (fun s69 e70 => ?_)
              have hw71 : WX s69 := by rw [e70]; exact wxOn hw67 (by omega) (by omega) (by omega) (by omega)
              have m72 := fldA e70
              exact mo_mk (by omega)
      · have i113 := neI c18
        exact mo_mk (by omega)
    · have i115 := neI c11
      exact mo_mk (by omega)
set_option maxRecDepth 100000 in
set_option maxHeartbeats 4000000 in
theorem wX5_shelfItem (v1 : Int32) {σ : sg} (hw : WM σ) (hb : 0 ≤ v1.toInt ∧ v1.toInt ≤ 2) (ho : (rF σ 3).toInt ≤ (rF σ 4).toInt) : WM (fX5_shelfItem v1 σ) := by
  have k0 : (0 : Int32).toInt = 0 := rfl
  have k1 : (1 : Int32).toInt = 1 := rfl
  have k4 : (4 : Int32).toInt = 4 := rfl
  have k6 : (6 : Int32).toInt = 6 := rfl
  have k99 : (99 : Int32).toInt = 99 := rfl
  rw [show fX5_shelfItem v1 σ = _ from fX5_shelfItem.eq_1 ..]
  refine wf_bnd (fun r1 e2 => ?_)
  have hw3 : WM r1.2 := by rw [e2]; exact wX5_shelfTold  hw 
  have ste2 := st_R e2
  have sme2 := nmB (st_M hw e2 (by omega))
  refine wf_ite (fun c4 => ?_) (fun c4 => ?_)
  · have i51 := eqI c4
    refine wf_bnd (fun r36 e37 => ?_)
    have hw38 : WM r36.2 := by rw [e37]; exact wX5_number 99 hw3 
    have nme37 := nm_R e37
    have noe37 := nmB (nm_M hw3 e37 (by omega))
    refine wf_ite (fun c39 => ?_) (fun c39 => ?_)
    · have i49 := eqI c39
      have a40 := mulI (x := 6) (y := v1) (by first | omega | (simp only [k6]; omega)) (by first | omega | (simp only [k6]; omega))
      simp only [k6] at a40
      have a41 := addI (x := 4) (y := (6 * v1)) (by omega) (by omega)
      have a42 := addI (x := (4 + (6 * v1))) (y := r1.1) (by omega) (by omega)
      refine wf_bnd (fun s43 e44 => ?_)
      have hw45 : WM s43 := by rw [e44]; exact wmRn hw38 (by decide) (by omega) (by omega) (by omega) (by omega)
      have m46 := mKeep e44 (by omega)
      have m47 := fldA e44
      exact hw45
    · have i48 := neI c39
      exact hw38
  · have i50 := neI c4
    refine wf_ite (fun c5 => ?_) (fun c5 => ?_)
    · have i35 := eqI c5
      refine wf_bnd (fun r20 e21 => ?_)
      have hw22 : WM r20.2 := by rw [e21]; exact wX5_either 13 (by decide) 14 (by decide) hw3 
      have eie21 := ei_R e21
      have eme21 := nmB (ei_M (by decide) hw3 e21 (by omega))
      refine wf_ite (fun c23 => ?_) (fun c23 => ?_)
      · have i33 := eqI c23
        have a24 := mulI (x := 6) (y := v1) (by first | omega | (simp only [k6]; omega)) (by first | omega | (simp only [k6]; omega))
        simp only [k6] at a24
        have a25 := addI (x := 4) (y := (6 * v1)) (by omega) (by omega)
        have a26 := addI (x := (4 + (6 * v1))) (y := r1.1) (by omega) (by omega)
        refine wf_bnd (fun s27 e28 => ?_)
        have hw29 : WM s27 := by rw [e28]; exact wmRn hw22 (by decide) (by omega) (by omega) (by omega) (by omega)
        have m30 := mKeep e28 (by omega)
        have m31 := fldA e28
        exact hw29
      · have i32 := neI c23
        exact hw22
    · have i34 := neI c5
      refine wf_bnd (fun r6 e7 => ?_)
      have hw8 : WM r6.2 := by rw [e7]; exact wX5_either 15 (by decide) 16 (by decide) hw3 
      have eie7 := ei_R e7
      have eme7 := nmB (ei_M (by decide) hw3 e7 (by omega))
      refine wf_ite (fun c9 => ?_) (fun c9 => ?_)
      · have i19 := eqI c9
        have a10 := mulI (x := 6) (y := v1) (by first | omega | (simp only [k6]; omega)) (by first | omega | (simp only [k6]; omega))
        simp only [k6] at a10
        have a11 := addI (x := 4) (y := (6 * v1)) (by omega) (by omega)
        have a12 := addI (x := (4 + (6 * v1))) (y := r1.1) (by omega) (by omega)
        refine wf_bnd (fun s13 e14 => ?_)
        have hw15 : WM s13 := by rw [e14]; exact wmRn hw8 (by decide) (by omega) (by omega) (by omega) (by omega)
        have m16 := mKeep e14 (by omega)
        have m17 := fldA e14
        exact hw15
      · have i18 := neI c9
        exact hw8
set_option maxRecDepth 100000 in
set_option maxHeartbeats 4000000 in
theorem moX5_shelfItem (v1 : Int32) {σ : sg} (hw : WM σ) (hb : 0 ≤ v1.toInt ∧ v1.toInt ≤ 2) (ho : (rF σ 3).toInt ≤ (rF σ 4).toInt) : MO σ (fX5_shelfItem v1 σ) := by
  have k0 : (0 : Int32).toInt = 0 := rfl
  have k1 : (1 : Int32).toInt = 1 := rfl
  have k4 : (4 : Int32).toInt = 4 := rfl
  have k6 : (6 : Int32).toInt = 6 := rfl
  have k99 : (99 : Int32).toInt = 99 := rfl
  rw [show fX5_shelfItem v1 σ = _ from fX5_shelfItem.eq_1 ..]
  refine wf_bnd (fun r1 e2 => ?_)
  have hw3 : WM r1.2 := by rw [e2]; exact wX5_shelfTold  hw 
  have ste2 := st_R e2
  have sme2 := nmB (st_M hw e2 (by omega))
  refine wf_ite (fun c4 => ?_) (fun c4 => ?_)
  · have i51 := eqI c4
    refine wf_bnd (fun r36 e37 => ?_)
    have hw38 : WM r36.2 := by rw [e37]; exact wX5_number 99 hw3 
    have nme37 := nm_R e37
    have noe37 := nmB (nm_M hw3 e37 (by omega))
    refine wf_ite (fun c39 => ?_) (fun c39 => ?_)
    · have i49 := eqI c39
      have a40 := mulI (x := 6) (y := v1) (by first | omega | (simp only [k6]; omega)) (by first | omega | (simp only [k6]; omega))
      simp only [k6] at a40
      have a41 := addI (x := 4) (y := (6 * v1)) (by omega) (by omega)
      have a42 := addI (x := (4 + (6 * v1))) (y := r1.1) (by omega) (by omega)
      refine wf_bnd (fun s43 e44 => ?_)
      have hw45 : WM s43 := by rw [e44]; exact wmRn hw38 (by decide) (by omega) (by omega) (by omega) (by omega)
      have m46 := mKeep e44 (by omega)
      have m47 := fldA e44
      exact mo_mk (by omega)
    · have i48 := neI c39
      exact mo_mk (by omega)
  · have i50 := neI c4
    refine wf_ite (fun c5 => ?_) (fun c5 => ?_)
    · have i35 := eqI c5
      refine wf_bnd (fun r20 e21 => ?_)
      have hw22 : WM r20.2 := by rw [e21]; exact wX5_either 13 (by decide) 14 (by decide) hw3 
      have eie21 := ei_R e21
      have eme21 := nmB (ei_M (by decide) hw3 e21 (by omega))
      refine wf_ite (fun c23 => ?_) (fun c23 => ?_)
      · have i33 := eqI c23
        have a24 := mulI (x := 6) (y := v1) (by first | omega | (simp only [k6]; omega)) (by first | omega | (simp only [k6]; omega))
        simp only [k6] at a24
        have a25 := addI (x := 4) (y := (6 * v1)) (by omega) (by omega)
        have a26 := addI (x := (4 + (6 * v1))) (y := r1.1) (by omega) (by omega)
        refine wf_bnd (fun s27 e28 => ?_)
        have hw29 : WM s27 := by rw [e28]; exact wmRn hw22 (by decide) (by omega) (by omega) (by omega) (by omega)
        have m30 := mKeep e28 (by omega)
        have m31 := fldA e28
        exact mo_mk (by omega)
      · have i32 := neI c23
        exact mo_mk (by omega)
    · have i34 := neI c5
      refine wf_bnd (fun r6 e7 => ?_)
      have hw8 : WM r6.2 := by rw [e7]; exact wX5_either 15 (by decide) 16 (by decide) hw3 
      have eie7 := ei_R e7
      have eme7 := nmB (ei_M (by decide) hw3 e7 (by omega))
      refine wf_ite (fun c9 => ?_) (fun c9 => ?_)
      · have i19 := eqI c9
        have a10 := mulI (x := 6) (y := v1) (by first | omega | (simp only [k6]; omega)) (by first | omega | (simp only [k6]; omega))
        simp only [k6] at a10
        have a11 := addI (x := 4) (y := (6 * v1)) (by omega) (by omega)
        have a12 := addI (x := (4 + (6 * v1))) (y := r1.1) (by omega) (by omega)
        refine wf_bnd (fun s13 e14 => ?_)
        have hw15 : WM s13 := by rw [e14]; exact wmRn hw8 (by decide) (by omega) (by omega) (by omega) (by omega)
        have m16 := mKeep e14 (by omega)
        have m17 := fldA e14
        exact mo_mk (by omega)
      · have i18 := neI c9
        exact mo_mk (by omega)
set_option maxRecDepth 100000 in
set_option maxHeartbeats 4000000 in
theorem wX5_item {σ : sg} (hw : WM σ) (ho : (rF σ 3).toInt ≤ (rF σ 4).toInt) : WX (fX5_item σ) := by
  have k0 : (0 : Int32).toInt = 0 := rfl
  have k1 : (1 : Int32).toInt = 1 := rfl
  have k2 : (2 : Int32).toInt = 2 := rfl
  have k40 : (40 : Int32).toInt = 40 := rfl
  rw [show fX5_item σ = _ from fX5_item.eq_1 ..]
  refine wf_ite (fun c1 => ?_) (fun c1 => ?_)
  · have i58 := ltI c1
    refine wf_bnd (fun r2 e3 => ?_)
    have hw4 : WM r2.2 := by rw [e3]; exact wX5_takes 7 (by decide) hw 
    have tke3 := tk_R e3
    have tme3 := nmB (tk_M hw e3 (by omega))
    refine wf_ite (fun c5 => ?_) (fun c5 => ?_)
    · have i52 := eqI c5
      refine wf_bnd (fun r6 e7 => ?_)
      have hw8 : WM r6.2 := by rw [e7]; exact wX5_takes 8 (by decide) hw4 
      have tke7 := tk_R e7
      have tme7 := nmB (tk_M hw4 e7 (by omega))
      refine wf_ite (fun c9 => ?_) (fun c9 => ?_)
      · have i46 := eqI c9
        refine wf_bnd (fun r10 e11 => ?_)
        have hw12 : WM r10.2 := by rw [e11]; exact wX5_takes 9 (by decide) hw8 
        have tke11 := tk_R e11
        have tme11 := nmB (tk_M hw8 e11 (by omega))
        refine wf_ite (fun c13 => ?_) (fun c13 => ?_)
        · have i40 := eqI c13
          refine wf_bnd (fun r14 e15 => ?_)
          have hw16 : WM r14.2 := by rw [e15]; exact wX5_takes 10 (by decide) hw12 
          have tke15 := tk_R e15
          have tme15 := nmB (tk_M hw12 e15 (by omega))
          refine wf_ite (fun c17 => ?_) (fun c17 => ?_)
          · have i34 := eqI c17
            refine wf_bnd (fun s18 e19 => ?_)
            have hw20 : WM s18 := by rw [e19]; exact wmF hw16 (by omega)
            have n21 := congrArg Int32.toInt (show rF s18 1 = rF r14.2 1 by rw [e19]; exact sF_other (by decide))
            have n22 := congrArg Int32.toInt (show rF s18 3 = rF r14.2 3 by rw [e19]; exact sF_other (by decide))
            have n23 := congrArg Int32.toInt (show rF s18 4 = rF r14.2 4 by rw [e19]; exact sF_other (by decide))
            have n24 := manyF e19
            have n25 := congrArg Int32.toInt (show rF s18 5 = 1 by rw [e19]; exact sF_same9)
            exact (wx_of hw20)
          · have i35 := neI c17
            refine wf_bnd (fun r26 e27 => ?_)
            have hw28 : WM r26.2 := by rw [e27]; exact wX5_number 40 hw16 
            have nme27 := nm_R e27
            have noe27 := nmB (nm_M hw16 e27 (by omega))
            refine wf_bnd (fun s29 e30 => ?_)
            have hw31 : WM s29 := by rw [e30]; exact wmRn hw28 (by decide) (by omega) (by omega) (by omega) (by omega)
            have m32 := mKeep e30 (by omega)
            have m33 := fldA e30
            exact (wx_of hw31)
        · have i41 := neI c13
          refine wf_bnd (fun r36 e37 => ?_)
          have hw38 : WM r36 := by rw [e37]; exact wX5_shelfItem 2 hw12 (by omega) (by omega)
          have mo39 := nmB (moX5_shelfItem 2 hw12 (by omega) (by omega))
          rw [← e37] at mo39
          exact (wx_of hw38)
      · have i47 := neI c9
        refine wf_bnd (fun r42 e43 => ?_)
        have hw44 : WM r42 := by rw [e43]; exact wX5_shelfItem 1 hw8 (by omega) (by omega)
        have mo45 := nmB (moX5_shelfItem 1 hw8 (by omega) (by omega))
        rw [← e43] at mo45
        exact (wx_of hw44)
    · have i53 := neI c5
      refine wf_bnd (fun r48 e49 => ?_)
      have hw50 : WM r48 := by rw [e49]; exact wX5_shelfItem 0 hw4 (by omega) (by omega)
      have mo51 := nmB (moX5_shelfItem 0 hw4 (by omega) (by omega))
      rw [← e49] at mo51
      exact (wx_of hw50)
  · have i59 := nltI c1
    refine wf_bnd (fun r54 e55 => ?_)
    have hw56 : WX r54 := by rw [e55]; exact wX5_deedTold (fX5_kindHere σ) hw (by omega)
    have mo57 := nmB (moX5_deedTold (fX5_kindHere σ) hw (by omega))
    rw [← e55] at mo57
    exact hw56
set_option maxRecDepth 100000 in
set_option maxHeartbeats 4000000 in
theorem moX5_item {σ : sg} (hw : WM σ) (ho : (rF σ 3).toInt ≤ (rF σ 4).toInt) : MO σ (fX5_item σ) := by
  have k0 : (0 : Int32).toInt = 0 := rfl
  have k1 : (1 : Int32).toInt = 1 := rfl
  have k2 : (2 : Int32).toInt = 2 := rfl
  have k40 : (40 : Int32).toInt = 40 := rfl
  rw [show fX5_item σ = _ from fX5_item.eq_1 ..]
  refine wf_ite (fun c1 => ?_) (fun c1 => ?_)
  · have i58 := ltI c1
    refine wf_bnd (fun r2 e3 => ?_)
    have hw4 : WM r2.2 := by rw [e3]; exact wX5_takes 7 (by decide) hw 
    have tke3 := tk_R e3
    have tme3 := nmB (tk_M hw e3 (by omega))
    refine wf_ite (fun c5 => ?_) (fun c5 => ?_)
    · have i52 := eqI c5
      refine wf_bnd (fun r6 e7 => ?_)
      have hw8 : WM r6.2 := by rw [e7]; exact wX5_takes 8 (by decide) hw4 
      have tke7 := tk_R e7
      have tme7 := nmB (tk_M hw4 e7 (by omega))
      refine wf_ite (fun c9 => ?_) (fun c9 => ?_)
      · have i46 := eqI c9
        refine wf_bnd (fun r10 e11 => ?_)
        have hw12 : WM r10.2 := by rw [e11]; exact wX5_takes 9 (by decide) hw8 
        have tke11 := tk_R e11
        have tme11 := nmB (tk_M hw8 e11 (by omega))
        refine wf_ite (fun c13 => ?_) (fun c13 => ?_)
        · have i40 := eqI c13
          refine wf_bnd (fun r14 e15 => ?_)
          have hw16 : WM r14.2 := by rw [e15]; exact wX5_takes 10 (by decide) hw12 
          have tke15 := tk_R e15
          have tme15 := nmB (tk_M hw12 e15 (by omega))
          refine wf_ite (fun c17 => ?_) (fun c17 => ?_)
          · have i34 := eqI c17
            refine wf_bnd (fun s18 e19 => ?_)
            have hw20 : WM s18 := by rw [e19]; exact wmF hw16 (by omega)
            have n21 := congrArg Int32.toInt (show rF s18 1 = rF r14.2 1 by rw [e19]; exact sF_other (by decide))
            have n22 := congrArg Int32.toInt (show rF s18 3 = rF r14.2 3 by rw [e19]; exact sF_other (by decide))
            have n23 := congrArg Int32.toInt (show rF s18 4 = rF r14.2 4 by rw [e19]; exact sF_other (by decide))
            have n24 := manyF e19
            have n25 := congrArg Int32.toInt (show rF s18 5 = 1 by rw [e19]; exact sF_same9)
            exact mo_mk (by omega)
          · have i35 := neI c17
            refine wf_bnd (fun r26 e27 => ?_)
            have hw28 : WM r26.2 := by rw [e27]; exact wX5_number 40 hw16 
            have nme27 := nm_R e27
            have noe27 := nmB (nm_M hw16 e27 (by omega))
            refine wf_bnd (fun s29 e30 => ?_)
            have hw31 : WM s29 := by rw [e30]; exact wmRn hw28 (by decide) (by omega) (by omega) (by omega) (by omega)
            have m32 := mKeep e30 (by omega)
            have m33 := fldA e30
            exact mo_mk (by omega)
        · have i41 := neI c13
          refine wf_bnd (fun r36 e37 => ?_)
          have hw38 : WM r36 := by rw [e37]; exact wX5_shelfItem 2 hw12 (by omega) (by omega)
          have mo39 := nmB (moX5_shelfItem 2 hw12 (by omega) (by omega))
          rw [← e37] at mo39
          exact mo_mk (by omega)
      · have i47 := neI c9
        refine wf_bnd (fun r42 e43 => ?_)
        have hw44 : WM r42 := by rw [e43]; exact wX5_shelfItem 1 hw8 (by omega) (by omega)
        have mo45 := nmB (moX5_shelfItem 1 hw8 (by omega) (by omega))
        rw [← e43] at mo45
        exact mo_mk (by omega)
    · have i53 := neI c5
      refine wf_bnd (fun r48 e49 => ?_)
      have hw50 : WM r48 := by rw [e49]; exact wX5_shelfItem 0 hw4 (by omega) (by omega)
      have mo51 := nmB (moX5_shelfItem 0 hw4 (by omega) (by omega))
      rw [← e49] at mo51
      exact mo_mk (by omega)
  · have i59 := nltI c1
    refine wf_bnd (fun r54 e55 => ?_)
    have hw56 : WX r54 := by rw [e55]; exact wX5_deedTold (fX5_kindHere σ) hw (by omega)
    have mo57 := nmB (moX5_deedTold (fX5_kindHere σ) hw (by omega))
    rw [← e55] at mo57
    exact mo_mk (by omega)
def PLX5_text_31 : Int32 × sg → Prop := fun r => (WX r.2) ∧ ((rF r.2 3).toInt ≤ (rF r.2 4).toInt) ∧ True
set_option maxRecDepth 100000 in
set_option maxHeartbeats 4000000 in
theorem wLX5_text_31 : ∀ (k : Nat) (v1 : Int32) (σ : sg) (hw : WX σ) (ho : (rF σ 3).toInt ≤ (rF σ 4).toInt) (hmu : (120 - (rF σ 3).toInt).toNat < k), PLX5_text_31 (LX5_text_31 k v1 σ) := by
  intro k
  induction k with
  | zero => intro v1 σ hw ho hmu; exact absurd hmu (Nat.not_lt_zero _)
  | succ k ih =>
    intro v1 σ hw ho hmu
    have k0 : (0 : Int32).toInt = 0 := rfl
    have k1 : (1 : Int32).toInt = 1 := rfl
    rw [show LX5_text_31 (k + 1) v1 σ = _ from LX5_text_31.eq_2 ..]
    refine wf_ite (fun c24 => ?_) (fun c24 => ?_)
    · have i38 := eqI c24
      have z17 : (fJ0_length_8abf5 17).toInt = 1 := by decide
      have y17 := wx_to hw
      have hw25 : WM σ := wx_wm hw (by omega)
      refine wf_ite (fun c26 => ?_) (fun c26 => ?_)
      · have i34 := eqI c26
        exact ⟨(wx_of hw25), (by omega), trivial⟩
      · have i35 := neI c26
        have b36 := iw_t hw25 c26
        refine wf_bnd (fun r27 e28 => ?_)
        have hw29 : WM r27 := by rw [e28]; exact wX5_next  hw25 
        have nxe28 := nx_R e28
        have nye28 := nx_M hw25 e28
        refine wf_bnd (fun r30 e31 => ?_)
        have hw32 : WX r30 := by rw [e31]; exact wX5_item  hw29 (by omega)
        have mo33 := nmB (moX5_item  hw29 (by omega))
        rw [← e31] at mo33
        exact ih (v1 + 1) r30 hw32 (by omega) (by omega)
    · have i37 := neI c24
      exact ⟨hw, (by omega), trivial⟩
set_option maxRecDepth 100000 in
set_option maxHeartbeats 4000000 in
theorem wX5_text {σ : sg} (hw : WM σ) : WMi (fX5_text σ) := by
  have km1 : ((-1) : Int32).toInt = -1 := rfl
  have k0 : (0 : Int32).toInt = 0 := rfl
  have k1 : (1 : Int32).toInt = 1 := rfl
  rw [show fX5_text σ = _ from fX5_text.eq_1 ..]
  refine wf_bnd (fun r1 e2 => ?_)
  have hw3 : WM r1 := by rw [e2]; exact wX5_row 0 (by decide) 3 (by decide) hw (by omega)
  have me2 := row0 (show 0 ≠ 3 by decide) e2
  refine wf_bnd (fun s4 e5 => ?_)
  have hw6 : WM s4 := by rw [e5]; exact wmF hw3 (by omega)
  have n7 := congrArg Int32.toInt (show rF s4 1 = rF r1 1 by rw [e5]; exact sF_other (by decide))
  have n8 := congrArg Int32.toInt (show rF s4 3 = rF r1 3 by rw [e5]; exact sF_other (by decide))
  have n9 := congrArg Int32.toInt (show rF s4 4 = rF r1 4 by rw [e5]; exact sF_other (by decide))
  refine wf_bnd (fun s10 e11 => ?_)
  have hw12 : WM s10 := by rw [e11]; exact wmFo hw6 (by omega) (by omega)
  have f13 := congrArg Int32.toInt (show rF s10 4 = 0 by rw [e11]; exact sF_same9)
  have n14 := congrArg Int32.toInt (show rF s10 1 = rF s4 1 by rw [e11]; exact sF_other (by decide))
  have n15 := congrArg Int32.toInt (show rF s10 3 = rF s4 3 by rw [e11]; exact sF_other (by decide))
  have n16 := congrArg Int32.toInt (show rF s10 5 = rF s4 5 by rw [e11]; exact sF_other (by decide))
  refine wf_bnd (fun r17 e18 => ?_)
  have hw19 : WM r17 := by rw [e18]; exact wX5_next  hw12 
  have nxe18 := nx_R e18
  have nye18 := nx_M hw12 e18
  refine wf_bnd (fun r20 e21 => ?_)
  have hw22 : WX r20 := by rw [e21]; exact wX5_item  hw19 (by omega)
  have mo23 := nmB (moX5_item  hw19 (by omega))
  rw [← e21] at mo23
  refine wf_bnd (fun r39 e40 => ?_)
  obtain ⟨hw41, x42, _⟩ := (show PLX5_text_31 r39 from by rw [e40]; exact wLX5_text_31 122 1 r20 hw22 (by omega) (by have := wx_from hw22; omega))
  refine wf_ite (fun c43 => ?_) (fun c43 => ?_)
  · have i113 := eqI c43
    have w65 := wx_from hw41
    have w66 := wx_taped hw41
    refine wf_ite (fun c67 => ?_) (fun c67 => ?_)
    · have i110 := leI c67
      refine wf_bnd (fun s68 e69 => ?_)
      have hw70 : WX s68 := by rw [e69]; exact wxF5 hw41 (by omega)
      have n71 := congrArg Int32.toInt (show rF s68 1 = rF r39.2 1 by rw [e69]; exact sF_other (by decide))
      have n72 := congrArg Int32.toInt (show rF s68 3 = rF r39.2 3 by rw [e69]; exact sF_other (by decide))
      have n73 := congrArg Int32.toInt (show rF s68 4 = rF r39.2 4 by rw [e69]; exact sF_other (by decide))
      refine wf_bnd (fun s74 e75 => ?_)
      have hw76 : WX s74 := by rw [e75]; exact wxT hw70
      have f77 := congrArg Int32.toInt (show rF s74 1 = 0 by rw [e75]; exact sF_same9)
      have n78 := congrArg Int32.toInt (show rF s74 3 = rF s68 3 by rw [e75]; exact sF_other (by decide))
      have n79 := congrArg Int32.toInt (show rF s74 4 = rF s68 4 by rw [e75]; exact sF_other (by decide))
      have n80 := congrArg Int32.toInt (show rF s74 5 = rF s68 5 by rw [e75]; exact sF_other (by decide))
      refine wf_ite (fun c81 => ?_) (fun c81 => ?_)
      · have i88 := eqI c81
        have hw86 : WM s74 := wx_wm hw76 (by omega)
        exact hw86
      · have i87 := neI c81
        refine wf_bnd (fun r82 e83 => ?_)
        have hw84 : WM r82 := by rw [e83]; exact wxRow hw76
        have me83 := row0 (show 3 ≠ 0 by decide) e83
        have w85 := wm_from hw84
        exact hw84
    · have i111 := nleI c67
      refine wf_bnd (fun s89 e90 => ?_)
      have hw91 : WX s89 := by rw [e90]; exact wxF5 hw41 (by omega)
      have n92 := congrArg Int32.toInt (show rF s89 1 = rF r39.2 1 by rw [e90]; exact sF_other (by decide))
      have n93 := congrArg Int32.toInt (show rF s89 3 = rF r39.2 3 by rw [e90]; exact sF_other (by decide))
      have n94 := congrArg Int32.toInt (show rF s89 4 = rF r39.2 4 by rw [e90]; exact sF_other (by decide))
      refine wf_bnd (fun s95 e96 => ?_)
      have hw97 : WX s95 := by rw [e96]; exact wxT hw91
      have f98 := congrArg Int32.toInt (show rF s95 1 = 0 by rw [e96]; exact sF_same9)
      have n99 := congrArg Int32.toInt (show rF s95 3 = rF s89 3 by rw [e96]; exact sF_other (by decide))
      have n100 := congrArg Int32.toInt (show rF s95 4 = rF s89 4 by rw [e96]; exact sF_other (by decide))
      have n101 := congrArg Int32.toInt (show rF s95 5 = rF s89 5 by rw [e96]; exact sF_other (by decide))
      refine wf_ite (fun c102 => ?_) (fun c102 => ?_)
      · have i109 := eqI c102
        have hw107 : WM s95 := wx_wm hw97 (by omega)
        exact hw107
      · have i108 := neI c102
        refine wf_bnd (fun r103 e104 => ?_)
        have hw105 : WM r103 := by rw [e104]; exact wxRow hw97
        have me104 := row0 (show 3 ≠ 0 by decide) e104
        have w106 := wm_from hw105
        exact hw105
  · have i112 := neI c43
    refine wf_bnd (fun s44 e45 => ?_)
    have hw46 : WX s44 := by rw [e45]; exact wxF5 hw41 (by omega)
    have n47 := congrArg Int32.toInt (show rF s44 1 = rF r39.2 1 by rw [e45]; exact sF_other (by decide))
    have n48 := congrArg Int32.toInt (show rF s44 3 = rF r39.2 3 by rw [e45]; exact sF_other (by decide))
    have n49 := congrArg Int32.toInt (show rF s44 4 = rF r39.2 4 by rw [e45]; exact sF_other (by decide))
    refine wf_bnd (fun s50 e51 => ?_)
    have hw52 : WX s50 := by rw [e51]; exact wxT hw46
    have f53 := congrArg Int32.toInt (show rF s50 1 = 0 by rw [e51]; exact sF_same9)
    have n54 := congrArg Int32.toInt (show rF s50 3 = rF s44 3 by rw [e51]; exact sF_other (by decide))
    have n55 := congrArg Int32.toInt (show rF s50 4 = rF s44 4 by rw [e51]; exact sF_other (by decide))
    have n56 := congrArg Int32.toInt (show rF s50 5 = rF s44 5 by rw [e51]; exact sF_other (by decide))
    refine wf_ite (fun c57 => ?_) (fun c57 => ?_)
    · have i64 := eqI c57
      have hw62 : WM s50 := wx_wm hw52 (by omega)
      exact hw62
    · have i63 := neI c57
      refine wf_bnd (fun r58 e59 => ?_)
      have hw60 : WM r58 := by rw [e59]; exact wxRow hw52
      have me59 := row0 (show 3 ≠ 0 by decide) e59
      have w61 := wm_from hw60
      exact hw60
theorem hdV_X5_deedTold : yX5_deedTold.cls = RX5 ∧ yX5_deedTold.cls ≠ "java/lang/invoke/MethodHandle" ∧ yX5_deedTold.cls ≠ "java/lang/invoke/VarHandle" ∧ (parseMethodDescriptor yX5_deedTold.desc).map (fun d => d.parameters.length) = some 1 := by decide +kernel
theorem mX5_deedTold_f9 : Cond.fieldLink RX5 9 "WaxTreatiesModel" "now" "[I" ∈ wsX5_deedTold := List.mem_of_getElem? (i := 1) rfl
theorem iwX5_deedTold_X5 : ∀ w ∈ wsX50, w ∈ wsX5_deedTold := fun w h => List.mem_cons_of_mem _ (List.mem_append_right _ h)
theorem mX5_deedTold_f191 : Cond.fieldLink RX5 191 "WaxTreatiesModel" "isWrong" "Z" ∈ wsX5_deedTold := List.mem_of_getElem? (i := 2) rfl
set_option maxRecDepth 100000 in
set_option maxHeartbeats 4000000 in
theorem kX5_deedTold (l : Launch) {G : gT} (hN : wN G) (hG : gfl G = false) (v1 : Int32) (σ : sg) (hw : WM σ) (ho : (rF σ 3).toInt ≤ (rF σ 4).toInt) : cM l yX5_deedTold wsX5_deedTold rmX5_deedTold G [.ref (gob G 0), .int v1] σ none (fX5_deedTold v1 σ) := by
  refine cM_of (maxL := 5) (ret := none) (cc := cX5_deedTold) (fX5_deedTold v1 σ) RX5 hN (by decide +kernel) rfl rfl (Nat.le_of_ble_eq_true rfl) rfl ?_
  intro p e s m args below meth c K hr
  have k0 : (0 : Int32).toInt = 0 := rfl
  have k1 : (1 : Int32).toInt = 1 := rfl
  have k8 : (8 : Int32).toInt = 8 := rfl
  have k48 : (48 : Int32).toInt = 48 := rfl
  have k72 : (72 : Int32).toInt = 72 := rfl
  have k99 : (99 : Int32).toInt = 99 := rfl
  refine qq_st (lv' := [some (.ref (gob G 0)), some (.int v1), none, none, none]) rfl rfl rfl ?_
  refine qq_T (fX5_deedTold.eq_1 ..) ?_
  refine q_aload_n (pc := 0) K dX5_deedTold_0 rfl rfl ?_
  refine q_aload_n (pc := 1) K dX5_deedTold_1 rfl rfl ?_
  refine q_get (pc := 2) (o := 0) (f := 0) (v := .ref (gad G 0)) K (wO_m hG) vw_4 iwX5_deedTold_X5 (by decide) mX5_deedTold_f9 rfl dX5_deedTold_2 ?_
  refine q_iconst (pc := 5) (v := 0) K dX5_deedTold_5 (by decide) ?_
  refine q_iald (pc := 6) (a := 0) K (by rw [wna_f hG]; decide) (vinN (wlm (n := 80) hG 0 rfl) (by omega) (by omega)) dX5_deedTold_6 ?_
  have w1 := wm_many hw (show 0 < 4 by decide)
  refine q_bipush (pc := 7) (v := 8) K dX5_deedTold_7 (by decide) ?_
  refine q_icmp_ne (pc := 9) (tgt := 16) K dX5_deedTold_9 (by decide) (fun c2 => ?_) (fun c2 => ?_)
  · have i229 := neI c2
    refine q_iconst (pc := 16) (v := 0) K dX5_deedTold_16 (by decide) ?_
    refine q_put (pc := 17) (o := 0) (f := 12) (i := 5) (ty := .boolean) K tyX5 tyX5_ok nmX5 (wO_m hG) vw_4 iwX5_deedTold_X5 (by decide) mX5_deedTold_f191 rfl (tyX5_ok 12 (by decide)) rfl rfl (Nat.le_of_ble_eq_true rfl) (wP_m12 hG _) dX5_deedTold_17 (fun s3 e4 => ?_)
    have hw5 : WM s3 := by rw [e4]; exact wmF hw (by omega)
    have n6 := congrArg Int32.toInt (show rF s3 1 = rF σ 1 by rw [e4]; exact sF_other (by decide))
    have n7 := congrArg Int32.toInt (show rF s3 3 = rF σ 3 by rw [e4]; exact sF_other (by decide))
    have n8 := congrArg Int32.toInt (show rF s3 4 = rF σ 4 by rw [e4]; exact sF_other (by decide))
    have n9 := manyF e4
    have n10 := congrArg Int32.toInt (show rF s3 5 = 0 by rw [e4]; exact sF_same9)
    refine q_aload_n (pc := 20) K dX5_deedTold_20 rfl rfl ?_
    refine q_get (pc := 21) (o := 0) (f := 12) (v := .int (rF s3 5)) K (wO_m hG) vw_4 iwX5_deedTold_X5 (by decide) mX5_deedTold_f191 rfl dX5_deedTold_21 ?_
    refine q_if_eq (pc := 24) (tgt := 28) K dX5_deedTold_24 (by decide) (fun c11 => ?_) (fun c11 => ?_)
    · have i114 := eqI c11
      refine q_aload_n (pc := 28) K dX5_deedTold_28 rfl rfl ?_
      refine q_callVv (pc := 29) (o := 0) (rm := rmX5_next) K (kX5_next l hN hG  s3 hw5) gX5_deedTold_X5_next rfl hdV_X5_next ⟨Nat.le_of_ble_eq_true rfl, Nat.le_of_ble_eq_true rfl⟩ rfl rfl ⟨Nat.zero_le _, Nat.zero_le _⟩ (wO_m hG) vw_4 rfl rfl (Nat.le_of_ble_eq_true rfl) dX5_deedTold_29 ?_
      refine qq_nmV (fun r12 e13 => ?_)
      have hw14 : WM r12 := by rw [e13]; exact wX5_next  hw5 
      have nxe13 := nx_R e13
      have nye13 := nx_M hw5 e13
      refine q_aload_n (pc := 32) K dX5_deedTold_32 rfl rfl ?_
      refine q_callVi (pc := 33) (o := 0) (rm := rmX5_shelfTold) K (kX5_shelfTold l hN hG  r12 hw14) gX5_deedTold_X5_shelfTold rfl hdV_X5_shelfTold ⟨Nat.le_of_ble_eq_true rfl, Nat.le_of_ble_eq_true rfl⟩ rfl rfl ⟨Nat.zero_le _, Nat.zero_le _⟩ (wO_m hG) vw_4 rfl rfl (Nat.le_of_ble_eq_true rfl) dX5_deedTold_33 ?_
      refine qq_nmI (fun r15 e16 => ?_)
      have hw17 : WM r15.2 := by rw [e16]; exact wX5_shelfTold  hw14 
      have ste16 := st_R e16
      have sme16 := nmB (st_M hw14 e16 (by omega))
      refine q_istore_n (pc := 36) (lv' := [some (.ref (gob G 0)), some (.int v1), some (.int r15.1), none, none]) K dX5_deedTold_36 rfl (by decide) (Nat.le_of_ble_eq_true rfl) rfl ?_
      refine q_aload_n (pc := 37) K dX5_deedTold_37 rfl rfl ?_
      refine q_get (pc := 38) (o := 0) (f := 12) (v := .int (rF r15.2 5)) K (wO_m hG) vw_4 iwX5_deedTold_X5 (by decide) mX5_deedTold_f191 rfl dX5_deedTold_38 ?_
      refine q_if_eq (pc := 41) (tgt := 45) K dX5_deedTold_41 (by decide) (fun c18 => ?_) (fun c18 => ?_)
      · have i112 := eqI c18
        refine q_aload_n (pc := 45) K dX5_deedTold_45 rfl rfl ?_
        refine q_get (pc := 46) (o := 0) (f := 0) (v := .ref (gad G 0)) K (wO_m hG) vw_4 iwX5_deedTold_X5 (by decide) mX5_deedTold_f9 rfl dX5_deedTold_46 ?_
        refine q_iconst (pc := 49) (v := 0) K dX5_deedTold_49 (by decide) ?_
        refine q_iald (pc := 50) (a := 0) K (by rw [wna_f hG]; decide) (vinN (wlm (n := 80) hG 0 rfl) (by omega) (by omega)) dX5_deedTold_50 ?_
        have w19 := wm_many hw17 (show 0 < 4 by decide)
        refine q_istore_n (pc := 51) (lv' := [some (.ref (gob G 0)), some (.int v1), some (.int r15.1), some (.int (rA r15.2 0 0)), none]) K dX5_deedTold_51 rfl (by decide) (Nat.le_of_ble_eq_true rfl) rfl ?_
        refine q_aload_n (pc := 52) K dX5_deedTold_52 rfl rfl ?_
        refine q_iload_n (pc := 53) K dX5_deedTold_53 rfl rfl ?_
        refine q_iload_n (pc := 54) K dX5_deedTold_54 rfl rfl ?_
        refine q_callVv (pc := 55) (o := 0) (rm := rmX5_lays) K (kX5_lays l hN hG v1 r15.1 r15.2 hw17 (by omega) (by omega)) gX5_deedTold_X5_lays rfl hdV_X5_lays ⟨Nat.le_of_ble_eq_true rfl, Nat.le_of_ble_eq_true rfl⟩ rfl rfl ⟨Nat.zero_le _, Nat.zero_le _⟩ (wO_m hG) vw_4 rfl rfl (Nat.le_of_ble_eq_true rfl) dX5_deedTold_55 ?_
        refine qq_nmV (fun r20 e21 => ?_)
        have hw22 : WM r20 := by rw [e21]; exact wX5_lays v1 r15.1 hw17 (by omega) (by omega)
        have lye21 := ly_R hw17 (by omega) e21
        have lze21 := ly_M e21
        refine q_aload_n (pc := 58) K dX5_deedTold_58 rfl rfl ?_
        refine q_ldcs (pc := 59) (i := 11) (tx := "wax") K (by decide +kernel) dX5_deedTold_59 ?_
        refine q_callVi (pc := 61) (o := 0) (rm := rmX5_takes) K (kX5_takes l hN hG 11 (by decide) r20 hw22) gX5_deedTold_X5_takes rfl hdV_X5_takes ⟨Nat.le_of_ble_eq_true rfl, Nat.le_of_ble_eq_true rfl⟩ rfl rfl ⟨Nat.zero_le _, Nat.zero_le _⟩ (wO_m hG) vw_4 rfl rfl (Nat.le_of_ble_eq_true rfl) dX5_deedTold_61 ?_
        refine qq_nmI (fun r23 e24 => ?_)
        have hw25 : WM r23.2 := by rw [e24]; exact wX5_takes 11 (by decide) hw22 
        have tke24 := tk_R e24
        have tme24 := nmB (tk_M hw22 e24 (by omega))
        refine q_if_eq (pc := 64) (tgt := 108) K dX5_deedTold_64 (by decide) (fun c26 => ?_) (fun c26 => ?_)
        · have i110 := eqI c26
          refine q_aload_n (pc := 108) K dX5_deedTold_108 rfl rfl ?_
          refine q_ldcs (pc := 109) (i := 12) (tx := "on") K (by decide +kernel) dX5_deedTold_109 ?_
          refine q_callVi (pc := 111) (o := 0) (rm := rmX5_takes) K (kX5_takes l hN hG 12 (by decide) r23.2 hw25) gX5_deedTold_X5_takes rfl hdV_X5_takes ⟨Nat.le_of_ble_eq_true rfl, Nat.le_of_ble_eq_true rfl⟩ rfl rfl ⟨Nat.zero_le _, Nat.zero_le _⟩ (wO_m hG) vw_4 rfl rfl (Nat.le_of_ble_eq_true rfl) dX5_deedTold_111 ?_
          refine qq_nmI (fun r27 e28 => ?_)
          have hw29 : WM r27.2 := by rw [e28]; exact wX5_takes 12 (by decide) hw25 
          have tke28 := tk_R e28
          have tme28 := nmB (tk_M hw25 e28 (by omega))
          refine q_if_eq (pc := 114) (tgt := 133) K dX5_deedTold_114 (by decide) (fun c30 => ?_) (fun c30 => ?_)
          · have i40 := eqI c30
            exact q_vretW K hr dX5_deedTold_133
          · have i41 := neI c30
            refine q_aload_n (pc := 117) K dX5_deedTold_117 rfl rfl ?_
            refine q_get (pc := 118) (o := 0) (f := 0) (v := .ref (gad G 0)) K (wO_m hG) vw_4 iwX5_deedTold_X5 (by decide) mX5_deedTold_f9 rfl dX5_deedTold_118 ?_
            refine q_bipush (pc := 121) (v := 72) K dX5_deedTold_121 (by decide) ?_
            refine q_iload_n (pc := 123) K dX5_deedTold_123 rfl rfl ?_
            refine q_iadd (pc := 124) K dX5_deedTold_124 ?_
            refine q_aload_n (pc := 125) K dX5_deedTold_125 rfl rfl ?_
            refine q_iload_n (pc := 126) K dX5_deedTold_126 rfl rfl ?_
            refine q_iconst (pc := 127) (v := 1) K dX5_deedTold_127 (by decide) ?_
            refine q_isub (pc := 128) K dX5_deedTold_128 ?_
            have a31 := subI (x := (rA r15.2 0 0)) (y := 1) (by omega) (by omega)
            refine q_callVi (pc := 129) (o := 0) (rm := rmX5_number) K (kX5_number l hN hG ((rA r15.2 0 0) - 1) r27.2 hw29) gX5_deedTold_X5_number rfl hdV_X5_number ⟨Nat.le_of_ble_eq_true rfl, Nat.le_of_ble_eq_true rfl⟩ rfl rfl ⟨Nat.zero_le _, Nat.zero_le _⟩ (wO_m hG) vw_4 rfl rfl (Nat.le_of_ble_eq_true rfl) dX5_deedTold_129 ?_
            refine qq_nmI (fun r32 e33 => ?_)
            have hw34 : WM r32.2 := by rw [e33]; exact wX5_number ((rA r15.2 0 0) - 1) hw29 
            have nme33 := nm_R e33
            have noe33 := nmB (nm_M hw29 e33 (by omega))
            have a35 := addI (x := 72) (y := (rA r15.2 0 0)) (by omega) (by omega)
            refine q_iast (pc := 132) (a := 0) K (by rw [wna_f hG]; decide) (vinN (wlm (n := 80) hG 0 rfl) (by omega) (by omega)) dX5_deedTold_132 (fun s36 e37 => ?_)
            have hw38 : WX s36 := by rw [e37]; exact wxOn hw34 (by omega) (by omega) (by omega) (by omega)
            have m39 := fldA e37
            exact q_vretW K hr dX5_deedTold_133
        · have i111 := neI c26
          refine q_aload_n (pc := 67) K dX5_deedTold_67 rfl rfl ?_
          refine q_callVi (pc := 68) (o := 0) (rm := rmX5_numberHere) K (kX5_numberHere l hN hG  r23.2 hw25) gX5_deedTold_X5_numberHere rfl hdV_X5_numberHere ⟨Nat.le_of_ble_eq_true rfl, Nat.le_of_ble_eq_true rfl⟩ rfl rfl ⟨Nat.zero_le _, Nat.zero_le _⟩ (wO_m hG) vw_4 rfl rfl (Nat.le_of_ble_eq_true rfl) dX5_deedTold_68 ?_
          refine q_istore (pc := 71) (lv' := [some (.ref (gob G 0)), some (.int v1), some (.int r15.1), some (.int (rA r15.2 0 0)), some (.int (fX5_numberHere r23.2))]) K dX5_deedTold_71 (by decide) (Nat.le_of_ble_eq_true rfl) rfl ?_
          refine q_aload_n (pc := 73) K dX5_deedTold_73 rfl rfl ?_
          refine q_iload (pc := 74) K dX5_deedTold_74 rfl ?_
          refine q_iconst (pc := 76) (v := 1) K dX5_deedTold_76 (by decide) ?_
          refine q_bipush (pc := 77) (v := 99) K dX5_deedTold_77 (by decide) ?_
          refine q_callSi (pc := 79) (rm := rmX5_within) K (kX5_within l hN (fX5_numberHere r23.2) 1 99 r23.2) gX5_deedTold_X5_within rfl hdS_X5_within ⟨Nat.le_of_ble_eq_true rfl, Nat.le_of_ble_eq_true rfl⟩ rfl rfl ⟨Nat.zero_le _, Nat.zero_le _⟩ rfl rfl (Nat.le_of_ble_eq_true rfl) dX5_deedTold_79 ?_
          refine q_if_ne (pc := 82) (tgt := 89) K dX5_deedTold_82 (by decide) (fun c42 => ?_) (fun c42 => ?_)
          · have i107 := neI c42
            have b108 := wi_t c42
            refine q_iconst (pc := 89) (v := 0) K dX5_deedTold_89 (by decide) ?_
            refine q_put (pc := 90) (o := 0) (f := 12) (i := 5) (ty := .boolean) K tyX5 tyX5_ok nmX5 (wO_m hG) vw_4 iwX5_deedTold_X5 (by decide) mX5_deedTold_f191 rfl (tyX5_ok 12 (by decide)) rfl rfl (Nat.le_of_ble_eq_true rfl) (wP_m12 hG _) dX5_deedTold_90 (fun s43 e44 => ?_)
            have hw45 : WM s43 := by rw [e44]; exact wmF hw25 (by omega)
            have n46 := congrArg Int32.toInt (show rF s43 1 = rF r23.2 1 by rw [e44]; exact sF_other (by decide))
            have n47 := congrArg Int32.toInt (show rF s43 3 = rF r23.2 3 by rw [e44]; exact sF_other (by decide))
            have n48 := congrArg Int32.toInt (show rF s43 4 = rF r23.2 4 by rw [e44]; exact sF_other (by decide))
            have n49 := manyF e44
            have n50 := congrArg Int32.toInt (show rF s43 5 = 0 by rw [e44]; exact sF_same9)
            refine q_aload_n (pc := 93) K dX5_deedTold_93 rfl rfl ?_
            refine q_get (pc := 94) (o := 0) (f := 0) (v := .ref (gad G 0)) K (wO_m hG) vw_4 iwX5_deedTold_X5 (by decide) mX5_deedTold_f9 rfl dX5_deedTold_94 ?_
            refine q_bipush (pc := 97) (v := 48) K dX5_deedTold_97 (by decide) ?_
            refine q_iload_n (pc := 99) K dX5_deedTold_99 rfl rfl ?_
            refine q_iadd (pc := 100) K dX5_deedTold_100 ?_
            refine q_aload_n (pc := 101) K dX5_deedTold_101 rfl rfl ?_
            refine q_bipush (pc := 102) (v := 99) K dX5_deedTold_102 (by decide) ?_
            refine q_callVi (pc := 104) (o := 0) (rm := rmX5_number) K (kX5_number l hN hG 99 s43 hw45) gX5_deedTold_X5_number rfl hdV_X5_number ⟨Nat.le_of_ble_eq_true rfl, Nat.le_of_ble_eq_true rfl⟩ rfl rfl ⟨Nat.zero_le _, Nat.zero_le _⟩ (wO_m hG) vw_4 rfl rfl (Nat.le_of_ble_eq_true rfl) dX5_deedTold_104 ?_
            refine qq_nmI (fun r51 e52 => ?_)
            have hw53 : WM r51.2 := by rw [e52]; exact wX5_number 99 hw45 
            have nme52 := nm_R e52
            have noe52 := nmB (nm_M hw45 e52 (by omega))
            have a54 := addI (x := 48) (y := (rA r15.2 0 0)) (by omega) (by omega)
            refine q_iast (pc := 107) (a := 0) K (by rw [wna_f hG]; decide) (vinN (wlm (n := 80) hG 0 rfl) (by omega) (by omega)) dX5_deedTold_107 (fun s55 e56 => ?_)
            have hw57 : WM s55 := by rw [e56]; exact wmRn hw53 (by decide) (by omega) (by omega) (by omega) (by omega)
            have m58 := mKeep e56 (by omega)
            have m59 := fldA e56
            refine q_aload_n (pc := 108) K dX5_deedTold_108 rfl rfl ?_
            refine q_ldcs (pc := 109) (i := 12) (tx := "on") K (by decide +kernel) dX5_deedTold_109 ?_
            refine q_callVi (pc := 111) (o := 0) (rm := rmX5_takes) K (kX5_takes l hN hG 12 (by decide) s55 hw57) gX5_deedTold_X5_takes rfl hdV_X5_takes ⟨Nat.le_of_ble_eq_true rfl, Nat.le_of_ble_eq_true rfl⟩ rfl rfl ⟨Nat.zero_le _, Nat.zero_le _⟩ (wO_m hG) vw_4 rfl rfl (Nat.le_of_ble_eq_true rfl) dX5_deedTold_111 ?_
            refine qq_nmI (fun r60 e61 => ?_)
            have hw62 : WM r60.2 := by rw [e61]; exact wX5_takes 12 (by decide) hw57 
            have tke61 := tk_R e61
            have tme61 := nmB (tk_M hw57 e61 (by omega))
            refine q_if_eq (pc := 114) (tgt := 133) K dX5_deedTold_114 (by decide) (fun c63 => ?_) (fun c63 => ?_)
            · have i73 := eqI c63
              exact q_vretW K hr dX5_deedTold_133
            · have i74 := neI c63
              refine q_aload_n (pc := 117) K dX5_deedTold_117 rfl rfl ?_
              refine q_get (pc := 118) (o := 0) (f := 0) (v := .ref (gad G 0)) K (wO_m hG) vw_4 iwX5_deedTold_X5 (by decide) mX5_deedTold_f9 rfl dX5_deedTold_118 ?_
              refine q_bipush (pc := 121) (v := 72) K dX5_deedTold_121 (by decide) ?_
              refine q_iload_n (pc := 123) K dX5_deedTold_123 rfl rfl ?_
              refine q_iadd (pc := 124) K dX5_deedTold_124 ?_
              refine q_aload_n (pc := 125) K dX5_deedTold_125 rfl rfl ?_
              refine q_iload_n (pc := 126) K dX5_deedTold_126 rfl rfl ?_
              refine q_iconst (pc := 127) (v := 1) K dX5_deedTold_127 (by decide) ?_
              refine q_isub (pc := 128) K dX5_deedTold_128 ?_
              have a64 := subI (x := (rA r15.2 0 0)) (y := 1) (by omega) (by omega)
              refine q_callVi (pc := 129) (o := 0) (rm := rmX5_number) K (kX5_number l hN hG ((rA r15.2 0 0) - 1) r60.2 hw62) gX5_deedTold_X5_number rfl hdV_X5_number ⟨Nat.le_of_ble_eq_true rfl, Nat.le_of_ble_eq_true rfl⟩ rfl rfl ⟨Nat.zero_le _, Nat.zero_le _⟩ (wO_m hG) vw_4 rfl rfl (Nat.le_of_ble_eq_true rfl) dX5_deedTold_129 ?_
              refine qq_nmI (fun r65 e66 => ?_)
              have hw67 : WM r65.2 := by rw [e66]; exact wX5_number ((rA r15.2 0 0) - 1) hw62 
              have nme66 := nm_R e66
              have noe66 := nmB (nm_M hw62 e66 (by omega))
              have a68 := addI (x := 72) (y := (rA r15.2 0 0)) (by omega) (by omega)
              refine q_iast (pc := 132) (a := 0) K (by rw [wna_f hG]; decide) (vinN (wlm (n := 80) hG 0 rfl) (by omega) (by omega)) dX5_deedTold_132 (fun s69 e70 => ?_)
              have hw71 : WX s69 := by rw [e70]; exact wxOn hw67 (by omega) (by omega) (by omega) (by omega)
              have m72 := fldA e70
              exact q_vretW K hr dX5_deedTold_133
          · have i109 := eqI c42
            refine q_iconst (pc := 85) (v := 1) K dX5_deedTold_85 (by decide) ?_
            refine q_goto (pc := 86) (tgt := 90) K dX5_deedTold_86 (by decide) ?_
            refine q_put (pc := 90) (o := 0) (f := 12) (i := 5) (ty := .boolean) K tyX5 tyX5_ok nmX5 (wO_m hG) vw_4 iwX5_deedTold_X5 (by decide) mX5_deedTold_f191 rfl (tyX5_ok 12 (by decide)) rfl rfl (Nat.le_of_ble_eq_true rfl) (wP_m12 hG _) dX5_deedTold_90 (fun s75 e76 => ?_)
            have hw77 : WM s75 := by rw [e76]; exact wmF hw25 (by omega)
            have n78 := congrArg Int32.toInt (show rF s75 1 = rF r23.2 1 by rw [e76]; exact sF_other (by decide))
            have n79 := congrArg Int32.toInt (show rF s75 3 = rF r23.2 3 by rw [e76]; exact sF_other (by decide))
            have n80 := congrArg Int32.toInt (show rF s75 4 = rF r23.2 4 by rw [e76]; exact sF_other (by decide))
            have n81 := manyF e76
            have n82 := congrArg Int32.toInt (show rF s75 5 = 1 by rw [e76]; exact sF_same9)
            refine q_aload_n (pc := 93) K dX5_deedTold_93 rfl rfl ?_
            refine q_get (pc := 94) (o := 0) (f := 0) (v := .ref (gad G 0)) K (wO_m hG) vw_4 iwX5_deedTold_X5 (by decide) mX5_deedTold_f9 rfl dX5_deedTold_94 ?_
            refine q_bipush (pc := 97) (v := 48) K dX5_deedTold_97 (by decide) ?_
            refine q_iload_n (pc := 99) K dX5_deedTold_99 rfl rfl ?_
            refine q_iadd (pc := 100) K dX5_deedTold_100 ?_
            refine q_aload_n (pc := 101) K dX5_deedTold_101 rfl rfl ?_
            refine q_bipush (pc := 102) (v := 99) K dX5_deedTold_102 (by decide) ?_
            refine q_callVi (pc := 104) (o := 0) (rm := rmX5_number) K (kX5_number l hN hG 99 s75 hw77) gX5_deedTold_X5_number rfl hdV_X5_number ⟨Nat.le_of_ble_eq_true rfl, Nat.le_of_ble_eq_true rfl⟩ rfl rfl ⟨Nat.zero_le _, Nat.zero_le _⟩ (wO_m hG) vw_4 rfl rfl (Nat.le_of_ble_eq_true rfl) dX5_deedTold_104 ?_
            refine qq_nmI (fun r83 e84 => ?_)
            have hw85 : WM r83.2 := by rw [e84]; exact wX5_number 99 hw77 
            have nme84 := nm_R e84
            have noe84 := nmB (nm_M hw77 e84 (by omega))
            have a86 := addI (x := 48) (y := (rA r15.2 0 0)) (by omega) (by omega)
            refine q_iast (pc := 107) (a := 0) K (by rw [wna_f hG]; decide) (vinN (wlm (n := 80) hG 0 rfl) (by omega) (by omega)) dX5_deedTold_107 (fun s87 e88 => ?_)
            have hw89 : WM s87 := by rw [e88]; exact wmRn hw85 (by decide) (by omega) (by omega) (by omega) (by omega)
            have m90 := mKeep e88 (by omega)
            have m91 := fldA e88
            refine q_aload_n (pc := 108) K dX5_deedTold_108 rfl rfl ?_
            refine q_ldcs (pc := 109) (i := 12) (tx := "on") K (by decide +kernel) dX5_deedTold_109 ?_
            refine q_callVi (pc := 111) (o := 0) (rm := rmX5_takes) K (kX5_takes l hN hG 12 (by decide) s87 hw89) gX5_deedTold_X5_takes rfl hdV_X5_takes ⟨Nat.le_of_ble_eq_true rfl, Nat.le_of_ble_eq_true rfl⟩ rfl rfl ⟨Nat.zero_le _, Nat.zero_le _⟩ (wO_m hG) vw_4 rfl rfl (Nat.le_of_ble_eq_true rfl) dX5_deedTold_111 ?_
            refine qq_nmI (fun r92 e93 => ?_)
            have hw94 : WM r92.2 := by rw [e93]; exact wX5_takes 12 (by decide) hw89 
            have tke93 := tk_R e93
            have tme93 := nmB (tk_M hw89 e93 (by omega))
            refine q_if_eq (pc := 114) (tgt := 133) K dX5_deedTold_114 (by decide) (fun c95 => ?_) (fun c95 => ?_)
            · have i105 := eqI c95
              exact q_vretW K hr dX5_deedTold_133
            · have i106 := neI c95
              refine q_aload_n (pc := 117) K dX5_deedTold_117 rfl rfl ?_
              refine q_get (pc := 118) (o := 0) (f := 0) (v := .ref (gad G 0)) K (wO_m hG) vw_4 iwX5_deedTold_X5 (by decide) mX5_deedTold_f9 rfl dX5_deedTold_118 ?_
              refine q_bipush (pc := 121) (v := 72) K dX5_deedTold_121 (by decide) ?_
              refine q_iload_n (pc := 123) K dX5_deedTold_123 rfl rfl ?_
              refine q_iadd (pc := 124) K dX5_deedTold_124 ?_
              refine q_aload_n (pc := 125) K dX5_deedTold_125 rfl rfl ?_
              refine q_iload_n (pc := 126) K dX5_deedTold_126 rfl rfl ?_
              refine q_iconst (pc := 127) (v := 1) K dX5_deedTold_127 (by decide) ?_
              refine q_isub (pc := 128) K dX5_deedTold_128 ?_
              have a96 := subI (x := (rA r15.2 0 0)) (y := 1) (by omega) (by omega)
              refine q_callVi (pc := 129) (o := 0) (rm := rmX5_number) K (kX5_number l hN hG ((rA r15.2 0 0) - 1) r92.2 hw94) gX5_deedTold_X5_number rfl hdV_X5_number ⟨Nat.le_of_ble_eq_true rfl, Nat.le_of_ble_eq_true rfl⟩ rfl rfl ⟨Nat.zero_le _, Nat.zero_le _⟩ (wO_m hG) vw_4 rfl rfl (Nat.le_of_ble_eq_true rfl) dX5_deedTold_129 ?_
              refine qq_nmI (fun r97 e98 => ?_)
              have hw99 : WM r97.2 := by rw [e98]; exact wX5_number ((rA r15.2 0 0) - 1) hw94 
              have nme98 := nm_R e98
              have noe98 := nmB (nm_M hw94 e98 (by omega))
              have a100 := addI (x := 72) (y := (rA r15.2 0 0)) (by omega) (by omega)
              refine q_iast (pc := 132) (a := 0) K (by rw [wna_f hG]; decide) (vinN (wlm (n := 80) hG 0 rfl) (by omega) (by omega)) dX5_deedTold_132 (fun s101 e102 => ?_)
              have hw103 : WX s101 := by rw [e102]; exact wxOn hw99 (by omega) (by omega) (by omega) (by omega)
              have m104 := fldA e102
              exact q_vretW K hr dX5_deedTold_133
      · have i113 := neI c18
        exact q_vretW K hr dX5_deedTold_44
    · have i115 := neI c11
      exact q_vretW K hr dX5_deedTold_27
  · have i230 := eqI c2
    refine q_iconst (pc := 12) (v := 1) K dX5_deedTold_12 (by decide) ?_
    refine q_goto (pc := 13) (tgt := 17) K dX5_deedTold_13 (by decide) ?_
    refine q_put (pc := 17) (o := 0) (f := 12) (i := 5) (ty := .boolean) K tyX5 tyX5_ok nmX5 (wO_m hG) vw_4 iwX5_deedTold_X5 (by decide) mX5_deedTold_f191 rfl (tyX5_ok 12 (by decide)) rfl rfl (Nat.le_of_ble_eq_true rfl) (wP_m12 hG _) dX5_deedTold_17 (fun s116 e117 => ?_)
    have hw118 : WM s116 := by rw [e117]; exact wmF hw (by omega)
    have n119 := congrArg Int32.toInt (show rF s116 1 = rF σ 1 by rw [e117]; exact sF_other (by decide))
    have n120 := congrArg Int32.toInt (show rF s116 3 = rF σ 3 by rw [e117]; exact sF_other (by decide))
    have n121 := congrArg Int32.toInt (show rF s116 4 = rF σ 4 by rw [e117]; exact sF_other (by decide))
    have n122 := manyF e117
    have n123 := congrArg Int32.toInt (show rF s116 5 = 1 by rw [e117]; exact sF_same9)
    refine q_aload_n (pc := 20) K dX5_deedTold_20 rfl rfl ?_
    refine q_get (pc := 21) (o := 0) (f := 12) (v := .int (rF s116 5)) K (wO_m hG) vw_4 iwX5_deedTold_X5 (by decide) mX5_deedTold_f191 rfl dX5_deedTold_21 ?_
    refine q_if_eq (pc := 24) (tgt := 28) K dX5_deedTold_24 (by decide) (fun c124 => ?_) (fun c124 => ?_)
    · have i227 := eqI c124
      refine q_aload_n (pc := 28) K dX5_deedTold_28 rfl rfl ?_
      refine q_callVv (pc := 29) (o := 0) (rm := rmX5_next) K (kX5_next l hN hG  s116 hw118) gX5_deedTold_X5_next rfl hdV_X5_next ⟨Nat.le_of_ble_eq_true rfl, Nat.le_of_ble_eq_true rfl⟩ rfl rfl ⟨Nat.zero_le _, Nat.zero_le _⟩ (wO_m hG) vw_4 rfl rfl (Nat.le_of_ble_eq_true rfl) dX5_deedTold_29 ?_
      refine qq_nmV (fun r125 e126 => ?_)
      have hw127 : WM r125 := by rw [e126]; exact wX5_next  hw118 
      have nxe126 := nx_R e126
      have nye126 := nx_M hw118 e126
      refine q_aload_n (pc := 32) K dX5_deedTold_32 rfl rfl ?_
      refine q_callVi (pc := 33) (o := 0) (rm := rmX5_shelfTold) K (kX5_shelfTold l hN hG  r125 hw127) gX5_deedTold_X5_shelfTold rfl hdV_X5_shelfTold ⟨Nat.le_of_ble_eq_true rfl, Nat.le_of_ble_eq_true rfl⟩ rfl rfl ⟨Nat.zero_le _, Nat.zero_le _⟩ (wO_m hG) vw_4 rfl rfl (Nat.le_of_ble_eq_true rfl) dX5_deedTold_33 ?_
      refine qq_nmI (fun r128 e129 => ?_)
      have hw130 : WM r128.2 := by rw [e129]; exact wX5_shelfTold  hw127 
      have ste129 := st_R e129
      have sme129 := nmB (st_M hw127 e129 (by omega))
      refine q_istore_n (pc := 36) (lv' := [some (.ref (gob G 0)), some (.int v1), some (.int r128.1), none, none]) K dX5_deedTold_36 rfl (by decide) (Nat.le_of_ble_eq_true rfl) rfl ?_
      refine q_aload_n (pc := 37) K dX5_deedTold_37 rfl rfl ?_
      refine q_get (pc := 38) (o := 0) (f := 12) (v := .int (rF r128.2 5)) K (wO_m hG) vw_4 iwX5_deedTold_X5 (by decide) mX5_deedTold_f191 rfl dX5_deedTold_38 ?_
      refine q_if_eq (pc := 41) (tgt := 45) K dX5_deedTold_41 (by decide) (fun c131 => ?_) (fun c131 => ?_)
      · have i225 := eqI c131
        refine q_aload_n (pc := 45) K dX5_deedTold_45 rfl rfl ?_
        refine q_get (pc := 46) (o := 0) (f := 0) (v := .ref (gad G 0)) K (wO_m hG) vw_4 iwX5_deedTold_X5 (by decide) mX5_deedTold_f9 rfl dX5_deedTold_46 ?_
        refine q_iconst (pc := 49) (v := 0) K dX5_deedTold_49 (by decide) ?_
        refine q_iald (pc := 50) (a := 0) K (by rw [wna_f hG]; decide) (vinN (wlm (n := 80) hG 0 rfl) (by omega) (by omega)) dX5_deedTold_50 ?_
        have w132 := wm_many hw130 (show 0 < 4 by decide)
        refine q_istore_n (pc := 51) (lv' := [some (.ref (gob G 0)), some (.int v1), some (.int r128.1), some (.int (rA r128.2 0 0)), none]) K dX5_deedTold_51 rfl (by decide) (Nat.le_of_ble_eq_true rfl) rfl ?_
        refine q_aload_n (pc := 52) K dX5_deedTold_52 rfl rfl ?_
        refine q_iload_n (pc := 53) K dX5_deedTold_53 rfl rfl ?_
        refine q_iload_n (pc := 54) K dX5_deedTold_54 rfl rfl ?_
        refine q_callVv (pc := 55) (o := 0) (rm := rmX5_lays) K (kX5_lays l hN hG v1 r128.1 r128.2 hw130 (by omega) (by omega)) gX5_deedTold_X5_lays rfl hdV_X5_lays ⟨Nat.le_of_ble_eq_true rfl, Nat.le_of_ble_eq_true rfl⟩ rfl rfl ⟨Nat.zero_le _, Nat.zero_le _⟩ (wO_m hG) vw_4 rfl rfl (Nat.le_of_ble_eq_true rfl) dX5_deedTold_55 ?_
        refine qq_nmV (fun r133 e134 => ?_)
        have hw135 : WM r133 := by rw [e134]; exact wX5_lays v1 r128.1 hw130 (by omega) (by omega)
        have lye134 := ly_R hw130 (by omega) e134
        have lze134 := ly_M e134
        refine q_aload_n (pc := 58) K dX5_deedTold_58 rfl rfl ?_
        refine q_ldcs (pc := 59) (i := 11) (tx := "wax") K (by decide +kernel) dX5_deedTold_59 ?_
        refine q_callVi (pc := 61) (o := 0) (rm := rmX5_takes) K (kX5_takes l hN hG 11 (by decide) r133 hw135) gX5_deedTold_X5_takes rfl hdV_X5_takes ⟨Nat.le_of_ble_eq_true rfl, Nat.le_of_ble_eq_true rfl⟩ rfl rfl ⟨Nat.zero_le _, Nat.zero_le _⟩ (wO_m hG) vw_4 rfl rfl (Nat.le_of_ble_eq_true rfl) dX5_deedTold_61 ?_
        refine qq_nmI (fun r136 e137 => ?_)
        have hw138 : WM r136.2 := by rw [e137]; exact wX5_takes 11 (by decide) hw135 
        have tke137 := tk_R e137
        have tme137 := nmB (tk_M hw135 e137 (by omega))
        refine q_if_eq (pc := 64) (tgt := 108) K dX5_deedTold_64 (by decide) (fun c139 => ?_) (fun c139 => ?_)
        · have i223 := eqI c139
          refine q_aload_n (pc := 108) K dX5_deedTold_108 rfl rfl ?_
          refine q_ldcs (pc := 109) (i := 12) (tx := "on") K (by decide +kernel) dX5_deedTold_109 ?_
          refine q_callVi (pc := 111) (o := 0) (rm := rmX5_takes) K (kX5_takes l hN hG 12 (by decide) r136.2 hw138) gX5_deedTold_X5_takes rfl hdV_X5_takes ⟨Nat.le_of_ble_eq_true rfl, Nat.le_of_ble_eq_true rfl⟩ rfl rfl ⟨Nat.zero_le _, Nat.zero_le _⟩ (wO_m hG) vw_4 rfl rfl (Nat.le_of_ble_eq_true rfl) dX5_deedTold_111 ?_
          refine qq_nmI (fun r140 e141 => ?_)
          have hw142 : WM r140.2 := by rw [e141]; exact wX5_takes 12 (by decide) hw138 
          have tke141 := tk_R e141
          have tme141 := nmB (tk_M hw138 e141 (by omega))
          refine q_if_eq (pc := 114) (tgt := 133) K dX5_deedTold_114 (by decide) (fun c143 => ?_) (fun c143 => ?_)
          · have i153 := eqI c143
            exact q_vretW K hr dX5_deedTold_133
          · have i154 := neI c143
            refine q_aload_n (pc := 117) K dX5_deedTold_117 rfl rfl ?_
            refine q_get (pc := 118) (o := 0) (f := 0) (v := .ref (gad G 0)) K (wO_m hG) vw_4 iwX5_deedTold_X5 (by decide) mX5_deedTold_f9 rfl dX5_deedTold_118 ?_
            refine q_bipush (pc := 121) (v := 72) K dX5_deedTold_121 (by decide) ?_
            refine q_iload_n (pc := 123) K dX5_deedTold_123 rfl rfl ?_
            refine q_iadd (pc := 124) K dX5_deedTold_124 ?_
            refine q_aload_n (pc := 125) K dX5_deedTold_125 rfl rfl ?_
            refine q_iload_n (pc := 126) K dX5_deedTold_126 rfl rfl ?_
            refine q_iconst (pc := 127) (v := 1) K dX5_deedTold_127 (by decide) ?_
            refine q_isub (pc := 128) K dX5_deedTold_128 ?_
            have a144 := subI (x := (rA r128.2 0 0)) (y := 1) (by omega) (by omega)
            refine q_callVi (pc := 129) (o := 0) (rm := rmX5_number) K (kX5_number l hN hG ((rA r128.2 0 0) - 1) r140.2 hw142) gX5_deedTold_X5_number rfl hdV_X5_number ⟨Nat.le_of_ble_eq_true rfl, Nat.le_of_ble_eq_true rfl⟩ rfl rfl ⟨Nat.zero_le _, Nat.zero_le _⟩ (wO_m hG) vw_4 rfl rfl (Nat.le_of_ble_eq_true rfl) dX5_deedTold_129 ?_
            refine qq_nmI (fun r145 e146 => ?_)
            have hw147 : WM r145.2 := by rw [e146]; exact wX5_number ((rA r128.2 0 0) - 1) hw142 
            have nme146 := nm_R e146
            have noe146 := nmB (nm_M hw142 e146 (by omega))
            have a148 := addI (x := 72) (y := (rA r128.2 0 0)) (by omega) (by omega)
            refine q_iast (pc := 132) (a := 0) K (by rw [wna_f hG]; decide) (vinN (wlm (n := 80) hG 0 rfl) (by omega) (by omega)) dX5_deedTold_132 (fun s149 e150 => ?_)
            have hw151 : WX s149 := by rw [e150]; exact wxOn hw147 (by omega) (by omega) (by omega) (by omega)
            have m152 := fldA e150
            exact q_vretW K hr dX5_deedTold_133
        · have i224 := neI c139
          refine q_aload_n (pc := 67) K dX5_deedTold_67 rfl rfl ?_
          refine q_callVi (pc := 68) (o := 0) (rm := rmX5_numberHere) K (kX5_numberHere l hN hG  r136.2 hw138) gX5_deedTold_X5_numberHere rfl hdV_X5_numberHere ⟨Nat.le_of_ble_eq_true rfl, Nat.le_of_ble_eq_true rfl⟩ rfl rfl ⟨Nat.zero_le _, Nat.zero_le _⟩ (wO_m hG) vw_4 rfl rfl (Nat.le_of_ble_eq_true rfl) dX5_deedTold_68 ?_
          refine q_istore (pc := 71) (lv' := [some (.ref (gob G 0)), some (.int v1), some (.int r128.1), some (.int (rA r128.2 0 0)), some (.int (fX5_numberHere r136.2))]) K dX5_deedTold_71 (by decide) (Nat.le_of_ble_eq_true rfl) rfl ?_
          refine q_aload_n (pc := 73) K dX5_deedTold_73 rfl rfl ?_
          refine q_iload (pc := 74) K dX5_deedTold_74 rfl ?_
          refine q_iconst (pc := 76) (v := 1) K dX5_deedTold_76 (by decide) ?_
          refine q_bipush (pc := 77) (v := 99) K dX5_deedTold_77 (by decide) ?_
          refine q_callSi (pc := 79) (rm := rmX5_within) K (kX5_within l hN (fX5_numberHere r136.2) 1 99 r136.2) gX5_deedTold_X5_within rfl hdS_X5_within ⟨Nat.le_of_ble_eq_true rfl, Nat.le_of_ble_eq_true rfl⟩ rfl rfl ⟨Nat.zero_le _, Nat.zero_le _⟩ rfl rfl (Nat.le_of_ble_eq_true rfl) dX5_deedTold_79 ?_
          refine q_if_ne (pc := 82) (tgt := 89) K dX5_deedTold_82 (by decide) (fun c155 => ?_) (fun c155 => ?_)
          · have i220 := neI c155
            have b221 := wi_t c155
            refine q_iconst (pc := 89) (v := 0) K dX5_deedTold_89 (by decide) ?_
            refine q_put (pc := 90) (o := 0) (f := 12) (i := 5) (ty := .boolean) K tyX5 tyX5_ok nmX5 (wO_m hG) vw_4 iwX5_deedTold_X5 (by decide) mX5_deedTold_f191 rfl (tyX5_ok 12 (by decide)) rfl rfl (Nat.le_of_ble_eq_true rfl) (wP_m12 hG _) dX5_deedTold_90 (fun s156 e157 => ?_)
            have hw158 : WM s156 := by rw [e157]; exact wmF hw138 (by omega)
            have n159 := congrArg Int32.toInt (show rF s156 1 = rF r136.2 1 by rw [e157]; exact sF_other (by decide))
            have n160 := congrArg Int32.toInt (show rF s156 3 = rF r136.2 3 by rw [e157]; exact sF_other (by decide))
            have n161 := congrArg Int32.toInt (show rF s156 4 = rF r136.2 4 by rw [e157]; exact sF_other (by decide))
            have n162 := manyF e157
            have n163 := congrArg Int32.toInt (show rF s156 5 = 0 by rw [e157]; exact sF_same9)
            refine q_aload_n (pc := 93) K dX5_deedTold_93 rfl rfl ?_
            refine q_get (pc := 94) (o := 0) (f := 0) (v := .ref (gad G 0)) K (wO_m hG) vw_4 iwX5_deedTold_X5 (by decide) mX5_deedTold_f9 rfl dX5_deedTold_94 ?_
            refine q_bipush (pc := 97) (v := 48) K dX5_deedTold_97 (by decide) ?_
            refine q_iload_n (pc := 99) K dX5_deedTold_99 rfl rfl ?_
            refine q_iadd (pc := 100) K dX5_deedTold_100 ?_
            refine q_aload_n (pc := 101) K dX5_deedTold_101 rfl rfl ?_
            refine q_bipush (pc := 102) (v := 99) K dX5_deedTold_102 (by decide) ?_
            refine q_callVi (pc := 104) (o := 0) (rm := rmX5_number) K (kX5_number l hN hG 99 s156 hw158) gX5_deedTold_X5_number rfl hdV_X5_number ⟨Nat.le_of_ble_eq_true rfl, Nat.le_of_ble_eq_true rfl⟩ rfl rfl ⟨Nat.zero_le _, Nat.zero_le _⟩ (wO_m hG) vw_4 rfl rfl (Nat.le_of_ble_eq_true rfl) dX5_deedTold_104 ?_
            refine qq_nmI (fun r164 e165 => ?_)
            have hw166 : WM r164.2 := by rw [e165]; exact wX5_number 99 hw158 
            have nme165 := nm_R e165
            have noe165 := nmB (nm_M hw158 e165 (by omega))
            have a167 := addI (x := 48) (y := (rA r128.2 0 0)) (by omega) (by omega)
            refine q_iast (pc := 107) (a := 0) K (by rw [wna_f hG]; decide) (vinN (wlm (n := 80) hG 0 rfl) (by omega) (by omega)) dX5_deedTold_107 (fun s168 e169 => ?_)
            have hw170 : WM s168 := by rw [e169]; exact wmRn hw166 (by decide) (by omega) (by omega) (by omega) (by omega)
            have m171 := mKeep e169 (by omega)
            have m172 := fldA e169
            refine q_aload_n (pc := 108) K dX5_deedTold_108 rfl rfl ?_
            refine q_ldcs (pc := 109) (i := 12) (tx := "on") K (by decide +kernel) dX5_deedTold_109 ?_
            refine q_callVi (pc := 111) (o := 0) (rm := rmX5_takes) K (kX5_takes l hN hG 12 (by decide) s168 hw170) gX5_deedTold_X5_takes rfl hdV_X5_takes ⟨Nat.le_of_ble_eq_true rfl, Nat.le_of_ble_eq_true rfl⟩ rfl rfl ⟨Nat.zero_le _, Nat.zero_le _⟩ (wO_m hG) vw_4 rfl rfl (Nat.le_of_ble_eq_true rfl) dX5_deedTold_111 ?_
            refine qq_nmI (fun r173 e174 => ?_)
            have hw175 : WM r173.2 := by rw [e174]; exact wX5_takes 12 (by decide) hw170 
            have tke174 := tk_R e174
            have tme174 := nmB (tk_M hw170 e174 (by omega))
            refine q_if_eq (pc := 114) (tgt := 133) K dX5_deedTold_114 (by decide) (fun c176 => ?_) (fun c176 => ?_)
            · have i186 := eqI c176
              exact q_vretW K hr dX5_deedTold_133
            · have i187 := neI c176
              refine q_aload_n (pc := 117) K dX5_deedTold_117 rfl rfl ?_
              refine q_get (pc := 118) (o := 0) (f := 0) (v := .ref (gad G 0)) K (wO_m hG) vw_4 iwX5_deedTold_X5 (by decide) mX5_deedTold_f9 rfl dX5_deedTold_118 ?_
              refine q_bipush (pc := 121) (v := 72) K dX5_deedTold_121 (by decide) ?_
              refine q_iload_n (pc := 123) K dX5_deedTold_123 rfl rfl ?_
              refine q_iadd (pc := 124) K dX5_deedTold_124 ?_
              refine q_aload_n (pc := 125) K dX5_deedTold_125 rfl rfl ?_
              refine q_iload_n (pc := 126) K dX5_deedTold_126 rfl rfl ?_
              refine q_iconst (pc := 127) (v := 1) K dX5_deedTold_127 (by decide) ?_
              refine q_isub (pc := 128) K dX5_deedTold_128 ?_
              have a177 := subI (x := (rA r128.2 0 0)) (y := 1) (by omega) (by omega)
              refine q_callVi (pc := 129) (o := 0) (rm := rmX5_number) K (kX5_number l hN hG ((rA r128.2 0 0) - 1) r173.2 hw175) gX5_deedTold_X5_number rfl hdV_X5_number ⟨Nat.le_of_ble_eq_true rfl, Nat.le_of_ble_eq_true rfl⟩ rfl rfl ⟨Nat.zero_le _, Nat.zero_le _⟩ (wO_m hG) vw_4 rfl rfl (Nat.le_of_ble_eq_true rfl) dX5_deedTold_129 ?_
              refine qq_nmI (fun r178 e179 => ?_)
              have hw180 : WM r178.2 := by rw [e179]; exact wX5_number ((rA r128.2 0 0) - 1) hw175 
              have nme179 := nm_R e179
              have noe179 := nmB (nm_M hw175 e179 (by omega))
              have a181 := addI (x := 72) (y := (rA r128.2 0 0)) (by omega) (by omega)
              refine q_iast (pc := 132) (a := 0) K (by rw [wna_f hG]; decide) (vinN (wlm (n := 80) hG 0 rfl) (by omega) (by omega)) dX5_deedTold_132 (fun s182 e183 => ?_)
              have hw184 : WX s182 := by rw [e183]; exact wxOn hw180 (by omega) (by omega) (by omega) (by omega)
              have m185 := fldA e183
              exact q_vretW K hr dX5_deedTold_133
          · have i222 := eqI c155
            refine q_iconst (pc := 85) (v := 1) K dX5_deedTold_85 (by decide) ?_
            refine q_goto (pc := 86) (tgt := 90) K dX5_deedTold_86 (by decide) ?_
            refine q_put (pc := 90) (o := 0) (f := 12) (i := 5) (ty := .boolean) K tyX5 tyX5_ok nmX5 (wO_m hG) vw_4 iwX5_deedTold_X5 (by decide) mX5_deedTold_f191 rfl (tyX5_ok 12 (by decide)) rfl rfl (Nat.le_of_ble_eq_true rfl) (wP_m12 hG _) dX5_deedTold_90 (fun s188 e189 => ?_)
            have hw190 : WM s188 := by rw [e189]; exact wmF hw138 (by omega)
            have n191 := congrArg Int32.toInt (show rF s188 1 = rF r136.2 1 by rw [e189]; exact sF_other (by decide))
            have n192 := congrArg Int32.toInt (show rF s188 3 = rF r136.2 3 by rw [e189]; exact sF_other (by decide))
            have n193 := congrArg Int32.toInt (show rF s188 4 = rF r136.2 4 by rw [e189]; exact sF_other (by decide))
            have n194 := manyF e189
            have n195 := congrArg Int32.toInt (show rF s188 5 = 1 by rw [e189]; exact sF_same9)
            refine q_aload_n (pc := 93) K dX5_deedTold_93 rfl rfl ?_
            refine q_get (pc := 94) (o := 0) (f := 0) (v := .ref (gad G 0)) K (wO_m hG) vw_4 iwX5_deedTold_X5 (by decide) mX5_deedTold_f9 rfl dX5_deedTold_94 ?_
            refine q_bipush (pc := 97) (v := 48) K dX5_deedTold_97 (by decide) ?_
            refine q_iload_n (pc := 99) K dX5_deedTold_99 rfl rfl ?_
            refine q_iadd (pc := 100) K dX5_deedTold_100 ?_
            refine q_aload_n (pc := 101) K dX5_deedTold_101 rfl rfl ?_
            refine q_bipush (pc := 102) (v := 99) K dX5_deedTold_102 (by decide) ?_
            refine q_callVi (pc := 104) (o := 0) (rm := rmX5_number) K (kX5_number l hN hG 99 s188 hw190) gX5_deedTold_X5_number rfl hdV_X5_number ⟨Nat.le_of_ble_eq_true rfl, Nat.le_of_ble_eq_true rfl⟩ rfl rfl ⟨Nat.zero_le _, Nat.zero_le _⟩ (wO_m hG) vw_4 rfl rfl (Nat.le_of_ble_eq_true rfl) dX5_deedTold_104 ?_
            refine qq_nmI (fun r196 e197 => ?_)
            have hw198 : WM r196.2 := by rw [e197]; exact wX5_number 99 hw190 
            have nme197 := nm_R e197
            have noe197 := nmB (nm_M hw190 e197 (by omega))
            have a199 := addI (x := 48) (y := (rA r128.2 0 0)) (by omega) (by omega)
            refine q_iast (pc := 107) (a := 0) K (by rw [wna_f hG]; decide) (vinN (wlm (n := 80) hG 0 rfl) (by omega) (by omega)) dX5_deedTold_107 (fun s200 e201 => ?_)
            have hw202 : WM s200 := by rw [e201]; exact wmRn hw198 (by decide) (by omega) (by omega) (by omega) (by omega)
            have m203 := mKeep e201 (by omega)
            have m204 := fldA e201
            refine q_aload_n (pc := 108) K dX5_deedTold_108 rfl rfl ?_
            refine q_ldcs (pc := 109) (i := 12) (tx := "on") K (by decide +kernel) dX5_deedTold_109 ?_
            refine q_callVi (pc := 111) (o := 0) (rm := rmX5_takes) K (kX5_takes l hN hG 12 (by decide) s200 hw202) gX5_deedTold_X5_takes rfl hdV_X5_takes ⟨Nat.le_of_ble_eq_true rfl, Nat.le_of_ble_eq_true rfl⟩ rfl rfl ⟨Nat.zero_le _, Nat.zero_le _⟩ (wO_m hG) vw_4 rfl rfl (Nat.le_of_ble_eq_true rfl) dX5_deedTold_111 ?_
            refine qq_nmI (fun r205 e206 => ?_)
            have hw207 : WM r205.2 := by rw [e206]; exact wX5_takes 12 (by decide) hw202 
            have tke206 := tk_R e206
            have tme206 := nmB (tk_M hw202 e206 (by omega))
            refine q_if_eq (pc := 114) (tgt := 133) K dX5_deedTold_114 (by decide) (fun c208 => ?_) (fun c208 => ?_)
            · have i218 := eqI c208
              exact q_vretW K hr dX5_deedTold_133
            · have i219 := neI c208
              refine q_aload_n (pc := 117) K dX5_deedTold_117 rfl rfl ?_
              refine q_get (pc := 118) (o := 0) (f := 0) (v := .ref (gad G 0)) K (wO_m hG) vw_4 iwX5_deedTold_X5 (by decide) mX5_deedTold_f9 rfl dX5_deedTold_118 ?_
              refine q_bipush (pc := 121) (v := 72) K dX5_deedTold_121 (by decide) ?_
              refine q_iload_n (pc := 123) K dX5_deedTold_123 rfl rfl ?_
              refine q_iadd (pc := 124) K dX5_deedTold_124 ?_
              refine q_aload_n (pc := 125) K dX5_deedTold_125 rfl rfl ?_
              refine q_iload_n (pc := 126) K dX5_deedTold_126 rfl rfl ?_
              refine q_iconst (pc := 127) (v := 1) K dX5_deedTold_127 (by decide) ?_
              refine q_isub (pc := 128) K dX5_deedTold_128 ?_
              have a209 := subI (x := (rA r128.2 0 0)) (y := 1) (by omega) (by omega)
              refine q_callVi (pc := 129) (o := 0) (rm := rmX5_number) K (kX5_number l hN hG ((rA r128.2 0 0) - 1) r205.2 hw207) gX5_deedTold_X5_number rfl hdV_X5_number ⟨Nat.le_of_ble_eq_true rfl, Nat.le_of_ble_eq_true rfl⟩ rfl rfl ⟨Nat.zero_le _, Nat.zero_le _⟩ (wO_m hG) vw_4 rfl rfl (Nat.le_of_ble_eq_true rfl) dX5_deedTold_129 ?_
              refine qq_nmI (fun r210 e211 => ?_)
              have hw212 : WM r210.2 := by rw [e211]; exact wX5_number ((rA r128.2 0 0) - 1) hw207 
              have nme211 := nm_R e211
              have noe211 := nmB (nm_M hw207 e211 (by omega))
              have a213 := addI (x := 72) (y := (rA r128.2 0 0)) (by omega) (by omega)
              refine q_iast (pc := 132) (a := 0) K (by rw [wna_f hG]; decide) (vinN (wlm (n := 80) hG 0 rfl) (by omega) (by omega)) dX5_deedTold_132 (fun s214 e215 => ?_)
              have hw216 : WX s214 := by rw [e215]; exact wxOn hw212 (by omega) (by omega) (by omega) (by omega)
              have m217 := fldA e215
              exact q_vretW K hr dX5_deedTold_133
      · have i226 := neI c131
        exact q_vretW K hr dX5_deedTold_44
    · have i228 := neI c124
      exact q_vretW K hr dX5_deedTold_27
theorem hdV_X5_shelfItem : yX5_shelfItem.cls = RX5 ∧ yX5_shelfItem.cls ≠ "java/lang/invoke/MethodHandle" ∧ yX5_shelfItem.cls ≠ "java/lang/invoke/VarHandle" ∧ (parseMethodDescriptor yX5_shelfItem.desc).map (fun d => d.parameters.length) = some 1 := by decide +kernel
theorem mX5_shelfItem_f191 : Cond.fieldLink RX5 191 "WaxTreatiesModel" "isWrong" "Z" ∈ wsX5_shelfItem := List.mem_of_getElem? (i := 1) rfl
theorem iwX5_shelfItem_X5 : ∀ w ∈ wsX50, w ∈ wsX5_shelfItem := fun w h => List.mem_cons_of_mem _ (List.mem_append_right _ h)
theorem mX5_shelfItem_f9 : Cond.fieldLink RX5 9 "WaxTreatiesModel" "now" "[I" ∈ wsX5_shelfItem := List.mem_of_getElem? (i := 2) rfl
set_option maxRecDepth 100000 in
set_option maxHeartbeats 4000000 in
theorem kX5_shelfItem (l : Launch) {G : gT} (hN : wN G) (hG : gfl G = false) (v1 : Int32) (σ : sg) (hw : WM σ) (hb : 0 ≤ v1.toInt ∧ v1.toInt ≤ 2) (ho : (rF σ 3).toInt ≤ (rF σ 4).toInt) : cM l yX5_shelfItem wsX5_shelfItem rmX5_shelfItem G [.ref (gob G 0), .int v1] σ none (fX5_shelfItem v1 σ) := by
  refine cM_of (maxL := 4) (ret := none) (cc := cX5_shelfItem) (fX5_shelfItem v1 σ) RX5 hN (by decide +kernel) rfl rfl (Nat.le_of_ble_eq_true rfl) rfl ?_
  intro p e s m args below meth c K hr
  have k0 : (0 : Int32).toInt = 0 := rfl
  have k1 : (1 : Int32).toInt = 1 := rfl
  have k4 : (4 : Int32).toInt = 4 := rfl
  have k6 : (6 : Int32).toInt = 6 := rfl
  have k99 : (99 : Int32).toInt = 99 := rfl
  refine qq_st (lv' := [some (.ref (gob G 0)), some (.int v1), none, none]) rfl rfl rfl ?_
  refine qq_T (fX5_shelfItem.eq_1 ..) ?_
  refine q_aload_n (pc := 0) K dX5_shelfItem_0 rfl rfl ?_
  refine q_callVi (pc := 1) (o := 0) (rm := rmX5_shelfTold) K (kX5_shelfTold l hN hG  σ hw) gX5_shelfItem_X5_shelfTold rfl hdV_X5_shelfTold ⟨Nat.le_of_ble_eq_true rfl, Nat.le_of_ble_eq_true rfl⟩ rfl rfl ⟨Nat.zero_le _, Nat.zero_le _⟩ (wO_m hG) vw_4 rfl rfl (Nat.le_of_ble_eq_true rfl) dX5_shelfItem_1 ?_
  refine qq_nmI (fun r1 e2 => ?_)
  have hw3 : WM r1.2 := by rw [e2]; exact wX5_shelfTold  hw 
  have ste2 := st_R e2
  have sme2 := nmB (st_M hw e2 (by omega))
  refine q_istore_n (pc := 4) (lv' := [some (.ref (gob G 0)), some (.int v1), some (.int r1.1), none]) K dX5_shelfItem_4 rfl (by decide) (Nat.le_of_ble_eq_true rfl) rfl ?_
  refine q_iload_n (pc := 5) K dX5_shelfItem_5 rfl rfl ?_
  refine q_iconst (pc := 6) (v := 1) K dX5_shelfItem_6 (by decide) ?_
  refine q_icmp_ne (pc := 7) (tgt := 19) K dX5_shelfItem_7 (by decide) (fun c4 => ?_) (fun c4 => ?_)
  · have i50 := neI c4
    refine q_iload_n (pc := 19) K dX5_shelfItem_19 rfl rfl ?_
    refine q_if_ne (pc := 20) (tgt := 34) K dX5_shelfItem_20 (by decide) (fun c5 => ?_) (fun c5 => ?_)
    · have i34 := neI c5
      refine q_aload_n (pc := 34) K dX5_shelfItem_34 rfl rfl ?_
      refine q_ldcs (pc := 35) (i := 15) (tx := "here") K (by decide +kernel) dX5_shelfItem_35 ?_
      refine q_ldcsw (pc := 37) (i := 16) (tx := "gone") K (by decide +kernel) dX5_shelfItem_37 ?_
      refine q_callVi (pc := 40) (o := 0) (rm := rmX5_either) K (kX5_either l hN hG 15 (by decide) 16 (by decide) r1.2 hw3) gX5_shelfItem_X5_either rfl hdV_X5_either ⟨Nat.le_of_ble_eq_true rfl, Nat.le_of_ble_eq_true rfl⟩ rfl rfl ⟨Nat.zero_le _, Nat.zero_le _⟩ (wO_m hG) vw_4 rfl rfl (Nat.le_of_ble_eq_true rfl) dX5_shelfItem_40 ?_
      refine qq_nmI (fun r6 e7 => ?_)
      have hw8 : WM r6.2 := by rw [e7]; exact wX5_either 15 (by decide) 16 (by decide) hw3 
      have eie7 := ei_R e7
      have eme7 := nmB (ei_M (by decide) hw3 e7 (by omega))
      refine q_istore_n (pc := 43) (lv' := [some (.ref (gob G 0)), some (.int v1), some (.int r1.1), some (.int r6.1)]) K dX5_shelfItem_43 rfl (by decide) (Nat.le_of_ble_eq_true rfl) rfl ?_
      refine q_aload_n (pc := 44) K dX5_shelfItem_44 rfl rfl ?_
      refine q_get (pc := 45) (o := 0) (f := 12) (v := .int (rF r6.2 5)) K (wO_m hG) vw_4 iwX5_shelfItem_X5 (by decide) mX5_shelfItem_f191 rfl dX5_shelfItem_45 ?_
      refine q_if_ne (pc := 48) (tgt := 65) K dX5_shelfItem_48 (by decide) (fun c9 => ?_) (fun c9 => ?_)
      · have i18 := neI c9
        exact q_vretW K hr dX5_shelfItem_65
      · have i19 := eqI c9
        refine q_aload_n (pc := 51) K dX5_shelfItem_51 rfl rfl ?_
        refine q_get (pc := 52) (o := 0) (f := 0) (v := .ref (gad G 0)) K (wO_m hG) vw_4 iwX5_shelfItem_X5 (by decide) mX5_shelfItem_f9 rfl dX5_shelfItem_52 ?_
        refine q_iconst (pc := 55) (v := 4) K dX5_shelfItem_55 (by decide) ?_
        refine q_bipush (pc := 56) (v := 6) K dX5_shelfItem_56 (by decide) ?_
        refine q_iload_n (pc := 58) K dX5_shelfItem_58 rfl rfl ?_
        refine q_imul (pc := 59) K dX5_shelfItem_59 ?_
        refine q_iadd (pc := 60) K dX5_shelfItem_60 ?_
        refine q_iload_n (pc := 61) K dX5_shelfItem_61 rfl rfl ?_
        refine q_iadd (pc := 62) K dX5_shelfItem_62 ?_
        refine q_iload_n (pc := 63) K dX5_shelfItem_63 rfl rfl ?_
        have a10 := mulI (x := 6) (y := v1) (by first | omega | (simp only [k6]; omega)) (by first | omega | (simp only [k6]; omega))
        simp only [k6] at a10
        have a11 := addI (x := 4) (y := (6 * v1)) (by omega) (by omega)
        have a12 := addI (x := (4 + (6 * v1))) (y := r1.1) (by omega) (by omega)
        refine q_iast (pc := 64) (a := 0) K (by rw [wna_f hG]; decide) (vinN (wlm (n := 80) hG 0 rfl) (by omega) (by omega)) dX5_shelfItem_64 (fun s13 e14 => ?_)
        have hw15 : WM s13 := by rw [e14]; exact wmRn hw8 (by decide) (by omega) (by omega) (by omega) (by omega)
        have m16 := mKeep e14 (by omega)
        have m17 := fldA e14
        exact q_vretW K hr dX5_shelfItem_65
    · have i35 := eqI c5
      refine q_aload_n (pc := 23) K dX5_shelfItem_23 rfl rfl ?_
      refine q_ldcs (pc := 24) (i := 13) (tx := "open") K (by decide +kernel) dX5_shelfItem_24 ?_
      refine q_ldcs (pc := 26) (i := 14) (tx := "shut") K (by decide +kernel) dX5_shelfItem_26 ?_
      refine q_callVi (pc := 28) (o := 0) (rm := rmX5_either) K (kX5_either l hN hG 13 (by decide) 14 (by decide) r1.2 hw3) gX5_shelfItem_X5_either rfl hdV_X5_either ⟨Nat.le_of_ble_eq_true rfl, Nat.le_of_ble_eq_true rfl⟩ rfl rfl ⟨Nat.zero_le _, Nat.zero_le _⟩ (wO_m hG) vw_4 rfl rfl (Nat.le_of_ble_eq_true rfl) dX5_shelfItem_28 ?_
      refine qq_nmI (fun r20 e21 => ?_)
      have hw22 : WM r20.2 := by rw [e21]; exact wX5_either 13 (by decide) 14 (by decide) hw3 
      have eie21 := ei_R e21
      have eme21 := nmB (ei_M (by decide) hw3 e21 (by omega))
      refine q_goto (pc := 31) (tgt := 43) K dX5_shelfItem_31 (by decide) ?_
      refine q_istore_n (pc := 43) (lv' := [some (.ref (gob G 0)), some (.int v1), some (.int r1.1), some (.int r20.1)]) K dX5_shelfItem_43 rfl (by decide) (Nat.le_of_ble_eq_true rfl) rfl ?_
      refine q_aload_n (pc := 44) K dX5_shelfItem_44 rfl rfl ?_
      refine q_get (pc := 45) (o := 0) (f := 12) (v := .int (rF r20.2 5)) K (wO_m hG) vw_4 iwX5_shelfItem_X5 (by decide) mX5_shelfItem_f191 rfl dX5_shelfItem_45 ?_
      refine q_if_ne (pc := 48) (tgt := 65) K dX5_shelfItem_48 (by decide) (fun c23 => ?_) (fun c23 => ?_)
      · have i32 := neI c23
        exact q_vretW K hr dX5_shelfItem_65
      · have i33 := eqI c23
        refine q_aload_n (pc := 51) K dX5_shelfItem_51 rfl rfl ?_
        refine q_get (pc := 52) (o := 0) (f := 0) (v := .ref (gad G 0)) K (wO_m hG) vw_4 iwX5_shelfItem_X5 (by decide) mX5_shelfItem_f9 rfl dX5_shelfItem_52 ?_
        refine q_iconst (pc := 55) (v := 4) K dX5_shelfItem_55 (by decide) ?_
        refine q_bipush (pc := 56) (v := 6) K dX5_shelfItem_56 (by decide) ?_
        refine q_iload_n (pc := 58) K dX5_shelfItem_58 rfl rfl ?_
        refine q_imul (pc := 59) K dX5_shelfItem_59 ?_
        refine q_iadd (pc := 60) K dX5_shelfItem_60 ?_
        refine q_iload_n (pc := 61) K dX5_shelfItem_61 rfl rfl ?_
        refine q_iadd (pc := 62) K dX5_shelfItem_62 ?_
        refine q_iload_n (pc := 63) K dX5_shelfItem_63 rfl rfl ?_
        have a24 := mulI (x := 6) (y := v1) (by first | omega | (simp only [k6]; omega)) (by first | omega | (simp only [k6]; omega))
        simp only [k6] at a24
        have a25 := addI (x := 4) (y := (6 * v1)) (by omega) (by omega)
        have a26 := addI (x := (4 + (6 * v1))) (y := r1.1) (by omega) (by omega)
        refine q_iast (pc := 64) (a := 0) K (by rw [wna_f hG]; decide) (vinN (wlm (n := 80) hG 0 rfl) (by omega) (by omega)) dX5_shelfItem_64 (fun s27 e28 => ?_)
        have hw29 : WM s27 := by rw [e28]; exact wmRn hw22 (by decide) (by omega) (by omega) (by omega) (by omega)
        have m30 := mKeep e28 (by omega)
        have m31 := fldA e28
        exact q_vretW K hr dX5_shelfItem_65
  · have i51 := eqI c4
    refine q_aload_n (pc := 10) K dX5_shelfItem_10 rfl rfl ?_
    refine q_bipush (pc := 11) (v := 99) K dX5_shelfItem_11 (by decide) ?_
    refine q_callVi (pc := 13) (o := 0) (rm := rmX5_number) K (kX5_number l hN hG 99 r1.2 hw3) gX5_shelfItem_X5_number rfl hdV_X5_number ⟨Nat.le_of_ble_eq_true rfl, Nat.le_of_ble_eq_true rfl⟩ rfl rfl ⟨Nat.zero_le _, Nat.zero_le _⟩ (wO_m hG) vw_4 rfl rfl (Nat.le_of_ble_eq_true rfl) dX5_shelfItem_13 ?_
    refine qq_nmI (fun r36 e37 => ?_)
    have hw38 : WM r36.2 := by rw [e37]; exact wX5_number 99 hw3 
    have nme37 := nm_R e37
    have noe37 := nmB (nm_M hw3 e37 (by omega))
    refine q_goto (pc := 16) (tgt := 43) K dX5_shelfItem_16 (by decide) ?_
    refine q_istore_n (pc := 43) (lv' := [some (.ref (gob G 0)), some (.int v1), some (.int r1.1), some (.int r36.1)]) K dX5_shelfItem_43 rfl (by decide) (Nat.le_of_ble_eq_true rfl) rfl ?_
    refine q_aload_n (pc := 44) K dX5_shelfItem_44 rfl rfl ?_
    refine q_get (pc := 45) (o := 0) (f := 12) (v := .int (rF r36.2 5)) K (wO_m hG) vw_4 iwX5_shelfItem_X5 (by decide) mX5_shelfItem_f191 rfl dX5_shelfItem_45 ?_
    refine q_if_ne (pc := 48) (tgt := 65) K dX5_shelfItem_48 (by decide) (fun c39 => ?_) (fun c39 => ?_)
    · have i48 := neI c39
      exact q_vretW K hr dX5_shelfItem_65
    · have i49 := eqI c39
      refine q_aload_n (pc := 51) K dX5_shelfItem_51 rfl rfl ?_
      refine q_get (pc := 52) (o := 0) (f := 0) (v := .ref (gad G 0)) K (wO_m hG) vw_4 iwX5_shelfItem_X5 (by decide) mX5_shelfItem_f9 rfl dX5_shelfItem_52 ?_
      refine q_iconst (pc := 55) (v := 4) K dX5_shelfItem_55 (by decide) ?_
      refine q_bipush (pc := 56) (v := 6) K dX5_shelfItem_56 (by decide) ?_
      refine q_iload_n (pc := 58) K dX5_shelfItem_58 rfl rfl ?_
      refine q_imul (pc := 59) K dX5_shelfItem_59 ?_
      refine q_iadd (pc := 60) K dX5_shelfItem_60 ?_
      refine q_iload_n (pc := 61) K dX5_shelfItem_61 rfl rfl ?_
      refine q_iadd (pc := 62) K dX5_shelfItem_62 ?_
      refine q_iload_n (pc := 63) K dX5_shelfItem_63 rfl rfl ?_
      have a40 := mulI (x := 6) (y := v1) (by first | omega | (simp only [k6]; omega)) (by first | omega | (simp only [k6]; omega))
      simp only [k6] at a40
      have a41 := addI (x := 4) (y := (6 * v1)) (by omega) (by omega)
      have a42 := addI (x := (4 + (6 * v1))) (y := r1.1) (by omega) (by omega)
      refine q_iast (pc := 64) (a := 0) K (by rw [wna_f hG]; decide) (vinN (wlm (n := 80) hG 0 rfl) (by omega) (by omega)) dX5_shelfItem_64 (fun s43 e44 => ?_)
      have hw45 : WM s43 := by rw [e44]; exact wmRn hw38 (by decide) (by omega) (by omega) (by omega) (by omega)
      have m46 := mKeep e44 (by omega)
      have m47 := fldA e44
      exact q_vretW K hr dX5_shelfItem_65
theorem hdV_X5_item : yX5_item.cls = RX5 ∧ yX5_item.cls ≠ "java/lang/invoke/MethodHandle" ∧ yX5_item.cls ≠ "java/lang/invoke/VarHandle" ∧ (parseMethodDescriptor yX5_item.desc).map (fun d => d.parameters.length) = some 0 := by decide +kernel
theorem mX5_item_f191 : Cond.fieldLink RX5 191 "WaxTreatiesModel" "isWrong" "Z" ∈ wsX5_item := List.mem_of_getElem? (i := 2) rfl
theorem iwX5_item_X5 : ∀ w ∈ wsX50, w ∈ wsX5_item := fun w h => List.mem_cons_of_mem _ (List.mem_append_right _ h)
theorem mX5_item_f9 : Cond.fieldLink RX5 9 "WaxTreatiesModel" "now" "[I" ∈ wsX5_item := List.mem_of_getElem? (i := 1) rfl
set_option maxRecDepth 100000 in
set_option maxHeartbeats 4000000 in
theorem kX5_item (l : Launch) {G : gT} (hN : wN G) (hG : gfl G = false) (σ : sg) (hw : WM σ) (ho : (rF σ 3).toInt ≤ (rF σ 4).toInt) : cM l yX5_item wsX5_item rmX5_item G [.ref (gob G 0)] σ none (fX5_item σ) := by
  refine cM_of (maxL := 2) (ret := none) (cc := cX5_item) (fX5_item σ) RX5 hN (by decide +kernel) rfl rfl (Nat.le_of_ble_eq_true rfl) rfl ?_
  intro p e s m args below meth c K hr
  have k0 : (0 : Int32).toInt = 0 := rfl
  have k1 : (1 : Int32).toInt = 1 := rfl
  have k2 : (2 : Int32).toInt = 2 := rfl
  have k40 : (40 : Int32).toInt = 40 := rfl
  refine qq_st (lv' := [some (.ref (gob G 0)), none]) rfl rfl rfl ?_
  refine qq_T (fX5_item.eq_1 ..) ?_
  refine q_aload_n (pc := 0) K dX5_item_0 rfl rfl ?_
  refine q_callVi (pc := 1) (o := 0) (rm := rmX5_kindHere) K (kX5_kindHere l hN hG  σ hw) gX5_item_X5_kindHere rfl hdV_X5_kindHere ⟨Nat.le_of_ble_eq_true rfl, Nat.le_of_ble_eq_true rfl⟩ rfl rfl ⟨Nat.zero_le _, Nat.zero_le _⟩ (wO_m hG) vw_4 rfl rfl (Nat.le_of_ble_eq_true rfl) dX5_item_1 ?_
  refine q_istore_n (pc := 4) (lv' := [some (.ref (gob G 0)), some (.int (fX5_kindHere σ))]) K dX5_item_4 rfl (by decide) (Nat.le_of_ble_eq_true rfl) rfl ?_
  refine q_iload_n (pc := 5) K dX5_item_5 rfl rfl ?_
  refine q_if_lt (pc := 6) (tgt := 17) K dX5_item_6 (by decide) (fun c1 => ?_) (fun c1 => ?_)
  · have i58 := ltI c1
    refine q_aload_n (pc := 17) K dX5_item_17 rfl rfl ?_
    refine q_ldcsw (pc := 18) (i := 7) (tx := "shutter") K (by decide +kernel) dX5_item_18 ?_
    refine q_callVi (pc := 21) (o := 0) (rm := rmX5_takes) K (kX5_takes l hN hG 7 (by decide) σ hw) gX5_item_X5_takes rfl hdV_X5_takes ⟨Nat.le_of_ble_eq_true rfl, Nat.le_of_ble_eq_true rfl⟩ rfl rfl ⟨Nat.zero_le _, Nat.zero_le _⟩ (wO_m hG) vw_4 rfl rfl (Nat.le_of_ble_eq_true rfl) dX5_item_21 ?_
    refine qq_nmI (fun r2 e3 => ?_)
    have hw4 : WM r2.2 := by rw [e3]; exact wX5_takes 7 (by decide) hw 
    have tke3 := tk_R e3
    have tme3 := nmB (tk_M hw e3 (by omega))
    refine q_if_eq (pc := 24) (tgt := 35) K dX5_item_24 (by decide) (fun c5 => ?_) (fun c5 => ?_)
    · have i52 := eqI c5
      refine q_aload_n (pc := 35) K dX5_item_35 rfl rfl ?_
      refine q_ldcsw (pc := 36) (i := 8) (tx := "ice") K (by decide +kernel) dX5_item_36 ?_
      refine q_callVi (pc := 39) (o := 0) (rm := rmX5_takes) K (kX5_takes l hN hG 8 (by decide) r2.2 hw4) gX5_item_X5_takes rfl hdV_X5_takes ⟨Nat.le_of_ble_eq_true rfl, Nat.le_of_ble_eq_true rfl⟩ rfl rfl ⟨Nat.zero_le _, Nat.zero_le _⟩ (wO_m hG) vw_4 rfl rfl (Nat.le_of_ble_eq_true rfl) dX5_item_39 ?_
      refine qq_nmI (fun r6 e7 => ?_)
      have hw8 : WM r6.2 := by rw [e7]; exact wX5_takes 8 (by decide) hw4 
      have tke7 := tk_R e7
      have tme7 := nmB (tk_M hw4 e7 (by omega))
      refine q_if_eq (pc := 42) (tgt := 53) K dX5_item_42 (by decide) (fun c9 => ?_) (fun c9 => ?_)
      · have i46 := eqI c9
        refine q_aload_n (pc := 53) K dX5_item_53 rfl rfl ?_
        refine q_ldcsw (pc := 54) (i := 9) (tx := "candle") K (by decide +kernel) dX5_item_54 ?_
        refine q_callVi (pc := 57) (o := 0) (rm := rmX5_takes) K (kX5_takes l hN hG 9 (by decide) r6.2 hw8) gX5_item_X5_takes rfl hdV_X5_takes ⟨Nat.le_of_ble_eq_true rfl, Nat.le_of_ble_eq_true rfl⟩ rfl rfl ⟨Nat.zero_le _, Nat.zero_le _⟩ (wO_m hG) vw_4 rfl rfl (Nat.le_of_ble_eq_true rfl) dX5_item_57 ?_
        refine qq_nmI (fun r10 e11 => ?_)
        have hw12 : WM r10.2 := by rw [e11]; exact wX5_takes 9 (by decide) hw8 
        have tke11 := tk_R e11
        have tme11 := nmB (tk_M hw8 e11 (by omega))
        refine q_if_eq (pc := 60) (tgt := 71) K dX5_item_60 (by decide) (fun c13 => ?_) (fun c13 => ?_)
        · have i40 := eqI c13
          refine q_aload_n (pc := 71) K dX5_item_71 rfl rfl ?_
          refine q_ldcsw (pc := 72) (i := 10) (tx := "summer") K (by decide +kernel) dX5_item_72 ?_
          refine q_callVi (pc := 75) (o := 0) (rm := rmX5_takes) K (kX5_takes l hN hG 10 (by decide) r10.2 hw12) gX5_item_X5_takes rfl hdV_X5_takes ⟨Nat.le_of_ble_eq_true rfl, Nat.le_of_ble_eq_true rfl⟩ rfl rfl ⟨Nat.zero_le _, Nat.zero_le _⟩ (wO_m hG) vw_4 rfl rfl (Nat.le_of_ble_eq_true rfl) dX5_item_75 ?_
          refine qq_nmI (fun r14 e15 => ?_)
          have hw16 : WM r14.2 := by rw [e15]; exact wX5_takes 10 (by decide) hw12 
          have tke15 := tk_R e15
          have tme15 := nmB (tk_M hw12 e15 (by omega))
          refine q_if_eq (pc := 78) (tgt := 96) K dX5_item_78 (by decide) (fun c17 => ?_) (fun c17 => ?_)
          · have i34 := eqI c17
            refine q_aload_n (pc := 96) K dX5_item_96 rfl rfl ?_
            refine q_iconst (pc := 97) (v := 1) K dX5_item_97 (by decide) ?_
            refine q_put (pc := 98) (o := 0) (f := 12) (i := 5) (ty := .boolean) K tyX5 tyX5_ok nmX5 (wO_m hG) vw_4 iwX5_item_X5 (by decide) mX5_item_f191 rfl (tyX5_ok 12 (by decide)) rfl rfl (Nat.le_of_ble_eq_true rfl) (wP_m12 hG _) dX5_item_98 (fun s18 e19 => ?_)
            have hw20 : WM s18 := by rw [e19]; exact wmF hw16 (by omega)
            have n21 := congrArg Int32.toInt (show rF s18 1 = rF r14.2 1 by rw [e19]; exact sF_other (by decide))
            have n22 := congrArg Int32.toInt (show rF s18 3 = rF r14.2 3 by rw [e19]; exact sF_other (by decide))
            have n23 := congrArg Int32.toInt (show rF s18 4 = rF r14.2 4 by rw [e19]; exact sF_other (by decide))
            have n24 := manyF e19
            have n25 := congrArg Int32.toInt (show rF s18 5 = 1 by rw [e19]; exact sF_same9)
            exact q_vretW K hr dX5_item_101
          · have i35 := neI c17
            refine q_aload_n (pc := 81) K dX5_item_81 rfl rfl ?_
            refine q_get (pc := 82) (o := 0) (f := 0) (v := .ref (gad G 0)) K (wO_m hG) vw_4 iwX5_item_X5 (by decide) mX5_item_f9 rfl dX5_item_82 ?_
            refine q_iconst (pc := 85) (v := 1) K dX5_item_85 (by decide) ?_
            refine q_aload_n (pc := 86) K dX5_item_86 rfl rfl ?_
            refine q_bipush (pc := 87) (v := 40) K dX5_item_87 (by decide) ?_
            refine q_callVi (pc := 89) (o := 0) (rm := rmX5_number) K (kX5_number l hN hG 40 r14.2 hw16) gX5_item_X5_number rfl hdV_X5_number ⟨Nat.le_of_ble_eq_true rfl, Nat.le_of_ble_eq_true rfl⟩ rfl rfl ⟨Nat.zero_le _, Nat.zero_le _⟩ (wO_m hG) vw_4 rfl rfl (Nat.le_of_ble_eq_true rfl) dX5_item_89 ?_
            refine qq_nmI (fun r26 e27 => ?_)
            have hw28 : WM r26.2 := by rw [e27]; exact wX5_number 40 hw16 
            have nme27 := nm_R e27
            have noe27 := nmB (nm_M hw16 e27 (by omega))
            refine q_iast (pc := 92) (a := 0) K (by rw [wna_f hG]; decide) (vinN (wlm (n := 80) hG 0 rfl) (by omega) (by omega)) dX5_item_92 (fun s29 e30 => ?_)
            have hw31 : WM s29 := by rw [e30]; exact wmRn hw28 (by decide) (by omega) (by omega) (by omega) (by omega)
            have m32 := mKeep e30 (by omega)
            have m33 := fldA e30
            refine q_goto (pc := 93) (tgt := 101) K dX5_item_93 (by decide) ?_
            exact q_vretW K hr dX5_item_101
        · have i41 := neI c13
          refine q_aload_n (pc := 63) K dX5_item_63 rfl rfl ?_
          refine q_iconst (pc := 64) (v := 2) K dX5_item_64 (by decide) ?_
          refine q_callVv (pc := 65) (o := 0) (rm := rmX5_shelfItem) K (kX5_shelfItem l hN hG 2 r10.2 hw12 (by omega) (by omega)) gX5_item_X5_shelfItem rfl hdV_X5_shelfItem ⟨Nat.le_of_ble_eq_true rfl, Nat.le_of_ble_eq_true rfl⟩ rfl rfl ⟨Nat.zero_le _, Nat.zero_le _⟩ (wO_m hG) vw_4 rfl rfl (Nat.le_of_ble_eq_true rfl) dX5_item_65 ?_
          refine qq_nmV (fun r36 e37 => ?_)
          have hw38 : WM r36 := by rw [e37]; exact wX5_shelfItem 2 hw12 (by omega) (by omega)
          have mo39 := nmB (moX5_shelfItem 2 hw12 (by omega) (by omega))
          rw [← e37] at mo39
          refine q_goto (pc := 68) (tgt := 101) K dX5_item_68 (by decide) ?_
          exact q_vretW K hr dX5_item_101
      · have i47 := neI c9
        refine q_aload_n (pc := 45) K dX5_item_45 rfl rfl ?_
        refine q_iconst (pc := 46) (v := 1) K dX5_item_46 (by decide) ?_
        refine q_callVv (pc := 47) (o := 0) (rm := rmX5_shelfItem) K (kX5_shelfItem l hN hG 1 r6.2 hw8 (by omega) (by omega)) gX5_item_X5_shelfItem rfl hdV_X5_shelfItem ⟨Nat.le_of_ble_eq_true rfl, Nat.le_of_ble_eq_true rfl⟩ rfl rfl ⟨Nat.zero_le _, Nat.zero_le _⟩ (wO_m hG) vw_4 rfl rfl (Nat.le_of_ble_eq_true rfl) dX5_item_47 ?_
        refine qq_nmV (fun r42 e43 => ?_)
        have hw44 : WM r42 := by rw [e43]; exact wX5_shelfItem 1 hw8 (by omega) (by omega)
        have mo45 := nmB (moX5_shelfItem 1 hw8 (by omega) (by omega))
        rw [← e43] at mo45
        refine q_goto (pc := 50) (tgt := 101) K dX5_item_50 (by decide) ?_
        exact q_vretW K hr dX5_item_101
    · have i53 := neI c5
      refine q_aload_n (pc := 27) K dX5_item_27 rfl rfl ?_
      refine q_iconst (pc := 28) (v := 0) K dX5_item_28 (by decide) ?_
      refine q_callVv (pc := 29) (o := 0) (rm := rmX5_shelfItem) K (kX5_shelfItem l hN hG 0 r2.2 hw4 (by omega) (by omega)) gX5_item_X5_shelfItem rfl hdV_X5_shelfItem ⟨Nat.le_of_ble_eq_true rfl, Nat.le_of_ble_eq_true rfl⟩ rfl rfl ⟨Nat.zero_le _, Nat.zero_le _⟩ (wO_m hG) vw_4 rfl rfl (Nat.le_of_ble_eq_true rfl) dX5_item_29 ?_
      refine qq_nmV (fun r48 e49 => ?_)
      have hw50 : WM r48 := by rw [e49]; exact wX5_shelfItem 0 hw4 (by omega) (by omega)
      have mo51 := nmB (moX5_shelfItem 0 hw4 (by omega) (by omega))
      rw [← e49] at mo51
      refine q_goto (pc := 32) (tgt := 101) K dX5_item_32 (by decide) ?_
      exact q_vretW K hr dX5_item_101
  · have i59 := nltI c1
    refine q_aload_n (pc := 9) K dX5_item_9 rfl rfl ?_
    refine q_iload_n (pc := 10) K dX5_item_10 rfl rfl ?_
    refine q_callVv (pc := 11) (o := 0) (rm := rmX5_deedTold) K (kX5_deedTold l hN hG (fX5_kindHere σ) σ hw (by omega)) gX5_item_X5_deedTold rfl hdV_X5_deedTold ⟨Nat.le_of_ble_eq_true rfl, Nat.le_of_ble_eq_true rfl⟩ rfl rfl ⟨Nat.zero_le _, Nat.zero_le _⟩ (wO_m hG) vw_4 rfl rfl (Nat.le_of_ble_eq_true rfl) dX5_item_11 ?_
    refine qq_nmV (fun r54 e55 => ?_)
    have hw56 : WX r54 := by rw [e55]; exact wX5_deedTold (fX5_kindHere σ) hw (by omega)
    have mo57 := nmB (moX5_deedTold (fX5_kindHere σ) hw (by omega))
    rw [← e55] at mo57
    refine q_goto (pc := 14) (tgt := 101) K dX5_item_14 (by decide) ?_
    exact q_vretW K hr dX5_item_101
theorem hdV_X5_text : yX5_text.cls = RX5 ∧ yX5_text.cls ≠ "java/lang/invoke/MethodHandle" ∧ yX5_text.cls ≠ "java/lang/invoke/VarHandle" ∧ (parseMethodDescriptor yX5_text.desc).map (fun d => d.parameters.length) = some 0 := by decide +kernel
theorem mX5_text_f9 : Cond.fieldLink RX5 9 "WaxTreatiesModel" "now" "[I" ∈ wsX5_text := List.mem_of_getElem? (i := 1) rfl
theorem iwX5_text_X5 : ∀ w ∈ wsX50, w ∈ wsX5_text := fun w h => List.mem_cons_of_mem _ (List.mem_append_right _ h)
theorem mX5_text_f19 : Cond.fieldLink RX5 19 "WaxTreatiesModel" "before" "[I" ∈ wsX5_text := List.mem_of_getElem? (i := 2) rfl
theorem mX5_text_f191 : Cond.fieldLink RX5 191 "WaxTreatiesModel" "isWrong" "Z" ∈ wsX5_text := List.mem_of_getElem? (i := 3) rfl
theorem mX5_text_f182 : Cond.fieldLink RX5 182 "WaxTreatiesModel" "to" "I" ∈ wsX5_text := List.mem_of_getElem? (i := 4) rfl
theorem mX5_text_f179 : Cond.fieldLink RX5 179 "WaxTreatiesModel" "taped" "I" ∈ wsX5_text := List.mem_of_getElem? (i := 6) rfl
theorem mX5_text_f185 : Cond.fieldLink RX5 185 "WaxTreatiesModel" "from" "I" ∈ wsX5_text := List.mem_of_getElem? (i := 5) rfl
set_option maxRecDepth 100000 in
set_option maxHeartbeats 4000000 in
theorem lX5_text_31 {p : Program} (l : Launch) {e : Env} {s : State} {m : MethodId} {args : Array Value} {below : List Frame} {meth : Method} {c : Code} {Q : State → Prop} {G : gT} (hN : wN G) (hG : gfl G = false) (K : qK p s m args meth c cX5_text 2 RX5 wsX5_text G) : ∀ (k : Nat) (v1 : Int32) (σ : sg) (hw : WX σ) (ho : (rF σ 3).toInt ≤ (rF σ 4).toInt) (hmu : (120 - (rF σ 3).toInt).toNat < k) {ρ : Type} {E : ρ → Prop} {f : Int32 × sg → ρ} (hk : ∀ r : Int32 × sg, (WX r.2) → ((rF r.2 3).toInt ≤ (rF r.2 4).toInt) → qq p l e (headSpec wsX5_text rmX5_text).room s m args below meth c Q 2 G E (f r) 62 [some (.ref (gob G 0)), some (.int r.1)] [] r.2), qq p l e (headSpec wsX5_text rmX5_text).room s m args below meth c Q 2 G E (bnd (LX5_text_31 k v1 σ) f) 31 [some (.ref (gob G 0)), some (.int v1)] [] σ := by
  intro k
  induction k with
  | zero => intro v1 σ hw ho hmu ρ E f hk; exact absurd hmu (Nat.not_lt_zero _)
  | succ k ih =>
    intro v1 σ hw ho hmu ρ E f hk
    have k0 : (0 : Int32).toInt = 0 := rfl
    have k1 : (1 : Int32).toInt = 1 := rfl
    refine qq_in ?_
    refine qq_T (LX5_text_31.eq_2 ..) ?_
    refine q_aload_n (pc := 31) K dX5_text_31 rfl rfl ?_
    refine q_get (pc := 32) (o := 0) (f := 12) (v := .int (rF σ 5)) K (wO_m hG) vw_4 iwX5_text_X5 (by decide) mX5_text_f191 rfl dX5_text_32 ?_
    refine q_if_ne (pc := 35) (tgt := 62) K dX5_text_35 (by decide) (fun c24 => ?_) (fun c24 => ?_)
    · have i37 := neI c24
      exact qq_leaf (hk (v1, σ) hw (by omega))
    · have i38 := eqI c24
      have z17 : (fJ0_length_8abf5 17).toInt = 1 := by decide
      have y17 := wx_to hw
      have hw25 : WM σ := wx_wm hw (by omega)
      refine q_aload_n (pc := 38) K dX5_text_38 rfl rfl ?_
      refine q_ldcsw (pc := 39) (i := 17) (tx := ";") K (by decide +kernel) dX5_text_39 ?_
      refine q_callVi (pc := 42) (o := 0) (rm := rmX5_isWord) K (kX5_isWord l hN hG 17 (by decide) σ hw25) gX5_text_X5_isWord rfl hdV_X5_isWord ⟨Nat.le_of_ble_eq_true rfl, Nat.le_of_ble_eq_true rfl⟩ rfl rfl ⟨Nat.zero_le _, Nat.zero_le _⟩ (wO_m hG) vw_4 rfl rfl (Nat.le_of_ble_eq_true rfl) dX5_text_42 ?_
      refine q_if_eq (pc := 45) (tgt := 62) K dX5_text_45 (by decide) (fun c26 => ?_) (fun c26 => ?_)
      · have i34 := eqI c26
        exact qq_leaf (hk (v1, σ) (wx_of hw25) (by omega))
      · have i35 := neI c26
        have b36 := iw_t hw25 c26
        refine q_aload_n (pc := 48) K dX5_text_48 rfl rfl ?_
        refine q_callVv (pc := 49) (o := 0) (rm := rmX5_next) K (kX5_next l hN hG  σ hw25) gX5_text_X5_next rfl hdV_X5_next ⟨Nat.le_of_ble_eq_true rfl, Nat.le_of_ble_eq_true rfl⟩ rfl rfl ⟨Nat.zero_le _, Nat.zero_le _⟩ (wO_m hG) vw_4 rfl rfl (Nat.le_of_ble_eq_true rfl) dX5_text_49 ?_
        refine qq_nmV (fun r27 e28 => ?_)
        have hw29 : WM r27 := by rw [e28]; exact wX5_next  hw25 
        have nxe28 := nx_R e28
        have nye28 := nx_M hw25 e28
        refine q_aload_n (pc := 52) K dX5_text_52 rfl rfl ?_
        refine q_callVv (pc := 53) (o := 0) (rm := rmX5_item) K (kX5_item l hN hG  r27 hw29 (by omega)) gX5_text_X5_item rfl hdV_X5_item ⟨Nat.le_of_ble_eq_true rfl, Nat.le_of_ble_eq_true rfl⟩ rfl rfl ⟨Nat.zero_le _, Nat.zero_le _⟩ (wO_m hG) vw_4 rfl rfl (Nat.le_of_ble_eq_true rfl) dX5_text_53 ?_
        refine qq_nmV (fun r30 e31 => ?_)
        have hw32 : WX r30 := by rw [e31]; exact wX5_item  hw29 (by omega)
        have mo33 := nmB (moX5_item  hw29 (by omega))
        rw [← e31] at mo33
        refine q_iinc (pc := 56) (v := (v1 + 1)) (lv' := [some (.ref (gob G 0)), some (.int (v1 + 1))]) K dX5_text_56 rfl rfl (by decide) rfl ?_
        refine q_goto (pc := 59) (tgt := 31) K dX5_text_59 (by decide) ?_
        exact qq_out (ih (v1 + 1) r30 hw32 (by omega) (by omega) hk)
set_option maxRecDepth 100000 in
set_option maxHeartbeats 4000000 in
theorem kX5_text (l : Launch) {G : gT} (hN : wN G) (hG : gfl G = false) (σ : sg) (hw : WM σ) : cM l yX5_text wsX5_text rmX5_text G [.ref (gob G 0)] σ (some (.int (fX5_text σ).1)) (fX5_text σ).2 := by
  refine cM_of (maxL := 2) (ret := (some .int)) (cc := cX5_text) (fX5_text σ) RX5 hN (by decide +kernel) rfl rfl (Nat.le_of_ble_eq_true rfl) rfl ?_
  intro p e s m args below meth c K hr
  have km1 : ((-1) : Int32).toInt = -1 := rfl
  have k0 : (0 : Int32).toInt = 0 := rfl
  have k1 : (1 : Int32).toInt = 1 := rfl
  refine qq_st (lv' := [some (.ref (gob G 0)), none]) rfl rfl rfl ?_
  refine qq_T (fX5_text.eq_1 ..) ?_
  refine q_aload_n (pc := 0) K dX5_text_0 rfl rfl ?_
  refine q_get (pc := 1) (o := 0) (f := 0) (v := .ref (gad G 0)) K (wO_m hG) vw_4 iwX5_text_X5 (by decide) mX5_text_f9 rfl dX5_text_1 ?_
  refine q_aload_n (pc := 4) K dX5_text_4 rfl rfl ?_
  refine q_get (pc := 5) (o := 0) (f := 3) (v := .ref (gad G 3)) K (wO_m hG) vw_4 iwX5_text_X5 (by decide) mX5_text_f19 rfl dX5_text_5 ?_
  refine q_callSv (pc := 8) (rm := rmX5_row) K (kX5_row l hN hG 0 (by decide) 3 (by decide) σ (by omega)) gX5_text_X5_row rfl hdS_X5_row ⟨Nat.le_of_ble_eq_true rfl, Nat.le_of_ble_eq_true rfl⟩ rfl rfl ⟨Nat.zero_le _, Nat.zero_le _⟩ rfl rfl (Nat.le_of_ble_eq_true rfl) dX5_text_8 ?_
  refine qq_nmV (fun r1 e2 => ?_)
  have hw3 : WM r1 := by rw [e2]; exact wX5_row 0 (by decide) 3 (by decide) hw (by omega)
  have me2 := row0 (show 0 ≠ 3 by decide) e2
  refine q_aload_n (pc := 11) K dX5_text_11 rfl rfl ?_
  refine q_iconst (pc := 12) (v := 0) K dX5_text_12 (by decide) ?_
  refine q_put (pc := 13) (o := 0) (f := 12) (i := 5) (ty := .boolean) K tyX5 tyX5_ok nmX5 (wO_m hG) vw_4 iwX5_text_X5 (by decide) mX5_text_f191 rfl (tyX5_ok 12 (by decide)) rfl rfl (Nat.le_of_ble_eq_true rfl) (wP_m12 hG _) dX5_text_13 (fun s4 e5 => ?_)
  have hw6 : WM s4 := by rw [e5]; exact wmF hw3 (by omega)
  have n7 := congrArg Int32.toInt (show rF s4 1 = rF r1 1 by rw [e5]; exact sF_other (by decide))
  have n8 := congrArg Int32.toInt (show rF s4 3 = rF r1 3 by rw [e5]; exact sF_other (by decide))
  have n9 := congrArg Int32.toInt (show rF s4 4 = rF r1 4 by rw [e5]; exact sF_other (by decide))
  refine q_aload_n (pc := 16) K dX5_text_16 rfl rfl ?_
  refine q_iconst (pc := 17) (v := 0) K dX5_text_17 (by decide) ?_
  refine q_put (pc := 18) (o := 0) (f := 11) (i := 4) (ty := .int) K tyX5 tyX5_ok nmX5 (wO_m hG) vw_4 iwX5_text_X5 (by decide) mX5_text_f182 rfl (tyX5_ok 11 (by decide)) rfl rfl (Nat.le_of_ble_eq_true rfl) (wP_m11 hG _) dX5_text_18 (fun s10 e11 => ?_)
  have hw12 : WM s10 := by rw [e11]; exact wmFo hw6 (by omega) (by omega)
  have f13 := congrArg Int32.toInt (show rF s10 4 = 0 by rw [e11]; exact sF_same9)
  have n14 := congrArg Int32.toInt (show rF s10 1 = rF s4 1 by rw [e11]; exact sF_other (by decide))
  have n15 := congrArg Int32.toInt (show rF s10 3 = rF s4 3 by rw [e11]; exact sF_other (by decide))
  have n16 := congrArg Int32.toInt (show rF s10 5 = rF s4 5 by rw [e11]; exact sF_other (by decide))
  refine q_aload_n (pc := 21) K dX5_text_21 rfl rfl ?_
  refine q_callVv (pc := 22) (o := 0) (rm := rmX5_next) K (kX5_next l hN hG  s10 hw12) gX5_text_X5_next rfl hdV_X5_next ⟨Nat.le_of_ble_eq_true rfl, Nat.le_of_ble_eq_true rfl⟩ rfl rfl ⟨Nat.zero_le _, Nat.zero_le _⟩ (wO_m hG) vw_4 rfl rfl (Nat.le_of_ble_eq_true rfl) dX5_text_22 ?_
  refine qq_nmV (fun r17 e18 => ?_)
  have hw19 : WM r17 := by rw [e18]; exact wX5_next  hw12 
  have nxe18 := nx_R e18
  have nye18 := nx_M hw12 e18
  refine q_aload_n (pc := 25) K dX5_text_25 rfl rfl ?_
  refine q_callVv (pc := 26) (o := 0) (rm := rmX5_item) K (kX5_item l hN hG  r17 hw19 (by omega)) gX5_text_X5_item rfl hdV_X5_item ⟨Nat.le_of_ble_eq_true rfl, Nat.le_of_ble_eq_true rfl⟩ rfl rfl ⟨Nat.zero_le _, Nat.zero_le _⟩ (wO_m hG) vw_4 rfl rfl (Nat.le_of_ble_eq_true rfl) dX5_text_26 ?_
  refine qq_nmV (fun r20 e21 => ?_)
  have hw22 : WX r20 := by rw [e21]; exact wX5_item  hw19 (by omega)
  have mo23 := nmB (moX5_item  hw19 (by omega))
  rw [← e21] at mo23
  refine q_iconst (pc := 29) (v := 1) K dX5_text_29 (by decide) ?_
  refine q_istore_n (pc := 30) (lv' := [some (.ref (gob G 0)), some (.int 1)]) K dX5_text_30 rfl (by decide) (Nat.le_of_ble_eq_true rfl) rfl ?_
  refine lX5_text_31 l hN hG K 122 1 r20 hw22 (by omega) (by have := wx_from hw22; omega) (fun r39 hw41 x42 => ?_)
  refine q_aload_n (pc := 62) K dX5_text_62 rfl rfl ?_
  refine q_aload_n (pc := 63) K dX5_text_63 rfl rfl ?_
  refine q_get (pc := 64) (o := 0) (f := 12) (v := .int (rF r39.2 5)) K (wO_m hG) vw_4 iwX5_text_X5 (by decide) mX5_text_f191 rfl dX5_text_64 ?_
  refine q_if_ne (pc := 67) (tgt := 81) K dX5_text_67 (by decide) (fun c43 => ?_) (fun c43 => ?_)
  · have i112 := neI c43
    refine q_iconst (pc := 81) (v := 1) K dX5_text_81 (by decide) ?_
    refine q_goto (pc := 82) (tgt := 86) K dX5_text_82 (by decide) ?_
    refine q_put (pc := 86) (o := 0) (f := 12) (i := 5) (ty := .boolean) K tyX5 tyX5_ok nmX5 (wO_m hG) vw_4 iwX5_text_X5 (by decide) mX5_text_f191 rfl (tyX5_ok 12 (by decide)) rfl rfl (Nat.le_of_ble_eq_true rfl) (wP_m12 hG _) dX5_text_86 (fun s44 e45 => ?_)
    have hw46 : WX s44 := by rw [e45]; exact wxF5 hw41 (by omega)
    have n47 := congrArg Int32.toInt (show rF s44 1 = rF r39.2 1 by rw [e45]; exact sF_other (by decide))
    have n48 := congrArg Int32.toInt (show rF s44 3 = rF r39.2 3 by rw [e45]; exact sF_other (by decide))
    have n49 := congrArg Int32.toInt (show rF s44 4 = rF r39.2 4 by rw [e45]; exact sF_other (by decide))
    refine q_aload_n (pc := 89) K dX5_text_89 rfl rfl ?_
    refine q_iconst (pc := 90) (v := 0) K dX5_text_90 (by decide) ?_
    refine q_put (pc := 91) (o := 0) (f := 6) (i := 1) (ty := .int) K tyX5 tyX5_ok nmX5 (wO_m hG) vw_4 iwX5_text_X5 (by decide) mX5_text_f179 rfl (tyX5_ok 6 (by decide)) rfl rfl (Nat.le_of_ble_eq_true rfl) (wP_m6 hG _) dX5_text_91 (fun s50 e51 => ?_)
    have hw52 : WX s50 := by rw [e51]; exact wxT hw46
    have f53 := congrArg Int32.toInt (show rF s50 1 = 0 by rw [e51]; exact sF_same9)
    have n54 := congrArg Int32.toInt (show rF s50 3 = rF s44 3 by rw [e51]; exact sF_other (by decide))
    have n55 := congrArg Int32.toInt (show rF s50 4 = rF s44 4 by rw [e51]; exact sF_other (by decide))
    have n56 := congrArg Int32.toInt (show rF s50 5 = rF s44 5 by rw [e51]; exact sF_other (by decide))
    refine q_aload_n (pc := 94) K dX5_text_94 rfl rfl ?_
    refine q_get (pc := 95) (o := 0) (f := 12) (v := .int (rF s50 5)) K (wO_m hG) vw_4 iwX5_text_X5 (by decide) mX5_text_f191 rfl dX5_text_95 ?_
    refine q_if_ne (pc := 98) (tgt := 103) K dX5_text_98 (by decide) (fun c57 => ?_) (fun c57 => ?_)
    · have i63 := neI c57
      refine q_aload_n (pc := 103) K dX5_text_103 rfl rfl ?_
      refine q_get (pc := 104) (o := 0) (f := 3) (v := .ref (gad G 3)) K (wO_m hG) vw_4 iwX5_text_X5 (by decide) mX5_text_f19 rfl dX5_text_104 ?_
      refine q_aload_n (pc := 107) K dX5_text_107 rfl rfl ?_
      refine q_get (pc := 108) (o := 0) (f := 0) (v := .ref (gad G 0)) K (wO_m hG) vw_4 iwX5_text_X5 (by decide) mX5_text_f9 rfl dX5_text_108 ?_
      refine q_callSv (pc := 111) (rm := rmX5_row) K (kX5_row l hN hG 3 (by decide) 0 (by decide) s50 (by omega)) gX5_text_X5_row rfl hdS_X5_row ⟨Nat.le_of_ble_eq_true rfl, Nat.le_of_ble_eq_true rfl⟩ rfl rfl ⟨Nat.zero_le _, Nat.zero_le _⟩ rfl rfl (Nat.le_of_ble_eq_true rfl) dX5_text_111 ?_
      refine qq_nmV (fun r58 e59 => ?_)
      have hw60 : WM r58 := by rw [e59]; exact wxRow hw52
      have me59 := row0 (show 3 ≠ 0 by decide) e59
      refine q_iconst (pc := 114) (v := (-1)) K dX5_text_114 (by decide) ?_
      refine q_aload_n (pc := 115) K dX5_text_115 rfl rfl ?_
      refine q_get (pc := 116) (o := 0) (f := 10) (v := .int (rF r58 3)) K (wO_m hG) vw_4 iwX5_text_X5 (by decide) mX5_text_f185 rfl dX5_text_116 ?_
      have w61 := wm_from hw60
      refine q_isub (pc := 119) K dX5_text_119 ?_
      exact q_iret K hr dX5_text_120
    · have i64 := eqI c57
      have hw62 : WM s50 := wx_wm hw52 (by omega)
      refine q_iload_n (pc := 101) K dX5_text_101 rfl rfl ?_
      exact q_iret K hr dX5_text_102
  · have i113 := eqI c43
    refine q_aload_n (pc := 70) K dX5_text_70 rfl rfl ?_
    refine q_get (pc := 71) (o := 0) (f := 10) (v := .int (rF r39.2 3)) K (wO_m hG) vw_4 iwX5_text_X5 (by decide) mX5_text_f185 rfl dX5_text_71 ?_
    have w65 := wx_from hw41
    refine q_aload_n (pc := 74) K dX5_text_74 rfl rfl ?_
    refine q_get (pc := 75) (o := 0) (f := 6) (v := .int (rF r39.2 1)) K (wO_m hG) vw_4 iwX5_text_X5 (by decide) mX5_text_f179 rfl dX5_text_75 ?_
    have w66 := wx_taped hw41
    refine q_icmp_ge (pc := 78) (tgt := 85) K dX5_text_78 (by decide) (fun c67 => ?_) (fun c67 => ?_)
    · have i110 := leI c67
      refine q_iconst (pc := 85) (v := 0) K dX5_text_85 (by decide) ?_
      refine q_put (pc := 86) (o := 0) (f := 12) (i := 5) (ty := .boolean) K tyX5 tyX5_ok nmX5 (wO_m hG) vw_4 iwX5_text_X5 (by decide) mX5_text_f191 rfl (tyX5_ok 12 (by decide)) rfl rfl (Nat.le_of_ble_eq_true rfl) (wP_m12 hG _) dX5_text_86 (fun s68 e69 => ?_)
      have hw70 : WX s68 := by rw [e69]; exact wxF5 hw41 (by omega)
      have n71 := congrArg Int32.toInt (show rF s68 1 = rF r39.2 1 by rw [e69]; exact sF_other (by decide))
      have n72 := congrArg Int32.toInt (show rF s68 3 = rF r39.2 3 by rw [e69]; exact sF_other (by decide))
      have n73 := congrArg Int32.toInt (show rF s68 4 = rF r39.2 4 by rw [e69]; exact sF_other (by decide))
      refine q_aload_n (pc := 89) K dX5_text_89 rfl rfl ?_
      refine q_iconst (pc := 90) (v := 0) K dX5_text_90 (by decide) ?_
      refine q_put (pc := 91) (o := 0) (f := 6) (i := 1) (ty := .int) K tyX5 tyX5_ok nmX5 (wO_m hG) vw_4 iwX5_text_X5 (by decide) mX5_text_f179 rfl (tyX5_ok 6 (by decide)) rfl rfl (Nat.le_of_ble_eq_true rfl) (wP_m6 hG _) dX5_text_91 (fun s74 e75 => ?_)
      have hw76 : WX s74 := by rw [e75]; exact wxT hw70
      have f77 := congrArg Int32.toInt (show rF s74 1 = 0 by rw [e75]; exact sF_same9)
      have n78 := congrArg Int32.toInt (show rF s74 3 = rF s68 3 by rw [e75]; exact sF_other (by decide))
      have n79 := congrArg Int32.toInt (show rF s74 4 = rF s68 4 by rw [e75]; exact sF_other (by decide))
      have n80 := congrArg Int32.toInt (show rF s74 5 = rF s68 5 by rw [e75]; exact sF_other (by decide))
      refine q_aload_n (pc := 94) K dX5_text_94 rfl rfl ?_
      refine q_get (pc := 95) (o := 0) (f := 12) (v := .int (rF s74 5)) K (wO_m hG) vw_4 iwX5_text_X5 (by decide) mX5_text_f191 rfl dX5_text_95 ?_
      refine q_if_ne (pc := 98) (tgt := 103) K dX5_text_98 (by decide) (fun c81 => ?_) (fun c81 => ?_)
      · have i87 := neI c81
        refine q_aload_n (pc := 103) K dX5_text_103 rfl rfl ?_
        refine q_get (pc := 104) (o := 0) (f := 3) (v := .ref (gad G 3)) K (wO_m hG) vw_4 iwX5_text_X5 (by decide) mX5_text_f19 rfl dX5_text_104 ?_
        refine q_aload_n (pc := 107) K dX5_text_107 rfl rfl ?_
        refine q_get (pc := 108) (o := 0) (f := 0) (v := .ref (gad G 0)) K (wO_m hG) vw_4 iwX5_text_X5 (by decide) mX5_text_f9 rfl dX5_text_108 ?_
        refine q_callSv (pc := 111) (rm := rmX5_row) K (kX5_row l hN hG 3 (by decide) 0 (by decide) s74 (by omega)) gX5_text_X5_row rfl hdS_X5_row ⟨Nat.le_of_ble_eq_true rfl, Nat.le_of_ble_eq_true rfl⟩ rfl rfl ⟨Nat.zero_le _, Nat.zero_le _⟩ rfl rfl (Nat.le_of_ble_eq_true rfl) dX5_text_111 ?_
        refine qq_nmV (fun r82 e83 => ?_)
        have hw84 : WM r82 := by rw [e83]; exact wxRow hw76
        have me83 := row0 (show 3 ≠ 0 by decide) e83
        refine q_iconst (pc := 114) (v := (-1)) K dX5_text_114 (by decide) ?_
        refine q_aload_n (pc := 115) K dX5_text_115 rfl rfl ?_
        refine q_get (pc := 116) (o := 0) (f := 10) (v := .int (rF r82 3)) K (wO_m hG) vw_4 iwX5_text_X5 (by decide) mX5_text_f185 rfl dX5_text_116 ?_
        have w85 := wm_from hw84
        refine q_isub (pc := 119) K dX5_text_119 ?_
        exact q_iret K hr dX5_text_120
      · have i88 := eqI c81
        have hw86 : WM s74 := wx_wm hw76 (by omega)
        refine q_iload_n (pc := 101) K dX5_text_101 rfl rfl ?_
        exact q_iret K hr dX5_text_102
    · have i111 := nleI c67
      refine q_iconst (pc := 81) (v := 1) K dX5_text_81 (by decide) ?_
      refine q_goto (pc := 82) (tgt := 86) K dX5_text_82 (by decide) ?_
      refine q_put (pc := 86) (o := 0) (f := 12) (i := 5) (ty := .boolean) K tyX5 tyX5_ok nmX5 (wO_m hG) vw_4 iwX5_text_X5 (by decide) mX5_text_f191 rfl (tyX5_ok 12 (by decide)) rfl rfl (Nat.le_of_ble_eq_true rfl) (wP_m12 hG _) dX5_text_86 (fun s89 e90 => ?_)
      have hw91 : WX s89 := by rw [e90]; exact wxF5 hw41 (by omega)
      have n92 := congrArg Int32.toInt (show rF s89 1 = rF r39.2 1 by rw [e90]; exact sF_other (by decide))
      have n93 := congrArg Int32.toInt (show rF s89 3 = rF r39.2 3 by rw [e90]; exact sF_other (by decide))
      have n94 := congrArg Int32.toInt (show rF s89 4 = rF r39.2 4 by rw [e90]; exact sF_other (by decide))
      refine q_aload_n (pc := 89) K dX5_text_89 rfl rfl ?_
      refine q_iconst (pc := 90) (v := 0) K dX5_text_90 (by decide) ?_
      refine q_put (pc := 91) (o := 0) (f := 6) (i := 1) (ty := .int) K tyX5 tyX5_ok nmX5 (wO_m hG) vw_4 iwX5_text_X5 (by decide) mX5_text_f179 rfl (tyX5_ok 6 (by decide)) rfl rfl (Nat.le_of_ble_eq_true rfl) (wP_m6 hG _) dX5_text_91 (fun s95 e96 => ?_)
      have hw97 : WX s95 := by rw [e96]; exact wxT hw91
      have f98 := congrArg Int32.toInt (show rF s95 1 = 0 by rw [e96]; exact sF_same9)
      have n99 := congrArg Int32.toInt (show rF s95 3 = rF s89 3 by rw [e96]; exact sF_other (by decide))
      have n100 := congrArg Int32.toInt (show rF s95 4 = rF s89 4 by rw [e96]; exact sF_other (by decide))
      have n101 := congrArg Int32.toInt (show rF s95 5 = rF s89 5 by rw [e96]; exact sF_other (by decide))
      refine q_aload_n (pc := 94) K dX5_text_94 rfl rfl ?_
      refine q_get (pc := 95) (o := 0) (f := 12) (v := .int (rF s95 5)) K (wO_m hG) vw_4 iwX5_text_X5 (by decide) mX5_text_f191 rfl dX5_text_95 ?_
      refine q_if_ne (pc := 98) (tgt := 103) K dX5_text_98 (by decide) (fun c102 => ?_) (fun c102 => ?_)
      · have i108 := neI c102
        refine q_aload_n (pc := 103) K dX5_text_103 rfl rfl ?_
        refine q_get (pc := 104) (o := 0) (f := 3) (v := .ref (gad G 3)) K (wO_m hG) vw_4 iwX5_text_X5 (by decide) mX5_text_f19 rfl dX5_text_104 ?_
        refine q_aload_n (pc := 107) K dX5_text_107 rfl rfl ?_
        refine q_get (pc := 108) (o := 0) (f := 0) (v := .ref (gad G 0)) K (wO_m hG) vw_4 iwX5_text_X5 (by decide) mX5_text_f9 rfl dX5_text_108 ?_
        refine q_callSv (pc := 111) (rm := rmX5_row) K (kX5_row l hN hG 3 (by decide) 0 (by decide) s95 (by omega)) gX5_text_X5_row rfl hdS_X5_row ⟨Nat.le_of_ble_eq_true rfl, Nat.le_of_ble_eq_true rfl⟩ rfl rfl ⟨Nat.zero_le _, Nat.zero_le _⟩ rfl rfl (Nat.le_of_ble_eq_true rfl) dX5_text_111 ?_
        refine qq_nmV (fun r103 e104 => ?_)
        have hw105 : WM r103 := by rw [e104]; exact wxRow hw97
        have me104 := row0 (show 3 ≠ 0 by decide) e104
        refine q_iconst (pc := 114) (v := (-1)) K dX5_text_114 (by decide) ?_
        refine q_aload_n (pc := 115) K dX5_text_115 rfl rfl ?_
        refine q_get (pc := 116) (o := 0) (f := 10) (v := .int (rF r103 3)) K (wO_m hG) vw_4 iwX5_text_X5 (by decide) mX5_text_f185 rfl dX5_text_116 ?_
        have w106 := wm_from hw105
        refine q_isub (pc := 119) K dX5_text_119 ?_
        exact q_iret K hr dX5_text_120
      · have i109 := eqI c102
        have hw107 : WM s95 := wx_wm hw97 (by omega)
        refine q_iload_n (pc := 101) K dX5_text_101 rfl rfl ?_
        exact q_iret K hr dX5_text_102
