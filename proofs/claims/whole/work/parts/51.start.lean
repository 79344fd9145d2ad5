section WS
theorem wA_D {A : Nat → Prop} {G : gT} {σ : sg} (h : va_D A (wl G σ)) : (∀ q, wA G q → A q) ∧ wN G := by
  have e := wl_adr G σ
  refine ⟨fun q hq => ?_, fun i j hi hij => ?_⟩
  · have hq : q ∈ (wl G σ).map Prod.fst := by rw [e]; exact hq
    obtain ⟨x, hx, rfl⟩ := List.mem_map.mp hq
    obtain ⟨k, hk⟩ := List.getElem?_of_mem hx
    exact h.2 k x hk
  · rw [← e] at hi hij
    rw [List.getElem?_map, List.getElem?_map] at hij
    rw [List.length_map] at hi
    rw [List.getElem?_eq_getElem hi] at hij
    cases hq : (wl G σ)[j]? with
    | none => rw [hq] at hij; cases hij
    | some q =>
      rw [hq] at hij
      exact h.1 i j _ q (List.getElem?_eq_getElem hi) hq (Option.some.inj hij)
theorem wA_in {G : gT} (σ : sg) {q : Nat} (h : wA G q) : ∃ (k : Nat) (x : Nat × va_E), (wl G σ)[k]? = some x ∧ x.1 = q := by
  have hq : q ∈ (wl G σ).map Prod.fst := by rw [wl_adr]; exact h
  obtain ⟨x, hx, rfl⟩ := List.mem_map.mp hq
  obtain ⟨k, hk⟩ := List.getElem?_of_mem hx
  exact ⟨k, x, hk, rfl⟩
set_option maxHeartbeats 4000000 in
set_option maxRecDepth 100000 in
/-- YOUR PART: from the entry, for every script of at most 3072 ints, the law comes to its end with true ('hflags': the launch's flags, for a law that throws: no stack traces) -/
theorem whole_start {p : Program} {e : Env} {s : State} {m : MethodId} {below : List Frame} {meth : Method} {c : Code} (l : Launch) (hflags : l.flags = flags0) {b L : Nat} {xs : Nat → Int32} (hL : L ≤ 3072) (C0 : lw_At p s m meth c b L xs) : W p l e room_1 s m #[Value.ref b] below meth c s.heap [] 0 0 (lw_Z below #[Value.ref b] s) (entryFrame m ([Value.ref b] : List Value).toArray 4) := by
  obtain ⟨hx, hb, hr, hml, hown, hts, hX, hbl, hlocks, hgv⟩ := C0
  have hb : c.code = cL_law := hb
  have hown : s.vm.findClass RL = some m.cls := hown
  obtain ⟨dC, dI, cI, hK⟩ := st_K hts
  obtain ⟨kp, vp, tp, hsF⟩ := st_sF hts hgv
  obtain ⟨hN3, hN2, hAO⟩ := st_N3 hts
  have hnS := st_nS hts
  have htL : ∀ w ∈ wsL_law, w.before #[Value.ref b] s = true := fun w h => hts w (wsL_law_in w h)
  have hA : ∀ q : Nat, s.heap.size ≤ q → (fun q => s.heap.size ≤ q) q := fun q h => h
  have hS : va_S (fun q => s.heap.size ≤ q) s.heap s.heap [] := va_S.rf
  have hP : va_P (dC, dI) vwCl [] s.heap := fun k q h => by simp at h
  have hD : va_D (fun q => s.heap.size ≤ q) [] := ⟨fun i j p q h => by simp at h, fun k q h => by simp at h⟩
  have hl := lv_entry ([.ref b]) (n := 4) (Nat.le_of_ble_eq_true rfl)
  rw [lg_entry_eq]
  generalize (lg_sl ([.ref b]) ++ List.replicate (4 - (lg_sl ([.ref b])).length) Slot.unset).toArray = ls at hl ⊢
  have hl : lv_has ls 4 [(0, .ref b)] := hl
  refine va_new (ci := 3) (fs := [.null, .null, .null, .int 0, .null, .null, .null]) (C := RX4) (T := TX4) (N := 7) (index := 7) hx hb htL inlX4 tyX4 tyX4_ok hown (htL (.classLink RL 7 RX4) (inlR1 _ (List.mem_of_getElem? (i := 0) rfl))) (htL (.instantiable RX4 7) (inlR1 _ (List.mem_of_getElem? (i := 1) rfl))) (htL (.initialized RX4) (inlR1 _ (List.mem_of_getElem? (i := 2) rfl))) hK hP hD hS hA rfl (fun j hj => by rcases (show j = 0 ∨ j = 1 ∨ j = 2 ∨ j = 3 ∨ j = 4 ∨ j = 5 ∨ j = 6 by omega) with rfl | rfl | rfl | rfl | rfl | rfl | rfl <;> rfl) (Nat.le_of_ble_eq_true rfl) (Nat.le_of_ble_eq_true rfl) dL_law_0 (fun x H hP hD hS => ?_)
  have hP : va_P (dC, dI) vwCl [(x, .inr (3, [.null, .null, .null, .int 0, .null, .null, .null]))] H := hP
  have hD : va_D (fun q => s.heap.size ≤ q) [(x, .inr (3, [.null, .null, .null, .int 0, .null, .null, .null]))] := hD
  refine lv_dup hx hb dL_law_3 rfl ?_
  have hFc := va_free (wc := [(x, .inr (3, [.null, .null, .null, .int 0, .null, .null, .null]))]) hD hS hA [0] rfl
  refine va_callv (va_runI (As := []) (rest := [.ref x]) ⟨hx, hb, hml, hown, htL⟩ (kX4_init l dC dI cI kp vp tp x H.size) (cwI 0 htL gL_law_X4_init rfl rfl rfl (htL (.initialized RX4) (inlR1 _ (List.mem_of_getElem? (i := 2) rfl))) (htL (.methodLink RL 9 yX4_init) (inlR1 _ (List.mem_of_getElem? (i := 6) rfl))) (htL (.instanceMethod yX4_init) (inlR1 _ (List.mem_of_getElem? (i := 7) rfl))) rfl (by decide +kernel) ⟨(Nat.le_of_ble_eq_true rfl), (Nat.le_of_ble_eq_true rfl)⟩) ⟨fun a U g mk q => by obtain ⟨q0, q1, qP, qK, qD, q5, q6, q7⟩ := q; exact ⟨q0, q1, qP, va_K.moved (u := U) (U := U.calling g mk a) (Vm.Alike.refl U.vm) qK, qD, va_AO.moved (u := U) (U := U.calling g mk a) (Vm.Alike.refl U.vm) q5, va_Nw.same (U := U.calling g mk a) rfl rfl q6, va_Nw.same (U := U.calling g mk a) rfl rfl q7⟩, fun U hU hW => ⟨rfl, by rw [hU], by rw [hU]; exact hP, va_K.moved hW.alike hK, hD.weaken (fun _ _ _ _ => trivial), va_AO.moved hW.alike hAO, va_Nw.warmM hW hN3, va_Nw.warmM hW hN2⟩⟩ rfl rfl hl.1 rfl (lv_room (Nat.le_of_ble_eq_true rfl)) dL_law_4 ⟨(Nat.le_of_ble_eq_true rfl), (Nat.le_of_ble_eq_true rfl)⟩) hS (fun q _ h => hFc q h) hFc (fun u t H1 locs ht hvm hu hB hz1 hk1 hS => ?_)
  obtain ⟨GD, σ⟩ := u
  obtain ⟨hP1, hK1, hD1⟩ := hB
  rw [ht] at hP1
  have hKd : va_K (dC, dI) vwCl (gty GD) s := va_K.moved hvm.symm hK1
  have hP : va_P (dC, dI) vwCl (wl GD σ) H1 := hP1
  have hD : va_D (fun q => s.heap.size ≤ q) (wl GD σ) := ⟨hD1.1, fun k q hk => hFc _ (hD1.2 k q hk)⟩
  have hu : iX4 dC dI cI kp vp tp x GD σ := hu
  clear hP1 hD1 hK1 hFc hk1
  refine lv_astore_n (lv' := [(1, .ref x), (0, .ref b)]) hx hb dL_law_7 rfl hl (by decide) rfl (fun ls hl => ?_)
  refine va_new (ci := 4) (fs := [.null, .null, .null, .null, .int 0, .null, .int 0, .null, .null, .int 0, .int 0, .int 0, .int 0, .null, .null, .null, .null]) (C := RX5) (T := TX5) (N := 17) (index := 10) hx hb htL inlX5 tyX5 tyX5_ok hown (htL (.classLink RL 10 RX5) (inlR1 _ (List.mem_of_getElem? (i := 3) rfl))) (htL (.instantiable RX5 17) (inlR1 _ (List.mem_of_getElem? (i := 4) rfl))) (htL (.initialized RX5) (inlR1 _ (List.mem_of_getElem? (i := 5) rfl))) hK hP hD hS hA rfl (fun j hj => by rcases (show j = 0 ∨ j = 1 ∨ j = 2 ∨ j = 3 ∨ j = 4 ∨ j = 5 ∨ j = 6 ∨ j = 7 ∨ j = 8 ∨ j = 9 ∨ j = 10 ∨ j = 11 ∨ j = 12 ∨ j = 13 ∨ j = 14 ∨ j = 15 ∨ j = 16 by omega) with rfl | rfl | rfl | rfl | rfl | rfl | rfl | rfl | rfl | rfl | rfl | rfl | rfl | rfl | rfl | rfl | rfl <;> rfl) (Nat.le_of_ble_eq_true rfl) (Nat.le_of_ble_eq_true rfl) dL_law_8 (fun y H2 hP2 hD2 hS2 => ?_)
  refine lv_dup hx hb dL_law_11 rfl ?_
  have hy : (wl GD σ ++ [(y, .inr (4, [.null, .null, .null, .null, .int 0, .null, .int 0, .null, .null, .int 0, .int 0, .int 0, .int 0, .null, .null, .null, .null]))])[(wl GD σ).length]? = some (y, .inr (4, [.null, .null, .null, .null, .int 0, .null, .int 0, .null, .null, .int 0, .int 0, .int 0, .int 0, .null, .null, .null, .null])) := by rw [List.getElem?_append_right (Nat.le_refl _), Nat.sub_self]; rfl
  have hPy : va_P (dC, dI) vwCl [(y, .inr (4, [.null, .null, .null, .null, .int 0, .null, .int 0, .null, .null, .int 0, .int 0, .int 0, .int 0, .null, .null, .null, .null]))] H2 := fun k q hk => hP2 ((wl GD σ).length + k) q (by rw [List.getElem?_append_right (Nat.le_add_right _ _), Nat.add_sub_cancel_left]; exact hk)
  have hDy : va_D (fun _ => True) [(y, .inr (4, [.null, .null, .null, .null, .int 0, .null, .int 0, .null, .null, .int 0, .int 0, .int 0, .int 0, .null, .null, .null, .null]))] := ⟨fun i j p q hp hq _ => by
    have g1 : i < 1 := (List.getElem?_eq_some_iff.mp hp).1
    have g2 : j < 1 := (List.getElem?_eq_some_iff.mp hq).1
    omega, fun _ _ _ => trivial⟩
  have hFy := va_free (wc := [(y, .inr (4, [.null, .null, .null, .null, .int 0, .null, .int 0, .null, .null, .int 0, .int 0, .int 0, .int 0, .null, .null, .null, .null]))]) hD2 hS2 hA [(wl GD σ).length] (by rw [List.map_cons, hy]; rfl)
  have hPd : va_P (dC, dI) vwCl (wl GD σ) H2 := fun k q hk => hP2 k q (by rw [List.getElem?_append_left (List.getElem?_eq_some_iff.mp hk).1]; exact hk)
  have hnot : ∀ (k : Nat) (q : Nat × va_E), (wl GD σ)[k]? = some q → ¬ va_A [(y, .inr (4, [.null, .null, .null, .null, .int 0, .null, .int 0, .null, .null, .int 0, .int 0, .int 0, .int 0, .null, .null, .null, .null]))] H2.size q.1 := fun k q hk h => by
    rcases h with ⟨k2, e2, h⟩ | h
    · have hlt := (List.getElem?_eq_some_iff.mp hk).1
      have g1 : k2 < 1 := (List.getElem?_eq_some_iff.mp h).1
      obtain rfl : k2 = 0 := by omega
      have g2 : y = q.1 := congrArg Prod.fst (Option.some.inj h)
      have g3 := hD2.1 k (wl GD σ).length q (y, .inr (4, [.null, .null, .null, .null, .int 0, .null, .int 0, .null, .null, .int 0, .int 0, .int 0, .int 0, .null, .null, .null, .null])) (by rw [List.getElem?_append_left hlt]; exact hk) hy g2.symm
      omega
    · exact absurd ((hPd k q hk).lt) (Nat.not_lt.mpr h)
  refine va_callv (va_runI (As := []) (rest := [.ref y]) ⟨hx, hb, hml, hown, htL⟩ (kX5_init l dC dI cI y H2.size) (cwI 0 htL gL_law_X5_init rfl rfl rfl (htL (.initialized RX5) (inlR1 _ (List.mem_of_getElem? (i := 5) rfl))) (htL (.methodLink RL 12 yX5_init) (inlR3 _ (List.mem_of_getElem? (i := 15) rfl))) (htL (.instanceMethod yX5_init) (inlR3 _ (List.mem_of_getElem? (i := 16) rfl))) rfl (by decide +kernel) ⟨(Nat.le_of_ble_eq_true rfl), (Nat.le_of_ble_eq_true rfl)⟩) ⟨fun a U g mk q => by obtain ⟨q0, q1, qP, qK, qD⟩ := q; exact ⟨q0, q1, qP, va_K.moved (u := U) (U := U.calling g mk a) (Vm.Alike.refl U.vm) qK, qD⟩, fun U hU hW => ⟨rfl, by rw [hU], by rw [hU]; exact hPy, va_K.moved hW.alike hK, hDy⟩⟩ rfl rfl hl.1 rfl (lv_room (Nat.le_of_ble_eq_true rfl)) dL_law_12 ⟨(Nat.le_of_ble_eq_true rfl), (Nat.le_of_ble_eq_true rfl)⟩) hS2 (fun q _ h => hFy q h) hFy (fun u2 t2 H3 locs3 ht2 hvm2 hu2 hB2 hz2 hk2 hS3 => ?_)
  obtain ⟨hPm, -, hDm⟩ := hB2
  rw [ht2] at hPm
  obtain ⟨GM, hGM⟩ : ∃ G : gT, G = (false, (fun _ => y), u2.1, 0, cI, gcS GD, (dC, dI), kp, vp, tp) := ⟨_, rfl⟩
  obtain ⟨τ, hτ⟩ : ∃ τ : sg, τ = (va_up (fun _ _ => 0) 0 u2.2, fun _ => 0) := ⟨_, rfl⟩
  have hPm : va_P (dC, dI) vwCl (wl GM τ) H3 := by subst hGM hτ; exact hPm
  have hDm : va_D (va_A [(y, .inr (4, [.null, .null, .null, .null, .int 0, .null, .int 0, .null, .null, .int 0, .int 0, .int 0, .int 0, .null, .null, .null, .null]))] H2.size) (wl GM τ) := by subst hGM hτ; exact hDm
  have hg : iX5 τ := by
    subst hτ
    exact ⟨fun _ => rfl, hu2, fun a i ha => by
      show (if a = 0 then u2.2 else fun _ => 0) i = 0
      rw [if_neg ha]⟩
  have hPd3 : va_P (dC, dI) vwCl (wl GD σ) H3 := hPd.kept (fun k q hk => hk2 q.1 ((hPd k q hk).lt) (hnot k q hk))
  have hDm2 : va_D (fun q => s.heap.size ≤ q) (wl GM τ) := ⟨hDm.1, fun k q hk => hFy _ (hDm.2 k q hk)⟩
  have hAD := wA_D hD
  have hAM := wA_D hDm2
  have hap : ∀ q, wA GD q → ¬ wA GM q := fun q h1 h2 => by
    obtain ⟨k, x9, hk, rfl⟩ := wA_in σ h1
    exact hnot k x9 hk ((wA_D hDm).1 _ h2)
  have hu0 := hu
  obtain ⟨e1, e2, e3, e4, e5, e6, e7, -⟩ := hu0
  have hKM : va_K (dC, dI) vwCl [(cI, .int), (gcS GD, .object RX2)] s := by
    have h := hKd
    rw [show gty GD = [(gcI GD, .int), (gcS GD, .object RX2)] from rfl, e4] at h
    exact h
  have m1 : gfl GM = false := by subst hGM; rfl
  have m2 : gob GM 0 = y := by subst hGM; rfl
  have m3 : gD GM = (dC, dI) := by subst hGM; rfl
  have m4 : gty GM = [(cI, .int), (gcS GD, .object RX2)] := by subst hGM; rfl
  have m5 : gK GM = kp := by subst hGM; rfl
  have m6 : gV GM = vp := by subst hGM; rfl
  have m7 : gt GM = tp := by subst hGM; rfl
  have K : LK p s m c b L xs GD GM := ⟨hx, hb, hml, hown, htL, ⟨by rw [e3]; exact hKd, by rw [m3, m4]; exact hKM⟩, hnS, ⟨hsF GD e5 e6 e7 hAD.1, hsF GM m5 m6 m7 hAM.1⟩, ⟨hAD.2, hAM.2⟩, ⟨e1, m1⟩, ⟨hAD.1, hAM.1, hap⟩, hbl, hX⟩
  refine lv_astore_n (lv' := [(2, .ref y), (1, .ref x), (0, .ref b)]) hx hb dL_law_15 rfl hl (by decide) rfl (fun ls hl => ?_)
  refine lv_iconst (v := 0) hx hb dL_law_16 (by decide) ?_
  refine lv_istore_n (lv' := [(3, .int 0), (2, .ref y), (1, .ref x), (0, .ref b)]) hx hb dL_law_17 rfl hl (by decide) rfl (fun ls hl => ?_)
  refine W.widen (k := 600000) (n := 7302250) (Nat.le_of_ble_eq_true rfl) (Nat.le_of_ble_eq_true rfl) ?_
  obtain ⟨hRG, hWD, hWM⟩ := init_RG hu hg
  have hl : lv_has ls 4 (lvL b GD GM 0) := by rw [lvL, e2, m2]; exact hl
  exact law_loop K hL hr hlocks 3078 0 σ τ (by decide) (by decide) (by decide) hRG hWD hWM H3 locs3 ls (by rw [e3]; exact hPd3) (by rw [m3]; exact hPm) hS3 hl
end WS
