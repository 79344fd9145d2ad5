-- the JDK's own methods that String constants reach: coder, isLatin1, length, charAt
theorem hdV_J0_coder_7d493 : yJ0_coder_7d493.cls = RJ0 ∧ yJ0_coder_7d493.cls ≠ "java/lang/invoke/MethodHandle" ∧ yJ0_coder_7d493.cls ≠ "java/lang/invoke/VarHandle" ∧ (parseMethodDescriptor yJ0_coder_7d493.desc).map (fun d => d.parameters.length) = some 0 := by decide +kernel
theorem hdV_J0_isLatin1_aae02 : yJ0_isLatin1_aae02.cls = RJ0 ∧ yJ0_isLatin1_aae02.cls ≠ "java/lang/invoke/MethodHandle" ∧ yJ0_isLatin1_aae02.cls ≠ "java/lang/invoke/VarHandle" ∧ (parseMethodDescriptor yJ0_isLatin1_aae02.desc).map (fun d => d.parameters.length) = some 0 := by decide +kernel
theorem hdV_J0_length_8abf5 : yJ0_length_8abf5.cls = RJ0 ∧ yJ0_length_8abf5.cls ≠ "java/lang/invoke/MethodHandle" ∧ yJ0_length_8abf5.cls ≠ "java/lang/invoke/VarHandle" ∧ (parseMethodDescriptor yJ0_length_8abf5.desc).map (fun d => d.parameters.length) = some 0 := by decide +kernel
theorem hdV_J0_charAt_5068e : yJ0_charAt_5068e.cls = RJ0 ∧ yJ0_charAt_5068e.cls ≠ "java/lang/invoke/MethodHandle" ∧ yJ0_charAt_5068e.cls ≠ "java/lang/invoke/VarHandle" ∧ (parseMethodDescriptor yJ0_charAt_5068e.desc).map (fun d => d.parameters.length) = some 1 := by decide +kernel
theorem hdS_J3_checkIndex_8e157 : yJ3_checkIndex_8e157.cls ≠ "java/lang/invoke/MethodHandle" ∧ yJ3_checkIndex_8e157.cls ≠ "java/lang/invoke/VarHandle" ∧ (parseMethodDescriptor yJ3_checkIndex_8e157.desc).map (fun d => d.parameters.length) = some 3 := by decide +kernel
theorem hdS_J0_checkIndex_df160 : yJ0_checkIndex_df160.cls ≠ "java/lang/invoke/MethodHandle" ∧ yJ0_checkIndex_df160.cls ≠ "java/lang/invoke/VarHandle" ∧ (parseMethodDescriptor yJ0_checkIndex_df160.desc).map (fun d => d.parameters.length) = some 2 := by decide +kernel
theorem hdS_J1_charAt_3b067 : yJ1_charAt_3b067.cls ≠ "java/lang/invoke/MethodHandle" ∧ yJ1_charAt_3b067.cls ≠ "java/lang/invoke/VarHandle" ∧ (parseMethodDescriptor yJ1_charAt_3b067.desc).map (fun d => d.parameters.length) = some 2 := by decide +kernel
def rmJ0_coder_7d493 : Room := { frames := 0, cells := 0, slots := 0, locals := 0 }
def rmJ0_isLatin1_aae02 : Room := { frames := 0, cells := 0, slots := 0, locals := 0 }
def rmJ0_length_8abf5 : Room := { frames := 1, cells := 0, slots := 0, locals := 20 }
def rmJ3_checkIndex_8e157 : Room := { frames := 0, cells := 0, slots := 0, locals := 0 }
def rmJ0_checkIndex_df160 : Room := { frames := 1, cells := 0, slots := 0, locals := 22 }
def rmJ1_charAt_3b067 : Room := { frames := 2, cells := 0, slots := 0, locals := 43 }
def rmJ0_charAt_5068e : Room := { frames := 5, cells := 0, slots := 0, locals := 85 }
/-- a constant's length, its characters -/
def fJ0_length_8abf5 (w : Nat) : Int32 := jshr (nI (stL.getD w 0)) 0
def fJ0_charAt_5068e (w : Nat) (i : Int32) : Int32 := jch (((stB.getD w []).getD i.toNatClampNeg 0) &&& 255)
theorem jchar_ok (x : Int32) : narrow .char (.int (jch x)) = .int (jch x) := pk_nc x
set_option maxRecDepth 100000 in
set_option maxHeartbeats 4000000 in
theorem kJ0_coder_7d493 (l : Launch) {G : gT} (hN : wN G) (w : Nat) (hw : w < 18) (σ : sg) : cM l yJ0_coder_7d493 wsJ0_coder_7d493 rmJ0_coder_7d493 G [.ref (gK G w)] σ (some (.int 0)) σ := by
  refine cM_of (maxL := 1) (ret := (some .byte)) (cc := cJ0_coder_7d493) (0 : Int32) RJ0 hN (by decide +kernel) rfl rfl (Nat.le_of_ble_eq_true rfl) rfl ?_
  intro p e s m args below meth c K hr
  have hF := K.2.2.2.2.2.2.2.2.2
  refine qq_st (lv' := [some (.ref (gK G w))]) rfl rfl rfl ?_
  refine q_gets (pc := 0) K (v := .int 1) hF.2.2.2.2.1 (List.mem_of_getElem? (i := 1) rfl) dJ0_coder_7d493_0 ?_
  refine q_if_eq_f (pc := 3) (tgt := 13) K (by decide) dJ0_coder_7d493_3 (by decide) ?_
  refine q_aload_n (pc := 6) K dJ0_coder_7d493_6 rfl rfl ?_
  refine q_sget (pc := 7) K (v := .int 0) (hF.1.1 w hw).2.1 (List.mem_of_getElem? (i := 2) rfl) dJ0_coder_7d493_7 ?_
  refine q_goto (pc := 10) (tgt := 14) K dJ0_coder_7d493_10 (by decide) ?_
  exact q_nretP K hr rfl dJ0_coder_7d493_14
set_option maxRecDepth 100000 in
set_option maxHeartbeats 4000000 in
theorem kJ0_isLatin1_aae02 (l : Launch) {G : gT} (hN : wN G) (w : Nat) (hw : w < 18) (σ : sg) : cM l yJ0_isLatin1_aae02 wsJ0_isLatin1_aae02 rmJ0_isLatin1_aae02 G [.ref (gK G w)] σ (some (.int 1)) σ := by
  refine cM_of (maxL := 1) (ret := (some .boolean)) (cc := cJ0_isLatin1_aae02) (1 : Int32) RJ0 hN (by decide +kernel) rfl rfl (Nat.le_of_ble_eq_true rfl) rfl ?_
  intro p e s m args below meth c K hr
  have hF := K.2.2.2.2.2.2.2.2.2
  refine qq_st (lv' := [some (.ref (gK G w))]) rfl rfl rfl ?_
  refine q_gets (pc := 0) K (v := .int 1) hF.2.2.2.2.1 (List.mem_of_getElem? (i := 1) rfl) dJ0_isLatin1_aae02_0 ?_
  refine q_if_eq_f (pc := 3) (tgt := 17) K (by decide) dJ0_isLatin1_aae02_3 (by decide) ?_
  refine q_aload_n (pc := 6) K dJ0_isLatin1_aae02_6 rfl rfl ?_
  refine q_sget (pc := 7) K (v := .int 0) (hF.1.1 w hw).2.1 (List.mem_of_getElem? (i := 2) rfl) dJ0_isLatin1_aae02_7 ?_
  refine q_if_ne_f (pc := 10) (tgt := 17) K rfl dJ0_isLatin1_aae02_10 (by decide) ?_
  refine q_iconst (pc := 13) (v := 1) K dJ0_isLatin1_aae02_13 (by decide) ?_
  refine q_goto (pc := 14) (tgt := 18) K dJ0_isLatin1_aae02_14 (by decide) ?_
  exact q_zretP K hr (Or.inr rfl) dJ0_isLatin1_aae02_18
set_option maxRecDepth 100000 in
set_option maxHeartbeats 4000000 in
theorem kJ0_length_8abf5 (l : Launch) {G : gT} (hN : wN G) (w : Nat) (hw : w < 18) (σ : sg) : cM l yJ0_length_8abf5 wsJ0_length_8abf5 rmJ0_length_8abf5 G [.ref (gK G w)] σ (some (.int (fJ0_length_8abf5 w))) σ := by
  refine cM_of (maxL := 1) (ret := (some .int)) (cc := cJ0_length_8abf5) (fJ0_length_8abf5 w) RJ0 hN (by decide +kernel) rfl rfl (Nat.le_of_ble_eq_true rfl) rfl ?_
  intro p e s m args below meth c K hr
  have hF := K.2.2.2.2.2.2.2.2.2
  refine qq_st (lv' := [some (.ref (gK G w))]) rfl rfl rfl ?_
  refine qq_T (fJ0_length_8abf5.eq_1 ..) ?_
  refine q_aload_n (pc := 0) K dJ0_length_8abf5_0 rfl rfl ?_
  refine q_sget (pc := 1) K (v := .ref (gV G w)) (hF.1.1 w hw).2.2.1 (List.mem_of_getElem? (i := 1) rfl) dJ0_length_8abf5_1 ?_
  refine q_tlen (pc := 4) K (hF.1.1 w hw).2.2.2 (v := nI (stL.getD w 0)) rfl dJ0_length_8abf5_4 ?_
  refine q_aload_n (pc := 5) K dJ0_length_8abf5_5 rfl rfl ?_
  refine q_callK (pc := 6) (rm := rmJ0_coder_7d493) K hw (kJ0_coder_7d493 l hN w hw σ) gJ0_length_8abf5_J0_coder_7d493 rfl hdV_J0_coder_7d493 ⟨Nat.le_of_ble_eq_true rfl, Nat.le_of_ble_eq_true rfl⟩ rfl rfl ⟨Nat.zero_le _, Nat.zero_le _⟩ rfl rfl (Nat.le_of_ble_eq_true rfl) dJ0_length_8abf5_6 ?_
  refine q_ishr (pc := 9) K dJ0_length_8abf5_9 ?_
  exact q_iretP K hr dJ0_length_8abf5_10
set_option maxRecDepth 100000 in
set_option maxHeartbeats 4000000 in
theorem kJ3_checkIndex_8e157 (l : Launch) {G : gT} (hN : wN G) (i n : Int32) (z : Value) (hz : z.category = 1) (σ : sg) (h1 : ¬ i < 0) (h2 : i < n) : cM l yJ3_checkIndex_8e157 wsJ3_checkIndex_8e157 rmJ3_checkIndex_8e157 G [.int i, .int n, z] σ (some (.int i)) σ := by
  refine cM_of (maxL := 3) (ret := (some .int)) (cc := cJ3_checkIndex_8e157) (i : Int32) RJ3 hN (by decide +kernel) rfl rfl (Nat.le_of_ble_eq_true rfl) (by simp only [List.all_cons, List.all_nil, hz]; rfl) ?_
  intro p e s m args below meth c K hr
  refine qq_st (lv' := [some (.int i), some (.int n), some z]) rfl rfl rfl ?_
  refine q_iload_n (pc := 0) K dJ3_checkIndex_8e157_0 rfl rfl ?_
  refine q_if_lt_f (pc := 1) (tgt := 9) K h1 dJ3_checkIndex_8e157_1 (by decide) ?_
  refine q_iload_n (pc := 4) K dJ3_checkIndex_8e157_4 rfl rfl ?_
  refine q_iload_n (pc := 5) K dJ3_checkIndex_8e157_5 rfl rfl ?_
  refine q_icmp_lt_t (pc := 6) (tgt := 16) K h2 dJ3_checkIndex_8e157_6 (by decide) ?_
  refine q_iload_n (pc := 16) K dJ3_checkIndex_8e157_16 rfl rfl ?_
  exact q_iretP K hr dJ3_checkIndex_8e157_17
set_option maxRecDepth 100000 in
set_option maxHeartbeats 4000000 in
theorem kJ0_checkIndex_df160 (l : Launch) {G : gT} (hN : wN G) (i n : Int32) (σ : sg) (h1 : ¬ i < 0) (h2 : i < n) : cM l yJ0_checkIndex_df160 wsJ0_checkIndex_df160 rmJ0_checkIndex_df160 G [.int i, .int n] σ none σ := by
  refine cM_of (maxL := 2) (ret := none) (cc := cJ0_checkIndex_df160) () RJ0 hN (by decide +kernel) rfl rfl (Nat.le_of_ble_eq_true rfl) rfl ?_
  intro p e s m args below meth c K hr
  have hF := K.2.2.2.2.2.2.2.2.2.2.2.2.2.2
  refine qq_st (lv' := [some (.int i), some (.int n)]) rfl rfl rfl ?_
  refine q_iload_n (pc := 0) K dJ0_checkIndex_df160_0 rfl rfl ?_
  refine q_iload_n (pc := 1) K dJ0_checkIndex_df160_1 rfl rfl ?_
  rcases hF with hZ | ⟨t, hZ⟩
  · refine q_gets (pc := 2) K (v := .null) hZ (List.mem_of_getElem? (i := 1) rfl) dJ0_checkIndex_df160_2 ?_
    refine q_callSi (pc := 5) (rm := rmJ3_checkIndex_8e157) K (kJ3_checkIndex_8e157 l hN i n .null rfl σ h1 h2) gJ0_checkIndex_df160_J3_checkIndex_8e157 rfl hdS_J3_checkIndex_8e157 ⟨Nat.le_of_ble_eq_true rfl, Nat.le_of_ble_eq_true rfl⟩ rfl rfl ⟨Nat.zero_le _, Nat.zero_le _⟩ rfl rfl (Nat.le_of_ble_eq_true rfl) dJ0_checkIndex_df160_5 ?_
    refine q_pop (pc := 8) K dJ0_checkIndex_df160_8 rfl ?_
    exact q_vretP K hr dJ0_checkIndex_df160_9
  · refine q_gets (pc := 2) K (v := .ref t) hZ (List.mem_of_getElem? (i := 1) rfl) dJ0_checkIndex_df160_2 ?_
    refine q_callSi (pc := 5) (rm := rmJ3_checkIndex_8e157) K (kJ3_checkIndex_8e157 l hN i n (.ref t) rfl σ h1 h2) gJ0_checkIndex_df160_J3_checkIndex_8e157 rfl hdS_J3_checkIndex_8e157 ⟨Nat.le_of_ble_eq_true rfl, Nat.le_of_ble_eq_true rfl⟩ rfl rfl ⟨Nat.zero_le _, Nat.zero_le _⟩ rfl rfl (Nat.le_of_ble_eq_true rfl) dJ0_checkIndex_df160_5 ?_
    refine q_pop (pc := 8) K dJ0_checkIndex_df160_8 rfl ?_
    exact q_vretP K hr dJ0_checkIndex_df160_9
set_option maxRecDepth 100000 in
set_option maxHeartbeats 4000000 in
theorem kJ1_charAt_3b067 (l : Launch) {G : gT} (hN : wN G) (w : Nat) (hw : w < 18) (i : Int32) (σ : sg) (h1 : ¬ i < 0) (h2 : i < nI (stL.getD w 0)) (h3 : vp_in i (stL.getD w 0)) : cM l yJ1_charAt_3b067 wsJ1_charAt_3b067 rmJ1_charAt_3b067 G [.ref (gV G w), .int i] σ (some (.int (fJ0_charAt_5068e w i))) σ := by
  refine cM_of (maxL := 2) (ret := (some .char)) (cc := cJ1_charAt_3b067) (fJ0_charAt_5068e w i) RJ1 hN (by decide +kernel) rfl rfl (Nat.le_of_ble_eq_true rfl) rfl ?_
  intro p e s m args below meth c K hr
  have hF := K.2.2.2.2.2.2.2.2.2
  refine qq_st (lv' := [some (.ref (gV G w)), some (.int i)]) rfl rfl rfl ?_
  refine qq_T (fJ0_charAt_5068e.eq_1 ..) ?_
  refine q_iload_n (pc := 0) K dJ1_charAt_3b067_0 rfl rfl ?_
  refine q_aload_n (pc := 1) K dJ1_charAt_3b067_1 rfl rfl ?_
  refine q_tlen (pc := 2) K (hF.1.1 w hw).2.2.2 (v := nI (stL.getD w 0)) rfl dJ1_charAt_3b067_2 ?_
  refine q_callSv (pc := 3) (rm := rmJ0_checkIndex_df160) K (kJ0_checkIndex_df160 l hN i (nI (stL.getD w 0)) σ h1 h2) gJ1_charAt_3b067_J0_checkIndex_df160 rfl hdS_J0_checkIndex_df160 ⟨Nat.le_of_ble_eq_true rfl, Nat.le_of_ble_eq_true rfl⟩ rfl rfl ⟨Nat.zero_le _, Nat.zero_le _⟩ rfl rfl (Nat.le_of_ble_eq_true rfl) dJ1_charAt_3b067_3 ?_
  refine q_aload_n (pc := 6) K dJ1_charAt_3b067_6 rfl rfl ?_
  refine q_iload_n (pc := 7) K dJ1_charAt_3b067_7 rfl rfl ?_
  refine q_tbald (pc := 8) K (hF.1.1 w hw).2.2.2 h3 (v := .int ((stB.getD w []).getD i.toNatClampNeg 0)) rfl dJ1_charAt_3b067_8 ?_
  refine q_sipush (pc := 9) (v := 255) K dJ1_charAt_3b067_9 (by decide) ?_
  refine q_iand (pc := 12) K dJ1_charAt_3b067_12 ?_
  refine q_i2c (pc := 13) K dJ1_charAt_3b067_13 ?_
  exact q_nretP K hr (jchar_ok _) dJ1_charAt_3b067_14
set_option maxRecDepth 100000 in
set_option maxHeartbeats 4000000 in
theorem kJ0_charAt_5068e (l : Launch) {G : gT} (hN : wN G) (w : Nat) (hw : w < 18) (i : Int32) (σ : sg) (h1 : ¬ i < 0) (h2 : i < nI (stL.getD w 0)) (h3 : vp_in i (stL.getD w 0)) : cM l yJ0_charAt_5068e wsJ0_charAt_5068e rmJ0_charAt_5068e G [.ref (gK G w), .int i] σ (some (.int (fJ0_charAt_5068e w i))) σ := by
  refine cM_of (maxL := 2) (ret := (some .char)) (cc := cJ0_charAt_5068e) (fJ0_charAt_5068e w i) RJ0 hN (by decide +kernel) rfl rfl (Nat.le_of_ble_eq_true rfl) rfl ?_
  intro p e s m args below meth c K hr
  have hF := K.2.2.2.2.2.2.2.2.2
  refine qq_st (lv' := [some (.ref (gK G w)), some (.int i)]) rfl rfl rfl ?_
  refine q_aload_n (pc := 0) K dJ0_charAt_5068e_0 rfl rfl ?_
  refine q_callK (pc := 1) (rm := rmJ0_isLatin1_aae02) K hw (kJ0_isLatin1_aae02 l hN w hw σ) gJ0_charAt_5068e_J0_isLatin1_aae02 rfl hdV_J0_isLatin1_aae02 ⟨Nat.le_of_ble_eq_true rfl, Nat.le_of_ble_eq_true rfl⟩ rfl rfl ⟨Nat.zero_le _, Nat.zero_le _⟩ rfl rfl (Nat.le_of_ble_eq_true rfl) dJ0_charAt_5068e_1 ?_
  refine q_if_eq_f (pc := 4) (tgt := 16) K (by decide) dJ0_charAt_5068e_4 (by decide) ?_
  refine q_aload_n (pc := 7) K dJ0_charAt_5068e_7 rfl rfl ?_
  refine q_sget (pc := 8) K (v := .ref (gV G w)) (hF.1.1 w hw).2.2.1 (List.mem_of_getElem? (i := 1) rfl) dJ0_charAt_5068e_8 ?_
  refine q_iload_n (pc := 11) K dJ0_charAt_5068e_11 rfl rfl ?_
  refine q_callSi (pc := 12) (rm := rmJ1_charAt_3b067) K (kJ1_charAt_3b067 l hN w hw i σ h1 h2 h3) gJ0_charAt_5068e_J1_charAt_3b067 rfl hdS_J1_charAt_3b067 ⟨Nat.le_of_ble_eq_true rfl, Nat.le_of_ble_eq_true rfl⟩ rfl rfl ⟨Nat.zero_le _, Nat.zero_le _⟩ rfl rfl (Nat.le_of_ble_eq_true rfl) dJ0_charAt_5068e_12 ?_
  exact q_nretP K hr (jchar_ok _) dJ0_charAt_5068e_15
theorem lenD : ∀ w : Nat, w < 18 → (fJ0_length_8abf5 w).toInt = (stL.getD w 0 : Nat) ∧ 1 ≤ stL.getD w 0 ∧ stL.getD w 0 ≤ 7 := by decide +kernel
theorem lenB {w : Nat} (hw : w < 18) : 1 ≤ (fJ0_length_8abf5 w).toInt ∧ (fJ0_length_8abf5 w).toInt ≤ 7 := by
  have h := lenD w hw
  omega
theorem chOK {w : Nat} (hw : w < 18) {i : Int32} (h1 : 0 ≤ i.toInt) (h2 : i.toInt < (fJ0_length_8abf5 w).toInt) : (¬ i < 0) ∧ i < nI (stL.getD w 0) ∧ vp_in i (stL.getD w 0) := by
  have h := lenD w hw
  have hn := nI_toInt (n := stL.getD w 0) (by omega)
  refine ⟨fun q => ?_, Int32.lt_iff_toInt_lt.mpr (by omega), vinM h1 (by omega)⟩
  have := ltI q
  have k0 : (0 : Int32).toInt = 0 := rfl
  omega
