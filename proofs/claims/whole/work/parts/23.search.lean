theorem hd_X3_getsOut : yX3_getsOut.cls ≠ "java/lang/invoke/MethodHandle" ∧ yX3_getsOut.cls ≠ "java/lang/invoke/VarHandle" ∧ (parseMethodDescriptor yX3_getsOut.desc).map (fun d => d.parameters.length) = some 2 := by decide +kernel
set_option maxHeartbeats 4000000 in
set_option maxRecDepth 100000 in
theorem c_X3_getsOut (l : Launch) (D : va_G) (cI cZ : ClassId) (o00 : Nat) (o01 : Nat) (o02 : Nat) (o03 : Nat) (o04 : Nat) (sz : Nat) (u_o0 : sW) (p1 : Int32) (z : Int32 × Unit) (hf : f_X3_getsOut u_o0 p1 = some z) : Met l yX3_getsOut wsX3_getsOut rmX3_getsOut (va_Pc [.ref o00, .int p1] (wPr D cI cZ (ceW cI cZ o00 o01 o02 o03 o04 u_o0) sz)) (va_Qi (fun (r : Int32) (v : Unit) => (r, v) = z) (fun (v : Unit) t => wPo D cI cZ (va_A (ceW cI cZ o00 o01 o02 o03 o04 u_o0) sz) (ceW cI cZ o00 o01 o02 o03 o04 u_o0) t) (va_A (ceW cI cZ o00 o01 o02 o03 o04 u_o0) sz)) 0 0 (va_A (ceW cI cZ o00 o01 o02 o03 o04 u_o0) sz) := by
  refine k_enter (D := D) (cI := cI) (cZ := cZ) (wl := ceW cI cZ o00 o01 o02 o03 o04 u_o0) (sz := sz) (av := [.ref o00, .int p1]) (cc := cX3_getsOut) (maxL := 2) (ret := (some .boolean)) (Qc := fun A => va_Qi (fun (r : Int32) (v : Unit) => (r, v) = z) (fun (v : Unit) t => wPo D cI cZ (A) (ceW cI cZ o00 o01 o02 o03 o04 u_o0) t) (A)) (by decide) rfl (Nat.le_of_ble_eq_true rfl) ?_
  intro p e s m below meth c ls A Q H locs eQ hx hb hr hml hts hown hlocks hK hP hD hS hA hE hl
  have hown : s.vm.findClass RX3 = some m.cls := hown
  have hl : lv_has ls 2 [(0, .ref o00), (1, .int p1)] := hl
  rw [f_X3_getsOut] at hf
  refine lv_iload_n hx hb dX3_getsOut_0 rfl (lv_at hl 1 rfl) ?_
  refine lv_bipush (v := 8) hx hb dX3_getsOut_1 (by decide) ?_
  refine lv_icmp_eq (tgt := 17) hx hb dX3_getsOut_3 (by decide) (fun c1 => ?_) (fun c1 => ?_)
  · have hf := (if_pos c1).symm.trans hf
    refine lv_iconst (v := 0) hx hb dX3_getsOut_17 (by decide) ?_
    exact k_zret (v := (0 : Int32)) (u := ()) hx hb hr hlocks hK hS eQ (by decide) hf hP hD dX3_getsOut_18
  · have hf := (if_neg c1).symm.trans hf
    refine lv_aload_n hx hb dX3_getsOut_6 rfl (lv_at hl 0 rfl) ?_
    obtain ⟨z2, hz_z2, hf⟩ := o_bind hf
    refine k_calli (va_runV (As := []) (rest := []) ⟨hx, hb, hml, hown, hts⟩ (c_X9_isTaken l D cI cZ o00 o01 o02 o03 o04 H.size u_o0 z2 hz_z2) (cwV 0 hts gX3_getsOut_X9_isTaken rfl rfl rfl ⟨rfl, hd_X9_isTaken⟩ ⟨Nat.le_of_ble_eq_true rfl, Nat.le_of_ble_eq_true rfl⟩) (k_preV hK hP hD hS hA hE [0, 1, 2, 3, 4] (by decide) rfl (ci := 6) rfl rfl) rfl rfl hl.1 rfl (lv_room (Nat.le_of_ble_eq_true rfl)) dX3_getsOut_7 ⟨Nat.zero_le _, Nat.zero_le _⟩) hP hD hS hA [0, 1, 2, 3, 4] [some 0, some 1, some 2, some 3, some 4] 5 rfl (by decide) (by decide) rfl rfl (fun H locs hP hD hS => ?_)
    have hP : va_P D vwCl (ceW cI cZ o00 o01 o02 o03 o04 u_o0) H := hP
    have hD : va_D A (ceW cI cZ o00 o01 o02 o03 o04 u_o0) := hD
    refine lv_if_eq (tgt := 17) hx hb dX3_getsOut_10 (by decide) (fun c3 => ?_) (fun c3 => ?_)
    · have hf := (if_pos c3).symm.trans hf
      refine lv_iconst (v := 0) hx hb dX3_getsOut_17 (by decide) ?_
      exact k_zret (v := (0 : Int32)) (u := ()) hx hb hr hlocks hK hS eQ (by decide) hf hP hD dX3_getsOut_18
    · have hf := (if_neg c3).symm.trans hf
      refine lv_iconst (v := 1) hx hb dX3_getsOut_13 (by decide) ?_
      refine lv_goto (tgt := 18) hx hb dX3_getsOut_14 (by decide) ?_
      exact k_zret (v := (1 : Int32)) (u := ()) hx hb hr hlocks hK hS eQ (by decide) hf hP hD dX3_getsOut_18
theorem hd_X3_canBe : yX3_canBe.cls ≠ "java/lang/invoke/MethodHandle" ∧ yX3_canBe.cls ≠ "java/lang/invoke/VarHandle" ∧ (parseMethodDescriptor yX3_canBe.desc).map (fun d => d.parameters.length) = some 2 := by decide +kernel
set_option maxHeartbeats 4000000 in
set_option maxRecDepth 100000 in
theorem c_X3_canBe (l : Launch) (D : va_G) (cI cZ : ClassId) (o00 : Nat) (o01 : Nat) (o02 : Nat) (o03 : Nat) (o04 : Nat) (sz : Nat) (u_o0 : sW) (p1 : Int32) (z : Int32 × Unit) (hf : f_X3_canBe u_o0 p1 = some z) : Met l yX3_canBe wsX3_canBe rmX3_canBe (va_Pc [.ref o00, .int p1] (wPr D cI cZ (ceW cI cZ o00 o01 o02 o03 o04 u_o0) sz)) (va_Qi (fun (r : Int32) (v : Unit) => (r, v) = z) (fun (v : Unit) t => wPo D cI cZ (va_A (ceW cI cZ o00 o01 o02 o03 o04 u_o0) sz) (ceW cI cZ o00 o01 o02 o03 o04 u_o0) t) (va_A (ceW cI cZ o00 o01 o02 o03 o04 u_o0) sz)) 0 0 (va_A (ceW cI cZ o00 o01 o02 o03 o04 u_o0) sz) := by
  refine k_enter (D := D) (cI := cI) (cZ := cZ) (wl := ceW cI cZ o00 o01 o02 o03 o04 u_o0) (sz := sz) (av := [.ref o00, .int p1]) (cc := cX3_canBe) (maxL := 2) (ret := (some .boolean)) (Qc := fun A => va_Qi (fun (r : Int32) (v : Unit) => (r, v) = z) (fun (v : Unit) t => wPo D cI cZ (A) (ceW cI cZ o00 o01 o02 o03 o04 u_o0) t) (A)) (by decide) rfl (Nat.le_of_ble_eq_true rfl) ?_
  intro p e s m below meth c ls A Q H locs eQ hx hb hr hml hts hown hlocks hK hP hD hS hA hE hl
  have hown : s.vm.findClass RX3 = some m.cls := hown
  have hl : lv_has ls 2 [(0, .ref o00), (1, .int p1)] := hl
  rw [f_X3_canBe] at hf
  refine lv_iload_n hx hb dX3_canBe_0 rfl (lv_at hl 1 rfl) ?_
  refine lv_bipush (v := 8) hx hb dX3_canBe_1 (by decide) ?_
  refine lv_icmp_ne (tgt := 8) hx hb dX3_canBe_3 (by decide) (fun c1 => ?_) (fun c1 => ?_)
  · have hf := (if_neg c1).symm.trans hf
    refine lv_iload_n hx hb dX3_canBe_8 rfl (lv_at hl 1 rfl) ?_
    refine lv_bipush (v := 9) hx hb dX3_canBe_9 (by decide) ?_
    refine lv_icmp_ne (tgt := 21) hx hb dX3_canBe_11 (by decide) (fun c2 => ?_) (fun c2 => ?_)
    · have hf := (if_neg c2).symm.trans hf
      refine lv_aload_n hx hb dX3_canBe_21 rfl (lv_at hl 0 rfl) ?_
      refine lv_iload_n hx hb dX3_canBe_22 rfl (lv_at hl 1 rfl) ?_
      obtain ⟨z3, hz_z3, hf⟩ := o_bind hf
      refine k_calli (va_runV (As := [.int p1]) (rest := []) ⟨hx, hb, hml, hown, hts⟩ (c_X9_isLowest l D cI cZ o00 o01 o02 o03 o04 H.size u_o0 p1 z3 hz_z3) (cwV 1 hts gX3_canBe_X9_isLowest rfl rfl rfl ⟨rfl, hd_X9_isLowest⟩ ⟨Nat.le_of_ble_eq_true rfl, Nat.le_of_ble_eq_true rfl⟩) (k_preV hK hP hD hS hA hE [0, 1, 2, 3, 4] (by decide) rfl (ci := 6) rfl rfl) rfl rfl hl.1 rfl (lv_room (Nat.le_of_ble_eq_true rfl)) dX3_canBe_23 ⟨Nat.zero_le _, Nat.zero_le _⟩) hP hD hS hA [0, 1, 2, 3, 4] [some 0, some 1, some 2, some 3, some 4] 5 rfl (by decide) (by decide) rfl rfl (fun H locs hP hD hS => ?_)
      have hP : va_P D vwCl (ceW cI cZ o00 o01 o02 o03 o04 u_o0) H := hP
      have hD : va_D A (ceW cI cZ o00 o01 o02 o03 o04 u_o0) := hD
      refine lv_if_ne (tgt := 37) hx hb dX3_canBe_26 (by decide) (fun c4 => ?_) (fun c4 => ?_)
      · have hf := (if_neg c4).symm.trans hf
        refine lv_iconst (v := 1) hx hb dX3_canBe_37 (by decide) ?_
        refine lv_goto (tgt := 42) hx hb dX3_canBe_38 (by decide) ?_
        exact k_zret (v := (1 : Int32)) (u := ()) hx hb hr hlocks hK hS eQ (by decide) hf hP hD dX3_canBe_42
      · have hf := (if_pos c4).symm.trans hf
        refine lv_aload_n hx hb dX3_canBe_29 rfl (lv_at hl 0 rfl) ?_
        refine lv_iload_n hx hb dX3_canBe_30 rfl (lv_at hl 1 rfl) ?_
        obtain ⟨z5, hz_z5, hf⟩ := o_bind hf
        refine k_calli (va_runV (As := [.int p1]) (rest := []) ⟨hx, hb, hml, hown, hts⟩ (c_X9_isAboard l D cI cZ o00 o01 o02 o03 o04 H.size u_o0 p1 z5 hz_z5) (cwV 1 hts gX3_canBe_X9_isAboard rfl rfl rfl ⟨rfl, hd_X9_isAboard⟩ ⟨Nat.le_of_ble_eq_true rfl, Nat.le_of_ble_eq_true rfl⟩) (k_preV hK hP hD hS hA hE [0, 1, 2, 3, 4] (by decide) rfl (ci := 6) rfl rfl) rfl rfl hl.1 rfl (lv_room (Nat.le_of_ble_eq_true rfl)) dX3_canBe_31 ⟨Nat.zero_le _, Nat.zero_le _⟩) hP hD hS hA [0, 1, 2, 3, 4] [some 0, some 1, some 2, some 3, some 4] 5 rfl (by decide) (by decide) rfl rfl (fun H locs hP hD hS => ?_)
        have hP : va_P D vwCl (ceW cI cZ o00 o01 o02 o03 o04 u_o0) H := hP
        have hD : va_D A (ceW cI cZ o00 o01 o02 o03 o04 u_o0) := hD
        refine lv_if_ne (tgt := 41) hx hb dX3_canBe_34 (by decide) (fun c6 => ?_) (fun c6 => ?_)
        · have hf := (if_neg c6).symm.trans hf
          refine lv_iconst (v := 0) hx hb dX3_canBe_41 (by decide) ?_
          exact k_zret (v := (0 : Int32)) (u := ()) hx hb hr hlocks hK hS eQ (by decide) hf hP hD dX3_canBe_42
        · have hf := (if_pos c6).symm.trans hf
          refine lv_iconst (v := 1) hx hb dX3_canBe_37 (by decide) ?_
          refine lv_goto (tgt := 42) hx hb dX3_canBe_38 (by decide) ?_
          exact k_zret (v := (1 : Int32)) (u := ()) hx hb hr hlocks hK hS eQ (by decide) hf hP hD dX3_canBe_42
    · have hf := (if_pos c2).symm.trans hf
      refine lv_aload_n hx hb dX3_canBe_14 rfl (lv_at hl 0 rfl) ?_
      obtain ⟨z7, hz_z7, hf⟩ := o_bind hf
      refine k_calli (va_runV (As := []) (rest := []) ⟨hx, hb, hml, hown, hts⟩ (c_X9_isTaken l D cI cZ o00 o01 o02 o03 o04 H.size u_o0 z7 hz_z7) (cwV 0 hts gX3_canBe_X9_isTaken rfl rfl rfl ⟨rfl, hd_X9_isTaken⟩ ⟨Nat.le_of_ble_eq_true rfl, Nat.le_of_ble_eq_true rfl⟩) (k_preV hK hP hD hS hA hE [0, 1, 2, 3, 4] (by decide) rfl (ci := 6) rfl rfl) rfl rfl hl.1 rfl (lv_room (Nat.le_of_ble_eq_true rfl)) dX3_canBe_15 ⟨Nat.zero_le _, Nat.zero_le _⟩) hP hD hS hA [0, 1, 2, 3, 4] [some 0, some 1, some 2, some 3, some 4] 5 rfl (by decide) (by decide) rfl rfl (fun H locs hP hD hS => ?_)
      have hP : va_P D vwCl (ceW cI cZ o00 o01 o02 o03 o04 u_o0) H := hP
      have hD : va_D A (ceW cI cZ o00 o01 o02 o03 o04 u_o0) := hD
      refine lv_goto (tgt := 42) hx hb dX3_canBe_18 (by decide) ?_
      by_cases c8 : z7.1 = 0 ∨ z7.1 = 1
      case neg =>
        have hf := (if_neg c8).symm.trans hf
        cases hf
      have hf := (if_pos c8).symm.trans hf
      exact k_zret (v := z7.1) (u := ()) hx hb hr hlocks hK hS eQ (k_zb c8) hf hP hD dX3_canBe_42
  · have hf := (if_pos c1).symm.trans hf
    refine lv_iconst (v := 1) hx hb dX3_canBe_6 (by decide) ?_
    exact k_zret (v := (1 : Int32)) (u := ()) hx hb hr hlocks hK hS eQ (by decide) hf hP hD dX3_canBe_7
theorem hd_X3_make : yX3_make.cls ≠ "java/lang/invoke/MethodHandle" ∧ yX3_make.cls ≠ "java/lang/invoke/VarHandle" ∧ (parseMethodDescriptor yX3_make.desc).map (fun d => d.parameters.length) = some 2 := by decide +kernel
set_option maxHeartbeats 4000000 in
set_option maxRecDepth 100000 in
theorem c_X3_make (l : Launch) (D : va_G) (cI cZ : ClassId) (o00 : Nat) (o01 : Nat) (o02 : Nat) (o03 : Nat) (o04 : Nat) (sz : Nat) (u_o0 : sW) (p1 : Int32) (z : sW) (hf : f_X3_make u_o0 p1 = some z) : Met l yX3_make wsX3_make rmX3_make (va_Pc [.ref o00, .int p1] (wPr D cI cZ (ceW cI cZ o00 o01 o02 o03 o04 u_o0) sz)) (va_Qv (fun (v : sW) => v = z) (fun (v : sW) t => wPo D cI cZ (va_A (ceW cI cZ o00 o01 o02 o03 o04 u_o0) sz) (ceW cI cZ o00 o01 o02 o03 o04 v) t) (va_A (ceW cI cZ o00 o01 o02 o03 o04 u_o0) sz)) 0 0 (va_A (ceW cI cZ o00 o01 o02 o03 o04 u_o0) sz) := by
  refine k_enter (D := D) (cI := cI) (cZ := cZ) (wl := ceW cI cZ o00 o01 o02 o03 o04 u_o0) (sz := sz) (av := [.ref o00, .int p1]) (cc := cX3_make) (maxL := 2) (ret := none) (Qc := fun A => va_Qv (fun (v : sW) => v = z) (fun (v : sW) t => wPo D cI cZ (A) (ceW cI cZ o00 o01 o02 o03 o04 v) t) (A)) (by decide) rfl (Nat.le_of_ble_eq_true rfl) ?_
  intro p e s m below meth c ls A Q H locs eQ hx hb hr hml hts hown hlocks hK hP hD hS hA hE hl
  have hown : s.vm.findClass RX3 = some m.cls := hown
  have hl : lv_has ls 2 [(0, .ref o00), (1, .int p1)] := hl
  have hJ30 : ∀ (u_o0 : sW) (H : Heap) (locs : List Loc) (ls : Array Slot), lv_has ls 2 [(0, .ref o00)] → va_P D vwCl (ceW cI cZ o00 o01 o02 o03 o04 u_o0) H → va_D A (ceW cI cZ o00 o01 o02 o03 o04 u_o0) → va_S A s.heap H locs → f_X3_make_J30 u_o0 = some z → W p l e (headSpec wsX3_make rmX3_make).room s m ([.ref o00, .int p1] : List Value).toArray below meth c H locs 0 0 Q (F0 m 30 ls []) := by
    intro  u_o0 H locs ls hl hP hD hS hf
    rw [f_X3_make_J30] at hf
    refine lv_aload_n hx hb dX3_make_30 rfl (lv_at hl 0 rfl) ?_
    obtain ⟨z4, hz_z4, hf⟩ := o_bind hf
    refine k_calli (va_runV (As := []) (rest := []) ⟨hx, hb, hml, hown, hts⟩ (c_X9_letGo l D cI cZ o00 o01 o02 o03 o04 H.size u_o0 z4 hz_z4) (cwV 0 hts gX3_make_X9_letGo rfl rfl rfl ⟨rfl, hd_X9_letGo⟩ ⟨Nat.le_of_ble_eq_true rfl, Nat.le_of_ble_eq_true rfl⟩) (k_preV hK hP hD hS hA hE [0, 1, 2, 3, 4] (by decide) rfl (ci := 6) rfl rfl) rfl rfl hl.1 rfl (lv_room (Nat.le_of_ble_eq_true rfl)) dX3_make_31 ⟨Nat.zero_le _, Nat.zero_le _⟩) hP hD hS hA [0, 1, 2, 3, 4] [some 0, some 1, some 2, some 3, some 4] 5 rfl (by decide) (by decide) rfl rfl (fun H locs hP hD hS => ?_)
    have hP : va_P D vwCl (ceW cI cZ o00 o01 o02 o03 o04 z4.2) H := hP
    have hD : va_D A (ceW cI cZ o00 o01 o02 o03 o04 z4.2) := hD
    refine lv_pop hx hb dX3_make_34 rfl ?_
    exact k_vret (u := z4.2) hx hb hr hlocks hK hS eQ hf hP hD dX3_make_35
  have hJ14 : ∀ (v1 : Int32) (u_o0 : sW) (H : Heap) (locs : List Loc) (ls : Array Slot), lv_has ls 2 [(0, .ref o00), (1, .int v1)] → va_P D vwCl (ceW cI cZ o00 o01 o02 o03 o04 u_o0) H → va_D A (ceW cI cZ o00 o01 o02 o03 o04 u_o0) → va_S A s.heap H locs → f_X3_make_J14 v1 u_o0 = some z → W p l e (headSpec wsX3_make rmX3_make).room s m ([.ref o00, .int p1] : List Value).toArray below meth c H locs 0 0 Q (F0 m 14 ls []) := by
    intro  v1 u_o0 H locs ls hl hP hD hS hf
    rw [f_X3_make_J14] at hf
    refine lv_iload_n hx hb dX3_make_14 rfl (lv_at hl 1 rfl) ?_
    obtain ⟨z2, hz_z2, hf⟩ := o_bind hf
    refine k_calli (va_runSN (As := [.int v1]) (rest := []) ⟨hx, hb, hml, hown, hts⟩ (c_X10_isPerson l D cI cZ  H.size v1 z2 hz_z2) ⟨va_cnB 1 hts gX3_make_X10_isPerson_n32 rfl rfl rfl (hE.1.1 (RX3, 32, yX10_isPerson) (List.mem_of_getElem? (i := 0) rfl)) (hts (.initialized RX10) (List.mem_of_getElem? (i := 14) rfl)) hd_X10_isPerson ⟨Nat.le_of_ble_eq_true rfl, Nat.le_of_ble_eq_true rfl⟩, hts (.static yX10_isPerson) (List.mem_of_getElem? (i := 18) rfl), trivial⟩ (k_preS hK hP hD hS hA hE [] (by decide) rfl) rfl rfl hl.1 rfl (lv_room (Nat.le_of_ble_eq_true rfl)) dX3_make_15 ⟨Nat.zero_le _, Nat.zero_le _⟩) hP hD hS hA [] [none, none, none, none, none] 0 rfl (by decide) (by decide) rfl rfl (fun H locs hP hD hS => ?_)
    have hP : va_P D vwCl (ceW cI cZ o00 o01 o02 o03 o04 u_o0) H := hP
    have hD : va_D A (ceW cI cZ o00 o01 o02 o03 o04 u_o0) := hD
    refine lv_if_eq (tgt := 30) hx hb dX3_make_18 (by decide) (fun c3 => ?_) (fun c3 => ?_)
    · have hf := (if_pos c3).symm.trans hf
      exact hJ30 u_o0 _ _ ls (lv_sub hl [0] rfl) hP hD hS hf
    · have hf := (if_neg c3).symm.trans hf
      refine lv_aload_n hx hb dX3_make_21 rfl (lv_at hl 0 rfl) ?_
      refine lv_iload_n hx hb dX3_make_22 rfl (lv_at hl 1 rfl) ?_
      refine lv_aload_n hx hb dX3_make_23 rfl (lv_at hl 0 rfl) ?_
      obtain ⟨z5, hz_z5, hf⟩ := o_bind hf
      refine k_calli (va_runV (As := []) (rest := [.int v1, .ref o00]) ⟨hx, hb, hml, hown, hts⟩ (c_X9_lowest l D cI cZ o00 o01 o02 o03 o04 H.size u_o0 z5 hz_z5) (cwV 0 hts gX3_make_X9_lowest rfl rfl rfl ⟨rfl, hd_X9_lowest⟩ ⟨Nat.le_of_ble_eq_true rfl, Nat.le_of_ble_eq_true rfl⟩) (k_preV hK hP hD hS hA hE [0, 1, 2, 3, 4] (by decide) rfl (ci := 6) rfl rfl) rfl rfl hl.1 rfl (lv_room (Nat.le_of_ble_eq_true rfl)) dX3_make_24 ⟨Nat.zero_le _, Nat.zero_le _⟩) hP hD hS hA [0, 1, 2, 3, 4] [some 0, some 1, some 2, some 3, some 4] 5 rfl (by decide) (by decide) rfl rfl (fun H locs hP hD hS => ?_)
      have hP : va_P D vwCl (ceW cI cZ o00 o01 o02 o03 o04 u_o0) H := hP
      have hD : va_D A (ceW cI cZ o00 o01 o02 o03 o04 u_o0) := hD
      obtain ⟨z6, hz_z6, hf⟩ := o_bind hf
      refine k_callv (va_runV (As := [.int v1, .int z5.1]) (rest := []) ⟨hx, hb, hml, hown, hts⟩ (c_X9_seat l D cI cZ o00 o01 o02 o03 o04 H.size u_o0 v1 z5.1 z6 hz_z6) (cwV 2 hts gX3_make_X9_seat rfl rfl rfl ⟨rfl, hd_X9_seat⟩ ⟨Nat.le_of_ble_eq_true rfl, Nat.le_of_ble_eq_true rfl⟩) (k_preV hK hP hD hS hA hE [0, 1, 2, 3, 4] (by decide) rfl (ci := 6) rfl rfl) rfl rfl hl.1 rfl (lv_room (Nat.le_of_ble_eq_true rfl)) dX3_make_27 ⟨Nat.zero_le _, Nat.zero_le _⟩) hP hD hS hA [0, 1, 2, 3, 4] [some 0, some 1, some 2, some 3, some 4] 5 rfl (by decide) (by decide) rfl rfl (fun H locs hP hD hS => ?_)
      have hP : va_P D vwCl (ceW cI cZ o00 o01 o02 o03 o04 z6) H := hP
      have hD : va_D A (ceW cI cZ o00 o01 o02 o03 o04 z6) := hD
      exact hJ30 z6 _ _ ls (lv_sub hl [0] rfl) hP hD hS hf
  rw [f_X3_make] at hf
  refine lv_iload_n hx hb dX3_make_0 rfl (lv_at hl 1 rfl) ?_
  refine lv_bipush (v := 8) hx hb dX3_make_1 (by decide) ?_
  refine lv_icmp_eq (tgt := 14) hx hb dX3_make_3 (by decide) (fun c1 => ?_) (fun c1 => ?_)
  · have hf := (if_pos c1).symm.trans hf
    exact hJ14 p1 u_o0 _ _ ls (lv_sub hl [0, 1] rfl) hP hD hS hf
  · have hf := (if_neg c1).symm.trans hf
    refine lv_aload_n hx hb dX3_make_6 rfl (lv_at hl 0 rfl) ?_
    refine lv_aload_n hx hb dX3_make_7 rfl (lv_at hl 0 rfl) ?_
    obtain ⟨z7, hz_z7, hf⟩ := o_bind hf
    refine k_calli (va_runV (As := []) (rest := [.ref o00]) ⟨hx, hb, hml, hown, hts⟩ (c_X9_lowest l D cI cZ o00 o01 o02 o03 o04 H.size u_o0 z7 hz_z7) (cwV 0 hts gX3_make_X9_lowest rfl rfl rfl ⟨rfl, hd_X9_lowest⟩ ⟨Nat.le_of_ble_eq_true rfl, Nat.le_of_ble_eq_true rfl⟩) (k_preV hK hP hD hS hA hE [0, 1, 2, 3, 4] (by decide) rfl (ci := 6) rfl rfl) rfl rfl hl.1 rfl (lv_room (Nat.le_of_ble_eq_true rfl)) dX3_make_8 ⟨Nat.zero_le _, Nat.zero_le _⟩) hP hD hS hA [0, 1, 2, 3, 4] [some 0, some 1, some 2, some 3, some 4] 5 rfl (by decide) (by decide) rfl rfl (fun H locs hP hD hS => ?_)
    have hP : va_P D vwCl (ceW cI cZ o00 o01 o02 o03 o04 u_o0) H := hP
    have hD : va_D A (ceW cI cZ o00 o01 o02 o03 o04 u_o0) := hD
    obtain ⟨z8, hz_z8, hf⟩ := o_bind hf
    refine k_callv (va_runV (As := [.int z7.1]) (rest := []) ⟨hx, hb, hml, hown, hts⟩ (c_X9_unseat l D cI cZ o00 o01 o02 o03 o04 H.size u_o0 z7.1 z8 hz_z8) (cwV 1 hts gX3_make_X9_unseat rfl rfl rfl ⟨rfl, hd_X9_unseat⟩ ⟨Nat.le_of_ble_eq_true rfl, Nat.le_of_ble_eq_true rfl⟩) (k_preV hK hP hD hS hA hE [0, 1, 2, 3, 4] (by decide) rfl (ci := 6) rfl rfl) rfl rfl hl.1 rfl (lv_room (Nat.le_of_ble_eq_true rfl)) dX3_make_11 ⟨Nat.zero_le _, Nat.zero_le _⟩) hP hD hS hA [0, 1, 2, 3, 4] [some 0, some 1, some 2, some 3, some 4] 5 rfl (by decide) (by decide) rfl rfl (fun H locs hP hD hS => ?_)
    have hP : va_P D vwCl (ceW cI cZ o00 o01 o02 o03 o04 z8) H := hP
    have hD : va_D A (ceW cI cZ o00 o01 o02 o03 o04 z8) := hD
    exact hJ14 p1 z8 _ _ ls (lv_sub hl [0, 1] rfl) hP hD hS hf
theorem hd_X3_search : yX3_search.cls ≠ "java/lang/invoke/MethodHandle" ∧ yX3_search.cls ≠ "java/lang/invoke/VarHandle" ∧ (parseMethodDescriptor yX3_search.desc).map (fun d => d.parameters.length) = some 3 := by decide +kernel
set_option maxHeartbeats 4000000 in
set_option maxRecDepth 100000 in
theorem c_X3_search (l : Launch) (D : va_G) (cI cZ : ClassId) (o00 : Nat) (o01 : Nat) (o02 : Nat) (o03 : Nat) (o04 : Nat) : ∀ (d : Nat), ∀ (sz : Nat) (u_o0 : sW) (p1 : Int32) (p2 : Int32) (z : Int32 × sW) (_ : f_X3_search d u_o0 p1 p2 = some z), Met l yX3_search wsX3_search (rmX3_search d) (va_Pc [.ref o00, .int p1, .int p2] (wPr D cI cZ (ceW cI cZ o00 o01 o02 o03 o04 u_o0) sz)) (va_Qi (fun (r : Int32) (v : sW) => (r, v) = z) (fun (v : sW) t => wPo D cI cZ (va_A (ceW cI cZ o00 o01 o02 o03 o04 u_o0) sz) (ceW cI cZ o00 o01 o02 o03 o04 v) t) (va_A (ceW cI cZ o00 o01 o02 o03 o04 u_o0) sz)) 0 0 (va_A (ceW cI cZ o00 o01 o02 o03 o04 u_o0) sz) := by
  intro d
  induction d with
  | zero =>
    intro sz u_o0 p1 p2 z hf
    exact absurd (show (none : Option (Int32 × sW)) = some z from hf) (fun h => by cases h)
  | succ d ihd =>
    intro sz u_o0 p1 p2 z hf
    refine k_enter (D := D) (cI := cI) (cZ := cZ) (wl := ceW cI cZ o00 o01 o02 o03 o04 u_o0) (sz := sz) (av := [.ref o00, .int p1, .int p2]) (cc := cX3_search) (maxL := 7) (ret := (some .int)) (Qc := fun A => va_Qi (fun (r : Int32) (v : sW) => (r, v) = z) (fun (v : sW) t => wPo D cI cZ (A) (ceW cI cZ o00 o01 o02 o03 o04 v) t) (A)) (by decide) rfl (Nat.le_of_ble_eq_true rfl) ?_
    intro p e s m below meth c ls A Q H locs eQ hx hb hr hml hts hown hlocks hK hP hD hS hA hE hl
    have hown : s.vm.findClass RX3 = some m.cls := hown
    have hl : lv_has ls 7 [(0, .ref o00), (1, .int p1), (2, .int p2)] := hl
    have hJ68 : ∀ (K_15 : Int32 → Int32 → Int32 → Int32 → Int32 → sW → Option (Int32 × sW)), (∀ (v1 : Int32) (v2 : Int32) (v3 : Int32) (v4 : Int32) (v5 : Int32) (u_o0 : sW) (H : Heap) (locs : List Loc) (ls : Array Slot), lv_has ls 7 [(0, .ref o00), (1, .int v1), (2, .int v2), (3, .int v3), (4, .int v4), (5, .int v5)] → va_P D vwCl (ceW cI cZ o00 o01 o02 o03 o04 u_o0) H → va_D A (ceW cI cZ o00 o01 o02 o03 o04 u_o0) → va_S A s.heap H locs → K_15 v1 v2 v3 v4 v5 u_o0 = some z → W p l e (headSpec wsX3_search (rmX3_search (d + 1))).room s m ([.ref o00, .int p1, .int p2] : List Value).toArray below meth c H locs 0 0 Q (F0 m 15 ls [])) → ∀ (v1 : Int32) (v2 : Int32) (v3 : Int32) (v4 : Int32) (v5 : Int32) (s0 : Int32) (u_o0 : sW) (H : Heap) (locs : List Loc) (ls : Array Slot), lv_has ls 7 [(0, .ref o00), (1, .int v1), (2, .int v2), (3, .int v3), (4, .int v4), (5, .int v5)] → va_P D vwCl (ceW cI cZ o00 o01 o02 o03 o04 u_o0) H → va_D A (ceW cI cZ o00 o01 o02 o03 o04 u_o0) → va_S A s.heap H locs → f_X3_search_J68 (f_X3_search d) K_15 v1 v2 v3 v4 v5 s0 u_o0 = some z → W p l e (headSpec wsX3_search (rmX3_search (d + 1))).room s m ([.ref o00, .int p1, .int p2] : List Value).toArray below meth c H locs 0 0 Q (F0 m 68 ls [.int s0]) := by
      intro K_15 hK_15 v1 v2 v3 v4 v5 s0 u_o0 H locs ls hl hP hD hS hf
      rw [f_X3_search_J68] at hf
      refine lv_istore (lv' := [(6, .int s0), (0, .ref o00), (1, .int v1), (2, .int v2), (3, .int v3), (4, .int v4), (5, .int v5)]) hx hb dX3_search_68 hl (by decide) rfl (fun ls hl => ?_)
      refine lv_aload_n hx hb dX3_search_70 rfl (lv_at hl 1 rfl) ?_
      refine lv_iload_n hx hb dX3_search_71 rfl (lv_at hl 4 rfl) ?_
      refine lv_iload hx hb dX3_search_72 (lv_at hl 5 rfl) ?_
      obtain ⟨z10, hz_z10, hf⟩ := o_bind hf
      refine k_callv (va_runV (As := [.int v3, .int v4]) (rest := []) ⟨hx, hb, hml, hown, hts⟩ (c_X9_takeBack l D cI cZ o00 o01 o02 o03 o04 H.size u_o0 v3 v4 z10 hz_z10) (cwV 2 hts gX3_search_X9_takeBack rfl rfl rfl ⟨rfl, hd_X9_takeBack⟩ ⟨(by show 2 + 1 ≤ 6 + (d + 1); omega), (by show 8 + (3 + 11) + (52) ≤ 300 + 60 * (d + 1); omega)⟩) (k_preV hK hP hD hS hA hE [0, 1, 2, 3, 4] (by decide) rfl (ci := 6) rfl rfl) rfl rfl hl.1 rfl (lv_room (Nat.le_of_ble_eq_true rfl)) dX3_search_74 ⟨Nat.zero_le _, Nat.zero_le _⟩) hP hD hS hA [0, 1, 2, 3, 4] [some 0, some 1, some 2, some 3, some 4] 5 rfl (by decide) (by decide) rfl rfl (fun H locs hP hD hS => ?_)
      have hP : va_P D vwCl (ceW cI cZ o00 o01 o02 o03 o04 z10) H := hP
      have hD : va_D A (ceW cI cZ o00 o01 o02 o03 o04 z10) := hD
      refine lv_iload hx hb dX3_search_77 (lv_at hl 0 rfl) ?_
      refine lv_if_eq (tgt := 85) hx hb dX3_search_79 (by decide) (fun c11 => ?_) (fun c11 => ?_)
      · have hf := (if_pos c11).symm.trans hf
        refine lv_iinc (v := (v5 + (1 : Int32))) (lv' := [(5, .int (v5 + (1 : Int32))), (6, .int s0), (0, .ref o00), (1, .int v1), (2, .int v2), (3, .int v3), (4, .int v4)]) hx hb dX3_search_85 hl (k := 6) rfl rfl (by decide) rfl (fun ls hl => ?_)
        refine lv_goto (tgt := 15) hx hb dX3_search_88 (by decide) ?_
        exact hK_15 v1 v2 v3 v4 (v5 + (1 : Int32)) z10 _ _ ls (lv_sub hl [2, 3, 4, 5, 6, 0] rfl) hP hD hS hf
      · have hf := (if_neg c11).symm.trans hf
        refine lv_iload hx hb dX3_search_82 (lv_at hl 6 rfl) ?_
        exact k_iret (v := v5) (u := z10) hx hb hr hlocks hK hS eQ hf hP hD dX3_search_84
    have hL15 : ∀ (n : Nat), ∀ (v1 : Int32) (v2 : Int32) (v3 : Int32) (v4 : Int32) (v5 : Int32) (u_o0 : sW) (H : Heap) (locs : List Loc) (ls : Array Slot), lv_has ls 7 [(0, .ref o00), (1, .int v1), (2, .int v2), (3, .int v3), (4, .int v4), (5, .int v5)] → va_P D vwCl (ceW cI cZ o00 o01 o02 o03 o04 u_o0) H → va_D A (ceW cI cZ o00 o01 o02 o03 o04 u_o0) → va_S A s.heap H locs → f_X3_search_L15 (f_X3_search d) n v1 v2 v3 v4 v5 u_o0 = some z → W p l e (headSpec wsX3_search (rmX3_search (d + 1))).room s m ([.ref o00, .int p1, .int p2] : List Value).toArray below meth c H locs 0 0 Q (F0 m 15 ls []) := by
      intro n
      induction n with
      | zero =>
        intro v1 v2 v3 v4 v5 u_o0 H locs ls hl hP hD hS hf
        exact absurd (show (none : Option (Int32 × sW)) = some z from hf) (fun h => by cases h)
      | succ n ih =>
        intro v1 v2 v3 v4 v5 u_o0 H locs ls hl hP hD hS hf
        rw [f_X3_search_L15] at hf
        refine lv_iload hx hb dX3_search_15 (lv_at hl 5 rfl) ?_
        refine lv_bipush (v := 10) hx hb dX3_search_17 (by decide) ?_
        refine lv_icmp_ge (tgt := 91) hx hb dX3_search_19 (by decide) (fun c3 => ?_) (fun c3 => ?_)
        · have hf := (if_pos c3).symm.trans hf
          refine lv_bipush (v := -6) hx hb dX3_search_91 (by decide) ?_
          exact k_iret (v := (-6 : Int32)) (u := u_o0) hx hb hr hlocks hK hS eQ hf hP hD dX3_search_93
        · have hf := (if_neg c3).symm.trans hf
          refine lv_aload_n hx hb dX3_search_22 rfl (lv_at hl 0 rfl) ?_
          refine lv_iload hx hb dX3_search_23 (lv_at hl 5 rfl) ?_
          obtain ⟨z4, hz_z4, hf⟩ := o_bind hf
          refine k_calli (va_runS (As := [.ref o00, .int v5]) (rest := []) ⟨hx, hb, hml, hown, hts⟩ (c_X3_canBe l D cI cZ o00 o01 o02 o03 o04 H.size u_o0 v5 z4 hz_z4) (va_cwS 2 hts gX3_search_X3_canBe rfl rfl rfl hd_X3_canBe ⟨(by show 2 + 1 ≤ 6 + (d + 1); omega), (by show 8 + (2 + 11) + (50) ≤ 300 + 60 * (d + 1); omega)⟩) (k_preS hK hP hD hS hA hE [0, 1, 2, 3, 4] (by decide) rfl) rfl rfl hl.1 rfl (lv_room (Nat.le_of_ble_eq_true rfl)) dX3_search_25 ⟨Nat.zero_le _, Nat.zero_le _⟩) hP hD hS hA [0, 1, 2, 3, 4] [some 0, some 1, some 2, some 3, some 4] 5 rfl (by decide) (by decide) rfl rfl (fun H locs hP hD hS => ?_)
          have hP : va_P D vwCl (ceW cI cZ o00 o01 o02 o03 o04 u_o0) H := hP
          have hD : va_D A (ceW cI cZ o00 o01 o02 o03 o04 u_o0) := hD
          refine lv_if_eq (tgt := 85) hx hb dX3_search_28 (by decide) (fun c5 => ?_) (fun c5 => ?_)
          · have hf := (if_pos c5).symm.trans hf
            refine lv_iinc (v := (v5 + (1 : Int32))) (lv' := [(5, .int (v5 + (1 : Int32))), (0, .ref o00), (1, .int v1), (2, .int v2), (3, .int v3), (4, .int v4)]) hx hb dX3_search_85 hl (k := 5) rfl rfl (by decide) rfl (fun ls hl => ?_)
            refine lv_goto (tgt := 15) hx hb dX3_search_88 (by decide) ?_
            exact ih v1 v2 v3 v4 (v5 + (1 : Int32)) u_o0 _ _ ls (lv_sub hl [1, 2, 3, 4, 5, 0] rfl) hP hD hS hf
          · have hf := (if_neg c5).symm.trans hf
            refine lv_aload_n hx hb dX3_search_31 rfl (lv_at hl 0 rfl) ?_
            refine lv_iload hx hb dX3_search_32 (lv_at hl 5 rfl) ?_
            obtain ⟨z6, hz_z6, hf⟩ := o_bind hf
            refine k_callv (va_runS (As := [.ref o00, .int v5]) (rest := []) ⟨hx, hb, hml, hown, hts⟩ (c_X3_make l D cI cZ o00 o01 o02 o03 o04 H.size u_o0 v5 z6 hz_z6) (va_cwS 2 hts gX3_search_X3_make rfl rfl rfl hd_X3_make ⟨(by show 3 + 1 ≤ 6 + (d + 1); omega), (by show 8 + (2 + 11) + (83) ≤ 300 + 60 * (d + 1); omega)⟩) (k_preS hK hP hD hS hA hE [0, 1, 2, 3, 4] (by decide) rfl) rfl rfl hl.1 rfl (lv_room (Nat.le_of_ble_eq_true rfl)) dX3_search_34 ⟨Nat.zero_le _, Nat.zero_le _⟩) hP hD hS hA [0, 1, 2, 3, 4] [some 0, some 1, some 2, some 3, some 4] 5 rfl (by decide) (by decide) rfl rfl (fun H locs hP hD hS => ?_)
            have hP : va_P D vwCl (ceW cI cZ o00 o01 o02 o03 o04 z6) H := hP
            have hD : va_D A (ceW cI cZ o00 o01 o02 o03 o04 z6) := hD
            refine lv_iload_n hx hb dX3_search_37 rfl (lv_at hl 2 rfl) ?_
            refine lv_iconst (v := 1) hx hb dX3_search_38 (by decide) ?_
            refine lv_icmp_gt (tgt := 50) hx hb dX3_search_39 (by decide) (fun c7 => ?_) (fun c7 => ?_)
            · have hf := (if_pos c7).symm.trans hf
              refine lv_aload_n hx hb dX3_search_50 rfl (lv_at hl 0 rfl) ?_
              refine lv_iload_n hx hb dX3_search_51 rfl (lv_at hl 1 rfl) ?_
              refine lv_iload_n hx hb dX3_search_52 rfl (lv_at hl 2 rfl) ?_
              refine lv_iconst (v := 1) hx hb dX3_search_53 (by decide) ?_
              refine lv_isub hx hb dX3_search_54 ?_
              obtain ⟨z8, hz_z8, hf⟩ := o_bind hf
              refine k_calli (va_runS (As := [.ref o00, .int v1, .int (v2 - (1 : Int32))]) (rest := []) ⟨hx, hb, hml, hown, hts⟩ (ihd H.size z6 v1 (v2 - (1 : Int32)) z8 hz_z8) (va_cwS 3 hts gX3_search_X3_search rfl rfl rfl hd_X3_search ⟨(by show 6 + d + 1 ≤ 6 + (d + 1); omega), (by show 8 + (7 + 11) + (300 + 60 * d) ≤ 300 + 60 * (d + 1); omega)⟩) (k_preS hK hP hD hS hA hE [0, 1, 2, 3, 4] (by decide) rfl) rfl rfl hl.1 rfl (lv_room (Nat.le_of_ble_eq_true rfl)) dX3_search_55 ⟨Nat.zero_le _, Nat.zero_le _⟩) hP hD hS hA [0, 1, 2, 3, 4] [some 0, some 1, some 2, some 3, some 4] 5 rfl (by decide) (by decide) rfl rfl (fun H locs hP hD hS => ?_)
              have hP : va_P D vwCl (ceW cI cZ o00 o01 o02 o03 o04 z8.2) H := hP
              have hD : va_D A (ceW cI cZ o00 o01 o02 o03 o04 z8.2) := hD
              refine lv_bipush (v := -6) hx hb dX3_search_58 (by decide) ?_
              refine lv_icmp_eq (tgt := 67) hx hb dX3_search_60 (by decide) (fun c9 => ?_) (fun c9 => ?_)
              · have hf := (if_pos c9).symm.trans hf
                refine lv_iconst (v := 0) hx hb dX3_search_67 (by decide) ?_
                exact hJ68 (f_X3_search_L15 (f_X3_search d) n) ih v1 v2 v3 v4 v5 (0 : Int32) z8.2 _ _ ls (lv_sub hl [0, 1, 2, 3, 4, 5] rfl) hP hD hS hf
              · have hf := (if_neg c9).symm.trans hf
                refine lv_iconst (v := 1) hx hb dX3_search_63 (by decide) ?_
                refine lv_goto (tgt := 68) hx hb dX3_search_64 (by decide) ?_
                exact hJ68 (f_X3_search_L15 (f_X3_search d) n) ih v1 v2 v3 v4 v5 (1 : Int32) z8.2 _ _ ls (lv_sub hl [0, 1, 2, 3, 4, 5] rfl) hP hD hS hf
            · have hf := (if_neg c7).symm.trans hf
              refine lv_aload_n hx hb dX3_search_42 rfl (lv_at hl 0 rfl) ?_
              refine lv_iload_n hx hb dX3_search_43 rfl (lv_at hl 1 rfl) ?_
              obtain ⟨z12, hz_z12, hf⟩ := o_bind hf
              refine k_calli (va_runV (As := [.int v1]) (rest := []) ⟨hx, hb, hml, hown, hts⟩ (c_X9_isLowest l D cI cZ o00 o01 o02 o03 o04 H.size z6 v1 z12 hz_z12) (cwV 1 hts gX3_search_X9_isLowest rfl rfl rfl ⟨rfl, hd_X9_isLowest⟩ ⟨(by show 1 + 1 ≤ 6 + (d + 1); omega), (by show 8 + (2 + 11) + (25) ≤ 300 + 60 * (d + 1); omega)⟩) (k_preV hK hP hD hS hA hE [0, 1, 2, 3, 4] (by decide) rfl (ci := 6) rfl rfl) rfl rfl hl.1 rfl (lv_room (Nat.le_of_ble_eq_true rfl)) dX3_search_44 ⟨Nat.zero_le _, Nat.zero_le _⟩) hP hD hS hA [0, 1, 2, 3, 4] [some 0, some 1, some 2, some 3, some 4] 5 rfl (by decide) (by decide) rfl rfl (fun H locs hP hD hS => ?_)
              have hP : va_P D vwCl (ceW cI cZ o00 o01 o02 o03 o04 z6) H := hP
              have hD : va_D A (ceW cI cZ o00 o01 o02 o03 o04 z6) := hD
              refine lv_goto (tgt := 68) hx hb dX3_search_47 (by decide) ?_
              exact hJ68 (f_X3_search_L15 (f_X3_search d) n) ih v1 v2 v3 v4 v5 z12.1 z6 _ _ ls (lv_sub hl [0, 1, 2, 3, 4, 5] rfl) hP hD hS hf
    rw [f_X3_search] at hf
    refine lv_aload_n hx hb dX3_search_0 rfl (lv_at hl 0 rfl) ?_
    obtain ⟨z1, hz_z1, hf⟩ := o_bind hf
    refine k_calli (va_runV (As := []) (rest := []) ⟨hx, hb, hml, hown, hts⟩ (c_X9_lowest l D cI cZ o00 o01 o02 o03 o04 H.size u_o0 z1 hz_z1) (cwV 0 hts gX3_search_X9_lowest rfl rfl rfl ⟨rfl, hd_X9_lowest⟩ ⟨(by show 0 + 1 ≤ 6 + (d + 1); omega), (by show 8 + (1 + 11) + (0) ≤ 300 + 60 * (d + 1); omega)⟩) (k_preV hK hP hD hS hA hE [0, 1, 2, 3, 4] (by decide) rfl (ci := 6) rfl rfl) rfl rfl hl.1 rfl (lv_room (Nat.le_of_ble_eq_true rfl)) dX3_search_1 ⟨Nat.zero_le _, Nat.zero_le _⟩) hP hD hS hA [0, 1, 2, 3, 4] [some 0, some 1, some 2, some 3, some 4] 5 rfl (by decide) (by decide) rfl rfl (fun H locs hP hD hS => ?_)
    have hP : va_P D vwCl (ceW cI cZ o00 o01 o02 o03 o04 u_o0) H := hP
    have hD : va_D A (ceW cI cZ o00 o01 o02 o03 o04 u_o0) := hD
    refine lv_istore_n (lv' := [(3, .int z1.1), (0, .ref o00), (1, .int p1), (2, .int p2)]) hx hb dX3_search_4 rfl hl (by decide) rfl (fun ls hl => ?_)
    refine lv_aload_n hx hb dX3_search_5 rfl (lv_at hl 1 rfl) ?_
    refine lv_iload_n hx hb dX3_search_6 rfl (lv_at hl 0 rfl) ?_
    obtain ⟨z2, hz_z2, hf⟩ := o_bind hf
    refine k_calli (va_runV (As := [.int z1.1]) (rest := []) ⟨hx, hb, hml, hown, hts⟩ (c_X9_riderOf l D cI cZ o00 o01 o02 o03 o04 H.size u_o0 z1.1 z2 hz_z2) (cwV 1 hts gX3_search_X9_riderOf rfl rfl rfl ⟨rfl, hd_X9_riderOf⟩ ⟨(by show 1 + 1 ≤ 6 + (d + 1); omega), (by show 8 + (2 + 11) + (25) ≤ 300 + 60 * (d + 1); omega)⟩) (k_preV hK hP hD hS hA hE [0, 1, 2, 3, 4] (by decide) rfl (ci := 6) rfl rfl) rfl rfl hl.1 rfl (lv_room (Nat.le_of_ble_eq_true rfl)) dX3_search_7 ⟨Nat.zero_le _, Nat.zero_le _⟩) hP hD hS hA [0, 1, 2, 3, 4] [some 0, some 1, some 2, some 3, some 4] 5 rfl (by decide) (by decide) rfl rfl (fun H locs hP hD hS => ?_)
    have hP : va_P D vwCl (ceW cI cZ o00 o01 o02 o03 o04 u_o0) H := hP
    have hD : va_D A (ceW cI cZ o00 o01 o02 o03 o04 u_o0) := hD
    refine lv_istore (lv' := [(4, .int z2.1), (3, .int z1.1), (0, .ref o00), (1, .int p1), (2, .int p2)]) hx hb dX3_search_10 hl (by decide) rfl (fun ls hl => ?_)
    refine lv_iconst (v := 0) hx hb dX3_search_12 (by decide) ?_
    refine lv_istore (lv' := [(5, .int (0 : Int32)), (4, .int z2.1), (3, .int z1.1), (0, .ref o00), (1, .int p1), (2, .int p2)]) hx hb dX3_search_13 hl (by decide) rfl (fun ls hl => ?_)
    exact hL15 oF p1 p2 z1.1 z2.1 (0 : Int32) u_o0 _ _ ls (lv_sub hl [3, 4, 5, 2, 1, 0] rfl) hP hD hS hf
theorem hd_X3_first : yX3_first.cls ≠ "java/lang/invoke/MethodHandle" ∧ yX3_first.cls ≠ "java/lang/invoke/VarHandle" ∧ (parseMethodDescriptor yX3_first.desc).map (fun d => d.parameters.length) = some 3 := by decide +kernel
set_option maxHeartbeats 4000000 in
set_option maxRecDepth 100000 in
theorem c_X3_first (l : Launch) (D : va_G) (cI cZ : ClassId) (o00 : Nat) (o01 : Nat) (o02 : Nat) (o03 : Nat) (o04 : Nat) (sz : Nat) (u_o0 : sW) (p1 : Int32) (p2 : Int32) (z : Int32 × sW) (hf : f_X3_first u_o0 p1 p2 = some z) : Met l yX3_first wsX3_first rmX3_first (va_Pc [.ref o00, .int p1, .int p2] (wPr D cI cZ (ceW cI cZ o00 o01 o02 o03 o04 u_o0) sz)) (va_Qi (fun (r : Int32) (v : sW) => (r, v) = z) (fun (v : sW) t => wPo D cI cZ (va_A (ceW cI cZ o00 o01 o02 o03 o04 u_o0) sz) (ceW cI cZ o00 o01 o02 o03 o04 v) t) (va_A (ceW cI cZ o00 o01 o02 o03 o04 u_o0) sz)) 0 0 (va_A (ceW cI cZ o00 o01 o02 o03 o04 u_o0) sz) := by
  refine k_enter (D := D) (cI := cI) (cZ := cZ) (wl := ceW cI cZ o00 o01 o02 o03 o04 u_o0) (sz := sz) (av := [.ref o00, .int p1, .int p2]) (cc := cX3_first) (maxL := 3) (ret := (some .int)) (Qc := fun A => va_Qi (fun (r : Int32) (v : sW) => (r, v) = z) (fun (v : sW) t => wPo D cI cZ (A) (ceW cI cZ o00 o01 o02 o03 o04 v) t) (A)) (by decide) rfl (Nat.le_of_ble_eq_true rfl) ?_
  intro p e s m below meth c ls A Q H locs eQ hx hb hr hml hts hown hlocks hK hP hD hS hA hE hl
  have hown : s.vm.findClass RX3 = some m.cls := hown
  have hl : lv_has ls 3 [(0, .ref o00), (1, .int p1), (2, .int p2)] := hl
  rw [f_X3_first] at hf
  refine lv_iload_n hx hb dX3_first_0 rfl (lv_at hl 2 rfl) ?_
  refine lv_iconst (v := 1) hx hb dX3_first_1 (by decide) ?_
  refine lv_icmp_lt (tgt := 10) hx hb dX3_first_2 (by decide) (fun c1 => ?_) (fun c1 => ?_)
  · have hf := (if_pos c1).symm.trans hf
    refine lv_bipush (v := -6) hx hb dX3_first_10 (by decide) ?_
    refine lv_goto (tgt := 21) hx hb dX3_first_12 (by decide) ?_
    exact k_iret (v := (-6 : Int32)) (u := u_o0) hx hb hr hlocks hK hS eQ hf hP hD dX3_first_21
  · have hf := (if_neg c1).symm.trans hf
    refine lv_iload_n hx hb dX3_first_5 rfl (lv_at hl 2 rfl) ?_
    refine lv_iconst (v := 3) hx hb dX3_first_6 (by decide) ?_
    refine lv_icmp_le (tgt := 15) hx hb dX3_first_7 (by decide) (fun c2 => ?_) (fun c2 => ?_)
    · have hf := (if_pos c2).symm.trans hf
      refine lv_aload_n hx hb dX3_first_15 rfl (lv_at hl 0 rfl) ?_
      refine lv_iload_n hx hb dX3_first_16 rfl (lv_at hl 1 rfl) ?_
      refine lv_iload_n hx hb dX3_first_17 rfl (lv_at hl 2 rfl) ?_
      obtain ⟨z3, hz_z3, hf⟩ := o_bind hf
      refine k_calli (va_runS (As := [.ref o00, .int p1, .int p2]) (rest := []) ⟨hx, hb, hml, hown, hts⟩ (c_X3_search l D cI cZ o00 o01 o02 o03 o04 4 H.size u_o0 p1 p2 z3 hz_z3) (va_cwS 3 hts gX3_first_X3_search rfl rfl rfl hd_X3_search ⟨Nat.le_of_ble_eq_true rfl, Nat.le_of_ble_eq_true rfl⟩) (k_preS hK hP hD hS hA hE [0, 1, 2, 3, 4] (by decide) rfl) rfl rfl hl.1 rfl (lv_room (Nat.le_of_ble_eq_true rfl)) dX3_first_18 ⟨Nat.zero_le _, Nat.zero_le _⟩) hP hD hS hA [0, 1, 2, 3, 4] [some 0, some 1, some 2, some 3, some 4] 5 rfl (by decide) (by decide) rfl rfl (fun H locs hP hD hS => ?_)
      have hP : va_P D vwCl (ceW cI cZ o00 o01 o02 o03 o04 z3.2) H := hP
      have hD : va_D A (ceW cI cZ o00 o01 o02 o03 o04 z3.2) := hD
      exact k_iret (v := z3.1) (u := z3.2) hx hb hr hlocks hK hS eQ hf hP hD dX3_first_21
    · have hf := (if_neg c2).symm.trans hf
      refine lv_bipush (v := -6) hx hb dX3_first_10 (by decide) ?_
      refine lv_goto (tgt := 21) hx hb dX3_first_12 (by decide) ?_
      exact k_iret (v := (-6 : Int32)) (u := u_o0) hx hb hr hlocks hK hS eQ hf hP hD dX3_first_21
theorem hd_X5_leastOf : yX5_leastOf.cls ≠ "java/lang/invoke/MethodHandle" ∧ yX5_leastOf.cls ≠ "java/lang/invoke/VarHandle" ∧ (parseMethodDescriptor yX5_leastOf.desc).map (fun d => d.parameters.length) = some 1 := by decide +kernel
set_option maxHeartbeats 4000000 in
set_option maxRecDepth 100000 in
theorem c_X5_leastOf (l : Launch) (D : va_G) (cI cZ : ClassId) (sz : Nat) (p0 : Int32) (z : Int32 × Unit) (hf : f_X5_leastOf p0 = some z) : Met l yX5_leastOf wsX5_leastOf rmX5_leastOf (va_Pc [.int p0] (wPr D cI cZ (([] : va_W)) sz)) (va_Qi (fun (r : Int32) (v : Unit) => (r, v) = z) (fun (v : Unit) t => wPo D cI cZ (va_A (([] : va_W)) sz) (([] : va_W)) t) (va_A (([] : va_W)) sz)) 0 0 (va_A (([] : va_W)) sz) := by
  refine k_enter (D := D) (cI := cI) (cZ := cZ) (wl := ([] : va_W)) (sz := sz) (av := [.int p0]) (cc := cX5_leastOf) (maxL := 2) (ret := (some .int)) (Qc := fun A => va_Qi (fun (r : Int32) (v : Unit) => (r, v) = z) (fun (v : Unit) t => wPo D cI cZ (A) (([] : va_W)) t) (A)) (by decide) rfl (Nat.le_of_ble_eq_true rfl) ?_
  intro p e s m below meth c ls A Q H locs eQ hx hb hr hml hts hown hlocks hK hP hD hS hA hE hl
  have hown : s.vm.findClass RX5 = some m.cls := hown
  have hl : lv_has ls 2 [(0, .int p0)] := hl
  have hL2 : ∀ (n : Nat), ∀ (v0 : Int32) (v1 : Int32) (H : Heap) (locs : List Loc) (ls : Array Slot), lv_has ls 2 [(0, .int v0), (1, .int v1)] → va_P D vwCl (([] : va_W)) H → va_D A (([] : va_W)) → va_S A s.heap H locs → f_X5_leastOf_L2 n v0 v1 = some z → W p l e (headSpec wsX5_leastOf rmX5_leastOf).room s m ([.int p0] : List Value).toArray below meth c H locs 0 0 Q (F0 m 2 ls []) := by
    intro n
    induction n with
    | zero =>
      intro v0 v1 H locs ls hl hP hD hS hf
      exact absurd (show (none : Option (Int32 × Unit)) = some z from hf) (fun h => by cases h)
    | succ n ih =>
      intro v0 v1 H locs ls hl hP hD hS hf
      rw [f_X5_leastOf_L2] at hf
      refine lv_iload_n hx hb dX5_leastOf_2 rfl (lv_at hl 1 rfl) ?_
      refine lv_bipush (v := 8) hx hb dX5_leastOf_3 (by decide) ?_
      refine lv_icmp_ge (tgt := 24) hx hb dX5_leastOf_5 (by decide) (fun c1 => ?_) (fun c1 => ?_)
      · have hf := (if_pos c1).symm.trans hf
        refine lv_bipush (v := -6) hx hb dX5_leastOf_24 (by decide) ?_
        exact k_iret (v := (-6 : Int32)) (u := ()) hx hb hr hlocks hK hS eQ hf hP hD dX5_leastOf_26
      · have hf := (if_neg c1).symm.trans hf
        refine lv_iload_n hx hb dX5_leastOf_8 rfl (lv_at hl 0 rfl) ?_
        refine lv_iload_n hx hb dX5_leastOf_9 rfl (lv_at hl 1 rfl) ?_
        obtain ⟨z2, hz_z2, hf⟩ := o_bind hf
        refine k_calli (va_runSN (As := [.int v0, .int v1]) (rest := []) ⟨hx, hb, hml, hown, hts⟩ (c_X10_isOf l D cI cZ  H.size v0 v1 z2 hz_z2) ⟨va_cnB 2 hts gX5_leastOf_X10_isOf_n49 rfl rfl rfl (hE.1.1 (RX5, 49, yX10_isOf) (List.mem_of_getElem? (i := 3) rfl)) (hts (.initialized RX10) (List.mem_of_getElem? (i := 2) rfl)) hd_X10_isOf ⟨Nat.le_of_ble_eq_true rfl, Nat.le_of_ble_eq_true rfl⟩, hts (.static yX10_isOf) (List.mem_of_getElem? (i := 1) rfl), trivial⟩ (k_preS hK hP hD hS hA hE [] (by decide) rfl) rfl rfl hl.1 rfl (lv_room (Nat.le_of_ble_eq_true rfl)) dX5_leastOf_10 ⟨Nat.zero_le _, Nat.zero_le _⟩) hP hD hS hA [] [] 0 rfl (by decide) (by decide) rfl rfl (fun H locs hP hD hS => ?_)
        have hP : va_P D vwCl (([] : va_W)) H := hP
        have hD : va_D A (([] : va_W)) := hD
        refine lv_if_eq (tgt := 18) hx hb dX5_leastOf_13 (by decide) (fun c3 => ?_) (fun c3 => ?_)
        · have hf := (if_pos c3).symm.trans hf
          refine lv_iinc (v := (v1 + (1 : Int32))) (lv' := [(1, .int (v1 + (1 : Int32))), (0, .int v0)]) hx hb dX5_leastOf_18 hl (k := 1) rfl rfl (by decide) rfl (fun ls hl => ?_)
          refine lv_goto (tgt := 2) hx hb dX5_leastOf_21 (by decide) ?_
          exact ih v0 (v1 + (1 : Int32)) _ _ ls (lv_sub hl [1, 0] rfl) hP hD hS hf
        · have hf := (if_neg c3).symm.trans hf
          refine lv_iload_n hx hb dX5_leastOf_16 rfl (lv_at hl 1 rfl) ?_
          exact k_iret (v := v1) (u := ()) hx hb hr hlocks hK hS eQ hf hP hD dX5_leastOf_17
  rw [f_X5_leastOf] at hf
  refine lv_iconst (v := 0) hx hb dX5_leastOf_0 (by decide) ?_
  refine lv_istore_n (lv' := [(1, .int (0 : Int32)), (0, .int p0)]) hx hb dX5_leastOf_1 rfl hl (by decide) rfl (fun ls hl => ?_)
  exact hL2 oF p0 (0 : Int32) _ _ ls (lv_sub hl [1, 0] rfl) hP hD hS hf
theorem hd_X5_carInFirst : yX5_carInFirst.cls ≠ "java/lang/invoke/MethodHandle" ∧ yX5_carInFirst.cls ≠ "java/lang/invoke/VarHandle" ∧ (parseMethodDescriptor yX5_carInFirst.desc).map (fun d => d.parameters.length) = some 1 := by decide +kernel
set_option maxHeartbeats 4000000 in
set_option maxRecDepth 100000 in
theorem c_X5_carInFirst (l : Launch) (D : va_G) (cI cZ : ClassId) (th0 : Nat) (th1 : Nat) (th2 : Nat) (th3 : Nat) (th4 : Nat) (th5 : Nat) (th6 : Nat) (sz : Nat) (u_th : sG) (p1 : Int32) (z : Int32 × Unit) (hf : f_X5_carInFirst u_th p1 = some z) : Met l yX5_carInFirst wsX5_carInFirst rmX5_carInFirst (va_Pc [.ref th0, .int p1] (wPr D cI cZ (ceG cI cZ th0 th1 th2 th3 th4 th5 th6 u_th) sz)) (va_Qi (fun (r : Int32) (v : Unit) => (r, v) = z) (fun (v : Unit) t => wPo D cI cZ (va_A (ceG cI cZ th0 th1 th2 th3 th4 th5 th6 u_th) sz) (ceG cI cZ th0 th1 th2 th3 th4 th5 th6 u_th) t) (va_A (ceG cI cZ th0 th1 th2 th3 th4 th5 th6 u_th) sz)) 0 0 (va_A (ceG cI cZ th0 th1 th2 th3 th4 th5 th6 u_th) sz) := by
  refine k_enter (D := D) (cI := cI) (cZ := cZ) (wl := ceG cI cZ th0 th1 th2 th3 th4 th5 th6 u_th) (sz := sz) (av := [.ref th0, .int p1]) (cc := cX5_carInFirst) (maxL := 2) (ret := (some .int)) (Qc := fun A => va_Qi (fun (r : Int32) (v : Unit) => (r, v) = z) (fun (v : Unit) t => wPo D cI cZ (A) (ceG cI cZ th0 th1 th2 th3 th4 th5 th6 u_th) t) (A)) (by decide) rfl (Nat.le_of_ble_eq_true rfl) ?_
  intro p e s m below meth c ls A Q H locs eQ hx hb hr hml hts hown hlocks hK hP hD hS hA hE hl
  have hown : s.vm.findClass RX5 = some m.cls := hown
  have hl : lv_has ls 2 [(0, .ref th0), (1, .int p1)] := hl
  have hi_X5 : ∀ w ∈ wsX50, w ∈ wsX5_carInFirst := fun w h => List.mem_cons_of_mem _ (List.mem_append_right _ h)
  rw [f_X5_carInFirst] at hf
  refine lv_aload_n hx hb dX5_carInFirst_0 rfl (lv_at hl 0 rfl) ?_
  refine va_get (D := D) (ci := 2) (v := .ref th6) (C := RX5) (T := TX5) (N := 3) hx hb hts hi_X5 hown hK hP 0 rfl rfl 1 (by decide) (hts (.fieldLink RX5 18 "FairWheel$Seating" "firstCars" "[I") (List.mem_of_getElem? (i := 1) rfl)) (fun _ h9 => h9) rfl dX5_carInFirst_1 ?_
  refine lv_iload_n hx hb dX5_carInFirst_4 rfl (lv_at hl 1 rfl) ?_
  obtain ⟨z1, hz_z1, hf⟩ := o_bind hf
  refine k_calli (va_runSN (As := [.ref th6, .int p1]) (rest := []) ⟨hx, hb, hml, hown, hts⟩ (c_X10_at l D cI cZ th6 H.size 8 (G_firstCars u_th) p1 z1 hz_z1) ⟨va_cnB 2 hts gX5_carInFirst_X10_at_n53 rfl rfl rfl (hE.1.1 (RX5, 53, yX10_at) (List.mem_of_getElem? (i := 4) rfl)) (hts (.initialized RX10) (List.mem_of_getElem? (i := 3) rfl)) hd_X10_at ⟨Nat.le_of_ble_eq_true rfl, Nat.le_of_ble_eq_true rfl⟩, hts (.static yX10_at) (List.mem_of_getElem? (i := 2) rfl), trivial⟩ (k_preS hK hP hD hS hA hE [6] (by decide) rfl) rfl rfl hl.1 rfl (lv_room (Nat.le_of_ble_eq_true rfl)) dX5_carInFirst_5 ⟨Nat.zero_le _, Nat.zero_le _⟩) hP hD hS hA [6] [none, none, none, none, none, none, some 0] 1 rfl (by decide) (by decide) rfl rfl (fun H locs hP hD hS => ?_)
  have hP : va_P D vwCl (ceG cI cZ th0 th1 th2 th3 th4 th5 th6 u_th) H := hP
  have hD : va_D A (ceG cI cZ th0 th1 th2 th3 th4 th5 th6 u_th) := hD
  exact k_iret (v := z1.1) (u := ()) hx hb hr hlocks hK hS eQ hf hP hD dX5_carInFirst_8
theorem hd_X5_settle : yX5_settle.cls ≠ "java/lang/invoke/MethodHandle" ∧ yX5_settle.cls ≠ "java/lang/invoke/VarHandle" ∧ (parseMethodDescriptor yX5_settle.desc).map (fun d => d.parameters.length) = some 0 := by decide +kernel
set_option maxHeartbeats 4000000 in
set_option maxRecDepth 100000 in
theorem c_X5_settle (l : Launch) (D : va_G) (cI cZ : ClassId) (th0 : Nat) (th1 : Nat) (th2 : Nat) (th3 : Nat) (th4 : Nat) (th5 : Nat) (th6 : Nat) (sz : Nat) (u_th : sG) (z : Int32 × sG) (hf : f_X5_settle u_th = some z) : Met l yX5_settle wsX5_settle rmX5_settle (va_Pc [.ref th0] (wPr D cI cZ (ceG cI cZ th0 th1 th2 th3 th4 th5 th6 u_th) sz)) (va_Qi (fun (r : Int32) (v : sG) => (r, v) = z) (fun (v : sG) t => wPo D cI cZ (va_A (ceG cI cZ th0 th1 th2 th3 th4 th5 th6 u_th) sz) (ceG cI cZ th0 th1 th2 th3 th4 th5 th6 v) t) (va_A (ceG cI cZ th0 th1 th2 th3 th4 th5 th6 u_th) sz)) 0 0 (va_A (ceG cI cZ th0 th1 th2 th3 th4 th5 th6 u_th) sz) := by
  refine k_enter (D := D) (cI := cI) (cZ := cZ) (wl := ceG cI cZ th0 th1 th2 th3 th4 th5 th6 u_th) (sz := sz) (av := [.ref th0]) (cc := cX5_settle) (maxL := 1) (ret := (some .int)) (Qc := fun A => va_Qi (fun (r : Int32) (v : sG) => (r, v) = z) (fun (v : sG) t => wPo D cI cZ (A) (ceG cI cZ th0 th1 th2 th3 th4 th5 th6 v) t) (A)) (by decide) rfl (Nat.le_of_ble_eq_true rfl) ?_
  intro p e s m below meth c ls A Q H locs eQ hx hb hr hml hts hown hlocks hK hP hD hS hA hE hl
  have hown : s.vm.findClass RX5 = some m.cls := hown
  have hl : lv_has ls 1 [(0, .ref th0)] := hl
  have hi_X5 : ∀ w ∈ wsX50, w ∈ wsX5_settle := fun w h => List.mem_cons_of_mem _ (List.mem_append_left _ (List.mem_append_right _ h))
  have hi_X9 : ∀ w ∈ wsX90, w ∈ wsX5_settle := fun w h => List.mem_cons_of_mem _ (List.mem_append_right _ h)
  rw [f_X5_settle] at hf
  refine lv_aload_n hx hb dX5_settle_0 rfl (lv_at hl 0 rfl) ?_
  refine va_get (D := D) (ci := 2) (v := .ref th1) (C := RX5) (T := TX5) (N := 3) hx hb hts hi_X5 hown hK hP 0 rfl rfl 0 (by decide) (hts (.fieldLink RX5 12 "FairWheel$Seating" "wheel" "LFairWheel$Wheel;") (List.mem_of_getElem? (i := 1) rfl)) (fun _ h9 => h9) rfl dX5_settle_1 ?_
  obtain ⟨z1, hz_z1, hf⟩ := o_bind hf
  refine k_calli (va_runV (As := []) (rest := []) ⟨hx, hb, hml, hown, hts⟩ (c_X9_greatestPull l D cI cZ th1 th2 th3 th4 th5 H.size (G_wheel u_th) z1 hz_z1) (cwV 0 hts gX5_settle_X9_greatestPull rfl rfl rfl ⟨rfl, hd_X9_greatestPull⟩ ⟨Nat.le_of_ble_eq_true rfl, Nat.le_of_ble_eq_true rfl⟩) (k_preV hK hP hD hS hA hE [1, 2, 3, 4, 5] (by decide) rfl (ci := 6) rfl rfl) rfl rfl hl.1 rfl (lv_room (Nat.le_of_ble_eq_true rfl)) dX5_settle_4 ⟨Nat.zero_le _, Nat.zero_le _⟩) hP hD hS hA [1, 2, 3, 4, 5] [none, some 0, some 1, some 2, some 3, some 4, none] 5 rfl (by decide) (by decide) rfl rfl (fun H locs hP hD hS => ?_)
  have hP : va_P D vwCl (ceG cI cZ th0 th1 th2 th3 th4 th5 th6 u_th) H := hP
  have hD : va_D A (ceG cI cZ th0 th1 th2 th3 th4 th5 th6 u_th) := hD
  refine lv_aload_n hx hb dX5_settle_7 rfl (lv_at hl 0 rfl) ?_
  refine va_get (D := D) (ci := 2) (v := .ref th1) (C := RX5) (T := TX5) (N := 3) hx hb hts hi_X5 hown hK hP 0 rfl rfl 0 (by decide) (hts (.fieldLink RX5 12 "FairWheel$Seating" "wheel" "LFairWheel$Wheel;") (List.mem_of_getElem? (i := 1) rfl)) (fun _ h9 => h9) rfl dX5_settle_8 ?_
  obtain ⟨z2, hz_z2, hf⟩ := o_bind hf
  refine k_calli (va_runV (As := []) (rest := [.int z1.1]) ⟨hx, hb, hml, hown, hts⟩ (c_X9_friction l D cI cZ th1 th2 th3 th4 th5 H.size (G_wheel u_th) z2 hz_z2) (cwV 0 hts gX5_settle_X9_friction rfl rfl rfl ⟨rfl, hd_X9_friction⟩ ⟨Nat.le_of_ble_eq_true rfl, Nat.le_of_ble_eq_true rfl⟩) (k_preV hK hP hD hS hA hE [1, 2, 3, 4, 5] (by decide) rfl (ci := 6) rfl rfl) rfl rfl hl.1 rfl (lv_room (Nat.le_of_ble_eq_true rfl)) dX5_settle_11 ⟨Nat.zero_le _, Nat.zero_le _⟩) hP hD hS hA [1, 2, 3, 4, 5] [none, some 0, some 1, some 2, some 3, some 4, none] 5 rfl (by decide) (by decide) rfl rfl (fun H locs hP hD hS => ?_)
  have hP : va_P D vwCl (ceG cI cZ th0 th1 th2 th3 th4 th5 th6 u_th) H := hP
  have hD : va_D A (ceG cI cZ th0 th1 th2 th3 th4 th5 th6 u_th) := hD
  refine lv_icmp_le (tgt := 19) hx hb dX5_settle_14 (by decide) (fun c3 => ?_) (fun c3 => ?_)
  · have hf := (if_pos c3).symm.trans hf
    refine lv_aload_n hx hb dX5_settle_19 rfl (lv_at hl 0 rfl) ?_
    refine va_get (D := D) (ci := 2) (v := .int (G_found u_th)) (C := RX5) (T := TX5) (N := 3) hx hb hts hi_X5 hown hK hP 0 rfl rfl 2 (by decide) (hts (.fieldLink RX5 22 "FairWheel$Seating" "found" "Z") (List.mem_of_getElem? (i := 2) rfl)) (fun _ h9 => h9) rfl dX5_settle_20 ?_
    refine lv_if_ne (tgt := 45) hx hb dX5_settle_23 (by decide) (fun c4 => ?_) (fun c4 => ?_)
    · have hf := (if_neg c4).symm.trans hf
      refine lv_iconst (v := 1) hx hb dX5_settle_45 (by decide) ?_
      exact k_iret (v := (1 : Int32)) (u := u_th) hx hb hr hlocks hK hS eQ hf hP hD dX5_settle_46
    · have hf := (if_pos c4).symm.trans hf
      refine lv_aload_n hx hb dX5_settle_26 rfl (lv_at hl 0 rfl) ?_
      refine lv_iconst (v := 1) hx hb dX5_settle_27 (by decide) ?_
      refine va_put (D := D) (ci := 2) (v := .int (1 : Int32)) (ty := .boolean) (C := RX5) (T := TX5) (N := 3) hx hb hts hi_X5 tyX5 tyX5_ok nmX5 hown hK hP hD hS 0 rfl rfl 2 (by decide) (hts (.fieldLink RX5 22 "FairWheel$Seating" "found" "Z") (List.mem_of_getElem? (i := 2) rfl)) (fun _ h9 => h9) rfl (by decide +kernel) rfl rfl (Nat.le_of_ble_eq_true rfl) dX5_settle_28 (fun H locs hP hD hS => ?_)
      have hP : va_P D vwCl (ceG cI cZ th0 th1 th2 th3 th4 th5 th6 ((G_wheel u_th), (G_firstCars u_th), (1 : Int32))) H := hP
      have hD : va_D A (ceG cI cZ th0 th1 th2 th3 th4 th5 th6 ((G_wheel u_th), (G_firstCars u_th), (1 : Int32))) := hD
      refine lv_aload_n hx hb dX5_settle_31 rfl (lv_at hl 0 rfl) ?_
      refine va_get (D := D) (ci := 2) (v := .ref th1) (C := RX5) (T := TX5) (N := 3) hx hb hts hi_X5 hown hK hP 0 rfl rfl 0 (by decide) (hts (.fieldLink RX5 12 "FairWheel$Seating" "wheel" "LFairWheel$Wheel;") (List.mem_of_getElem? (i := 1) rfl)) (fun _ h9 => h9) rfl dX5_settle_32 ?_
      refine va_getN (D := D) (ci := 6) (v := .ref th3) (C := RX9) (T := TX9) (N := 6) hx hb hts hi_X9 hown hK hP 1 rfl rfl 1 (by decide) (va_Nw.use rfl hE.1.2) (fun _ h9 => h9) rfl dX5_settle_35 ?_
      refine lv_aload_n hx hb dX5_settle_38 rfl (lv_at hl 0 rfl) ?_
      refine va_get (D := D) (ci := 2) (v := .ref th6) (C := RX5) (T := TX5) (N := 3) hx hb hts hi_X5 hown hK hP 0 rfl rfl 1 (by decide) (hts (.fieldLink RX5 18 "FairWheel$Seating" "firstCars" "[I") (List.mem_of_getElem? (i := 3) rfl)) (fun _ h9 => h9) rfl dX5_settle_39 ?_
      obtain ⟨z5, hz_z5, hf⟩ := o_bind hf
      refine k_callv (va_runSN (As := [.ref th3, .ref th6]) (rest := []) ⟨hx, hb, hml, hown, hts⟩ (c_X10_copyRow l D cI cZ th3 th6 H.size 8 8 (W_cars (G_wheel u_th)) (G_firstCars u_th) z5 hz_z5) ⟨va_cnB 2 hts gX5_settle_X10_copyRow_n73 rfl rfl rfl (hE.1.1 (RX5, 73, yX10_copyRow) (List.mem_of_getElem? (i := 5) rfl)) (hts (.initialized RX10) (List.mem_of_getElem? (i := 25) rfl)) hd_X10_copyRow ⟨Nat.le_of_ble_eq_true rfl, Nat.le_of_ble_eq_true rfl⟩, hts (.static yX10_copyRow) (List.mem_of_getElem? (i := 36) rfl), trivial⟩ (k_preS hK hP hD hS hA hE [3, 6] (by decide) rfl) rfl rfl hl.1 rfl (lv_room (Nat.le_of_ble_eq_true rfl)) dX5_settle_42 ⟨Nat.zero_le _, Nat.zero_le _⟩) hP hD hS hA [3, 6] [none, none, none, some 0, none, none, some 1] 2 rfl (by decide) (by decide) rfl rfl (fun H locs hP hD hS => ?_)
      have hP : va_P D vwCl (ceG cI cZ th0 th1 th2 th3 th4 th5 th6 ((G_wheel u_th), z5, (1 : Int32))) H := hP
      have hD : va_D A (ceG cI cZ th0 th1 th2 th3 th4 th5 th6 ((G_wheel u_th), z5, (1 : Int32))) := hD
      refine lv_iconst (v := 1) hx hb dX5_settle_45 (by decide) ?_
      exact k_iret (v := (1 : Int32)) (u := ((G_wheel u_th), z5, (1 : Int32))) hx hb hr hlocks hK hS eQ hf hP hD dX5_settle_46
  · have hf := (if_neg c3).symm.trans hf
    refine lv_iconst (v := 0) hx hb dX5_settle_17 (by decide) ?_
    exact k_iret (v := (0 : Int32)) (u := u_th) hx hb hr hlocks hK hS eQ hf hP hD dX5_settle_18
theorem hd_X5_search : yX5_search.cls ≠ "java/lang/invoke/MethodHandle" ∧ yX5_search.cls ≠ "java/lang/invoke/VarHandle" ∧ (parseMethodDescriptor yX5_search.desc).map (fun d => d.parameters.length) = some 3 := by decide +kernel
set_option maxHeartbeats 4000000 in
set_option maxRecDepth 100000 in
theorem c_X5_search (l : Launch) (D : va_G) (cI cZ : ClassId) (o00 : Nat) (o01 : Nat) (o02 : Nat) (o03 : Nat) (o04 : Nat) (o05 : Nat) (o06 : Nat) : ∀ (d : Nat), ∀ (sz : Nat) (u_o0 : sG) (p1 : Int32) (p2 : Int32) (z : Int32 × sG) (_ : f_X5_search d u_o0 p1 p2 = some z), Met l yX5_search wsX5_search (rmX5_search d) (va_Pc [.ref o00, .int p1, .int p2] (wPr D cI cZ (ceG cI cZ o00 o01 o02 o03 o04 o05 o06 u_o0) sz)) (va_Qi (fun (r : Int32) (v : sG) => (r, v) = z) (fun (v : sG) t => wPo D cI cZ (va_A (ceG cI cZ o00 o01 o02 o03 o04 o05 o06 u_o0) sz) (ceG cI cZ o00 o01 o02 o03 o04 o05 o06 v) t) (va_A (ceG cI cZ o00 o01 o02 o03 o04 o05 o06 u_o0) sz)) 0 0 (va_A (ceG cI cZ o00 o01 o02 o03 o04 o05 o06 u_o0) sz) := by
  intro d
  induction d with
  | zero =>
    intro sz u_o0 p1 p2 z hf
    exact absurd (show (none : Option (Int32 × sG)) = some z from hf) (fun h => by cases h)
  | succ d ihd =>
    intro sz u_o0 p1 p2 z hf
    refine k_enter (D := D) (cI := cI) (cZ := cZ) (wl := ceG cI cZ o00 o01 o02 o03 o04 o05 o06 u_o0) (sz := sz) (av := [.ref o00, .int p1, .int p2]) (cc := cX5_search) (maxL := 5) (ret := (some .int)) (Qc := fun A => va_Qi (fun (r : Int32) (v : sG) => (r, v) = z) (fun (v : sG) t => wPo D cI cZ (A) (ceG cI cZ o00 o01 o02 o03 o04 o05 o06 v) t) (A)) (by decide) rfl (Nat.le_of_ble_eq_true rfl) ?_
    intro p e s m below meth c ls A Q H locs eQ hx hb hr hml hts hown hlocks hK hP hD hS hA hE hl
    have hown : s.vm.findClass RX5 = some m.cls := hown
    have hl : lv_has ls 5 [(0, .ref o00), (1, .int p1), (2, .int p2)] := hl
    have hi_X5 : ∀ w ∈ wsX50, w ∈ wsX5_search := fun w h => List.mem_cons_of_mem _ (List.mem_append_left _ (List.mem_append_right _ h))
    have hL33 : ∀ (n : Nat), ∀ (v1 : Int32) (v2 : Int32) (v3 : Int32) (v4 : Int32) (u_o0 : sG) (H : Heap) (locs : List Loc) (ls : Array Slot), lv_has ls 5 [(0, .ref o00), (1, .int v1), (2, .int v2), (3, .int v3), (4, .int v4)] → va_P D vwCl (ceG cI cZ o00 o01 o02 o03 o04 o05 o06 u_o0) H → va_D A (ceG cI cZ o00 o01 o02 o03 o04 o05 o06 u_o0) → va_S A s.heap H locs → f_X5_search_L33 (f_X5_search d) n v1 v2 v3 v4 u_o0 = some z → W p l e (headSpec wsX5_search (rmX5_search (d + 1))).room s m ([.ref o00, .int p1, .int p2] : List Value).toArray below meth c H locs 0 0 Q (F0 m 33 ls []) := by
      intro n
      induction n with
      | zero =>
        intro v1 v2 v3 v4 u_o0 H locs ls hl hP hD hS hf
        exact absurd (show (none : Option (Int32 × sG)) = some z from hf) (fun h => by cases h)
      | succ n ih =>
        intro v1 v2 v3 v4 u_o0 H locs ls hl hP hD hS hf
        rw [f_X5_search_L33] at hf
        refine lv_iload hx hb dX5_search_33 (lv_at hl 4 rfl) ?_
        refine lv_bipush (v := 8) hx hb dX5_search_35 (by decide) ?_
        refine lv_icmp_ge (tgt := 90) hx hb dX5_search_37 (by decide) (fun c4 => ?_) (fun c4 => ?_)
        · have hf := (if_pos c4).symm.trans hf
          refine lv_iload_n hx hb dX5_search_90 rfl (lv_at hl 3 rfl) ?_
          exact k_iret (v := v3) (u := u_o0) hx hb hr hlocks hK hS eQ hf hP hD dX5_search_91
        · have hf := (if_neg c4).symm.trans hf
          refine lv_aload_n hx hb dX5_search_40 rfl (lv_at hl 0 rfl) ?_
          refine va_get (D := D) (ci := 2) (v := .ref o01) (C := RX5) (T := TX5) (N := 3) hx hb hts hi_X5 hown hK hP 0 rfl rfl 0 (by decide) (hts (.fieldLink RX5 12 "FairWheel$Seating" "wheel" "LFairWheel$Wheel;") (List.mem_of_getElem? (i := 1) rfl)) (fun _ h9 => h9) rfl dX5_search_41 ?_
          refine lv_iload hx hb dX5_search_44 (lv_at hl 4 rfl) ?_
          obtain ⟨z5, hz_z5, hf⟩ := o_bind hf
          refine k_calli (va_runV (As := [.int v4]) (rest := []) ⟨hx, hb, hml, hown, hts⟩ (c_X9_riderOf l D cI cZ o01 o02 o03 o04 o05 H.size (G_wheel u_o0) v4 z5 hz_z5) (cwV 1 hts gX5_search_X9_riderOf rfl rfl rfl ⟨rfl, hd_X9_riderOf⟩ ⟨(by show 1 + 1 ≤ 6 + (d + 1); omega), (by show 8 + (2 + 11) + (25) ≤ 300 + 60 * (d + 1); omega)⟩) (k_preV hK hP hD hS hA hE [1, 2, 3, 4, 5] (by decide) rfl (ci := 6) rfl rfl) rfl rfl hl.1 rfl (lv_room (Nat.le_of_ble_eq_true rfl)) dX5_search_46 ⟨Nat.zero_le _, Nat.zero_le _⟩) hP hD hS hA [1, 2, 3, 4, 5] [none, some 0, some 1, some 2, some 3, some 4, none] 5 rfl (by decide) (by decide) rfl rfl (fun H locs hP hD hS => ?_)
          have hP : va_P D vwCl (ceG cI cZ o00 o01 o02 o03 o04 o05 o06 u_o0) H := hP
          have hD : va_D A (ceG cI cZ o00 o01 o02 o03 o04 o05 o06 u_o0) := hD
          refine lv_bipush (v := -6) hx hb dX5_search_49 (by decide) ?_
          refine lv_icmp_ne (tgt := 84) hx hb dX5_search_51 (by decide) (fun c6 => ?_) (fun c6 => ?_)
          · have hf := (if_neg c6).symm.trans hf
            refine lv_iinc (v := (v4 + (1 : Int32))) (lv' := [(4, .int (v4 + (1 : Int32))), (0, .ref o00), (1, .int v1), (2, .int v2), (3, .int v3)]) hx hb dX5_search_84 hl (k := 4) rfl rfl (by decide) rfl (fun ls hl => ?_)
            refine lv_goto (tgt := 33) hx hb dX5_search_87 (by decide) ?_
            exact ih v1 v2 v3 (v4 + (1 : Int32)) u_o0 _ _ ls (lv_sub hl [1, 2, 3, 4, 0] rfl) hP hD hS hf
          · have hf := (if_pos c6).symm.trans hf
            refine lv_aload_n hx hb dX5_search_54 rfl (lv_at hl 0 rfl) ?_
            refine va_get (D := D) (ci := 2) (v := .ref o01) (C := RX5) (T := TX5) (N := 3) hx hb hts hi_X5 hown hK hP 0 rfl rfl 0 (by decide) (hts (.fieldLink RX5 12 "FairWheel$Seating" "wheel" "LFairWheel$Wheel;") (List.mem_of_getElem? (i := 1) rfl)) (fun _ h9 => h9) rfl dX5_search_55 ?_
            refine lv_iload_n hx hb dX5_search_58 rfl (lv_at hl 2 rfl) ?_
            refine lv_iload hx hb dX5_search_59 (lv_at hl 4 rfl) ?_
            obtain ⟨z7, hz_z7, hf⟩ := o_bind hf
            refine k_callv (va_runV (As := [.int v2, .int v4]) (rest := []) ⟨hx, hb, hml, hown, hts⟩ (c_X9_seat l D cI cZ o01 o02 o03 o04 o05 H.size (G_wheel u_o0) v2 v4 z7 hz_z7) (cwV 2 hts gX5_search_X9_seat rfl rfl rfl ⟨rfl, hd_X9_seat⟩ ⟨(by show 1 + 1 ≤ 6 + (d + 1); omega), (by show 8 + (3 + 11) + (26) ≤ 300 + 60 * (d + 1); omega)⟩) (k_preV hK hP hD hS hA hE [1, 2, 3, 4, 5] (by decide) rfl (ci := 6) rfl rfl) rfl rfl hl.1 rfl (lv_room (Nat.le_of_ble_eq_true rfl)) dX5_search_61 ⟨Nat.zero_le _, Nat.zero_le _⟩) hP hD hS hA [1, 2, 3, 4, 5] [none, some 0, some 1, some 2, some 3, some 4, none] 5 rfl (by decide) (by decide) rfl rfl (fun H locs hP hD hS => ?_)
            have hP : va_P D vwCl (ceG cI cZ o00 o01 o02 o03 o04 o05 o06 (z7, (G_firstCars u_o0), (G_found u_o0))) H := hP
            have hD : va_D A (ceG cI cZ o00 o01 o02 o03 o04 o05 o06 (z7, (G_firstCars u_o0), (G_found u_o0))) := hD
            refine lv_iload_n hx hb dX5_search_64 rfl (lv_at hl 3 rfl) ?_
            refine lv_aload_n hx hb dX5_search_65 rfl (lv_at hl 0 rfl) ?_
            refine lv_iload_n hx hb dX5_search_66 rfl (lv_at hl 1 rfl) ?_
            refine lv_iload_n hx hb dX5_search_67 rfl (lv_at hl 2 rfl) ?_
            refine lv_iconst (v := 1) hx hb dX5_search_68 (by decide) ?_
            refine lv_iadd hx hb dX5_search_69 ?_
            obtain ⟨z8, hz_z8, hf⟩ := o_bind hf
            refine k_calli (va_runS (As := [.ref o00, .int v1, .int (v2 + (1 : Int32))]) (rest := [.int v3]) ⟨hx, hb, hml, hown, hts⟩ (ihd H.size (z7, (G_firstCars u_o0), (G_found u_o0)) v1 (v2 + (1 : Int32)) z8 hz_z8) (va_cwS 3 hts gX5_search_X5_search rfl rfl rfl hd_X5_search ⟨(by show 6 + d + 1 ≤ 6 + (d + 1); omega), (by show 8 + (5 + 11) + (300 + 60 * d) ≤ 300 + 60 * (d + 1); omega)⟩) (k_preS hK hP hD hS hA hE [0, 1, 2, 3, 4, 5, 6] (by decide) rfl) rfl rfl hl.1 rfl (lv_room (Nat.le_of_ble_eq_true rfl)) dX5_search_70 ⟨Nat.zero_le _, Nat.zero_le _⟩) hP hD hS hA [0, 1, 2, 3, 4, 5, 6] [some 0, some 1, some 2, some 3, some 4, some 5, some 6] 7 rfl (by decide) (by decide) rfl rfl (fun H locs hP hD hS => ?_)
            have hP : va_P D vwCl (ceG cI cZ o00 o01 o02 o03 o04 o05 o06 z8.2) H := hP
            have hD : va_D A (ceG cI cZ o00 o01 o02 o03 o04 o05 o06 z8.2) := hD
            refine lv_iadd hx hb dX5_search_73 ?_
            refine lv_istore_n (lv' := [(3, .int (v3 + z8.1)), (0, .ref o00), (1, .int v1), (2, .int v2), (4, .int v4)]) hx hb dX5_search_74 rfl hl (by decide) rfl (fun ls hl => ?_)
            refine lv_aload_n hx hb dX5_search_75 rfl (lv_at hl 1 rfl) ?_
            refine va_get (D := D) (ci := 2) (v := .ref o01) (C := RX5) (T := TX5) (N := 3) hx hb hts hi_X5 hown hK hP 0 rfl rfl 0 (by decide) (hts (.fieldLink RX5 12 "FairWheel$Seating" "wheel" "LFairWheel$Wheel;") (List.mem_of_getElem? (i := 1) rfl)) (fun _ h9 => h9) rfl dX5_search_76 ?_
            refine lv_iload hx hb dX5_search_79 (lv_at hl 4 rfl) ?_
            obtain ⟨z9, hz_z9, hf⟩ := o_bind hf
            refine k_callv (va_runV (As := [.int v4]) (rest := []) ⟨hx, hb, hml, hown, hts⟩ (c_X9_unseat l D cI cZ o01 o02 o03 o04 o05 H.size (G_wheel z8.2) v4 z9 hz_z9) (cwV 1 hts gX5_search_X9_unseat rfl rfl rfl ⟨rfl, hd_X9_unseat⟩ ⟨(by show 1 + 1 ≤ 6 + (d + 1); omega), (by show 8 + (2 + 11) + (26) ≤ 300 + 60 * (d + 1); omega)⟩) (k_preV hK hP hD hS hA hE [1, 2, 3, 4, 5] (by decide) rfl (ci := 6) rfl rfl) rfl rfl hl.1 rfl (lv_room (Nat.le_of_ble_eq_true rfl)) dX5_search_81 ⟨Nat.zero_le _, Nat.zero_le _⟩) hP hD hS hA [1, 2, 3, 4, 5] [none, some 0, some 1, some 2, some 3, some 4, none] 5 rfl (by decide) (by decide) rfl rfl (fun H locs hP hD hS => ?_)
            have hP : va_P D vwCl (ceG cI cZ o00 o01 o02 o03 o04 o05 o06 (z9, (G_firstCars z8.2), (G_found z8.2))) H := hP
            have hD : va_D A (ceG cI cZ o00 o01 o02 o03 o04 o05 o06 (z9, (G_firstCars z8.2), (G_found z8.2))) := hD
            refine lv_iinc (v := (v4 + (1 : Int32))) (lv' := [(4, .int (v4 + (1 : Int32))), (3, .int (v3 + z8.1)), (0, .ref o00), (1, .int v1), (2, .int v2)]) hx hb dX5_search_84 hl (k := 4) rfl rfl (by decide) rfl (fun ls hl => ?_)
            refine lv_goto (tgt := 33) hx hb dX5_search_87 (by decide) ?_
            exact ih v1 v2 (v3 + z8.1) (v4 + (1 : Int32)) (z9, (G_firstCars z8.2), (G_found z8.2)) _ _ ls (lv_sub hl [2, 3, 4, 1, 0] rfl) hP hD hS hf
    rw [f_X5_search] at hf
    refine lv_iload_n hx hb dX5_search_0 rfl (lv_at hl 2 rfl) ?_
    refine lv_bipush (v := 8) hx hb dX5_search_1 (by decide) ?_
    refine lv_icmp_lt (tgt := 11) hx hb dX5_search_3 (by decide) (fun c1 => ?_) (fun c1 => ?_)
    · have hf := (if_pos c1).symm.trans hf
      refine lv_iload_n hx hb dX5_search_11 rfl (lv_at hl 1 rfl) ?_
      refine lv_iload_n hx hb dX5_search_12 rfl (lv_at hl 2 rfl) ?_
      obtain ⟨z2, hz_z2, hf⟩ := o_bind hf
      refine k_calli (va_runSN (As := [.int p1, .int p2]) (rest := []) ⟨hx, hb, hml, hown, hts⟩ (c_X10_isOf l D cI cZ  H.size p1 p2 z2 hz_z2) ⟨va_cnB 2 hts gX5_search_X10_isOf_n49 rfl rfl rfl (hE.1.1 (RX5, 49, yX10_isOf) (List.mem_of_getElem? (i := 3) rfl)) (hts (.initialized RX10) (List.mem_of_getElem? (i := 30) rfl)) hd_X10_isOf ⟨(by show 0 + 1 ≤ 6 + (d + 1); omega), (by show 8 + (2 + 11) + (0) ≤ 300 + 60 * (d + 1); omega)⟩, hts (.static yX10_isOf) (List.mem_of_getElem? (i := 50) rfl), trivial⟩ (k_preS hK hP hD hS hA hE [] (by decide) rfl) rfl rfl hl.1 rfl (lv_room (Nat.le_of_ble_eq_true rfl)) dX5_search_13 ⟨Nat.zero_le _, Nat.zero_le _⟩) hP hD hS hA [] [none, none, none, none, none, none, none] 0 rfl (by decide) (by decide) rfl rfl (fun H locs hP hD hS => ?_)
      have hP : va_P D vwCl (ceG cI cZ o00 o01 o02 o03 o04 o05 o06 u_o0) H := hP
      have hD : va_D A (ceG cI cZ o00 o01 o02 o03 o04 o05 o06 u_o0) := hD
      refine lv_if_ne (tgt := 28) hx hb dX5_search_16 (by decide) (fun c3 => ?_) (fun c3 => ?_)
      · have hf := (if_neg c3).symm.trans hf
        refine lv_iconst (v := 0) hx hb dX5_search_28 (by decide) ?_
        refine lv_istore_n (lv' := [(3, .int (0 : Int32)), (0, .ref o00), (1, .int p1), (2, .int p2)]) hx hb dX5_search_29 rfl hl (by decide) rfl (fun ls hl => ?_)
        refine lv_iconst (v := 0) hx hb dX5_search_30 (by decide) ?_
        refine lv_istore (lv' := [(4, .int (0 : Int32)), (3, .int (0 : Int32)), (0, .ref o00), (1, .int p1), (2, .int p2)]) hx hb dX5_search_31 hl (by decide) rfl (fun ls hl => ?_)
        exact hL33 oF p1 p2 (0 : Int32) (0 : Int32) u_o0 _ _ ls (lv_sub hl [2, 3, 4, 1, 0] rfl) hP hD hS hf
      · have hf := (if_pos c3).symm.trans hf
        refine lv_aload_n hx hb dX5_search_19 rfl (lv_at hl 0 rfl) ?_
        refine lv_iload_n hx hb dX5_search_20 rfl (lv_at hl 1 rfl) ?_
        refine lv_iload_n hx hb dX5_search_21 rfl (lv_at hl 2 rfl) ?_
        refine lv_iconst (v := 1) hx hb dX5_search_22 (by decide) ?_
        refine lv_iadd hx hb dX5_search_23 ?_
        obtain ⟨z10, hz_z10, hf⟩ := o_bind hf
        refine k_calli (va_runS (As := [.ref o00, .int p1, .int (p2 + (1 : Int32))]) (rest := []) ⟨hx, hb, hml, hown, hts⟩ (ihd H.size u_o0 p1 (p2 + (1 : Int32)) z10 hz_z10) (va_cwS 3 hts gX5_search_X5_search rfl rfl rfl hd_X5_search ⟨(by show 6 + d + 1 ≤ 6 + (d + 1); omega), (by show 8 + (5 + 11) + (300 + 60 * d) ≤ 300 + 60 * (d + 1); omega)⟩) (k_preS hK hP hD hS hA hE [0, 1, 2, 3, 4, 5, 6] (by decide) rfl) rfl rfl hl.1 rfl (lv_room (Nat.le_of_ble_eq_true rfl)) dX5_search_24 ⟨Nat.zero_le _, Nat.zero_le _⟩) hP hD hS hA [0, 1, 2, 3, 4, 5, 6] [some 0, some 1, some 2, some 3, some 4, some 5, some 6] 7 rfl (by decide) (by decide) rfl rfl (fun H locs hP hD hS => ?_)
        have hP : va_P D vwCl (ceG cI cZ o00 o01 o02 o03 o04 o05 o06 z10.2) H := hP
        have hD : va_D A (ceG cI cZ o00 o01 o02 o03 o04 o05 o06 z10.2) := hD
        exact k_iret (v := z10.1) (u := z10.2) hx hb hr hlocks hK hS eQ hf hP hD dX5_search_27
    · have hf := (if_neg c1).symm.trans hf
      refine lv_aload_n hx hb dX5_search_6 rfl (lv_at hl 0 rfl) ?_
      obtain ⟨z11, hz_z11, hf⟩ := o_bind hf
      refine k_calli (va_runV (As := []) (rest := []) ⟨hx, hb, hml, hown, hts⟩ (c_X5_settle l D cI cZ o00 o01 o02 o03 o04 o05 o06 H.size u_o0 z11 hz_z11) (cwV 0 hts gX5_search_X5_settle rfl rfl rfl ⟨rfl, hd_X5_settle⟩ ⟨(by show 3 + 1 ≤ 6 + (d + 1); omega), (by show 8 + (1 + 11) + (89) ≤ 300 + 60 * (d + 1); omega)⟩) (k_preV hK hP hD hS hA hE [0, 1, 2, 3, 4, 5, 6] (by decide) rfl (ci := 2) rfl rfl) rfl rfl hl.1 rfl (lv_room (Nat.le_of_ble_eq_true rfl)) dX5_search_7 ⟨Nat.zero_le _, Nat.zero_le _⟩) hP hD hS hA [0, 1, 2, 3, 4, 5, 6] [some 0, some 1, some 2, some 3, some 4, some 5, some 6] 7 rfl (by decide) (by decide) rfl rfl (fun H locs hP hD hS => ?_)
      have hP : va_P D vwCl (ceG cI cZ o00 o01 o02 o03 o04 o05 o06 z11.2) H := hP
      have hD : va_D A (ceG cI cZ o00 o01 o02 o03 o04 o05 o06 z11.2) := hD
      exact k_iret (v := z11.1) (u := z11.2) hx hb hr hlocks hK hS eQ hf hP hD dX5_search_10
theorem hd_X5_count : yX5_count.cls ≠ "java/lang/invoke/MethodHandle" ∧ yX5_count.cls ≠ "java/lang/invoke/VarHandle" ∧ (parseMethodDescriptor yX5_count.desc).map (fun d => d.parameters.length) = some 2 := by decide +kernel
set_option maxHeartbeats 4000000 in
set_option maxRecDepth 100000 in
theorem c_X5_count (l : Launch) (D : va_G) (cI cZ : ClassId) (th0 : Nat) (th1 : Nat) (th2 : Nat) (th3 : Nat) (th4 : Nat) (th5 : Nat) (th6 : Nat) (o10 : Nat) (o11 : Nat) (o12 : Nat) (o13 : Nat) (o14 : Nat) (sz : Nat) (u_th : sG) (u_o1 : sW) (p2 : Int32) (z : Int32 × sG) (hf : f_X5_count u_th u_o1 p2 = some z) : Met l yX5_count wsX5_count rmX5_count (va_Pc [.ref th0, .ref o10, .int p2] (wPr D cI cZ (ceG cI cZ th0 th1 th2 th3 th4 th5 th6 u_th ++ (ceW cI cZ o10 o11 o12 o13 o14 u_o1)) sz)) (va_Qi (fun (r : Int32) (v : sG) => (r, v) = z) (fun (v : sG) t => wPo D cI cZ (va_A (ceG cI cZ th0 th1 th2 th3 th4 th5 th6 u_th ++ (ceW cI cZ o10 o11 o12 o13 o14 u_o1)) sz) (ceG cI cZ th0 th1 th2 th3 th4 th5 th6 v ++ (ceW cI cZ o10 o11 o12 o13 o14 u_o1)) t) (va_A (ceG cI cZ th0 th1 th2 th3 th4 th5 th6 u_th ++ (ceW cI cZ o10 o11 o12 o13 o14 u_o1)) sz)) 0 0 (va_A (ceG cI cZ th0 th1 th2 th3 th4 th5 th6 u_th ++ (ceW cI cZ o10 o11 o12 o13 o14 u_o1)) sz) := by
  refine k_enter (D := D) (cI := cI) (cZ := cZ) (wl := ceG cI cZ th0 th1 th2 th3 th4 th5 th6 u_th ++ (ceW cI cZ o10 o11 o12 o13 o14 u_o1)) (sz := sz) (av := [.ref th0, .ref o10, .int p2]) (cc := cX5_count) (maxL := 4) (ret := (some .int)) (Qc := fun A => va_Qi (fun (r : Int32) (v : sG) => (r, v) = z) (fun (v : sG) t => wPo D cI cZ (A) (ceG cI cZ th0 th1 th2 th3 th4 th5 th6 v ++ (ceW cI cZ o10 o11 o12 o13 o14 u_o1)) t) (A)) (by decide) rfl (Nat.le_of_ble_eq_true rfl) ?_
  intro p e s m below meth c ls A Q H locs eQ hx hb hr hml hts hown hlocks hK hP hD hS hA hE hl
  have hown : s.vm.findClass RX5 = some m.cls := hown
  have hl : lv_has ls 4 [(0, .ref th0), (1, .ref o10), (2, .int p2)] := hl
  have hi_X5 : ∀ w ∈ wsX50, w ∈ wsX5_count := fun w h => List.mem_cons_of_mem _ (List.mem_append_left _ (List.mem_append_right _ h))
  rw [f_X5_count] at hf
  refine lv_aload_n hx hb dX5_count_0 rfl (lv_at hl 0 rfl) ?_
  refine lv_iconst (v := 0) hx hb dX5_count_1 (by decide) ?_
  refine va_put (D := D) (ci := 2) (v := .int (0 : Int32)) (ty := .boolean) (C := RX5) (T := TX5) (N := 3) hx hb hts hi_X5 tyX5 tyX5_ok nmX5 hown hK hP hD hS 0 rfl rfl 2 (by decide) (hts (.fieldLink RX5 22 "FairWheel$Seating" "found" "Z") (List.mem_of_getElem? (i := 1) rfl)) (fun _ h9 => h9) rfl (by decide +kernel) rfl rfl (Nat.le_of_ble_eq_true rfl) dX5_count_2 (fun H locs hP hD hS => ?_)
  have hP : va_P D vwCl (ceG cI cZ th0 th1 th2 th3 th4 th5 th6 ((G_wheel u_th), (G_firstCars u_th), (0 : Int32)) ++ (ceW cI cZ o10 o11 o12 o13 o14 u_o1)) H := hP
  have hD : va_D A (ceG cI cZ th0 th1 th2 th3 th4 th5 th6 ((G_wheel u_th), (G_firstCars u_th), (0 : Int32)) ++ (ceW cI cZ o10 o11 o12 o13 o14 u_o1)) := hD
  refine lv_aload_n hx hb dX5_count_5 rfl (lv_at hl 0 rfl) ?_
  refine va_get (D := D) (ci := 2) (v := .ref th1) (C := RX5) (T := TX5) (N := 3) hx hb hts hi_X5 hown hK hP 0 rfl rfl 0 (by decide) (hts (.fieldLink RX5 12 "FairWheel$Seating" "wheel" "LFairWheel$Wheel;") (List.mem_of_getElem? (i := 2) rfl)) (fun _ h9 => h9) rfl dX5_count_6 ?_
  refine lv_aload_n hx hb dX5_count_9 rfl (lv_at hl 1 rfl) ?_
  obtain ⟨z1, hz_z1, hf⟩ := o_bind hf
  refine k_callv (va_runV (As := [.ref o10]) (rest := []) ⟨hx, hb, hml, hown, hts⟩ (c_X9_copyFrom l D cI cZ th1 th2 th3 th4 th5 o10 o11 o12 o13 o14 H.size (G_wheel u_th) u_o1 z1 hz_z1) (cwV 1 hts gX5_count_X9_copyFrom rfl rfl rfl ⟨rfl, hd_X9_copyFrom⟩ ⟨Nat.le_of_ble_eq_true rfl, Nat.le_of_ble_eq_true rfl⟩) (k_preV hK hP hD hS hA hE [1, 2, 3, 4, 5, 7, 8, 9, 10, 11] (by decide) rfl (ci := 6) rfl rfl) rfl rfl hl.1 rfl (lv_room (Nat.le_of_ble_eq_true rfl)) dX5_count_10 ⟨Nat.zero_le _, Nat.zero_le _⟩) hP hD hS hA [1, 2, 3, 4, 5, 7, 8, 9, 10, 11] [none, some 0, some 1, some 2, some 3, some 4, none, some 5, some 6, some 7, some 8, some 9] 10 rfl (by decide) (by decide) rfl rfl (fun H locs hP hD hS => ?_)
  have hP : va_P D vwCl (ceG cI cZ th0 th1 th2 th3 th4 th5 th6 (z1, (G_firstCars u_th), (0 : Int32)) ++ (ceW cI cZ o10 o11 o12 o13 o14 u_o1)) H := hP
  have hD : va_D A (ceG cI cZ th0 th1 th2 th3 th4 th5 th6 (z1, (G_firstCars u_th), (0 : Int32)) ++ (ceW cI cZ o10 o11 o12 o13 o14 u_o1)) := hD
  refine lv_aload_n hx hb dX5_count_13 rfl (lv_at hl 0 rfl) ?_
  refine va_get (D := D) (ci := 2) (v := .ref th1) (C := RX5) (T := TX5) (N := 3) hx hb hts hi_X5 hown hK hP 0 rfl rfl 0 (by decide) (hts (.fieldLink RX5 12 "FairWheel$Seating" "wheel" "LFairWheel$Wheel;") (List.mem_of_getElem? (i := 2) rfl)) (fun _ h9 => h9) rfl dX5_count_14 ?_
  obtain ⟨z2, hz_z2, hf⟩ := o_bind hf
  refine k_callv (va_runV (As := []) (rest := []) ⟨hx, hb, hml, hown, hts⟩ (c_X9_clear l D cI cZ th1 th2 th3 th4 th5 H.size z1 z2 hz_z2) (cwV 0 hts gX5_count_X9_clear rfl rfl rfl ⟨rfl, hd_X9_clear⟩ ⟨Nat.le_of_ble_eq_true rfl, Nat.le_of_ble_eq_true rfl⟩) (k_preV hK hP hD hS hA hE [1, 2, 3, 4, 5] (by decide) rfl (ci := 6) rfl rfl) rfl rfl hl.1 rfl (lv_room (Nat.le_of_ble_eq_true rfl)) dX5_count_17 ⟨Nat.zero_le _, Nat.zero_le _⟩) hP hD hS hA [1, 2, 3, 4, 5] [none, some 0, some 1, some 2, some 3, some 4, none, none, none, none, none, none] 5 rfl (by decide) (by decide) rfl rfl (fun H locs hP hD hS => ?_)
  have hP : va_P D vwCl (ceG cI cZ th0 th1 th2 th3 th4 th5 th6 (z2, (G_firstCars u_th), (0 : Int32)) ++ (ceW cI cZ o10 o11 o12 o13 o14 u_o1)) H := hP
  have hD : va_D A (ceG cI cZ th0 th1 th2 th3 th4 th5 th6 (z2, (G_firstCars u_th), (0 : Int32)) ++ (ceW cI cZ o10 o11 o12 o13 o14 u_o1)) := hD
  refine lv_iload_n hx hb dX5_count_20 rfl (lv_at hl 2 rfl) ?_
  obtain ⟨z3, hz_z3, hf⟩ := o_bind hf
  refine k_calli (va_runS (As := [.int p2]) (rest := []) ⟨hx, hb, hml, hown, hts⟩ (c_X5_leastOf l D cI cZ  H.size p2 z3 hz_z3) (va_cwS 1 hts gX5_count_X5_leastOf rfl rfl rfl hd_X5_leastOf ⟨Nat.le_of_ble_eq_true rfl, Nat.le_of_ble_eq_true rfl⟩) (k_preS hK hP hD hS hA hE [] (by decide) rfl) rfl rfl hl.1 rfl (lv_room (Nat.le_of_ble_eq_true rfl)) dX5_count_21 ⟨Nat.zero_le _, Nat.zero_le _⟩) hP hD hS hA [] [none, none, none, none, none, none, none, none, none, none, none, none] 0 rfl (by decide) (by decide) rfl rfl (fun H locs hP hD hS => ?_)
  have hP : va_P D vwCl (ceG cI cZ th0 th1 th2 th3 th4 th5 th6 (z2, (G_firstCars u_th), (0 : Int32)) ++ (ceW cI cZ o10 o11 o12 o13 o14 u_o1)) H := hP
  have hD : va_D A (ceG cI cZ th0 th1 th2 th3 th4 th5 th6 (z2, (G_firstCars u_th), (0 : Int32)) ++ (ceW cI cZ o10 o11 o12 o13 o14 u_o1)) := hD
  refine lv_istore_n (lv' := [(3, .int z3.1), (0, .ref th0), (1, .ref o10), (2, .int p2)]) hx hb dX5_count_24 rfl hl (by decide) rfl (fun ls hl => ?_)
  refine lv_iload_n hx hb dX5_count_25 rfl (lv_at hl 0 rfl) ?_
  refine lv_bipush (v := -6) hx hb dX5_count_26 (by decide) ?_
  refine lv_icmp_ne (tgt := 36) hx hb dX5_count_28 (by decide) (fun c4 => ?_) (fun c4 => ?_)
  · have hf := (if_neg c4).symm.trans hf
    refine lv_aload_n hx hb dX5_count_36 rfl (lv_at hl 1 rfl) ?_
    refine va_get (D := D) (ci := 2) (v := .ref th1) (C := RX5) (T := TX5) (N := 3) hx hb hts hi_X5 hown hK hP 0 rfl rfl 0 (by decide) (hts (.fieldLink RX5 12 "FairWheel$Seating" "wheel" "LFairWheel$Wheel;") (List.mem_of_getElem? (i := 2) rfl)) (fun _ h9 => h9) rfl dX5_count_37 ?_
    refine lv_iload_n hx hb dX5_count_40 rfl (lv_at hl 0 rfl) ?_
    refine lv_iconst (v := 0) hx hb dX5_count_41 (by decide) ?_
    obtain ⟨z5, hz_z5, hf⟩ := o_bind hf
    refine k_callv (va_runV (As := [.int z3.1, .int (0 : Int32)]) (rest := []) ⟨hx, hb, hml, hown, hts⟩ (c_X9_seat l D cI cZ th1 th2 th3 th4 th5 H.size z2 z3.1 (0 : Int32) z5 hz_z5) (cwV 2 hts gX5_count_X9_seat rfl rfl rfl ⟨rfl, hd_X9_seat⟩ ⟨Nat.le_of_ble_eq_true rfl, Nat.le_of_ble_eq_true rfl⟩) (k_preV hK hP hD hS hA hE [1, 2, 3, 4, 5] (by decide) rfl (ci := 6) rfl rfl) rfl rfl hl.1 rfl (lv_room (Nat.le_of_ble_eq_true rfl)) dX5_count_42 ⟨Nat.zero_le _, Nat.zero_le _⟩) hP hD hS hA [1, 2, 3, 4, 5] [none, some 0, some 1, some 2, some 3, some 4, none, none, none, none, none, none] 5 rfl (by decide) (by decide) rfl rfl (fun H locs hP hD hS => ?_)
    have hP : va_P D vwCl (ceG cI cZ th0 th1 th2 th3 th4 th5 th6 (z5, (G_firstCars u_th), (0 : Int32)) ++ (ceW cI cZ o10 o11 o12 o13 o14 u_o1)) H := hP
    have hD : va_D A (ceG cI cZ th0 th1 th2 th3 th4 th5 th6 (z5, (G_firstCars u_th), (0 : Int32)) ++ (ceW cI cZ o10 o11 o12 o13 o14 u_o1)) := hD
    refine lv_bipush (v := 8) hx hb dX5_count_45 (by decide) ?_
    refine lv_aload_n hx hb dX5_count_47 rfl (lv_at hl 1 rfl) ?_
    refine lv_iload_n hx hb dX5_count_48 rfl (lv_at hl 3 rfl) ?_
    refine lv_iload_n hx hb dX5_count_49 rfl (lv_at hl 0 rfl) ?_
    refine lv_iconst (v := 1) hx hb dX5_count_50 (by decide) ?_
    refine lv_iadd hx hb dX5_count_51 ?_
    obtain ⟨z6, hz_z6, hf⟩ := o_bind hf
    refine k_calli (va_runS (As := [.ref th0, .int p2, .int (z3.1 + (1 : Int32))]) (rest := [.int (8 : Int32)]) ⟨hx, hb, hml, hown, hts⟩ (c_X5_search l D cI cZ th0 th1 th2 th3 th4 th5 th6 10 H.size (z5, (G_firstCars u_th), (0 : Int32)) p2 (z3.1 + (1 : Int32)) z6 hz_z6) (va_cwS 3 hts gX5_count_X5_search rfl rfl rfl hd_X5_search ⟨Nat.le_of_ble_eq_true rfl, Nat.le_of_ble_eq_true rfl⟩) (k_preS hK hP hD hS hA hE [0, 1, 2, 3, 4, 5, 6] (by decide) rfl) rfl rfl hl.1 rfl (lv_room (Nat.le_of_ble_eq_true rfl)) dX5_count_52 ⟨Nat.zero_le _, Nat.zero_le _⟩) hP hD hS hA [0, 1, 2, 3, 4, 5, 6] [some 0, some 1, some 2, some 3, some 4, some 5, some 6, none, none, none, none, none] 7 rfl (by decide) (by decide) rfl rfl (fun H locs hP hD hS => ?_)
    have hP : va_P D vwCl (ceG cI cZ th0 th1 th2 th3 th4 th5 th6 z6.2 ++ (ceW cI cZ o10 o11 o12 o13 o14 u_o1)) H := hP
    have hD : va_D A (ceG cI cZ th0 th1 th2 th3 th4 th5 th6 z6.2 ++ (ceW cI cZ o10 o11 o12 o13 o14 u_o1)) := hD
    refine lv_imul hx hb dX5_count_55 ?_
    exact k_iret (v := ((8 : Int32) * z6.1)) (u := z6.2) hx hb hr hlocks hK hS eQ hf hP hD dX5_count_56
  · have hf := (if_pos c4).symm.trans hf
    refine lv_aload_n hx hb dX5_count_31 rfl (lv_at hl 1 rfl) ?_
    obtain ⟨z7, hz_z7, hf⟩ := o_bind hf
    refine k_calli (va_runV (As := []) (rest := []) ⟨hx, hb, hml, hown, hts⟩ (c_X5_settle l D cI cZ th0 th1 th2 th3 th4 th5 th6 H.size (z2, (G_firstCars u_th), (0 : Int32)) z7 hz_z7) (cwV 0 hts gX5_count_X5_settle rfl rfl rfl ⟨rfl, hd_X5_settle⟩ ⟨Nat.le_of_ble_eq_true rfl, Nat.le_of_ble_eq_true rfl⟩) (k_preV hK hP hD hS hA hE [0, 1, 2, 3, 4, 5, 6] (by decide) rfl (ci := 2) rfl rfl) rfl rfl hl.1 rfl (lv_room (Nat.le_of_ble_eq_true rfl)) dX5_count_32 ⟨Nat.zero_le _, Nat.zero_le _⟩) hP hD hS hA [0, 1, 2, 3, 4, 5, 6] [some 0, some 1, some 2, some 3, some 4, some 5, some 6, none, none, none, none, none] 7 rfl (by decide) (by decide) rfl rfl (fun H locs hP hD hS => ?_)
    have hP : va_P D vwCl (ceG cI cZ th0 th1 th2 th3 th4 th5 th6 z7.2 ++ (ceW cI cZ o10 o11 o12 o13 o14 u_o1)) H := hP
    have hD : va_D A (ceG cI cZ th0 th1 th2 th3 th4 th5 th6 z7.2 ++ (ceW cI cZ o10 o11 o12 o13 o14 u_o1)) := hD
    exact k_iret (v := z7.1) (u := z7.2) hx hb hr hlocks hK hS eQ hf hP hD dX5_count_35
theorem hd_X0_waiting : yX0_waiting.cls ≠ "java/lang/invoke/MethodHandle" ∧ yX0_waiting.cls ≠ "java/lang/invoke/VarHandle" ∧ (parseMethodDescriptor yX0_waiting.desc).map (fun d => d.parameters.length) = some 1 := by decide +kernel
set_option maxHeartbeats 4000000 in
set_option maxRecDepth 100000 in
theorem c_X0_waiting (l : Launch) (D : va_G) (cI cZ : ClassId) (o00 : Nat) (o01 : Nat) (o02 : Nat) (o03 : Nat) (o04 : Nat) (sz : Nat) (u_o0 : sW) (z : Int32 × Unit) (hf : f_X0_waiting u_o0 = some z) : Met l yX0_waiting wsX0_waiting rmX0_waiting (va_Pc [.ref o00] (wPr D cI cZ (ceW cI cZ o00 o01 o02 o03 o04 u_o0) sz)) (va_Qi (fun (r : Int32) (v : Unit) => (r, v) = z) (fun (v : Unit) t => wPo D cI cZ (va_A (ceW cI cZ o00 o01 o02 o03 o04 u_o0) sz) (ceW cI cZ o00 o01 o02 o03 o04 u_o0) t) (va_A (ceW cI cZ o00 o01 o02 o03 o04 u_o0) sz)) 0 0 (va_A (ceW cI cZ o00 o01 o02 o03 o04 u_o0) sz) := by
  refine k_enter (D := D) (cI := cI) (cZ := cZ) (wl := ceW cI cZ o00 o01 o02 o03 o04 u_o0) (sz := sz) (av := [.ref o00]) (cc := cX0_waiting) (maxL := 3) (ret := (some .int)) (Qc := fun A => va_Qi (fun (r : Int32) (v : Unit) => (r, v) = z) (fun (v : Unit) t => wPo D cI cZ (A) (ceW cI cZ o00 o01 o02 o03 o04 u_o0) t) (A)) (by decide) rfl (Nat.le_of_ble_eq_true rfl) ?_
  intro p e s m below meth c ls A Q H locs eQ hx hb hr hml hts hown hlocks hK hP hD hS hA hE hl
  have hown : s.vm.findClass RX0 = some m.cls := hown
  have hl : lv_has ls 3 [(0, .ref o00)] := hl
  have hL4 : ∀ (n : Nat), ∀ (v1 : Int32) (v2 : Int32) (H : Heap) (locs : List Loc) (ls : Array Slot), lv_has ls 3 [(0, .ref o00), (1, .int v1), (2, .int v2)] → va_P D vwCl (ceW cI cZ o00 o01 o02 o03 o04 u_o0) H → va_D A (ceW cI cZ o00 o01 o02 o03 o04 u_o0) → va_S A s.heap H locs → f_X0_waiting_L4 u_o0 n v1 v2 = some z → W p l e (headSpec wsX0_waiting rmX0_waiting).room s m ([.ref o00] : List Value).toArray below meth c H locs 0 0 Q (F0 m 4 ls []) := by
    intro n
    induction n with
    | zero =>
      intro v1 v2 H locs ls hl hP hD hS hf
      exact absurd (show (none : Option (Int32 × Unit)) = some z from hf) (fun h => by cases h)
    | succ n ih =>
      intro v1 v2 H locs ls hl hP hD hS hf
      rw [f_X0_waiting_L4] at hf
      refine lv_iload_n hx hb dX0_waiting_4 rfl (lv_at hl 2 rfl) ?_
      refine lv_bipush (v := 8) hx hb dX0_waiting_5 (by decide) ?_
      refine lv_icmp_ge (tgt := 27) hx hb dX0_waiting_7 (by decide) (fun c1 => ?_) (fun c1 => ?_)
      · have hf := (if_pos c1).symm.trans hf
        refine lv_iload_n hx hb dX0_waiting_27 rfl (lv_at hl 1 rfl) ?_
        exact k_iret (v := v1) (u := ()) hx hb hr hlocks hK hS eQ hf hP hD dX0_waiting_28
      · have hf := (if_neg c1).symm.trans hf
        refine lv_aload_n hx hb dX0_waiting_10 rfl (lv_at hl 0 rfl) ?_
        refine lv_iload_n hx hb dX0_waiting_11 rfl (lv_at hl 2 rfl) ?_
        obtain ⟨z2, hz_z2, hf⟩ := o_bind hf
        refine k_calli (va_runV (As := [.int v2]) (rest := []) ⟨hx, hb, hml, hown, hts⟩ (c_X9_isAboard l D cI cZ o00 o01 o02 o03 o04 H.size u_o0 v2 z2 hz_z2) (cwV 1 hts gX0_waiting_X9_isAboard rfl rfl rfl ⟨rfl, hd_X9_isAboard⟩ ⟨Nat.le_of_ble_eq_true rfl, Nat.le_of_ble_eq_true rfl⟩) (k_preV hK hP hD hS hA hE [0, 1, 2, 3, 4] (by decide) rfl (ci := 6) rfl rfl) rfl rfl hl.1 rfl (lv_room (Nat.le_of_ble_eq_true rfl)) dX0_waiting_12 ⟨Nat.zero_le _, Nat.zero_le _⟩) hP hD hS hA [0, 1, 2, 3, 4] [some 0, some 1, some 2, some 3, some 4] 5 rfl (by decide) (by decide) rfl rfl (fun H locs hP hD hS => ?_)
        have hP : va_P D vwCl (ceW cI cZ o00 o01 o02 o03 o04 u_o0) H := hP
        have hD : va_D A (ceW cI cZ o00 o01 o02 o03 o04 u_o0) := hD
        refine lv_if_ne (tgt := 21) hx hb dX0_waiting_15 (by decide) (fun c3 => ?_) (fun c3 => ?_)
        · have hf := (if_neg c3).symm.trans hf
          refine lv_iinc (v := (v2 + (1 : Int32))) (lv' := [(2, .int (v2 + (1 : Int32))), (0, .ref o00), (1, .int v1)]) hx hb dX0_waiting_21 hl (k := 2) rfl rfl (by decide) rfl (fun ls hl => ?_)
          refine lv_goto (tgt := 4) hx hb dX0_waiting_24 (by decide) ?_
          exact ih v1 (v2 + (1 : Int32)) _ _ ls (lv_sub hl [1, 2, 0] rfl) hP hD hS hf
        · have hf := (if_pos c3).symm.trans hf
          refine lv_iinc (v := (v1 + (1 : Int32))) (lv' := [(1, .int (v1 + (1 : Int32))), (0, .ref o00), (2, .int v2)]) hx hb dX0_waiting_18 hl (k := 1) rfl rfl (by decide) rfl (fun ls hl => ?_)
          refine lv_iinc (v := (v2 + (1 : Int32))) (lv' := [(2, .int (v2 + (1 : Int32))), (1, .int (v1 + (1 : Int32))), (0, .ref o00)]) hx hb dX0_waiting_21 hl (k := 2) rfl rfl (by decide) rfl (fun ls hl => ?_)
          refine lv_goto (tgt := 4) hx hb dX0_waiting_24 (by decide) ?_
          exact ih (v1 + (1 : Int32)) (v2 + (1 : Int32)) _ _ ls (lv_sub hl [2, 1, 0] rfl) hP hD hS hf
  rw [f_X0_waiting] at hf
  refine lv_iconst (v := 0) hx hb dX0_waiting_0 (by decide) ?_
  refine lv_istore_n (lv' := [(1, .int (0 : Int32)), (0, .ref o00)]) hx hb dX0_waiting_1 rfl hl (by decide) rfl (fun ls hl => ?_)
  refine lv_iconst (v := 0) hx hb dX0_waiting_2 (by decide) ?_
  refine lv_istore_n (lv' := [(2, .int (0 : Int32)), (1, .int (0 : Int32)), (0, .ref o00)]) hx hb dX0_waiting_3 rfl hl (by decide) rfl (fun ls hl => ?_)
  exact hL4 oF (0 : Int32) (0 : Int32) _ _ ls (lv_sub hl [2, 1, 0] rfl) hP hD hS hf
theorem hd_X0_sum : yX0_sum.cls ≠ "java/lang/invoke/MethodHandle" ∧ yX0_sum.cls ≠ "java/lang/invoke/VarHandle" ∧ (parseMethodDescriptor yX0_sum.desc).map (fun d => d.parameters.length) = some 3 := by decide +kernel
theorem hd_X0_sumLetGo : yX0_sumLetGo.cls ≠ "java/lang/invoke/MethodHandle" ∧ yX0_sumLetGo.cls ≠ "java/lang/invoke/VarHandle" ∧ (parseMethodDescriptor yX0_sumLetGo.desc).map (fun d => d.parameters.length) = some 3 := by decide +kernel
set_option maxHeartbeats 4000000 in
set_option maxRecDepth 100000 in
theorem c_X0_sumLetGo (l : Launch) (D : va_G) (cI cZ : ClassId) (o00 : Nat) (o01 : Nat) (o02 : Nat) (o03 : Nat) (o04 : Nat) (d : Nat) (hR : ∀ (sz : Nat) (u_o0 : sW) (p1 : Int32) (p2 : Int32) (z : Int64 × sW) (_ : f_X0_sum d u_o0 p1 p2 = some z), Met l yX0_sum wsX0_sum (rmX0_sum d) (va_Pc [.ref o00, .int p1, .int p2] (wPr D cI cZ (ceW cI cZ o00 o01 o02 o03 o04 u_o0) sz)) (va_Ql (fun (r : Int64) (v : sW) => (r, v) = z) (fun (v : sW) t => wPo D cI cZ (va_A (ceW cI cZ o00 o01 o02 o03 o04 u_o0) sz) (ceW cI cZ o00 o01 o02 o03 o04 v) t) (va_A (ceW cI cZ o00 o01 o02 o03 o04 u_o0) sz)) 0 0 (va_A (ceW cI cZ o00 o01 o02 o03 o04 u_o0) sz)) (sz : Nat) (u_o0 : sW) (p1 : Int32) (p2 : Int32) (z : Int64 × sW) (hf : f_X0_sumLetGo (f_X0_sum d) u_o0 p1 p2 = some z) : Met l yX0_sumLetGo wsX0_sumLetGo (rmX0_sumLetGo d) (va_Pc [.ref o00, .int p1, .int p2] (wPr D cI cZ (ceW cI cZ o00 o01 o02 o03 o04 u_o0) sz)) (va_Ql (fun (r : Int64) (v : sW) => (r, v) = z) (fun (v : sW) t => wPo D cI cZ (va_A (ceW cI cZ o00 o01 o02 o03 o04 u_o0) sz) (ceW cI cZ o00 o01 o02 o03 o04 v) t) (va_A (ceW cI cZ o00 o01 o02 o03 o04 u_o0) sz)) 0 0 (va_A (ceW cI cZ o00 o01 o02 o03 o04 u_o0) sz) := by
  refine k_enter (D := D) (cI := cI) (cZ := cZ) (wl := ceW cI cZ o00 o01 o02 o03 o04 u_o0) (sz := sz) (av := [.ref o00, .int p1, .int p2]) (cc := cX0_sumLetGo) (maxL := 6) (ret := (some .long)) (Qc := fun A => va_Ql (fun (r : Int64) (v : sW) => (r, v) = z) (fun (v : sW) t => wPo D cI cZ (A) (ceW cI cZ o00 o01 o02 o03 o04 v) t) (A)) (by decide) rfl (Nat.le_of_ble_eq_true rfl) ?_
  intro p e s m below meth c ls A Q H locs eQ hx hb hr hml hts hown hlocks hK hP hD hS hA hE hl
  have hown : s.vm.findClass RX0 = some m.cls := hown
  have hl : lv_has ls 6 [(0, .ref o00), (1, .int p1), (2, .int p2)] := hl
  rw [f_X0_sumLetGo] at hf
  refine lv_aload_n hx hb dX0_sumLetGo_0 rfl (lv_at hl 0 rfl) ?_
  obtain ⟨z1, hz_z1, hf⟩ := o_bind hf
  refine k_calli (va_runV (As := []) (rest := []) ⟨hx, hb, hml, hown, hts⟩ (c_X9_letGo l D cI cZ o00 o01 o02 o03 o04 H.size u_o0 z1 hz_z1) (cwV 0 hts gX0_sumLetGo_X9_letGo rfl rfl rfl ⟨rfl, hd_X9_letGo⟩ ⟨(by show 2 + 1 ≤ 6 + 2 * d + 1; omega), (by show 8 + (5 + 11) + (55) ≤ 300 + 120 * d + 60; omega)⟩) (k_preV hK hP hD hS hA hE [0, 1, 2, 3, 4] (by decide) rfl (ci := 6) rfl rfl) rfl rfl hl.1 rfl (lv_room (Nat.le_of_ble_eq_true rfl)) dX0_sumLetGo_1 ⟨Nat.zero_le _, Nat.zero_le _⟩) hP hD hS hA [0, 1, 2, 3, 4] [some 0, some 1, some 2, some 3, some 4] 5 rfl (by decide) (by decide) rfl rfl (fun H locs hP hD hS => ?_)
  have hP : va_P D vwCl (ceW cI cZ o00 o01 o02 o03 o04 z1.2) H := hP
  have hD : va_D A (ceW cI cZ o00 o01 o02 o03 o04 z1.2) := hD
  refine lv_istore_n (lv' := [(3, .int z1.1), (0, .ref o00), (1, .int p1), (2, .int p2)]) hx hb dX0_sumLetGo_4 rfl hl (by decide) rfl (fun ls hl => ?_)
  refine lv_aload_n hx hb dX0_sumLetGo_5 rfl (lv_at hl 1 rfl) ?_
  refine lv_iload_n hx hb dX0_sumLetGo_6 rfl (lv_at hl 2 rfl) ?_
  refine lv_iload_n hx hb dX0_sumLetGo_7 rfl (lv_at hl 3 rfl) ?_
  refine lv_iconst (v := 1) hx hb dX0_sumLetGo_8 (by decide) ?_
  refine lv_isub hx hb dX0_sumLetGo_9 ?_
  obtain ⟨z2, hz_z2, hf⟩ := o_bind hf
  refine k_calll (va_runS (As := [.ref o00, .int p1, .int (p2 - (1 : Int32))]) (rest := []) ⟨hx, hb, hml, hown, hts⟩ (hR H.size z1.2 p1 (p2 - (1 : Int32)) z2 hz_z2) (va_cwS 3 hts gX0_sumLetGo_X0_sum rfl rfl rfl hd_X0_sum ⟨(by show 6 + 2 * d + 1 ≤ 6 + 2 * d + 1; omega), (by show 8 + (8 + 11) + (300 + 120 * d) ≤ 300 + 120 * d + 60; omega)⟩) (k_preS hK hP hD hS hA hE [0, 1, 2, 3, 4] (by decide) rfl) rfl rfl hl.1 rfl (lv_room (Nat.le_of_ble_eq_true rfl)) dX0_sumLetGo_10 ⟨Nat.zero_le _, Nat.zero_le _⟩) hP hD hS hA [0, 1, 2, 3, 4] [some 0, some 1, some 2, some 3, some 4] 5 rfl (by decide) (by decide) rfl rfl (fun H locs hP hD hS => ?_)
  have hP : va_P D vwCl (ceW cI cZ o00 o01 o02 o03 o04 z2.2) H := hP
  have hD : va_D A (ceW cI cZ o00 o01 o02 o03 o04 z2.2) := hD
  refine lv_lstore (lv' := [(4, .long z2.1), (3, .int z1.1), (0, .ref o00), (1, .int p1), (2, .int p2)]) hx hb dX0_sumLetGo_13 hl (by decide) rfl (fun ls hl => ?_)
  refine lv_aload_n hx hb dX0_sumLetGo_15 rfl (lv_at hl 2 rfl) ?_
  refine lv_iload_n hx hb dX0_sumLetGo_16 rfl (lv_at hl 1 rfl) ?_
  refine lv_ineg hx hb dX0_sumLetGo_17 ?_
  obtain ⟨z3, hz_z3, hf⟩ := o_bind hf
  refine k_callv (va_runV (As := [.int (-z1.1)]) (rest := []) ⟨hx, hb, hml, hown, hts⟩ (c_X9_turn l D cI cZ o00 o01 o02 o03 o04 H.size z2.2 (-z1.1) z3 hz_z3) (cwV 1 hts gX0_sumLetGo_X9_turn rfl rfl rfl ⟨rfl, hd_X9_turn⟩ ⟨(by show 1 + 1 ≤ 6 + 2 * d + 1; omega), (by show 8 + (2 + 11) + (26) ≤ 300 + 120 * d + 60; omega)⟩) (k_preV hK hP hD hS hA hE [0, 1, 2, 3, 4] (by decide) rfl (ci := 6) rfl rfl) rfl rfl hl.1 rfl (lv_room (Nat.le_of_ble_eq_true rfl)) dX0_sumLetGo_18 ⟨Nat.zero_le _, Nat.zero_le _⟩) hP hD hS hA [0, 1, 2, 3, 4] [some 0, some 1, some 2, some 3, some 4] 5 rfl (by decide) (by decide) rfl rfl (fun H locs hP hD hS => ?_)
  have hP : va_P D vwCl (ceW cI cZ o00 o01 o02 o03 o04 z3) H := hP
  have hD : va_D A (ceW cI cZ o00 o01 o02 o03 o04 z3) := hD
  refine lv_lload hx hb dX0_sumLetGo_21 (lv_at hl 0 rfl) ?_
  exact k_lret (v := z2.1) (u := z3) hx hb hr hlocks hK hS eQ hf hP hD dX0_sumLetGo_23
set_option maxHeartbeats 4000000 in
set_option maxRecDepth 100000 in
theorem c_X0_sum (l : Launch) (D : va_G) (cI cZ : ClassId) (o00 : Nat) (o01 : Nat) (o02 : Nat) (o03 : Nat) (o04 : Nat) : ∀ (d : Nat), ∀ (sz : Nat) (u_o0 : sW) (p1 : Int32) (p2 : Int32) (z : Int64 × sW) (_ : f_X0_sum d u_o0 p1 p2 = some z), Met l yX0_sum wsX0_sum (rmX0_sum d) (va_Pc [.ref o00, .int p1, .int p2] (wPr D cI cZ (ceW cI cZ o00 o01 o02 o03 o04 u_o0) sz)) (va_Ql (fun (r : Int64) (v : sW) => (r, v) = z) (fun (v : sW) t => wPo D cI cZ (va_A (ceW cI cZ o00 o01 o02 o03 o04 u_o0) sz) (ceW cI cZ o00 o01 o02 o03 o04 v) t) (va_A (ceW cI cZ o00 o01 o02 o03 o04 u_o0) sz)) 0 0 (va_A (ceW cI cZ o00 o01 o02 o03 o04 u_o0) sz) := by
  intro d
  induction d with
  | zero =>
    intro sz u_o0 p1 p2 z hf
    exact absurd (show (none : Option (Int64 × sW)) = some z from hf) (fun h => by cases h)
  | succ d ihd =>
    intro sz u_o0 p1 p2 z hf
    refine k_enter (D := D) (cI := cI) (cZ := cZ) (wl := ceW cI cZ o00 o01 o02 o03 o04 u_o0) (sz := sz) (av := [.ref o00, .int p1, .int p2]) (cc := cX0_sum) (maxL := 8) (ret := (some .long)) (Qc := fun A => va_Ql (fun (r : Int64) (v : sW) => (r, v) = z) (fun (v : sW) t => wPo D cI cZ (A) (ceW cI cZ o00 o01 o02 o03 o04 v) t) (A)) (by decide) rfl (Nat.le_of_ble_eq_true rfl) ?_
    intro p e s m below meth c ls A Q H locs eQ hx hb hr hml hts hown hlocks hK hP hD hS hA hE hl
    have hown : s.vm.findClass RX0 = some m.cls := hown
    have hl : lv_has ls 8 [(0, .ref o00), (1, .int p1), (2, .int p2)] := hl
    have hJ34 : ∀ (v1 : Int32) (v2 : Int32) (u_o0 : sW) (H : Heap) (locs : List Loc) (ls : Array Slot), lv_has ls 8 [(0, .ref o00), (1, .int v1), (2, .int v2)] → va_P D vwCl (ceW cI cZ o00 o01 o02 o03 o04 u_o0) H → va_D A (ceW cI cZ o00 o01 o02 o03 o04 u_o0) → va_S A s.heap H locs → f_X0_sum_J34 (f_X0_sum d) v1 v2 u_o0 = some z → W p l e (headSpec wsX0_sum (rmX0_sum (d + 1))).room s m ([.ref o00, .int p1, .int p2] : List Value).toArray below meth c H locs 0 0 Q (F0 m 34 ls []) := by
      intro  v1 v2 u_o0 H locs ls hl hP hD hS hf
      rw [f_X0_sum_J34] at hf
      refine lv_ldc2 hx hb hown (hts (.constantLong RX0 11 (840)) (List.mem_of_getElem? (i := 1) rfl)) dX0_sum_34 ?_
      refine lv_aload_n hx hb dX0_sum_37 rfl (lv_at hl 0 rfl) ?_
      refine lv_iload_n hx hb dX0_sum_38 rfl (lv_at hl 1 rfl) ?_
      refine lv_iload_n hx hb dX0_sum_39 rfl (lv_at hl 2 rfl) ?_
      obtain ⟨z5, hz_z5, hf⟩ := o_bind hf
      refine k_calll (va_runS (As := [.ref o00, .int v1, .int v2]) (rest := [.long (840 : Int64)]) ⟨hx, hb, hml, hown, hts⟩ (c_X0_sumLetGo l D cI cZ o00 o01 o02 o03 o04 d ihd H.size u_o0 v1 v2 z5 hz_z5) (va_cwS 3 hts gX0_sum_X0_sumLetGo rfl rfl rfl hd_X0_sumLetGo ⟨(by show 6 + 2 * d + 1 + 1 ≤ 6 + 2 * (d + 1); omega), (by show 8 + (6 + 11) + (300 + 120 * d + 60) ≤ 300 + 120 * (d + 1); omega)⟩) (k_preS hK hP hD hS hA hE [0, 1, 2, 3, 4] (by decide) rfl) rfl rfl hl.1 rfl (lv_room (Nat.le_of_ble_eq_true rfl)) dX0_sum_40 ⟨Nat.zero_le _, Nat.zero_le _⟩) hP hD hS hA [0, 1, 2, 3, 4] [some 0, some 1, some 2, some 3, some 4] 5 rfl (by decide) (by decide) rfl rfl (fun H locs hP hD hS => ?_)
      have hP : va_P D vwCl (ceW cI cZ o00 o01 o02 o03 o04 z5.2) H := hP
      have hD : va_D A (ceW cI cZ o00 o01 o02 o03 o04 z5.2) := hD
      refine lv_lmul hx hb dX0_sum_43 ?_
      exact k_lret (v := ((840 : Int64) * z5.1)) (u := z5.2) hx hb hr hlocks hK hS eQ hf hP hD dX0_sum_44
    have hL57 : ∀ (n : Nat), ∀ (v1 : Int32) (v2 : Int32) (v3 : Int32) (v4 : Int32) (v5 : Int64) (v7 : Int32) (u_o0 : sW) (H : Heap) (locs : List Loc) (ls : Array Slot), lv_has ls 8 [(0, .ref o00), (1, .int v1), (2, .int v2), (3, .int v3), (4, .int v4), (5, .long v5), (7, .int v7)] → va_P D vwCl (ceW cI cZ o00 o01 o02 o03 o04 u_o0) H → va_D A (ceW cI cZ o00 o01 o02 o03 o04 u_o0) → va_S A s.heap H locs → f_X0_sum_L57 (f_X0_sum d) n v1 v2 v3 v4 v5 v7 u_o0 = some z → W p l e (headSpec wsX0_sum (rmX0_sum (d + 1))).room s m ([.ref o00, .int p1, .int p2] : List Value).toArray below meth c H locs 0 0 Q (F0 m 57 ls []) := by
      intro n
      induction n with
      | zero =>
        intro v1 v2 v3 v4 v5 v7 u_o0 H locs ls hl hP hD hS hf
        exact absurd (show (none : Option (Int64 × sW)) = some z from hf) (fun h => by cases h)
      | succ n ih =>
        intro v1 v2 v3 v4 v5 v7 u_o0 H locs ls hl hP hD hS hf
        rw [f_X0_sum_L57] at hf
        refine lv_iload hx hb dX0_sum_57 (lv_at hl 6 rfl) ?_
        refine lv_bipush (v := 8) hx hb dX0_sum_59 (by decide) ?_
        refine lv_icmp_ge (tgt := 104) hx hb dX0_sum_61 (by decide) (fun c8 => ?_) (fun c8 => ?_)
        · have hf := (if_pos c8).symm.trans hf
          refine lv_sipush (v := 840) hx hb dX0_sum_104 (by decide) ?_
          refine lv_iload_n hx hb dX0_sum_107 rfl (lv_at hl 3 rfl) ?_
          by_cases c9 : v3 = 0
          · have hf := (if_pos c9).symm.trans hf
            cases hf
          have hf := (if_neg c9).symm.trans hf
          refine lv_idiv hx hb dX0_sum_108 c9 ?_
          refine lv_i2l hx hb dX0_sum_109 rfl ?_
          refine lv_lload hx hb dX0_sum_110 (lv_at hl 5 rfl) ?_
          refine lv_lmul hx hb dX0_sum_112 ?_
          exact k_lret (v := (((((840 : Int32) / v3)).toInt64) * v5)) (u := u_o0) hx hb hr hlocks hK hS eQ hf hP hD dX0_sum_113
        · have hf := (if_neg c8).symm.trans hf
          refine lv_aload_n hx hb dX0_sum_64 rfl (lv_at hl 0 rfl) ?_
          refine lv_iload hx hb dX0_sum_65 (lv_at hl 6 rfl) ?_
          obtain ⟨z10, hz_z10, hf⟩ := o_bind hf
          refine k_calli (va_runV (As := [.int v7]) (rest := []) ⟨hx, hb, hml, hown, hts⟩ (c_X9_isAboard l D cI cZ o00 o01 o02 o03 o04 H.size u_o0 v7 z10 hz_z10) (cwV 1 hts gX0_sum_X9_isAboard rfl rfl rfl ⟨rfl, hd_X9_isAboard⟩ ⟨(by show 1 + 1 ≤ 6 + 2 * (d + 1); omega), (by show 8 + (2 + 11) + (25) ≤ 300 + 120 * (d + 1); omega)⟩) (k_preV hK hP hD hS hA hE [0, 1, 2, 3, 4] (by decide) rfl (ci := 6) rfl rfl) rfl rfl hl.1 rfl (lv_room (Nat.le_of_ble_eq_true rfl)) dX0_sum_67 ⟨Nat.zero_le _, Nat.zero_le _⟩) hP hD hS hA [0, 1, 2, 3, 4] [some 0, some 1, some 2, some 3, some 4] 5 rfl (by decide) (by decide) rfl rfl (fun H locs hP hD hS => ?_)
          have hP : va_P D vwCl (ceW cI cZ o00 o01 o02 o03 o04 u_o0) H := hP
          have hD : va_D A (ceW cI cZ o00 o01 o02 o03 o04 u_o0) := hD
          refine lv_if_ne (tgt := 98) hx hb dX0_sum_70 (by decide) (fun c11 => ?_) (fun c11 => ?_)
          · have hf := (if_neg c11).symm.trans hf
            refine lv_iinc (v := (v7 + (1 : Int32))) (lv' := [(7, .int (v7 + (1 : Int32))), (0, .ref o00), (1, .int v1), (2, .int v2), (3, .int v3), (4, .int v4), (5, .long v5)]) hx hb dX0_sum_98 hl (k := 6) rfl rfl (by decide) rfl (fun ls hl => ?_)
            refine lv_goto (tgt := 57) hx hb dX0_sum_101 (by decide) ?_
            exact ih v1 v2 v3 v4 v5 (v7 + (1 : Int32)) u_o0 _ _ ls (lv_sub hl [1, 2, 3, 4, 5, 6, 0] rfl) hP hD hS hf
          · have hf := (if_pos c11).symm.trans hf
            refine lv_aload_n hx hb dX0_sum_73 rfl (lv_at hl 0 rfl) ?_
            refine lv_iload hx hb dX0_sum_74 (lv_at hl 6 rfl) ?_
            refine lv_iload hx hb dX0_sum_76 (lv_at hl 4 rfl) ?_
            obtain ⟨z12, hz_z12, hf⟩ := o_bind hf
            refine k_callv (va_runV (As := [.int v7, .int v4]) (rest := []) ⟨hx, hb, hml, hown, hts⟩ (c_X9_seat l D cI cZ o00 o01 o02 o03 o04 H.size u_o0 v7 v4 z12 hz_z12) (cwV 2 hts gX0_sum_X9_seat rfl rfl rfl ⟨rfl, hd_X9_seat⟩ ⟨(by show 1 + 1 ≤ 6 + 2 * (d + 1); omega), (by show 8 + (3 + 11) + (26) ≤ 300 + 120 * (d + 1); omega)⟩) (k_preV hK hP hD hS hA hE [0, 1, 2, 3, 4] (by decide) rfl (ci := 6) rfl rfl) rfl rfl hl.1 rfl (lv_room (Nat.le_of_ble_eq_true rfl)) dX0_sum_78 ⟨Nat.zero_le _, Nat.zero_le _⟩) hP hD hS hA [0, 1, 2, 3, 4] [some 0, some 1, some 2, some 3, some 4] 5 rfl (by decide) (by decide) rfl rfl (fun H locs hP hD hS => ?_)
            have hP : va_P D vwCl (ceW cI cZ o00 o01 o02 o03 o04 z12) H := hP
            have hD : va_D A (ceW cI cZ o00 o01 o02 o03 o04 z12) := hD
            refine lv_lload hx hb dX0_sum_81 (lv_at hl 5 rfl) ?_
            refine lv_aload_n hx hb dX0_sum_83 rfl (lv_at hl 0 rfl) ?_
            refine lv_iload_n hx hb dX0_sum_84 rfl (lv_at hl 1 rfl) ?_
            refine lv_iload_n hx hb dX0_sum_85 rfl (lv_at hl 2 rfl) ?_
            obtain ⟨z13, hz_z13, hf⟩ := o_bind hf
            refine k_calll (va_runS (As := [.ref o00, .int v1, .int v2]) (rest := [.long v5]) ⟨hx, hb, hml, hown, hts⟩ (c_X0_sumLetGo l D cI cZ o00 o01 o02 o03 o04 d ihd H.size z12 v1 v2 z13 hz_z13) (va_cwS 3 hts gX0_sum_X0_sumLetGo rfl rfl rfl hd_X0_sumLetGo ⟨(by show 6 + 2 * d + 1 + 1 ≤ 6 + 2 * (d + 1); omega), (by show 8 + (6 + 11) + (300 + 120 * d + 60) ≤ 300 + 120 * (d + 1); omega)⟩) (k_preS hK hP hD hS hA hE [0, 1, 2, 3, 4] (by decide) rfl) rfl rfl hl.1 rfl (lv_room (Nat.le_of_ble_eq_true rfl)) dX0_sum_86 ⟨Nat.zero_le _, Nat.zero_le _⟩) hP hD hS hA [0, 1, 2, 3, 4] [some 0, some 1, some 2, some 3, some 4] 5 rfl (by decide) (by decide) rfl rfl (fun H locs hP hD hS => ?_)
            have hP : va_P D vwCl (ceW cI cZ o00 o01 o02 o03 o04 z13.2) H := hP
            have hD : va_D A (ceW cI cZ o00 o01 o02 o03 o04 z13.2) := hD
            refine lv_ladd hx hb dX0_sum_89 ?_
            refine lv_lstore (lv' := [(5, .long (v5 + z13.1)), (0, .ref o00), (1, .int v1), (2, .int v2), (3, .int v3), (4, .int v4), (7, .int v7)]) hx hb dX0_sum_90 hl (by decide) rfl (fun ls hl => ?_)
            refine lv_aload_n hx hb dX0_sum_92 rfl (lv_at hl 1 rfl) ?_
            refine lv_iload hx hb dX0_sum_93 (lv_at hl 5 rfl) ?_
            obtain ⟨z14, hz_z14, hf⟩ := o_bind hf
            refine k_callv (va_runV (As := [.int v4]) (rest := []) ⟨hx, hb, hml, hown, hts⟩ (c_X9_unseat l D cI cZ o00 o01 o02 o03 o04 H.size z13.2 v4 z14 hz_z14) (cwV 1 hts gX0_sum_X9_unseat rfl rfl rfl ⟨rfl, hd_X9_unseat⟩ ⟨(by show 1 + 1 ≤ 6 + 2 * (d + 1); omega), (by show 8 + (2 + 11) + (26) ≤ 300 + 120 * (d + 1); omega)⟩) (k_preV hK hP hD hS hA hE [0, 1, 2, 3, 4] (by decide) rfl (ci := 6) rfl rfl) rfl rfl hl.1 rfl (lv_room (Nat.le_of_ble_eq_true rfl)) dX0_sum_95 ⟨Nat.zero_le _, Nat.zero_le _⟩) hP hD hS hA [0, 1, 2, 3, 4] [some 0, some 1, some 2, some 3, some 4] 5 rfl (by decide) (by decide) rfl rfl (fun H locs hP hD hS => ?_)
            have hP : va_P D vwCl (ceW cI cZ o00 o01 o02 o03 o04 z14) H := hP
            have hD : va_D A (ceW cI cZ o00 o01 o02 o03 o04 z14) := hD
            refine lv_iinc (v := (v7 + (1 : Int32))) (lv' := [(7, .int (v7 + (1 : Int32))), (5, .long (v5 + z13.1)), (0, .ref o00), (1, .int v1), (2, .int v2), (3, .int v3), (4, .int v4)]) hx hb dX0_sum_98 hl (k := 6) rfl rfl (by decide) rfl (fun ls hl => ?_)
            refine lv_goto (tgt := 57) hx hb dX0_sum_101 (by decide) ?_
            exact ih v1 v2 v3 v4 (v5 + z13.1) (v7 + (1 : Int32)) z14 _ _ ls (lv_sub hl [2, 3, 4, 5, 6, 1, 0] rfl) hP hD hS hf
    rw [f_X0_sum] at hf
    refine lv_iload_n hx hb dX0_sum_0 rfl (lv_at hl 2 rfl) ?_
    refine lv_if_gt (tgt := 18) hx hb dX0_sum_1 (by decide) (fun c1 => ?_) (fun c1 => ?_)
    · have hf := (if_pos c1).symm.trans hf
      refine lv_aload_n hx hb dX0_sum_18 rfl (lv_at hl 0 rfl) ?_
      obtain ⟨z2, hz_z2, hf⟩ := o_bind hf
      refine k_calli (va_runS (As := [.ref o00]) (rest := []) ⟨hx, hb, hml, hown, hts⟩ (c_X0_waiting l D cI cZ o00 o01 o02 o03 o04 H.size u_o0 z2 hz_z2) (va_cwS 1 hts gX0_sum_X0_waiting rfl rfl rfl hd_X0_waiting ⟨(by show 2 + 1 ≤ 6 + 2 * (d + 1); omega), (by show 8 + (3 + 11) + (50) ≤ 300 + 120 * (d + 1); omega)⟩) (k_preS hK hP hD hS hA hE [0, 1, 2, 3, 4] (by decide) rfl) rfl rfl hl.1 rfl (lv_room (Nat.le_of_ble_eq_true rfl)) dX0_sum_19 ⟨Nat.zero_le _, Nat.zero_le _⟩) hP hD hS hA [0, 1, 2, 3, 4] [some 0, some 1, some 2, some 3, some 4] 5 rfl (by decide) (by decide) rfl rfl (fun H locs hP hD hS => ?_)
      have hP : va_P D vwCl (ceW cI cZ o00 o01 o02 o03 o04 u_o0) H := hP
      have hD : va_D A (ceW cI cZ o00 o01 o02 o03 o04 u_o0) := hD
      refine lv_istore_n (lv' := [(3, .int z2.1), (0, .ref o00), (1, .int p1), (2, .int p2)]) hx hb dX0_sum_22 rfl hl (by decide) rfl (fun ls hl => ?_)
      refine lv_aload_n hx hb dX0_sum_23 rfl (lv_at hl 1 rfl) ?_
      obtain ⟨z3, hz_z3, hf⟩ := o_bind hf
      refine k_calli (va_runV (As := []) (rest := []) ⟨hx, hb, hml, hown, hts⟩ (c_X9_isTaken l D cI cZ o00 o01 o02 o03 o04 H.size u_o0 z3 hz_z3) (cwV 0 hts gX0_sum_X9_isTaken rfl rfl rfl ⟨rfl, hd_X9_isTaken⟩ ⟨(by show 1 + 1 ≤ 6 + 2 * (d + 1); omega), (by show 8 + (1 + 11) + (25) ≤ 300 + 120 * (d + 1); omega)⟩) (k_preV hK hP hD hS hA hE [0, 1, 2, 3, 4] (by decide) rfl (ci := 6) rfl rfl) rfl rfl hl.1 rfl (lv_room (Nat.le_of_ble_eq_true rfl)) dX0_sum_24 ⟨Nat.zero_le _, Nat.zero_le _⟩) hP hD hS hA [0, 1, 2, 3, 4] [some 0, some 1, some 2, some 3, some 4] 5 rfl (by decide) (by decide) rfl rfl (fun H locs hP hD hS => ?_)
      have hP : va_P D vwCl (ceW cI cZ o00 o01 o02 o03 o04 u_o0) H := hP
      have hD : va_D A (ceW cI cZ o00 o01 o02 o03 o04 u_o0) := hD
      refine lv_if_ne (tgt := 34) hx hb dX0_sum_27 (by decide) (fun c4 => ?_) (fun c4 => ?_)
      · have hf := (if_neg c4).symm.trans hf
        exact hJ34 p1 p2 u_o0 _ _ ls (lv_sub hl [1, 2, 3] rfl) hP hD hS hf
      · have hf := (if_pos c4).symm.trans hf
        refine lv_iload_n hx hb dX0_sum_30 rfl (lv_at hl 0 rfl) ?_
        refine lv_if_gt (tgt := 45) hx hb dX0_sum_31 (by decide) (fun c6 => ?_) (fun c6 => ?_)
        · have hf := (if_pos c6).symm.trans hf
          refine lv_aload_n hx hb dX0_sum_45 rfl (lv_at hl 1 rfl) ?_
          obtain ⟨z7, hz_z7, hf⟩ := o_bind hf
          refine k_calli (va_runV (As := []) (rest := []) ⟨hx, hb, hml, hown, hts⟩ (c_X9_lowest l D cI cZ o00 o01 o02 o03 o04 H.size u_o0 z7 hz_z7) (cwV 0 hts gX0_sum_X9_lowest rfl rfl rfl ⟨rfl, hd_X9_lowest⟩ ⟨(by show 0 + 1 ≤ 6 + 2 * (d + 1); omega), (by show 8 + (1 + 11) + (0) ≤ 300 + 120 * (d + 1); omega)⟩) (k_preV hK hP hD hS hA hE [0, 1, 2, 3, 4] (by decide) rfl (ci := 6) rfl rfl) rfl rfl hl.1 rfl (lv_room (Nat.le_of_ble_eq_true rfl)) dX0_sum_46 ⟨Nat.zero_le _, Nat.zero_le _⟩) hP hD hS hA [0, 1, 2, 3, 4] [some 0, some 1, some 2, some 3, some 4] 5 rfl (by decide) (by decide) rfl rfl (fun H locs hP hD hS => ?_)
          have hP : va_P D vwCl (ceW cI cZ o00 o01 o02 o03 o04 u_o0) H := hP
          have hD : va_D A (ceW cI cZ o00 o01 o02 o03 o04 u_o0) := hD
          refine lv_istore (lv' := [(4, .int z7.1), (3, .int z2.1), (0, .ref o00), (1, .int p1), (2, .int p2)]) hx hb dX0_sum_49 hl (by decide) rfl (fun ls hl => ?_)
          refine lv_lconst (v := 0) hx hb dX0_sum_51 (by decide) ?_
          refine lv_lstore (lv' := [(5, .long (0 : Int64)), (4, .int z7.1), (3, .int z2.1), (0, .ref o00), (1, .int p1), (2, .int p2)]) hx hb dX0_sum_52 hl (by decide) rfl (fun ls hl => ?_)
          refine lv_iconst (v := 0) hx hb dX0_sum_54 (by decide) ?_
          refine lv_istore (lv' := [(7, .int (0 : Int32)), (5, .long (0 : Int64)), (4, .int z7.1), (3, .int z2.1), (0, .ref o00), (1, .int p1), (2, .int p2)]) hx hb dX0_sum_55 hl (by decide) rfl (fun ls hl => ?_)
          exact hL57 oF p1 p2 z2.1 z7.1 (0 : Int64) (0 : Int32) u_o0 _ _ ls (lv_sub hl [4, 5, 6, 3, 2, 1, 0] rfl) hP hD hS hf
        · have hf := (if_neg c6).symm.trans hf
          exact hJ34 p1 p2 u_o0 _ _ ls (lv_sub hl [1, 2, 3] rfl) hP hD hS hf
    · have hf := (if_neg c1).symm.trans hf
      refine lv_aload_n hx hb dX0_sum_4 rfl (lv_at hl 0 rfl) ?_
      refine lv_iload_n hx hb dX0_sum_5 rfl (lv_at hl 1 rfl) ?_
      obtain ⟨z15, hz_z15, hf⟩ := o_bind hf
      refine k_calli (va_runV (As := [.int p1]) (rest := []) ⟨hx, hb, hml, hown, hts⟩ (c_X9_isLowest l D cI cZ o00 o01 o02 o03 o04 H.size u_o0 p1 z15 hz_z15) (cwV 1 hts gX0_sum_X9_isLowest rfl rfl rfl ⟨rfl, hd_X9_isLowest⟩ ⟨(by show 1 + 1 ≤ 6 + 2 * (d + 1); omega), (by show 8 + (2 + 11) + (25) ≤ 300 + 120 * (d + 1); omega)⟩) (k_preV hK hP hD hS hA hE [0, 1, 2, 3, 4] (by decide) rfl (ci := 6) rfl rfl) rfl rfl hl.1 rfl (lv_room (Nat.le_of_ble_eq_true rfl)) dX0_sum_6 ⟨Nat.zero_le _, Nat.zero_le _⟩) hP hD hS hA [0, 1, 2, 3, 4] [some 0, some 1, some 2, some 3, some 4] 5 rfl (by decide) (by decide) rfl rfl (fun H locs hP hD hS => ?_)
      have hP : va_P D vwCl (ceW cI cZ o00 o01 o02 o03 o04 u_o0) H := hP
      have hD : va_D A (ceW cI cZ o00 o01 o02 o03 o04 u_o0) := hD
      refine lv_if_eq (tgt := 16) hx hb dX0_sum_9 (by decide) (fun c16 => ?_) (fun c16 => ?_)
      · have hf := (if_pos c16).symm.trans hf
        refine lv_lconst (v := 0) hx hb dX0_sum_16 (by decide) ?_
        exact k_lret (v := (0 : Int64)) (u := u_o0) hx hb hr hlocks hK hS eQ hf hP hD dX0_sum_17
      · have hf := (if_neg c16).symm.trans hf
        refine lv_lconst (v := 1) hx hb dX0_sum_12 (by decide) ?_
        refine lv_goto (tgt := 17) hx hb dX0_sum_13 (by decide) ?_
        exact k_lret (v := (1 : Int64)) (u := u_o0) hx hb hr hlocks hK hS eQ hf hP hD dX0_sum_17
theorem hd_X0_allShares : yX0_allShares.cls ≠ "java/lang/invoke/MethodHandle" ∧ yX0_allShares.cls ≠ "java/lang/invoke/VarHandle" ∧ (parseMethodDescriptor yX0_allShares.desc).map (fun d => d.parameters.length) = some 1 := by decide +kernel
set_option maxHeartbeats 4000000 in
set_option maxRecDepth 100000 in
theorem c_X0_allShares (l : Launch) (D : va_G) (cI cZ : ClassId) (sz : Nat) (p0 : Int32) (z : Int64 × Unit) (hf : f_X0_allShares p0 = some z) : Met l yX0_allShares wsX0_allShares rmX0_allShares (va_Pc [.int p0] (wPr D cI cZ (([] : va_W)) sz)) (va_Ql (fun (r : Int64) (v : Unit) => (r, v) = z) (fun (v : Unit) t => wPo D cI cZ (va_A (([] : va_W)) sz) (([] : va_W)) t) (va_A (([] : va_W)) sz)) 0 0 (va_A (([] : va_W)) sz) := by
  refine k_enter (D := D) (cI := cI) (cZ := cZ) (wl := ([] : va_W)) (sz := sz) (av := [.int p0]) (cc := cX0_allShares) (maxL := 4) (ret := (some .long)) (Qc := fun A => va_Ql (fun (r : Int64) (v : Unit) => (r, v) = z) (fun (v : Unit) t => wPo D cI cZ (A) (([] : va_W)) t) (A)) (by decide) rfl (Nat.le_of_ble_eq_true rfl) ?_
  intro p e s m below meth c ls A Q H locs eQ hx hb hr hml hts hown hlocks hK hP hD hS hA hE hl
  have hown : s.vm.findClass RX0 = some m.cls := hown
  have hl : lv_has ls 4 [(0, .int p0)] := hl
  have hL4 : ∀ (n : Nat), ∀ (v0 : Int32) (v1 : Int64) (v3 : Int32) (H : Heap) (locs : List Loc) (ls : Array Slot), lv_has ls 4 [(0, .int v0), (1, .long v1), (3, .int v3)] → va_P D vwCl (([] : va_W)) H → va_D A (([] : va_W)) → va_S A s.heap H locs → f_X0_allShares_L4 n v0 v1 v3 = some z → W p l e (headSpec wsX0_allShares rmX0_allShares).room s m ([.int p0] : List Value).toArray below meth c H locs 0 0 Q (F0 m 4 ls []) := by
    intro n
    induction n with
    | zero =>
      intro v0 v1 v3 H locs ls hl hP hD hS hf
      exact absurd (show (none : Option (Int64 × Unit)) = some z from hf) (fun h => by cases h)
    | succ n ih =>
      intro v0 v1 v3 H locs ls hl hP hD hS hf
      rw [f_X0_allShares_L4] at hf
      refine lv_iload_n hx hb dX0_allShares_4 rfl (lv_at hl 2 rfl) ?_
      refine lv_iload_n hx hb dX0_allShares_5 rfl (lv_at hl 0 rfl) ?_
      refine lv_icmp_ge (tgt := 26) hx hb dX0_allShares_6 (by decide) (fun c1 => ?_) (fun c1 => ?_)
      · have hf := (if_pos c1).symm.trans hf
        refine lv_lload_n hx hb dX0_allShares_26 rfl (lv_at hl 1 rfl) ?_
        exact k_lret (v := v1) (u := ()) hx hb hr hlocks hK hS eQ hf hP hD dX0_allShares_27
      · have hf := (if_neg c1).symm.trans hf
        refine lv_iload_n hx hb dX0_allShares_9 rfl (lv_at hl 2 rfl) ?_
        refine lv_iconst (v := 3) hx hb dX0_allShares_10 (by decide) ?_
        refine lv_icmp_ge (tgt := 26) hx hb dX0_allShares_11 (by decide) (fun c2 => ?_) (fun c2 => ?_)
        · have hf := (if_pos c2).symm.trans hf
          refine lv_lload_n hx hb dX0_allShares_26 rfl (lv_at hl 1 rfl) ?_
          exact k_lret (v := v1) (u := ()) hx hb hr hlocks hK hS eQ hf hP hD dX0_allShares_27
        · have hf := (if_neg c2).symm.trans hf
          refine lv_lload_n hx hb dX0_allShares_14 rfl (lv_at hl 1 rfl) ?_
          refine lv_ldc2 hx hb hown (hts (.constantLong RX0 11 (840)) (List.mem_of_getElem? (i := 1) rfl)) dX0_allShares_15 ?_
          refine lv_lmul hx hb dX0_allShares_18 ?_
          refine lv_lstore_n (lv' := [(1, .long (v1 * (840 : Int64))), (0, .int v0), (3, .int v3)]) hx hb dX0_allShares_19 rfl hl (by decide) rfl (fun ls hl => ?_)
          refine lv_iinc (v := (v3 + (1 : Int32))) (lv' := [(3, .int (v3 + (1 : Int32))), (1, .long (v1 * (840 : Int64))), (0, .int v0)]) hx hb dX0_allShares_20 hl (k := 2) rfl rfl (by decide) rfl (fun ls hl => ?_)
          refine lv_goto (tgt := 4) hx hb dX0_allShares_23 (by decide) ?_
          exact ih v0 (v1 * (840 : Int64)) (v3 + (1 : Int32)) _ _ ls (lv_sub hl [2, 1, 0] rfl) hP hD hS hf
  rw [f_X0_allShares] at hf
  refine lv_lconst (v := 1) hx hb dX0_allShares_0 (by decide) ?_
  refine lv_lstore_n (lv' := [(1, .long (1 : Int64)), (0, .int p0)]) hx hb dX0_allShares_1 rfl hl (by decide) rfl (fun ls hl => ?_)
  refine lv_iconst (v := 0) hx hb dX0_allShares_2 (by decide) ?_
  refine lv_istore_n (lv' := [(3, .int (0 : Int32)), (1, .long (1 : Int64)), (0, .int p0)]) hx hb dX0_allShares_3 rfl hl (by decide) rfl (fun ls hl => ?_)
  exact hL4 oF p0 (1 : Int64) (0 : Int32) _ _ ls (lv_sub hl [2, 1, 0] rfl) hP hD hS hf
theorem hd_X0_shares : yX0_shares.cls ≠ "java/lang/invoke/MethodHandle" ∧ yX0_shares.cls ≠ "java/lang/invoke/VarHandle" ∧ (parseMethodDescriptor yX0_shares.desc).map (fun d => d.parameters.length) = some 3 := by decide +kernel
set_option maxHeartbeats 4000000 in
set_option maxRecDepth 100000 in
theorem c_X0_shares (l : Launch) (D : va_G) (cI cZ : ClassId) (o00 : Nat) (o01 : Nat) (o02 : Nat) (o03 : Nat) (o04 : Nat) (sz : Nat) (u_o0 : sW) (p1 : Int32) (p2 : Int32) (z : Int64 × sW) (hf : f_X0_shares u_o0 p1 p2 = some z) : Met l yX0_shares wsX0_shares rmX0_shares (va_Pc [.ref o00, .int p1, .int p2] (wPr D cI cZ (ceW cI cZ o00 o01 o02 o03 o04 u_o0) sz)) (va_Ql (fun (r : Int64) (v : sW) => (r, v) = z) (fun (v : sW) t => wPo D cI cZ (va_A (ceW cI cZ o00 o01 o02 o03 o04 u_o0) sz) (ceW cI cZ o00 o01 o02 o03 o04 v) t) (va_A (ceW cI cZ o00 o01 o02 o03 o04 u_o0) sz)) 0 0 (va_A (ceW cI cZ o00 o01 o02 o03 o04 u_o0) sz) := by
  refine k_enter (D := D) (cI := cI) (cZ := cZ) (wl := ceW cI cZ o00 o01 o02 o03 o04 u_o0) (sz := sz) (av := [.ref o00, .int p1, .int p2]) (cc := cX0_shares) (maxL := 3) (ret := (some .long)) (Qc := fun A => va_Ql (fun (r : Int64) (v : sW) => (r, v) = z) (fun (v : sW) t => wPo D cI cZ (A) (ceW cI cZ o00 o01 o02 o03 o04 v) t) (A)) (by decide) rfl (Nat.le_of_ble_eq_true rfl) ?_
  intro p e s m below meth c ls A Q H locs eQ hx hb hr hml hts hown hlocks hK hP hD hS hA hE hl
  have hown : s.vm.findClass RX0 = some m.cls := hown
  have hl : lv_has ls 3 [(0, .ref o00), (1, .int p1), (2, .int p2)] := hl
  rw [f_X0_shares] at hf
  refine lv_iload_n hx hb dX0_shares_0 rfl (lv_at hl 2 rfl) ?_
  refine lv_if_lt (tgt := 9) hx hb dX0_shares_1 (by decide) (fun c1 => ?_) (fun c1 => ?_)
  · have hf := (if_pos c1).symm.trans hf
    refine lv_lconst (v := 0) hx hb dX0_shares_9 (by decide) ?_
    refine lv_goto (tgt := 19) hx hb dX0_shares_10 (by decide) ?_
    exact k_lret (v := (0 : Int64)) (u := u_o0) hx hb hr hlocks hK hS eQ hf hP hD dX0_shares_19
  · have hf := (if_neg c1).symm.trans hf
    refine lv_iload_n hx hb dX0_shares_4 rfl (lv_at hl 2 rfl) ?_
    refine lv_iconst (v := 3) hx hb dX0_shares_5 (by decide) ?_
    refine lv_icmp_le (tgt := 13) hx hb dX0_shares_6 (by decide) (fun c2 => ?_) (fun c2 => ?_)
    · have hf := (if_pos c2).symm.trans hf
      refine lv_aload_n hx hb dX0_shares_13 rfl (lv_at hl 0 rfl) ?_
      refine lv_iload_n hx hb dX0_shares_14 rfl (lv_at hl 1 rfl) ?_
      refine lv_iload_n hx hb dX0_shares_15 rfl (lv_at hl 2 rfl) ?_
      obtain ⟨z3, hz_z3, hf⟩ := o_bind hf
      refine k_calll (va_runS (As := [.ref o00, .int p1, .int p2]) (rest := []) ⟨hx, hb, hml, hown, hts⟩ (c_X0_sum l D cI cZ o00 o01 o02 o03 o04 4 H.size u_o0 p1 p2 z3 hz_z3) (va_cwS 3 hts gX0_shares_X0_sum rfl rfl rfl hd_X0_sum ⟨Nat.le_of_ble_eq_true rfl, Nat.le_of_ble_eq_true rfl⟩) (k_preS hK hP hD hS hA hE [0, 1, 2, 3, 4] (by decide) rfl) rfl rfl hl.1 rfl (lv_room (Nat.le_of_ble_eq_true rfl)) dX0_shares_16 ⟨Nat.zero_le _, Nat.zero_le _⟩) hP hD hS hA [0, 1, 2, 3, 4] [some 0, some 1, some 2, some 3, some 4] 5 rfl (by decide) (by decide) rfl rfl (fun H locs hP hD hS => ?_)
      have hP : va_P D vwCl (ceW cI cZ o00 o01 o02 o03 o04 z3.2) H := hP
      have hD : va_D A (ceW cI cZ o00 o01 o02 o03 o04 z3.2) := hD
      exact k_lret (v := z3.1) (u := z3.2) hx hb hr hlocks hK hS eQ hf hP hD dX0_shares_19
    · have hf := (if_neg c2).symm.trans hf
      refine lv_lconst (v := 0) hx hb dX0_shares_9 (by decide) ?_
      refine lv_goto (tgt := 19) hx hb dX0_shares_10 (by decide) ?_
      exact k_lret (v := (0 : Int64)) (u := u_o0) hx hb hr hlocks hK hS eQ hf hP hD dX0_shares_19
theorem hd_X8_turned : yX8_turned.cls ≠ "java/lang/invoke/MethodHandle" ∧ yX8_turned.cls ≠ "java/lang/invoke/VarHandle" ∧ (parseMethodDescriptor yX8_turned.desc).map (fun d => d.parameters.length) = some 0 := by decide +kernel
set_option maxHeartbeats 4000000 in
set_option maxRecDepth 100000 in
theorem c_X8_turned (l : Launch) (D : va_G) (cI cZ : ClassId) (th0 : Nat) (th1 : Nat) (th2 : Nat) (th3 : Nat) (th4 : Nat) (th5 : Nat) (th6 : Nat) (sz : Nat) (u_th : sU) (z : Int32 × Unit) (hf : f_X8_turned u_th = some z) : Met l yX8_turned wsX8_turned rmX8_turned (va_Pc [.ref th0] (wPr D cI cZ (ceU cI cZ th0 th1 th2 th3 th4 th5 th6 u_th) sz)) (va_Qi (fun (r : Int32) (v : Unit) => (r, v) = z) (fun (v : Unit) t => wPo D cI cZ (va_A (ceU cI cZ th0 th1 th2 th3 th4 th5 th6 u_th) sz) (ceU cI cZ th0 th1 th2 th3 th4 th5 th6 u_th) t) (va_A (ceU cI cZ th0 th1 th2 th3 th4 th5 th6 u_th) sz)) 0 0 (va_A (ceU cI cZ th0 th1 th2 th3 th4 th5 th6 u_th) sz) := by
  refine k_enter (D := D) (cI := cI) (cZ := cZ) (wl := ceU cI cZ th0 th1 th2 th3 th4 th5 th6 u_th) (sz := sz) (av := [.ref th0]) (cc := cX8_turned) (maxL := 1) (ret := (some .int)) (Qc := fun A => va_Qi (fun (r : Int32) (v : Unit) => (r, v) = z) (fun (v : Unit) t => wPo D cI cZ (A) (ceU cI cZ th0 th1 th2 th3 th4 th5 th6 u_th) t) (A)) (by decide) rfl (Nat.le_of_ble_eq_true rfl) ?_
  intro p e s m below meth c ls A Q H locs eQ hx hb hr hml hts hown hlocks hK hP hD hS hA hE hl
  have hown : s.vm.findClass RX8 = some m.cls := hown
  have hl : lv_has ls 1 [(0, .ref th0)] := hl
  have hi_X8 : ∀ w ∈ wsX80, w ∈ wsX8_turned := fun w h => List.mem_cons_of_mem _ (List.mem_append_right _ h)
  rw [f_X8_turned] at hf
  refine lv_aload_n hx hb dX8_turned_0 rfl (lv_at hl 0 rfl) ?_
  refine va_get (D := D) (ci := 5) (v := .int (U_turned u_th)) (C := RX8) (T := TX8) (N := 3) hx hb hts hi_X8 hown hK hP 0 rfl rfl 2 (by decide) (hts (.fieldLink RX8 22 "FairWheel$Turns" "turned" "I") (List.mem_of_getElem? (i := 1) rfl)) (fun _ h9 => h9) rfl dX8_turned_1 ?_
  exact k_iret (v := (U_turned u_th)) (u := ()) hx hb hr hlocks hK hS eQ hf hP hD dX8_turned_4
theorem hd_X8_timesLowest : yX8_timesLowest.cls ≠ "java/lang/invoke/MethodHandle" ∧ yX8_timesLowest.cls ≠ "java/lang/invoke/VarHandle" ∧ (parseMethodDescriptor yX8_timesLowest.desc).map (fun d => d.parameters.length) = some 1 := by decide +kernel
set_option maxHeartbeats 4000000 in
set_option maxRecDepth 100000 in
theorem c_X8_timesLowest (l : Launch) (D : va_G) (cI cZ : ClassId) (th0 : Nat) (th1 : Nat) (th2 : Nat) (th3 : Nat) (th4 : Nat) (th5 : Nat) (th6 : Nat) (sz : Nat) (u_th : sU) (p1 : Int32) (z : Int32 × Unit) (hf : f_X8_timesLowest u_th p1 = some z) : Met l yX8_timesLowest wsX8_timesLowest rmX8_timesLowest (va_Pc [.ref th0, .int p1] (wPr D cI cZ (ceU cI cZ th0 th1 th2 th3 th4 th5 th6 u_th) sz)) (va_Qi (fun (r : Int32) (v : Unit) => (r, v) = z) (fun (v : Unit) t => wPo D cI cZ (va_A (ceU cI cZ th0 th1 th2 th3 th4 th5 th6 u_th) sz) (ceU cI cZ th0 th1 th2 th3 th4 th5 th6 u_th) t) (va_A (ceU cI cZ th0 th1 th2 th3 th4 th5 th6 u_th) sz)) 0 0 (va_A (ceU cI cZ th0 th1 th2 th3 th4 th5 th6 u_th) sz) := by
  refine k_enter (D := D) (cI := cI) (cZ := cZ) (wl := ceU cI cZ th0 th1 th2 th3 th4 th5 th6 u_th) (sz := sz) (av := [.ref th0, .int p1]) (cc := cX8_timesLowest) (maxL := 2) (ret := (some .int)) (Qc := fun A => va_Qi (fun (r : Int32) (v : Unit) => (r, v) = z) (fun (v : Unit) t => wPo D cI cZ (A) (ceU cI cZ th0 th1 th2 th3 th4 th5 th6 u_th) t) (A)) (by decide) rfl (Nat.le_of_ble_eq_true rfl) ?_
  intro p e s m below meth c ls A Q H locs eQ hx hb hr hml hts hown hlocks hK hP hD hS hA hE hl
  have hown : s.vm.findClass RX8 = some m.cls := hown
  have hl : lv_has ls 2 [(0, .ref th0), (1, .int p1)] := hl
  have hi_X8 : ∀ w ∈ wsX80, w ∈ wsX8_timesLowest := fun w h => List.mem_cons_of_mem _ (List.mem_append_right _ h)
  rw [f_X8_timesLowest] at hf
  refine lv_aload_n hx hb dX8_timesLowest_0 rfl (lv_at hl 0 rfl) ?_
  refine va_get (D := D) (ci := 5) (v := .ref th6) (C := RX8) (T := TX8) (N := 3) hx hb hts hi_X8 hown hK hP 0 rfl rfl 1 (by decide) (hts (.fieldLink RX8 18 "FairWheel$Turns" "timesLowest" "[I") (List.mem_of_getElem? (i := 1) rfl)) (fun _ h9 => h9) rfl dX8_timesLowest_1 ?_
  refine lv_iload_n hx hb dX8_timesLowest_4 rfl (lv_at hl 1 rfl) ?_
  obtain ⟨z1, hz_z1, hf⟩ := o_bind hf
  refine k_calli (va_runSN (As := [.ref th6, .int p1]) (rest := []) ⟨hx, hb, hml, hown, hts⟩ (c_X10_at l D cI cZ th6 H.size 8 (U_timesLowest u_th) p1 z1 hz_z1) ⟨va_cnB 2 hts gX8_timesLowest_X10_at_n26 rfl rfl rfl (hE.1.1 (RX8, 26, yX10_at) (List.mem_of_getElem? (i := 9) rfl)) (hts (.initialized RX10) (List.mem_of_getElem? (i := 3) rfl)) hd_X10_at ⟨Nat.le_of_ble_eq_true rfl, Nat.le_of_ble_eq_true rfl⟩, hts (.static yX10_at) (List.mem_of_getElem? (i := 2) rfl), trivial⟩ (k_preS hK hP hD hS hA hE [6] (by decide) rfl) rfl rfl hl.1 rfl (lv_room (Nat.le_of_ble_eq_true rfl)) dX8_timesLowest_5 ⟨Nat.zero_le _, Nat.zero_le _⟩) hP hD hS hA [6] [none, none, none, none, none, none, some 0] 1 rfl (by decide) (by decide) rfl rfl (fun H locs hP hD hS => ?_)
  have hP : va_P D vwCl (ceU cI cZ th0 th1 th2 th3 th4 th5 th6 u_th) H := hP
  have hD : va_D A (ceU cI cZ th0 th1 th2 th3 th4 th5 th6 u_th) := hD
  exact k_iret (v := z1.1) (u := ()) hx hb hr hlocks hK hS eQ hf hP hD dX8_timesLowest_8
theorem hd_X8_change : yX8_change.cls ≠ "java/lang/invoke/MethodHandle" ∧ yX8_change.cls ≠ "java/lang/invoke/VarHandle" ∧ (parseMethodDescriptor yX8_change.desc).map (fun d => d.parameters.length) = some 1 := by decide +kernel
set_option maxHeartbeats 4000000 in
set_option maxRecDepth 100000 in
theorem c_X8_change (l : Launch) (D : va_G) (cI cZ : ClassId) (th0 : Nat) (th1 : Nat) (th2 : Nat) (th3 : Nat) (th4 : Nat) (th5 : Nat) (th6 : Nat) (sz : Nat) (u_th : sU) (p1 : Int32) (z : sU) (hf : f_X8_change u_th p1 = some z) : Met l yX8_change wsX8_change rmX8_change (va_Pc [.ref th0, .int p1] (wPr D cI cZ (ceU cI cZ th0 th1 th2 th3 th4 th5 th6 u_th) sz)) (va_Qv (fun (v : sU) => v = z) (fun (v : sU) t => wPo D cI cZ (va_A (ceU cI cZ th0 th1 th2 th3 th4 th5 th6 u_th) sz) (ceU cI cZ th0 th1 th2 th3 th4 th5 th6 v) t) (va_A (ceU cI cZ th0 th1 th2 th3 th4 th5 th6 u_th) sz)) 0 0 (va_A (ceU cI cZ th0 th1 th2 th3 th4 th5 th6 u_th) sz) := by
  refine k_enter (D := D) (cI := cI) (cZ := cZ) (wl := ceU cI cZ th0 th1 th2 th3 th4 th5 th6 u_th) (sz := sz) (av := [.ref th0, .int p1]) (cc := cX8_change) (maxL := 4) (ret := none) (Qc := fun A => va_Qv (fun (v : sU) => v = z) (fun (v : sU) t => wPo D cI cZ (A) (ceU cI cZ th0 th1 th2 th3 th4 th5 th6 v) t) (A)) (by decide) rfl (Nat.le_of_ble_eq_true rfl) ?_
  intro p e s m below meth c ls A Q H locs eQ hx hb hr hml hts hown hlocks hK hP hD hS hA hE hl
  have hown : s.vm.findClass RX8 = some m.cls := hown
  have hl : lv_has ls 4 [(0, .ref th0), (1, .int p1)] := hl
  have hi_X8 : ∀ w ∈ wsX80, w ∈ wsX8_change := fun w h => List.mem_cons_of_mem _ (List.mem_append_left _ (List.mem_append_right _ h))
  have hJ23 : ∀ (v1 : Int32) (v2 : Int32) (u_th : sU) (H : Heap) (locs : List Loc) (ls : Array Slot), lv_has ls 4 [(0, .ref th0), (1, .int v1), (2, .int v2)] → va_P D vwCl (ceU cI cZ th0 th1 th2 th3 th4 th5 th6 u_th) H → va_D A (ceU cI cZ th0 th1 th2 th3 th4 th5 th6 u_th) → va_S A s.heap H locs → f_X8_change_J23 v1 v2 u_th = some z → W p l e (headSpec wsX8_change rmX8_change).room s m ([.ref th0, .int p1] : List Value).toArray below meth c H locs 0 0 Q (F0 m 23 ls []) := by
    intro  v1 v2 u_th H locs ls hl hP hD hS hf
    rw [f_X8_change_J23] at hf
    refine lv_iload_n hx hb dX8_change_23 rfl (lv_at hl 1 rfl) ?_
    refine lv_iconst (v := 2) hx hb dX8_change_24 (by decide) ?_
    refine lv_idiv hx hb dX8_change_25 (by decide) ?_
    refine lv_bipush (v := 8) hx hb dX8_change_26 (by decide) ?_
    refine lv_irem hx hb dX8_change_28 (by decide) ?_
    refine lv_istore_n (lv' := [(3, .int ((v1 / (2 : Int32)) - (v1 / (2 : Int32)) / (8 : Int32) * (8 : Int32))), (0, .ref th0), (1, .int v1), (2, .int v2)]) hx hb dX8_change_29 rfl hl (by decide) rfl (fun ls hl => ?_)
    refine lv_aload_n hx hb dX8_change_30 rfl (lv_at hl 1 rfl) ?_
    refine va_get (D := D) (ci := 5) (v := .ref th1) (C := RX8) (T := TX8) (N := 3) hx hb hts hi_X8 hown hK hP 0 rfl rfl 0 (by decide) (hts (.fieldLink RX8 12 "FairWheel$Turns" "wheel" "LFairWheel$Wheel;") (List.mem_of_getElem? (i := 1) rfl)) (fun _ h9 => h9) rfl dX8_change_31 ?_
    obtain ⟨z3, hz_z3, hf⟩ := o_bind hf
    refine k_calli (va_runV (As := []) (rest := []) ⟨hx, hb, hml, hown, hts⟩ (c_X9_isTaken l D cI cZ th1 th2 th3 th4 th5 H.size (U_wheel u_th) z3 hz_z3) (cwV 0 hts gX8_change_X9_isTaken rfl rfl rfl ⟨rfl, hd_X9_isTaken⟩ ⟨Nat.le_of_ble_eq_true rfl, Nat.le_of_ble_eq_true rfl⟩) (k_preV hK hP hD hS hA hE [1, 2, 3, 4, 5] (by decide) rfl (ci := 6) rfl rfl) rfl rfl hl.1 rfl (lv_room (Nat.le_of_ble_eq_true rfl)) dX8_change_34 ⟨Nat.zero_le _, Nat.zero_le _⟩) hP hD hS hA [1, 2, 3, 4, 5] [none, some 0, some 1, some 2, some 3, some 4, none] 5 rfl (by decide) (by decide) rfl rfl (fun H locs hP hD hS => ?_)
    have hP : va_P D vwCl (ceU cI cZ th0 th1 th2 th3 th4 th5 th6 u_th) H := hP
    have hD : va_D A (ceU cI cZ th0 th1 th2 th3 th4 th5 th6 u_th) := hD
    refine lv_if_ne (tgt := 60) hx hb dX8_change_37 (by decide) (fun c4 => ?_) (fun c4 => ?_)
    · have hf := (if_neg c4).symm.trans hf
      exact k_vret (u := u_th) hx hb hr hlocks hK hS eQ hf hP hD dX8_change_60
    · have hf := (if_pos c4).symm.trans hf
      refine lv_aload_n hx hb dX8_change_40 rfl (lv_at hl 1 rfl) ?_
      refine va_get (D := D) (ci := 5) (v := .ref th1) (C := RX8) (T := TX8) (N := 3) hx hb hts hi_X8 hown hK hP 0 rfl rfl 0 (by decide) (hts (.fieldLink RX8 12 "FairWheel$Turns" "wheel" "LFairWheel$Wheel;") (List.mem_of_getElem? (i := 1) rfl)) (fun _ h9 => h9) rfl dX8_change_41 ?_
      refine lv_iload_n hx hb dX8_change_44 rfl (lv_at hl 0 rfl) ?_
      obtain ⟨z5, hz_z5, hf⟩ := o_bind hf
      refine k_calli (va_runV (As := [.int ((v1 / (2 : Int32)) - (v1 / (2 : Int32)) / (8 : Int32) * (8 : Int32))]) (rest := []) ⟨hx, hb, hml, hown, hts⟩ (c_X9_isAboard l D cI cZ th1 th2 th3 th4 th5 H.size (U_wheel u_th) ((v1 / (2 : Int32)) - (v1 / (2 : Int32)) / (8 : Int32) * (8 : Int32)) z5 hz_z5) (cwV 1 hts gX8_change_X9_isAboard rfl rfl rfl ⟨rfl, hd_X9_isAboard⟩ ⟨Nat.le_of_ble_eq_true rfl, Nat.le_of_ble_eq_true rfl⟩) (k_preV hK hP hD hS hA hE [1, 2, 3, 4, 5] (by decide) rfl (ci := 6) rfl rfl) rfl rfl hl.1 rfl (lv_room (Nat.le_of_ble_eq_true rfl)) dX8_change_45 ⟨Nat.zero_le _, Nat.zero_le _⟩) hP hD hS hA [1, 2, 3, 4, 5] [none, some 0, some 1, some 2, some 3, some 4, none] 5 rfl (by decide) (by decide) rfl rfl (fun H locs hP hD hS => ?_)
      have hP : va_P D vwCl (ceU cI cZ th0 th1 th2 th3 th4 th5 th6 u_th) H := hP
      have hD : va_D A (ceU cI cZ th0 th1 th2 th3 th4 th5 th6 u_th) := hD
      refine lv_if_ne (tgt := 60) hx hb dX8_change_48 (by decide) (fun c6 => ?_) (fun c6 => ?_)
      · have hf := (if_neg c6).symm.trans hf
        exact k_vret (u := u_th) hx hb hr hlocks hK hS eQ hf hP hD dX8_change_60
      · have hf := (if_pos c6).symm.trans hf
        refine lv_aload_n hx hb dX8_change_51 rfl (lv_at hl 1 rfl) ?_
        refine va_get (D := D) (ci := 5) (v := .ref th1) (C := RX8) (T := TX8) (N := 3) hx hb hts hi_X8 hown hK hP 0 rfl rfl 0 (by decide) (hts (.fieldLink RX8 12 "FairWheel$Turns" "wheel" "LFairWheel$Wheel;") (List.mem_of_getElem? (i := 1) rfl)) (fun _ h9 => h9) rfl dX8_change_52 ?_
        refine lv_iload_n hx hb dX8_change_55 rfl (lv_at hl 0 rfl) ?_
        refine lv_iload_n hx hb dX8_change_56 rfl (lv_at hl 3 rfl) ?_
        obtain ⟨z7, hz_z7, hf⟩ := o_bind hf
        refine k_callv (va_runV (As := [.int ((v1 / (2 : Int32)) - (v1 / (2 : Int32)) / (8 : Int32) * (8 : Int32)), .int v2]) (rest := []) ⟨hx, hb, hml, hown, hts⟩ (c_X9_seat l D cI cZ th1 th2 th3 th4 th5 H.size (U_wheel u_th) ((v1 / (2 : Int32)) - (v1 / (2 : Int32)) / (8 : Int32) * (8 : Int32)) v2 z7 hz_z7) (cwV 2 hts gX8_change_X9_seat rfl rfl rfl ⟨rfl, hd_X9_seat⟩ ⟨Nat.le_of_ble_eq_true rfl, Nat.le_of_ble_eq_true rfl⟩) (k_preV hK hP hD hS hA hE [1, 2, 3, 4, 5] (by decide) rfl (ci := 6) rfl rfl) rfl rfl hl.1 rfl (lv_room (Nat.le_of_ble_eq_true rfl)) dX8_change_57 ⟨Nat.zero_le _, Nat.zero_le _⟩) hP hD hS hA [1, 2, 3, 4, 5] [none, some 0, some 1, some 2, some 3, some 4, none] 5 rfl (by decide) (by decide) rfl rfl (fun H locs hP hD hS => ?_)
        have hP : va_P D vwCl (ceU cI cZ th0 th1 th2 th3 th4 th5 th6 (z7, (U_timesLowest u_th), (U_turned u_th))) H := hP
        have hD : va_D A (ceU cI cZ th0 th1 th2 th3 th4 th5 th6 (z7, (U_timesLowest u_th), (U_turned u_th))) := hD
        exact k_vret (u := (z7, (U_timesLowest u_th), (U_turned u_th))) hx hb hr hlocks hK hS eQ hf hP hD dX8_change_60
  rw [f_X8_change] at hf
  refine lv_aload_n hx hb dX8_change_0 rfl (lv_at hl 0 rfl) ?_
  refine va_get (D := D) (ci := 5) (v := .ref th1) (C := RX8) (T := TX8) (N := 3) hx hb hts hi_X8 hown hK hP 0 rfl rfl 0 (by decide) (hts (.fieldLink RX8 12 "FairWheel$Turns" "wheel" "LFairWheel$Wheel;") (List.mem_of_getElem? (i := 1) rfl)) (fun _ h9 => h9) rfl dX8_change_1 ?_
  obtain ⟨z1, hz_z1, hf⟩ := o_bind hf
  refine k_calli (va_runV (As := []) (rest := []) ⟨hx, hb, hml, hown, hts⟩ (c_X9_lowest l D cI cZ th1 th2 th3 th4 th5 H.size (U_wheel u_th) z1 hz_z1) (cwV 0 hts gX8_change_X9_lowest rfl rfl rfl ⟨rfl, hd_X9_lowest⟩ ⟨Nat.le_of_ble_eq_true rfl, Nat.le_of_ble_eq_true rfl⟩) (k_preV hK hP hD hS hA hE [1, 2, 3, 4, 5] (by decide) rfl (ci := 6) rfl rfl) rfl rfl hl.1 rfl (lv_room (Nat.le_of_ble_eq_true rfl)) dX8_change_4 ⟨Nat.zero_le _, Nat.zero_le _⟩) hP hD hS hA [1, 2, 3, 4, 5] [none, some 0, some 1, some 2, some 3, some 4, none] 5 rfl (by decide) (by decide) rfl rfl (fun H locs hP hD hS => ?_)
  have hP : va_P D vwCl (ceU cI cZ th0 th1 th2 th3 th4 th5 th6 u_th) H := hP
  have hD : va_D A (ceU cI cZ th0 th1 th2 th3 th4 th5 th6 u_th) := hD
  refine lv_istore_n (lv' := [(2, .int z1.1), (0, .ref th0), (1, .int p1)]) hx hb dX8_change_7 rfl hl (by decide) rfl (fun ls hl => ?_)
  refine lv_iload_n hx hb dX8_change_8 rfl (lv_at hl 2 rfl) ?_
  refine lv_iconst (v := 2) hx hb dX8_change_9 (by decide) ?_
  refine lv_irem hx hb dX8_change_10 (by decide) ?_
  refine lv_iconst (v := 1) hx hb dX8_change_11 (by decide) ?_
  refine lv_icmp_ne (tgt := 23) hx hb dX8_change_12 (by decide) (fun c2 => ?_) (fun c2 => ?_)
  · have hf := (if_neg c2).symm.trans hf
    exact hJ23 p1 z1.1 u_th _ _ ls (lv_sub hl [1, 2, 0] rfl) hP hD hS hf
  · have hf := (if_pos c2).symm.trans hf
    refine lv_aload_n hx hb dX8_change_15 rfl (lv_at hl 1 rfl) ?_
    refine va_get (D := D) (ci := 5) (v := .ref th1) (C := RX8) (T := TX8) (N := 3) hx hb hts hi_X8 hown hK hP 0 rfl rfl 0 (by decide) (hts (.fieldLink RX8 12 "FairWheel$Turns" "wheel" "LFairWheel$Wheel;") (List.mem_of_getElem? (i := 1) rfl)) (fun _ h9 => h9) rfl dX8_change_16 ?_
    refine lv_iload_n hx hb dX8_change_19 rfl (lv_at hl 0 rfl) ?_
    obtain ⟨z8, hz_z8, hf⟩ := o_bind hf
    refine k_callv (va_runV (As := [.int z1.1]) (rest := []) ⟨hx, hb, hml, hown, hts⟩ (c_X9_unseat l D cI cZ th1 th2 th3 th4 th5 H.size (U_wheel u_th) z1.1 z8 hz_z8) (cwV 1 hts gX8_change_X9_unseat rfl rfl rfl ⟨rfl, hd_X9_unseat⟩ ⟨Nat.le_of_ble_eq_true rfl, Nat.le_of_ble_eq_true rfl⟩) (k_preV hK hP hD hS hA hE [1, 2, 3, 4, 5] (by decide) rfl (ci := 6) rfl rfl) rfl rfl hl.1 rfl (lv_room (Nat.le_of_ble_eq_true rfl)) dX8_change_20 ⟨Nat.zero_le _, Nat.zero_le _⟩) hP hD hS hA [1, 2, 3, 4, 5] [none, some 0, some 1, some 2, some 3, some 4, none] 5 rfl (by decide) (by decide) rfl rfl (fun H locs hP hD hS => ?_)
    have hP : va_P D vwCl (ceU cI cZ th0 th1 th2 th3 th4 th5 th6 (z8, (U_timesLowest u_th), (U_turned u_th))) H := hP
    have hD : va_D A (ceU cI cZ th0 th1 th2 th3 th4 th5 th6 (z8, (U_timesLowest u_th), (U_turned u_th))) := hD
    exact hJ23 p1 z1.1 (z8, (U_timesLowest u_th), (U_turned u_th)) _ _ ls (lv_sub hl [1, 2, 0] rfl) hP hD hS hf
theorem hd_X8_take : yX8_take.cls ≠ "java/lang/invoke/MethodHandle" ∧ yX8_take.cls ≠ "java/lang/invoke/VarHandle" ∧ (parseMethodDescriptor yX8_take.desc).map (fun d => d.parameters.length) = some 3 := by decide +kernel
set_option maxHeartbeats 4000000 in
set_option maxRecDepth 100000 in
theorem c_X8_take (l : Launch) (D : va_G) (cI cZ : ClassId) (th0 : Nat) (th1 : Nat) (th2 : Nat) (th3 : Nat) (th4 : Nat) (th5 : Nat) (th6 : Nat) (o10 : Nat) (o11 : Nat) (o12 : Nat) (o13 : Nat) (o14 : Nat) (sz : Nat) (u_th : sU) (u_o1 : sW) (p2 : Int32) (p3 : Int32) (z : sU) (hf : f_X8_take u_th u_o1 p2 p3 = some z) : Met l yX8_take wsX8_take rmX8_take (va_Pc [.ref th0, .ref o10, .int p2, .int p3] (wPr D cI cZ (ceU cI cZ th0 th1 th2 th3 th4 th5 th6 u_th ++ (ceW cI cZ o10 o11 o12 o13 o14 u_o1)) sz)) (va_Qv (fun (v : sU) => v = z) (fun (v : sU) t => wPo D cI cZ (va_A (ceU cI cZ th0 th1 th2 th3 th4 th5 th6 u_th ++ (ceW cI cZ o10 o11 o12 o13 o14 u_o1)) sz) (ceU cI cZ th0 th1 th2 th3 th4 th5 th6 v ++ (ceW cI cZ o10 o11 o12 o13 o14 u_o1)) t) (va_A (ceU cI cZ th0 th1 th2 th3 th4 th5 th6 u_th ++ (ceW cI cZ o10 o11 o12 o13 o14 u_o1)) sz)) 0 0 (va_A (ceU cI cZ th0 th1 th2 th3 th4 th5 th6 u_th ++ (ceW cI cZ o10 o11 o12 o13 o14 u_o1)) sz) := by
  refine k_enter (D := D) (cI := cI) (cZ := cZ) (wl := ceU cI cZ th0 th1 th2 th3 th4 th5 th6 u_th ++ (ceW cI cZ o10 o11 o12 o13 o14 u_o1)) (sz := sz) (av := [.ref th0, .ref o10, .int p2, .int p3]) (cc := cX8_take) (maxL := 6) (ret := none) (Qc := fun A => va_Qv (fun (v : sU) => v = z) (fun (v : sU) t => wPo D cI cZ (A) (ceU cI cZ th0 th1 th2 th3 th4 th5 th6 v ++ (ceW cI cZ o10 o11 o12 o13 o14 u_o1)) t) (A)) (by decide) rfl (Nat.le_of_ble_eq_true rfl) ?_
  intro p e s m below meth c ls A Q H locs eQ hx hb hr hml hts hown hlocks hK hP hD hS hA hE hl
  have hown : s.vm.findClass RX8 = some m.cls := hown
  have hl : lv_has ls 6 [(0, .ref th0), (1, .ref o10), (2, .int p2), (3, .int p3)] := hl
  have hi_X8 : ∀ w ∈ wsX80, w ∈ wsX8_take := fun w h => List.mem_cons_of_mem _ (List.mem_append_left _ (List.mem_append_right _ h))
  have hJ79 : ∀ (K_27 : Int32 → Int32 → Int32 → sU → Option (sU)), (∀ (v3 : Int32) (v4 : Int32) (v5 : Int32) (u_th : sU) (H : Heap) (locs : List Loc) (ls : Array Slot), lv_has ls 6 [(0, .ref th0), (3, .int v3), (4, .int v4), (5, .int v5)] → va_P D vwCl (ceU cI cZ th0 th1 th2 th3 th4 th5 th6 u_th ++ (ceW cI cZ o10 o11 o12 o13 o14 u_o1)) H → va_D A (ceU cI cZ th0 th1 th2 th3 th4 th5 th6 u_th ++ (ceW cI cZ o10 o11 o12 o13 o14 u_o1)) → va_S A s.heap H locs → K_27 v3 v4 v5 u_th = some z → W p l e (headSpec wsX8_take rmX8_take).room s m ([.ref th0, .ref o10, .int p2, .int p3] : List Value).toArray below meth c H locs 0 0 Q (F0 m 27 ls [])) → ∀ (v3 : Int32) (v4 : Int32) (v5 : Int32) (u_th : sU) (H : Heap) (locs : List Loc) (ls : Array Slot), lv_has ls 6 [(0, .ref th0), (3, .int v3), (4, .int v4), (5, .int v5)] → va_P D vwCl (ceU cI cZ th0 th1 th2 th3 th4 th5 th6 u_th ++ (ceW cI cZ o10 o11 o12 o13 o14 u_o1)) H → va_D A (ceU cI cZ th0 th1 th2 th3 th4 th5 th6 u_th ++ (ceW cI cZ o10 o11 o12 o13 o14 u_o1)) → va_S A s.heap H locs → f_X8_take_J79 u_o1 K_27 v3 v4 v5 u_th = some z → W p l e (headSpec wsX8_take rmX8_take).room s m ([.ref th0, .ref o10, .int p2, .int p3] : List Value).toArray below meth c H locs 0 0 Q (F0 m 79 ls []) := by
    intro K_27 hK_27 v3 v4 v5 u_th H locs ls hl hP hD hS hf
    rw [f_X8_take_J79] at hf
    refine lv_aload_n hx hb dX8_take_79 rfl (lv_at hl 0 rfl) ?_
    refine lv_dup hx hb dX8_take_80 rfl ?_
    refine va_get (D := D) (ci := 5) (v := .int (U_turned u_th)) (C := RX8) (T := TX8) (N := 3) hx hb hts hi_X8 hown hK hP 0 rfl rfl 2 (by decide) (hts (.fieldLink RX8 22 "FairWheel$Turns" "turned" "I") (List.mem_of_getElem? (i := 2) rfl)) (fun _ h9 => h9) rfl dX8_take_81 ?_
    refine lv_aload_n hx hb dX8_take_84 rfl (lv_at hl 0 rfl) ?_
    refine va_get (D := D) (ci := 5) (v := .ref th1) (C := RX8) (T := TX8) (N := 3) hx hb hts hi_X8 hown hK hP 0 rfl rfl 0 (by decide) (hts (.fieldLink RX8 12 "FairWheel$Turns" "wheel" "LFairWheel$Wheel;") (List.mem_of_getElem? (i := 1) rfl)) (fun _ h9 => h9) rfl dX8_take_85 ?_
    obtain ⟨z8, hz_z8, hf⟩ := o_bind hf
    refine k_calli (va_runV (As := []) (rest := [.int (U_turned u_th), .ref th0]) ⟨hx, hb, hml, hown, hts⟩ (c_X9_letGo l D cI cZ th1 th2 th3 th4 th5 H.size (U_wheel u_th) z8 hz_z8) (cwV 0 hts gX8_take_X9_letGo rfl rfl rfl ⟨rfl, hd_X9_letGo⟩ ⟨Nat.le_of_ble_eq_true rfl, Nat.le_of_ble_eq_true rfl⟩) (k_preV hK hP hD hS hA hE [1, 2, 3, 4, 5] (by decide) rfl (ci := 6) rfl rfl) rfl rfl hl.1 rfl (lv_room (Nat.le_of_ble_eq_true rfl)) dX8_take_88 ⟨Nat.zero_le _, Nat.zero_le _⟩) hP hD hS hA [1, 2, 3, 4, 5] [none, some 0, some 1, some 2, some 3, some 4, none, none, none, none, none, none] 5 rfl (by decide) (by decide) rfl rfl (fun H locs hP hD hS => ?_)
    have hP : va_P D vwCl (ceU cI cZ th0 th1 th2 th3 th4 th5 th6 (z8.2, (U_timesLowest u_th), (U_turned u_th)) ++ (ceW cI cZ o10 o11 o12 o13 o14 u_o1)) H := hP
    have hD : va_D A (ceU cI cZ th0 th1 th2 th3 th4 th5 th6 (z8.2, (U_timesLowest u_th), (U_turned u_th)) ++ (ceW cI cZ o10 o11 o12 o13 o14 u_o1)) := hD
    refine va_mabs hx hb (hml.trans hl.1.symm) hown (hts (.methodLink RX8 58 Lib.Math.abs.name) (List.mem_of_getElem? (i := 5) rfl)) (hts (.static Lib.Math.abs.name) (List.mem_of_getElem? (i := 6) rfl)) (hts (.initialized "java/lang/Math") (List.mem_of_getElem? (i := 7) rfl)) (hts (.code Lib.Math.abs.name Lib.Math.abs.code 1 (some .int)) (List.mem_of_getElem? (i := 8) rfl)) (Nat.le_of_ble_eq_true rfl) (Nat.le_of_ble_eq_true rfl) (Nat.zero_le _) (Nat.zero_le _) dX8_take_91 ?_
    refine lv_iadd hx hb dX8_take_94 ?_
    refine va_put (D := D) (ci := 5) (v := .int ((U_turned u_th) + (if 0 ≤ z8.1 then z8.1 else 0 - z8.1))) (ty := .int) (C := RX8) (T := TX8) (N := 3) hx hb hts hi_X8 tyX8 tyX8_ok nmX8 hown hK hP hD hS 0 rfl rfl 2 (by decide) (hts (.fieldLink RX8 22 "FairWheel$Turns" "turned" "I") (List.mem_of_getElem? (i := 2) rfl)) (fun _ h9 => h9) rfl (by decide +kernel) rfl rfl (Nat.le_of_ble_eq_true rfl) dX8_take_95 (fun H locs hP hD hS => ?_)
    have hP : va_P D vwCl (ceU cI cZ th0 th1 th2 th3 th4 th5 th6 (z8.2, (U_timesLowest u_th), ((U_turned u_th) + (if 0 ≤ z8.1 then z8.1 else 0 - z8.1))) ++ (ceW cI cZ o10 o11 o12 o13 o14 u_o1)) H := hP
    have hD : va_D A (ceU cI cZ th0 th1 th2 th3 th4 th5 th6 (z8.2, (U_timesLowest u_th), ((U_turned u_th) + (if 0 ≤ z8.1 then z8.1 else 0 - z8.1))) ++ (ceW cI cZ o10 o11 o12 o13 o14 u_o1)) := hD
    refine lv_aload_n hx hb dX8_take_98 rfl (lv_at hl 0 rfl) ?_
    refine va_get (D := D) (ci := 5) (v := .ref th6) (C := RX8) (T := TX8) (N := 3) hx hb hts hi_X8 hown hK hP 0 rfl rfl 1 (by decide) (hts (.fieldLink RX8 18 "FairWheel$Turns" "timesLowest" "[I") (List.mem_of_getElem? (i := 3) rfl)) (fun _ h9 => h9) rfl dX8_take_99 ?_
    refine lv_aload_n hx hb dX8_take_102 rfl (lv_at hl 0 rfl) ?_
    refine va_get (D := D) (ci := 5) (v := .ref th1) (C := RX8) (T := TX8) (N := 3) hx hb hts hi_X8 hown hK hP 0 rfl rfl 0 (by decide) (hts (.fieldLink RX8 12 "FairWheel$Turns" "wheel" "LFairWheel$Wheel;") (List.mem_of_getElem? (i := 1) rfl)) (fun _ h9 => h9) rfl dX8_take_103 ?_
    obtain ⟨z9, hz_z9, hf⟩ := o_bind hf
    refine k_calli (va_runV (As := []) (rest := [.ref th6]) ⟨hx, hb, hml, hown, hts⟩ (c_X9_lowest l D cI cZ th1 th2 th3 th4 th5 H.size z8.2 z9 hz_z9) (cwV 0 hts gX8_take_X9_lowest rfl rfl rfl ⟨rfl, hd_X9_lowest⟩ ⟨Nat.le_of_ble_eq_true rfl, Nat.le_of_ble_eq_true rfl⟩) (k_preV hK hP hD hS hA hE [1, 2, 3, 4, 5] (by decide) rfl (ci := 6) rfl rfl) rfl rfl hl.1 rfl (lv_room (Nat.le_of_ble_eq_true rfl)) dX8_take_106 ⟨Nat.zero_le _, Nat.zero_le _⟩) hP hD hS hA [1, 2, 3, 4, 5] [none, some 0, some 1, some 2, some 3, some 4, none, none, none, none, none, none] 5 rfl (by decide) (by decide) rfl rfl (fun H locs hP hD hS => ?_)
    have hP : va_P D vwCl (ceU cI cZ th0 th1 th2 th3 th4 th5 th6 (z8.2, (U_timesLowest u_th), ((U_turned u_th) + (if 0 ≤ z8.1 then z8.1 else 0 - z8.1))) ++ (ceW cI cZ o10 o11 o12 o13 o14 u_o1)) H := hP
    have hD : va_D A (ceU cI cZ th0 th1 th2 th3 th4 th5 th6 (z8.2, (U_timesLowest u_th), ((U_turned u_th) + (if 0 ≤ z8.1 then z8.1 else 0 - z8.1))) ++ (ceW cI cZ o10 o11 o12 o13 o14 u_o1)) := hD
    refine lv_aload_n hx hb dX8_take_109 rfl (lv_at hl 0 rfl) ?_
    refine va_get (D := D) (ci := 5) (v := .ref th6) (C := RX8) (T := TX8) (N := 3) hx hb hts hi_X8 hown hK hP 0 rfl rfl 1 (by decide) (hts (.fieldLink RX8 18 "FairWheel$Turns" "timesLowest" "[I") (List.mem_of_getElem? (i := 3) rfl)) (fun _ h9 => h9) rfl dX8_take_110 ?_
    refine lv_aload_n hx hb dX8_take_113 rfl (lv_at hl 0 rfl) ?_
    refine va_get (D := D) (ci := 5) (v := .ref th1) (C := RX8) (T := TX8) (N := 3) hx hb hts hi_X8 hown hK hP 0 rfl rfl 0 (by decide) (hts (.fieldLink RX8 12 "FairWheel$Turns" "wheel" "LFairWheel$Wheel;") (List.mem_of_getElem? (i := 1) rfl)) (fun _ h9 => h9) rfl dX8_take_114 ?_
    obtain ⟨z10, hz_z10, hf⟩ := o_bind hf
    refine k_calli (va_runV (As := []) (rest := [.ref th6, .int z9.1, .ref th6]) ⟨hx, hb, hml, hown, hts⟩ (c_X9_lowest l D cI cZ th1 th2 th3 th4 th5 H.size z8.2 z10 hz_z10) (cwV 0 hts gX8_take_X9_lowest rfl rfl rfl ⟨rfl, hd_X9_lowest⟩ ⟨Nat.le_of_ble_eq_true rfl, Nat.le_of_ble_eq_true rfl⟩) (k_preV hK hP hD hS hA hE [1, 2, 3, 4, 5] (by decide) rfl (ci := 6) rfl rfl) rfl rfl hl.1 rfl (lv_room (Nat.le_of_ble_eq_true rfl)) dX8_take_117 ⟨Nat.zero_le _, Nat.zero_le _⟩) hP hD hS hA [1, 2, 3, 4, 5] [none, some 0, some 1, some 2, some 3, some 4, none, none, none, none, none, none] 5 rfl (by decide) (by decide) rfl rfl (fun H locs hP hD hS => ?_)
    have hP : va_P D vwCl (ceU cI cZ th0 th1 th2 th3 th4 th5 th6 (z8.2, (U_timesLowest u_th), ((U_turned u_th) + (if 0 ≤ z8.1 then z8.1 else 0 - z8.1))) ++ (ceW cI cZ o10 o11 o12 o13 o14 u_o1)) H := hP
    have hD : va_D A (ceU cI cZ th0 th1 th2 th3 th4 th5 th6 (z8.2, (U_timesLowest u_th), ((U_turned u_th) + (if 0 ≤ z8.1 then z8.1 else 0 - z8.1))) ++ (ceW cI cZ o10 o11 o12 o13 o14 u_o1)) := hD
    obtain ⟨z11, hz_z11, hf⟩ := o_bind hf
    refine k_calli (va_runSN (As := [.ref th6, .int z10.1]) (rest := [.int z9.1, .ref th6]) ⟨hx, hb, hml, hown, hts⟩ (c_X10_at l D cI cZ th6 H.size 8 (U_timesLowest u_th) z10.1 z11 hz_z11) ⟨va_cnB 2 hts gX8_take_X10_at_n26 rfl rfl rfl (hE.1.1 (RX8, 26, yX10_at) (List.mem_of_getElem? (i := 9) rfl)) (hts (.initialized RX10) (List.mem_of_getElem? (i := 21) rfl)) hd_X10_at ⟨Nat.le_of_ble_eq_true rfl, Nat.le_of_ble_eq_true rfl⟩, hts (.static yX10_at) (List.mem_of_getElem? (i := 51) rfl), trivial⟩ (k_preS hK hP hD hS hA hE [6] (by decide) rfl) rfl rfl hl.1 rfl (lv_room (Nat.le_of_ble_eq_true rfl)) dX8_take_120 ⟨Nat.zero_le _, Nat.zero_le _⟩) hP hD hS hA [6] [none, none, none, none, none, none, some 0, none, none, none, none, none] 1 rfl (by decide) (by decide) rfl rfl (fun H locs hP hD hS => ?_)
    have hP : va_P D vwCl (ceU cI cZ th0 th1 th2 th3 th4 th5 th6 (z8.2, (U_timesLowest u_th), ((U_turned u_th) + (if 0 ≤ z8.1 then z8.1 else 0 - z8.1))) ++ (ceW cI cZ o10 o11 o12 o13 o14 u_o1)) H := hP
    have hD : va_D A (ceU cI cZ th0 th1 th2 th3 th4 th5 th6 (z8.2, (U_timesLowest u_th), ((U_turned u_th) + (if 0 ≤ z8.1 then z8.1 else 0 - z8.1))) ++ (ceW cI cZ o10 o11 o12 o13 o14 u_o1)) := hD
    refine lv_iconst (v := 1) hx hb dX8_take_123 (by decide) ?_
    refine lv_iadd hx hb dX8_take_124 ?_
    obtain ⟨z12, hz_z12, hf⟩ := o_bind hf
    refine k_callv (va_runSN (As := [.ref th6, .int z9.1, .int (z11.1 + (1 : Int32))]) (rest := []) ⟨hx, hb, hml, hown, hts⟩ (c_X10_put l D cI cZ th6 H.size 8 (U_timesLowest u_th) z9.1 (z11.1 + (1 : Int32)) z12 hz_z12) ⟨va_cnB 3 hts gX8_take_X10_put_n65 rfl rfl rfl (hE.1.1 (RX8, 65, yX10_put) (List.mem_of_getElem? (i := 10) rfl)) (hts (.initialized RX10) (List.mem_of_getElem? (i := 21) rfl)) hd_X10_put ⟨Nat.le_of_ble_eq_true rfl, Nat.le_of_ble_eq_true rfl⟩, hts (.static yX10_put) (List.mem_of_getElem? (i := 53) rfl), trivial⟩ (k_preS hK hP hD hS hA hE [6] (by decide) rfl) rfl rfl hl.1 rfl (lv_room (Nat.le_of_ble_eq_true rfl)) dX8_take_125 ⟨Nat.zero_le _, Nat.zero_le _⟩) hP hD hS hA [6] [none, none, none, none, none, none, some 0, none, none, none, none, none] 1 rfl (by decide) (by decide) rfl rfl (fun H locs hP hD hS => ?_)
    have hP : va_P D vwCl (ceU cI cZ th0 th1 th2 th3 th4 th5 th6 (z8.2, z12, ((U_turned u_th) + (if 0 ≤ z8.1 then z8.1 else 0 - z8.1))) ++ (ceW cI cZ o10 o11 o12 o13 o14 u_o1)) H := hP
    have hD : va_D A (ceU cI cZ th0 th1 th2 th3 th4 th5 th6 (z8.2, z12, ((U_turned u_th) + (if 0 ≤ z8.1 then z8.1 else 0 - z8.1))) ++ (ceW cI cZ o10 o11 o12 o13 o14 u_o1)) := hD
    refine lv_iinc (v := (v5 + (1 : Int32))) (lv' := [(5, .int (v5 + (1 : Int32))), (0, .ref th0), (3, .int v3), (4, .int v4)]) hx hb dX8_take_128 hl (k := 3) rfl rfl (by decide) rfl (fun ls hl => ?_)
    refine lv_goto (tgt := 27) hx hb dX8_take_131 (by decide) ?_
    exact hK_27 v3 v4 (v5 + (1 : Int32)) (z8.2, z12, ((U_turned u_th) + (if 0 ≤ z8.1 then z8.1 else 0 - z8.1))) _ _ ls (lv_sub hl [1, 2, 3, 0] rfl) hP hD hS hf
  have hL27 : ∀ (n : Nat), ∀ (v3 : Int32) (v4 : Int32) (v5 : Int32) (u_th : sU) (H : Heap) (locs : List Loc) (ls : Array Slot), lv_has ls 6 [(0, .ref th0), (3, .int v3), (4, .int v4), (5, .int v5)] → va_P D vwCl (ceU cI cZ th0 th1 th2 th3 th4 th5 th6 u_th ++ (ceW cI cZ o10 o11 o12 o13 o14 u_o1)) H → va_D A (ceU cI cZ th0 th1 th2 th3 th4 th5 th6 u_th ++ (ceW cI cZ o10 o11 o12 o13 o14 u_o1)) → va_S A s.heap H locs → f_X8_take_L27 u_o1 n v3 v4 v5 u_th = some z → W p l e (headSpec wsX8_take rmX8_take).room s m ([.ref th0, .ref o10, .int p2, .int p3] : List Value).toArray below meth c H locs 0 0 Q (F0 m 27 ls []) := by
    intro n
    induction n with
    | zero =>
      intro v3 v4 v5 u_th H locs ls hl hP hD hS hf
      exact absurd (show (none : Option (sU)) = some z from hf) (fun h => by cases h)
    | succ n ih =>
      intro v3 v4 v5 u_th H locs ls hl hP hD hS hf
      rw [f_X8_take_L27] at hf
      refine lv_iload hx hb dX8_take_27 (lv_at hl 3 rfl) ?_
      refine lv_iload_n hx hb dX8_take_29 rfl (lv_at hl 1 rfl) ?_
      refine lv_icmp_ge (tgt := 134) hx hb dX8_take_30 (by decide) (fun c3 => ?_) (fun c3 => ?_)
      · have hf := (if_pos c3).symm.trans hf
        exact k_vret (u := u_th) hx hb hr hlocks hK hS eQ hf hP hD dX8_take_134
      · have hf := (if_neg c3).symm.trans hf
        refine lv_iload hx hb dX8_take_33 (lv_at hl 3 rfl) ?_
        refine lv_bipush (v := 99) hx hb dX8_take_35 (by decide) ?_
        refine lv_icmp_ge (tgt := 134) hx hb dX8_take_37 (by decide) (fun c4 => ?_) (fun c4 => ?_)
        · have hf := (if_pos c4).symm.trans hf
          exact k_vret (u := u_th) hx hb hr hlocks hK hS eQ hf hP hD dX8_take_134
        · have hf := (if_neg c4).symm.trans hf
          refine lv_bipush (v := 75) hx hb dX8_take_40 (by decide) ?_
          refine lv_iload hx hb dX8_take_42 (lv_at hl 2 rfl) ?_
          refine lv_imul hx hb dX8_take_44 ?_
          refine lv_bipush (v := 74) hx hb dX8_take_45 (by decide) ?_
          refine lv_iadd hx hb dX8_take_47 ?_
          refine lv_ldc hx hb hown (hts (.constant RX8 40 (65537)) (List.mem_of_getElem? (i := 4) rfl)) dX8_take_48 ?_
          obtain ⟨z5, hz_z5, hf⟩ := o_bind hf
          refine k_calli (va_runS (As := [.int (((75 : Int32) * v4) + (74 : Int32)), .int (65537 : Int32)]) (rest := []) ⟨hx, hb, hml, hown, hts⟩ (c_J9_floorMod_7cf53 l D cI cZ  H.size (((75 : Int32) * v4) + (74 : Int32)) (65537 : Int32) z5 hz_z5) (va_cwS 2 hts gX8_take_J9_floorMod_7cf53 rfl rfl rfl hd_J9_floorMod_7cf53 ⟨Nat.le_of_ble_eq_true rfl, Nat.le_of_ble_eq_true rfl⟩) (k_preS hK hP hD hS hA hE [] (by decide) rfl) rfl rfl hl.1 rfl (lv_room (Nat.le_of_ble_eq_true rfl)) dX8_take_50 ⟨Nat.zero_le _, Nat.zero_le _⟩) hP hD hS hA [] [none, none, none, none, none, none, none, none, none, none, none, none] 0 rfl (by decide) (by decide) rfl rfl (fun H locs hP hD hS => ?_)
          have hP : va_P D vwCl (ceU cI cZ th0 th1 th2 th3 th4 th5 th6 u_th ++ (ceW cI cZ o10 o11 o12 o13 o14 u_o1)) H := hP
          have hD : va_D A (ceU cI cZ th0 th1 th2 th3 th4 th5 th6 u_th ++ (ceW cI cZ o10 o11 o12 o13 o14 u_o1)) := hD
          refine lv_istore (lv' := [(4, .int z5.1), (0, .ref th0), (3, .int v3), (5, .int v5)]) hx hb dX8_take_53 hl (by decide) rfl (fun ls hl => ?_)
          refine lv_aload_n hx hb dX8_take_55 rfl (lv_at hl 1 rfl) ?_
          refine lv_iload hx hb dX8_take_56 (lv_at hl 0 rfl) ?_
          obtain ⟨z6, hz_z6, hf⟩ := o_bind hf
          refine k_callv (va_runV (As := [.int z5.1]) (rest := []) ⟨hx, hb, hml, hown, hts⟩ (c_X8_change l D cI cZ th0 th1 th2 th3 th4 th5 th6 H.size u_th z5.1 z6 hz_z6) (cwV 1 hts gX8_take_X8_change rfl rfl rfl ⟨rfl, hd_X8_change⟩ ⟨Nat.le_of_ble_eq_true rfl, Nat.le_of_ble_eq_true rfl⟩) (k_preV hK hP hD hS hA hE [0, 1, 2, 3, 4, 5, 6] (by decide) rfl (ci := 5) rfl rfl) rfl rfl hl.1 rfl (lv_room (Nat.le_of_ble_eq_true rfl)) dX8_take_58 ⟨Nat.zero_le _, Nat.zero_le _⟩) hP hD hS hA [0, 1, 2, 3, 4, 5, 6] [some 0, some 1, some 2, some 3, some 4, some 5, some 6, none, none, none, none, none] 7 rfl (by decide) (by decide) rfl rfl (fun H locs hP hD hS => ?_)
          have hP : va_P D vwCl (ceU cI cZ th0 th1 th2 th3 th4 th5 th6 z6 ++ (ceW cI cZ o10 o11 o12 o13 o14 u_o1)) H := hP
          have hD : va_D A (ceU cI cZ th0 th1 th2 th3 th4 th5 th6 z6 ++ (ceW cI cZ o10 o11 o12 o13 o14 u_o1)) := hD
          refine lv_iload hx hb dX8_take_61 (lv_at hl 0 rfl) ?_
          refine lv_bipush (v := 16) hx hb dX8_take_63 (by decide) ?_
          refine lv_idiv hx hb dX8_take_65 (by decide) ?_
          refine lv_iconst (v := 3) hx hb dX8_take_66 (by decide) ?_
          refine lv_irem hx hb dX8_take_67 (by decide) ?_
          refine lv_if_ne (tgt := 79) hx hb dX8_take_68 (by decide) (fun c7 => ?_) (fun c7 => ?_)
          · have hf := (if_neg c7).symm.trans hf
            exact hJ79 (f_X8_take_L27 u_o1 n) ih v3 z5.1 v5 z6 _ _ ls (lv_sub hl [1, 2, 0, 3] rfl) hP hD hS hf
          · have hf := (if_pos c7).symm.trans hf
            refine lv_aload_n hx hb dX8_take_71 rfl (lv_at hl 1 rfl) ?_
            refine va_get (D := D) (ci := 5) (v := .ref th1) (C := RX8) (T := TX8) (N := 3) hx hb hts hi_X8 hown hK hP 0 rfl rfl 0 (by decide) (hts (.fieldLink RX8 12 "FairWheel$Turns" "wheel" "LFairWheel$Wheel;") (List.mem_of_getElem? (i := 1) rfl)) (fun _ h9 => h9) rfl dX8_take_72 ?_
            refine lv_iconst (v := 1) hx hb dX8_take_75 (by decide) ?_
            obtain ⟨z13, hz_z13, hf⟩ := o_bind hf
            refine k_callv (va_runV (As := [.int (1 : Int32)]) (rest := []) ⟨hx, hb, hml, hown, hts⟩ (c_X9_turn l D cI cZ th1 th2 th3 th4 th5 H.size (U_wheel z6) (1 : Int32) z13 hz_z13) (cwV 1 hts gX8_take_X9_turn rfl rfl rfl ⟨rfl, hd_X9_turn⟩ ⟨Nat.le_of_ble_eq_true rfl, Nat.le_of_ble_eq_true rfl⟩) (k_preV hK hP hD hS hA hE [1, 2, 3, 4, 5] (by decide) rfl (ci := 6) rfl rfl) rfl rfl hl.1 rfl (lv_room (Nat.le_of_ble_eq_true rfl)) dX8_take_76 ⟨Nat.zero_le _, Nat.zero_le _⟩) hP hD hS hA [1, 2, 3, 4, 5] [none, some 0, some 1, some 2, some 3, some 4, none, none, none, none, none, none] 5 rfl (by decide) (by decide) rfl rfl (fun H locs hP hD hS => ?_)
            have hP : va_P D vwCl (ceU cI cZ th0 th1 th2 th3 th4 th5 th6 (z13, (U_timesLowest z6), (U_turned z6)) ++ (ceW cI cZ o10 o11 o12 o13 o14 u_o1)) H := hP
            have hD : va_D A (ceU cI cZ th0 th1 th2 th3 th4 th5 th6 (z13, (U_timesLowest z6), (U_turned z6)) ++ (ceW cI cZ o10 o11 o12 o13 o14 u_o1)) := hD
            exact hJ79 (f_X8_take_L27 u_o1 n) ih v3 z5.1 v5 (z13, (U_timesLowest z6), (U_turned z6)) _ _ ls (lv_sub hl [1, 2, 0, 3] rfl) hP hD hS hf
  rw [f_X8_take] at hf
  refine lv_aload_n hx hb dX8_take_0 rfl (lv_at hl 0 rfl) ?_
  refine va_get (D := D) (ci := 5) (v := .ref th1) (C := RX8) (T := TX8) (N := 3) hx hb hts hi_X8 hown hK hP 0 rfl rfl 0 (by decide) (hts (.fieldLink RX8 12 "FairWheel$Turns" "wheel" "LFairWheel$Wheel;") (List.mem_of_getElem? (i := 1) rfl)) (fun _ h9 => h9) rfl dX8_take_1 ?_
  refine lv_aload_n hx hb dX8_take_4 rfl (lv_at hl 1 rfl) ?_
  obtain ⟨z1, hz_z1, hf⟩ := o_bind hf
  refine k_callv (va_runV (As := [.ref o10]) (rest := []) ⟨hx, hb, hml, hown, hts⟩ (c_X9_copyFrom l D cI cZ th1 th2 th3 th4 th5 o10 o11 o12 o13 o14 H.size (U_wheel u_th) u_o1 z1 hz_z1) (cwV 1 hts gX8_take_X9_copyFrom rfl rfl rfl ⟨rfl, hd_X9_copyFrom⟩ ⟨Nat.le_of_ble_eq_true rfl, Nat.le_of_ble_eq_true rfl⟩) (k_preV hK hP hD hS hA hE [1, 2, 3, 4, 5, 7, 8, 9, 10, 11] (by decide) rfl (ci := 6) rfl rfl) rfl rfl hl.1 rfl (lv_room (Nat.le_of_ble_eq_true rfl)) dX8_take_5 ⟨Nat.zero_le _, Nat.zero_le _⟩) hP hD hS hA [1, 2, 3, 4, 5, 7, 8, 9, 10, 11] [none, some 0, some 1, some 2, some 3, some 4, none, some 5, some 6, some 7, some 8, some 9] 10 rfl (by decide) (by decide) rfl rfl (fun H locs hP hD hS => ?_)
  have hP : va_P D vwCl (ceU cI cZ th0 th1 th2 th3 th4 th5 th6 (z1, (U_timesLowest u_th), (U_turned u_th)) ++ (ceW cI cZ o10 o11 o12 o13 o14 u_o1)) H := hP
  have hD : va_D A (ceU cI cZ th0 th1 th2 th3 th4 th5 th6 (z1, (U_timesLowest u_th), (U_turned u_th)) ++ (ceW cI cZ o10 o11 o12 o13 o14 u_o1)) := hD
  refine lv_aload_n hx hb dX8_take_8 rfl (lv_at hl 0 rfl) ?_
  refine lv_iconst (v := 0) hx hb dX8_take_9 (by decide) ?_
  refine va_put (D := D) (ci := 5) (v := .int (0 : Int32)) (ty := .int) (C := RX8) (T := TX8) (N := 3) hx hb hts hi_X8 tyX8 tyX8_ok nmX8 hown hK hP hD hS 0 rfl rfl 2 (by decide) (hts (.fieldLink RX8 22 "FairWheel$Turns" "turned" "I") (List.mem_of_getElem? (i := 2) rfl)) (fun _ h9 => h9) rfl (by decide +kernel) rfl rfl (Nat.le_of_ble_eq_true rfl) dX8_take_10 (fun H locs hP hD hS => ?_)
  have hP : va_P D vwCl (ceU cI cZ th0 th1 th2 th3 th4 th5 th6 (z1, (U_timesLowest u_th), (0 : Int32)) ++ (ceW cI cZ o10 o11 o12 o13 o14 u_o1)) H := hP
  have hD : va_D A (ceU cI cZ th0 th1 th2 th3 th4 th5 th6 (z1, (U_timesLowest u_th), (0 : Int32)) ++ (ceW cI cZ o10 o11 o12 o13 o14 u_o1)) := hD
  refine lv_aload_n hx hb dX8_take_13 rfl (lv_at hl 0 rfl) ?_
  refine va_get (D := D) (ci := 5) (v := .ref th6) (C := RX8) (T := TX8) (N := 3) hx hb hts hi_X8 hown hK hP 0 rfl rfl 1 (by decide) (hts (.fieldLink RX8 18 "FairWheel$Turns" "timesLowest" "[I") (List.mem_of_getElem? (i := 3) rfl)) (fun _ h9 => h9) rfl dX8_take_14 ?_
  refine lv_iconst (v := 0) hx hb dX8_take_17 (by decide) ?_
  obtain ⟨z2, hz_z2, hf⟩ := o_bind hf
  refine k_callv (va_runS (As := [.ref th6, .int (0 : Int32)]) (rest := []) ⟨hx, hb, hml, hown, hts⟩ (c_J7_fill_53178 l D cI cZ th6 H.size 8 (U_timesLowest u_th) (0 : Int32) z2 hz_z2) (va_cwS 2 hts gX8_take_J7_fill_53178 rfl rfl rfl hd_J7_fill_53178 ⟨Nat.le_of_ble_eq_true rfl, Nat.le_of_ble_eq_true rfl⟩) (k_preS hK hP hD hS hA hE [6] (by decide) rfl) rfl rfl hl.1 rfl (lv_room (Nat.le_of_ble_eq_true rfl)) dX8_take_18 ⟨Nat.zero_le _, Nat.zero_le _⟩) hP hD hS hA [6] [none, none, none, none, none, none, some 0, none, none, none, none, none] 1 rfl (by decide) (by decide) rfl rfl (fun H locs hP hD hS => ?_)
  have hP : va_P D vwCl (ceU cI cZ th0 th1 th2 th3 th4 th5 th6 (z1, z2, (0 : Int32)) ++ (ceW cI cZ o10 o11 o12 o13 o14 u_o1)) H := hP
  have hD : va_D A (ceU cI cZ th0 th1 th2 th3 th4 th5 th6 (z1, z2, (0 : Int32)) ++ (ceW cI cZ o10 o11 o12 o13 o14 u_o1)) := hD
  refine lv_iload_n hx hb dX8_take_21 rfl (lv_at hl 2 rfl) ?_
  refine lv_istore (lv' := [(4, .int p2), (0, .ref th0), (1, .ref o10), (2, .int p2), (3, .int p3)]) hx hb dX8_take_22 hl (by decide) rfl (fun ls hl => ?_)
  refine lv_iconst (v := 0) hx hb dX8_take_24 (by decide) ?_
  refine lv_istore (lv' := [(5, .int (0 : Int32)), (4, .int p2), (0, .ref th0), (1, .ref o10), (2, .int p2), (3, .int p3)]) hx hb dX8_take_25 hl (by decide) rfl (fun ls hl => ?_)
  exact hL27 oF p3 p2 (0 : Int32) (z1, z2, (0 : Int32)) _ _ ls (lv_sub hl [2, 5, 1, 0] rfl) hP hD hS hf
theorem hd_X2_isKept : yX2_isKept.cls ≠ "java/lang/invoke/MethodHandle" ∧ yX2_isKept.cls ≠ "java/lang/invoke/VarHandle" ∧ (parseMethodDescriptor yX2_isKept.desc).map (fun d => d.parameters.length) = some 0 := by decide +kernel
set_option maxHeartbeats 4000000 in
set_option maxRecDepth 100000 in
theorem c_X2_isKept (l : Launch) (D : va_G) (cI cZ : ClassId) (th0 : Nat) (th1 : Nat) (th2 : Nat) (th3 : Nat) (th4 : Nat) (th5 : Nat) (th6 : Nat) (th7 : Nat) (th8 : Nat) (sz : Nat) (u_th : sI) (z : Int32 × Unit) (hf : f_X2_isKept u_th = some z) : Met l yX2_isKept wsX2_isKept rmX2_isKept (va_Pc [.ref th0] (wPr D cI cZ (ceI cI cZ th0 th1 th2 th3 th4 th5 th6 th7 th8 u_th) sz)) (va_Qi (fun (r : Int32) (v : Unit) => (r, v) = z) (fun (v : Unit) t => wPo D cI cZ (va_A (ceI cI cZ th0 th1 th2 th3 th4 th5 th6 th7 th8 u_th) sz) (ceI cI cZ th0 th1 th2 th3 th4 th5 th6 th7 th8 u_th) t) (va_A (ceI cI cZ th0 th1 th2 th3 th4 th5 th6 th7 th8 u_th) sz)) 0 0 (va_A (ceI cI cZ th0 th1 th2 th3 th4 th5 th6 th7 th8 u_th) sz) := by
  refine k_enter (D := D) (cI := cI) (cZ := cZ) (wl := ceI cI cZ th0 th1 th2 th3 th4 th5 th6 th7 th8 u_th) (sz := sz) (av := [.ref th0]) (cc := cX2_isKept) (maxL := 1) (ret := (some .boolean)) (Qc := fun A => va_Qi (fun (r : Int32) (v : Unit) => (r, v) = z) (fun (v : Unit) t => wPo D cI cZ (A) (ceI cI cZ th0 th1 th2 th3 th4 th5 th6 th7 th8 u_th) t) (A)) (by decide) rfl (Nat.le_of_ble_eq_true rfl) ?_
  intro p e s m below meth c ls A Q H locs eQ hx hb hr hml hts hown hlocks hK hP hD hS hA hE hl
  have hown : s.vm.findClass RX2 = some m.cls := hown
  have hl : lv_has ls 1 [(0, .ref th0)] := hl
  have hi_X2 : ∀ w ∈ wsX20, w ∈ wsX2_isKept := fun w h => List.mem_cons_of_mem _ (List.mem_append_right _ h)
  rw [f_X2_isKept] at hf
  refine lv_aload_n hx hb dX2_isKept_0 rfl (lv_at hl 0 rfl) ?_
  refine va_get (D := D) (ci := 0) (v := .int (I_kept u_th)) (C := RX2) (T := TX2) (N := 3) hx hb hts hi_X2 hown hK hP 0 rfl rfl 2 (by decide) (hts (.fieldLink RX2 23 "FairWheel$Image" "kept" "Z") (List.mem_of_getElem? (i := 1) rfl)) (fun _ h9 => h9) rfl dX2_isKept_1 ?_
  by_cases c1 : (I_kept u_th) = 0 ∨ (I_kept u_th) = 1
  case neg =>
    have hf := (if_neg c1).symm.trans hf
    cases hf
  have hf := (if_pos c1).symm.trans hf
  exact k_zret (v := (I_kept u_th)) (u := ()) hx hb hr hlocks hK hS eQ (k_zb c1) hf hP hD dX2_isKept_4
theorem hd_X2_keep : yX2_keep.cls ≠ "java/lang/invoke/MethodHandle" ∧ yX2_keep.cls ≠ "java/lang/invoke/VarHandle" ∧ (parseMethodDescriptor yX2_keep.desc).map (fun d => d.parameters.length) = some 2 := by decide +kernel
set_option maxHeartbeats 4000000 in
set_option maxRecDepth 100000 in
theorem c_X2_keep (l : Launch) (D : va_G) (cI cZ : ClassId) (th0 : Nat) (th1 : Nat) (th2 : Nat) (th3 : Nat) (th4 : Nat) (th5 : Nat) (th6 : Nat) (th7 : Nat) (th8 : Nat) (o10 : Nat) (o11 : Nat) (o12 : Nat) (o13 : Nat) (o14 : Nat) (o20 : Nat) (o21 : Nat) (o22 : Nat) (sz : Nat) (u_th : sI) (u_o1 : sW) (u_o2 : sS) (z : sI) (hf : f_X2_keep u_th u_o1 u_o2 = some z) : Met l yX2_keep wsX2_keep rmX2_keep (va_Pc [.ref th0, .ref o10, .ref o20] (wPr D cI cZ (ceI cI cZ th0 th1 th2 th3 th4 th5 th6 th7 th8 u_th ++ (ceW cI cZ o10 o11 o12 o13 o14 u_o1 ++ (ceS cI cZ o20 o21 o22 u_o2))) sz)) (va_Qv (fun (v : sI) => v = z) (fun (v : sI) t => wPo D cI cZ (va_A (ceI cI cZ th0 th1 th2 th3 th4 th5 th6 th7 th8 u_th ++ (ceW cI cZ o10 o11 o12 o13 o14 u_o1 ++ (ceS cI cZ o20 o21 o22 u_o2))) sz) (ceI cI cZ th0 th1 th2 th3 th4 th5 th6 th7 th8 v ++ (ceW cI cZ o10 o11 o12 o13 o14 u_o1 ++ (ceS cI cZ o20 o21 o22 u_o2))) t) (va_A (ceI cI cZ th0 th1 th2 th3 th4 th5 th6 th7 th8 u_th ++ (ceW cI cZ o10 o11 o12 o13 o14 u_o1 ++ (ceS cI cZ o20 o21 o22 u_o2))) sz)) 0 0 (va_A (ceI cI cZ th0 th1 th2 th3 th4 th5 th6 th7 th8 u_th ++ (ceW cI cZ o10 o11 o12 o13 o14 u_o1 ++ (ceS cI cZ o20 o21 o22 u_o2))) sz) := by
  refine k_enter (D := D) (cI := cI) (cZ := cZ) (wl := ceI cI cZ th0 th1 th2 th3 th4 th5 th6 th7 th8 u_th ++ (ceW cI cZ o10 o11 o12 o13 o14 u_o1 ++ (ceS cI cZ o20 o21 o22 u_o2))) (sz := sz) (av := [.ref th0, .ref o10, .ref o20]) (cc := cX2_keep) (maxL := 3) (ret := none) (Qc := fun A => va_Qv (fun (v : sI) => v = z) (fun (v : sI) t => wPo D cI cZ (A) (ceI cI cZ th0 th1 th2 th3 th4 th5 th6 th7 th8 v ++ (ceW cI cZ o10 o11 o12 o13 o14 u_o1 ++ (ceS cI cZ o20 o21 o22 u_o2))) t) (A)) (by decide) rfl (Nat.le_of_ble_eq_true rfl) ?_
  intro p e s m below meth c ls A Q H locs eQ hx hb hr hml hts hown hlocks hK hP hD hS hA hE hl
  have hown : s.vm.findClass RX2 = some m.cls := hown
  have hl : lv_has ls 3 [(0, .ref th0), (1, .ref o10), (2, .ref o20)] := hl
  have hi_X2 : ∀ w ∈ wsX20, w ∈ wsX2_keep := fun w h => List.mem_cons_of_mem _ (List.mem_append_left _ (List.mem_append_left _ (List.mem_append_right _ h)))
  rw [f_X2_keep] at hf
  refine lv_aload_n hx hb dX2_keep_0 rfl (lv_at hl 0 rfl) ?_
  refine va_get (D := D) (ci := 0) (v := .ref th1) (C := RX2) (T := TX2) (N := 3) hx hb hts hi_X2 hown hK hP 0 rfl rfl 0 (by decide) (hts (.fieldLink RX2 10 "FairWheel$Image" "wheel" "LFairWheel$Wheel;") (List.mem_of_getElem? (i := 1) rfl)) (fun _ h9 => h9) rfl dX2_keep_1 ?_
  refine lv_aload_n hx hb dX2_keep_4 rfl (lv_at hl 1 rfl) ?_
  obtain ⟨z1, hz_z1, hf⟩ := o_bind hf
  refine k_callv (va_runV (As := [.ref o10]) (rest := []) ⟨hx, hb, hml, hown, hts⟩ (c_X9_copyFrom l D cI cZ th1 th2 th3 th4 th5 o10 o11 o12 o13 o14 H.size (I_wheel u_th) u_o1 z1 hz_z1) (cwV 1 hts gX2_keep_X9_copyFrom rfl rfl rfl ⟨rfl, hd_X9_copyFrom⟩ ⟨Nat.le_of_ble_eq_true rfl, Nat.le_of_ble_eq_true rfl⟩) (k_preV hK hP hD hS hA hE [1, 2, 3, 4, 5, 9, 10, 11, 12, 13] (by decide) rfl (ci := 6) rfl rfl) rfl rfl hl.1 rfl (lv_room (Nat.le_of_ble_eq_true rfl)) dX2_keep_5 ⟨Nat.zero_le _, Nat.zero_le _⟩) hP hD hS hA [1, 2, 3, 4, 5, 9, 10, 11, 12, 13] [none, some 0, some 1, some 2, some 3, some 4, none, none, none, some 5, some 6, some 7, some 8, some 9, none, none, none] 10 rfl (by decide) (by decide) rfl rfl (fun H locs hP hD hS => ?_)
  have hP : va_P D vwCl (ceI cI cZ th0 th1 th2 th3 th4 th5 th6 th7 th8 (z1, (I_sights u_th), (I_kept u_th)) ++ (ceW cI cZ o10 o11 o12 o13 o14 u_o1 ++ (ceS cI cZ o20 o21 o22 u_o2))) H := hP
  have hD : va_D A (ceI cI cZ th0 th1 th2 th3 th4 th5 th6 th7 th8 (z1, (I_sights u_th), (I_kept u_th)) ++ (ceW cI cZ o10 o11 o12 o13 o14 u_o1 ++ (ceS cI cZ o20 o21 o22 u_o2))) := hD
  refine lv_aload_n hx hb dX2_keep_8 rfl (lv_at hl 0 rfl) ?_
  refine va_get (D := D) (ci := 0) (v := .ref th6) (C := RX2) (T := TX2) (N := 3) hx hb hts hi_X2 hown hK hP 0 rfl rfl 1 (by decide) (hts (.fieldLink RX2 19 "FairWheel$Image" "sights" "LFairWheel$Sights;") (List.mem_of_getElem? (i := 2) rfl)) (fun _ h9 => h9) rfl dX2_keep_9 ?_
  refine lv_aload_n hx hb dX2_keep_12 rfl (lv_at hl 2 rfl) ?_
  obtain ⟨z2, hz_z2, hf⟩ := o_bind hf
  refine k_callv (va_runV (As := [.ref o20]) (rest := []) ⟨hx, hb, hml, hown, hts⟩ (c_X6_copyFrom l D cI cZ th6 th7 th8 o20 o21 o22 H.size (I_sights u_th) u_o2 z2 hz_z2) (cwV 1 hts gX2_keep_X6_copyFrom rfl rfl rfl ⟨rfl, hd_X6_copyFrom⟩ ⟨Nat.le_of_ble_eq_true rfl, Nat.le_of_ble_eq_true rfl⟩) (k_preV hK hP hD hS hA hE [6, 7, 8, 14, 15, 16] (by decide) rfl (ci := 3) rfl rfl) rfl rfl hl.1 rfl (lv_room (Nat.le_of_ble_eq_true rfl)) dX2_keep_13 ⟨Nat.zero_le _, Nat.zero_le _⟩) hP hD hS hA [6, 7, 8, 14, 15, 16] [none, none, none, none, none, none, some 0, some 1, some 2, none, none, none, none, none, some 3, some 4, some 5] 6 rfl (by decide) (by decide) rfl rfl (fun H locs hP hD hS => ?_)
  have hP : va_P D vwCl (ceI cI cZ th0 th1 th2 th3 th4 th5 th6 th7 th8 (z1, z2, (I_kept u_th)) ++ (ceW cI cZ o10 o11 o12 o13 o14 u_o1 ++ (ceS cI cZ o20 o21 o22 u_o2))) H := hP
  have hD : va_D A (ceI cI cZ th0 th1 th2 th3 th4 th5 th6 th7 th8 (z1, z2, (I_kept u_th)) ++ (ceW cI cZ o10 o11 o12 o13 o14 u_o1 ++ (ceS cI cZ o20 o21 o22 u_o2))) := hD
  refine lv_aload_n hx hb dX2_keep_16 rfl (lv_at hl 0 rfl) ?_
  refine lv_iconst (v := 1) hx hb dX2_keep_17 (by decide) ?_
  refine va_put (D := D) (ci := 0) (v := .int (1 : Int32)) (ty := .boolean) (C := RX2) (T := TX2) (N := 3) hx hb hts hi_X2 tyX2 tyX2_ok nmX2 hown hK hP hD hS 0 rfl rfl 2 (by decide) (hts (.fieldLink RX2 23 "FairWheel$Image" "kept" "Z") (List.mem_of_getElem? (i := 3) rfl)) (fun _ h9 => h9) rfl (by decide +kernel) rfl rfl (Nat.le_of_ble_eq_true rfl) dX2_keep_18 (fun H locs hP hD hS => ?_)
  have hP : va_P D vwCl (ceI cI cZ th0 th1 th2 th3 th4 th5 th6 th7 th8 (z1, z2, (1 : Int32)) ++ (ceW cI cZ o10 o11 o12 o13 o14 u_o1 ++ (ceS cI cZ o20 o21 o22 u_o2))) H := hP
  have hD : va_D A (ceI cI cZ th0 th1 th2 th3 th4 th5 th6 th7 th8 (z1, z2, (1 : Int32)) ++ (ceW cI cZ o10 o11 o12 o13 o14 u_o1 ++ (ceS cI cZ o20 o21 o22 u_o2))) := hD
  exact k_vret (u := (z1, z2, (1 : Int32))) hx hb hr hlocks hK hS eQ hf hP hD dX2_keep_21
theorem hd_X2_giveBack : yX2_giveBack.cls ≠ "java/lang/invoke/MethodHandle" ∧ yX2_giveBack.cls ≠ "java/lang/invoke/VarHandle" ∧ (parseMethodDescriptor yX2_giveBack.desc).map (fun d => d.parameters.length) = some 2 := by decide +kernel
set_option maxHeartbeats 4000000 in
set_option maxRecDepth 100000 in
theorem c_X2_giveBack (l : Launch) (D : va_G) (cI cZ : ClassId) (th0 : Nat) (th1 : Nat) (th2 : Nat) (th3 : Nat) (th4 : Nat) (th5 : Nat) (th6 : Nat) (th7 : Nat) (th8 : Nat) (o10 : Nat) (o11 : Nat) (o12 : Nat) (o13 : Nat) (o14 : Nat) (o20 : Nat) (o21 : Nat) (o22 : Nat) (sz : Nat) (u_th : sI) (u_o1 : sW) (u_o2 : sS) (z : sW × sS) (hf : f_X2_giveBack u_th u_o1 u_o2 = some z) : Met l yX2_giveBack wsX2_giveBack rmX2_giveBack (va_Pc [.ref th0, .ref o10, .ref o20] (wPr D cI cZ (ceI cI cZ th0 th1 th2 th3 th4 th5 th6 th7 th8 u_th ++ (ceW cI cZ o10 o11 o12 o13 o14 u_o1 ++ (ceS cI cZ o20 o21 o22 u_o2))) sz)) (va_Qv (fun (v : sW × sS) => v = z) (fun (v : sW × sS) t => wPo D cI cZ (va_A (ceI cI cZ th0 th1 th2 th3 th4 th5 th6 th7 th8 u_th ++ (ceW cI cZ o10 o11 o12 o13 o14 u_o1 ++ (ceS cI cZ o20 o21 o22 u_o2))) sz) (ceI cI cZ th0 th1 th2 th3 th4 th5 th6 th7 th8 u_th ++ (ceW cI cZ o10 o11 o12 o13 o14 v.1 ++ (ceS cI cZ o20 o21 o22 v.2))) t) (va_A (ceI cI cZ th0 th1 th2 th3 th4 th5 th6 th7 th8 u_th ++ (ceW cI cZ o10 o11 o12 o13 o14 u_o1 ++ (ceS cI cZ o20 o21 o22 u_o2))) sz)) 0 0 (va_A (ceI cI cZ th0 th1 th2 th3 th4 th5 th6 th7 th8 u_th ++ (ceW cI cZ o10 o11 o12 o13 o14 u_o1 ++ (ceS cI cZ o20 o21 o22 u_o2))) sz) := by
  refine k_enter (D := D) (cI := cI) (cZ := cZ) (wl := ceI cI cZ th0 th1 th2 th3 th4 th5 th6 th7 th8 u_th ++ (ceW cI cZ o10 o11 o12 o13 o14 u_o1 ++ (ceS cI cZ o20 o21 o22 u_o2))) (sz := sz) (av := [.ref th0, .ref o10, .ref o20]) (cc := cX2_giveBack) (maxL := 3) (ret := none) (Qc := fun A => va_Qv (fun (v : sW × sS) => v = z) (fun (v : sW × sS) t => wPo D cI cZ (A) (ceI cI cZ th0 th1 th2 th3 th4 th5 th6 th7 th8 u_th ++ (ceW cI cZ o10 o11 o12 o13 o14 v.1 ++ (ceS cI cZ o20 o21 o22 v.2))) t) (A)) (by decide) rfl (Nat.le_of_ble_eq_true rfl) ?_
  intro p e s m below meth c ls A Q H locs eQ hx hb hr hml hts hown hlocks hK hP hD hS hA hE hl
  have hown : s.vm.findClass RX2 = some m.cls := hown
  have hl : lv_has ls 3 [(0, .ref th0), (1, .ref o10), (2, .ref o20)] := hl
  have hi_X2 : ∀ w ∈ wsX20, w ∈ wsX2_giveBack := fun w h => List.mem_cons_of_mem _ (List.mem_append_left _ (List.mem_append_left _ (List.mem_append_right _ h)))
  rw [f_X2_giveBack] at hf
  refine lv_aload_n hx hb dX2_giveBack_0 rfl (lv_at hl 1 rfl) ?_
  refine lv_aload_n hx hb dX2_giveBack_1 rfl (lv_at hl 0 rfl) ?_
  refine va_get (D := D) (ci := 0) (v := .ref th1) (C := RX2) (T := TX2) (N := 3) hx hb hts hi_X2 hown hK hP 0 rfl rfl 0 (by decide) (hts (.fieldLink RX2 10 "FairWheel$Image" "wheel" "LFairWheel$Wheel;") (List.mem_of_getElem? (i := 1) rfl)) (fun _ h9 => h9) rfl dX2_giveBack_2 ?_
  obtain ⟨z1, hz_z1, hf⟩ := o_bind hf
  refine k_callv (va_runV (As := [.ref th1]) (rest := []) ⟨hx, hb, hml, hown, hts⟩ (c_X9_copyFrom l D cI cZ o10 o11 o12 o13 o14 th1 th2 th3 th4 th5 H.size u_o1 (I_wheel u_th) z1 hz_z1) (cwV 1 hts gX2_giveBack_X9_copyFrom rfl rfl rfl ⟨rfl, hd_X9_copyFrom⟩ ⟨Nat.le_of_ble_eq_true rfl, Nat.le_of_ble_eq_true rfl⟩) (k_preV hK hP hD hS hA hE [9, 10, 11, 12, 13, 1, 2, 3, 4, 5] (by decide) rfl (ci := 6) rfl rfl) rfl rfl hl.1 rfl (lv_room (Nat.le_of_ble_eq_true rfl)) dX2_giveBack_5 ⟨Nat.zero_le _, Nat.zero_le _⟩) hP hD hS hA [9, 10, 11, 12, 13, 1, 2, 3, 4, 5] [none, some 5, some 6, some 7, some 8, some 9, none, none, none, some 0, some 1, some 2, some 3, some 4, none, none, none] 10 rfl (by decide) (by decide) rfl rfl (fun H locs hP hD hS => ?_)
  have hP : va_P D vwCl (ceI cI cZ th0 th1 th2 th3 th4 th5 th6 th7 th8 u_th ++ (ceW cI cZ o10 o11 o12 o13 o14 z1 ++ (ceS cI cZ o20 o21 o22 u_o2))) H := hP
  have hD : va_D A (ceI cI cZ th0 th1 th2 th3 th4 th5 th6 th7 th8 u_th ++ (ceW cI cZ o10 o11 o12 o13 o14 z1 ++ (ceS cI cZ o20 o21 o22 u_o2))) := hD
  refine lv_aload_n hx hb dX2_giveBack_8 rfl (lv_at hl 2 rfl) ?_
  refine lv_aload_n hx hb dX2_giveBack_9 rfl (lv_at hl 0 rfl) ?_
  refine va_get (D := D) (ci := 0) (v := .ref th6) (C := RX2) (T := TX2) (N := 3) hx hb hts hi_X2 hown hK hP 0 rfl rfl 1 (by decide) (hts (.fieldLink RX2 19 "FairWheel$Image" "sights" "LFairWheel$Sights;") (List.mem_of_getElem? (i := 2) rfl)) (fun _ h9 => h9) rfl dX2_giveBack_10 ?_
  obtain ⟨z2, hz_z2, hf⟩ := o_bind hf
  refine k_callv (va_runV (As := [.ref th6]) (rest := []) ⟨hx, hb, hml, hown, hts⟩ (c_X6_copyFrom l D cI cZ o20 o21 o22 th6 th7 th8 H.size u_o2 (I_sights u_th) z2 hz_z2) (cwV 1 hts gX2_giveBack_X6_copyFrom rfl rfl rfl ⟨rfl, hd_X6_copyFrom⟩ ⟨Nat.le_of_ble_eq_true rfl, Nat.le_of_ble_eq_true rfl⟩) (k_preV hK hP hD hS hA hE [14, 15, 16, 6, 7, 8] (by decide) rfl (ci := 3) rfl rfl) rfl rfl hl.1 rfl (lv_room (Nat.le_of_ble_eq_true rfl)) dX2_giveBack_13 ⟨Nat.zero_le _, Nat.zero_le _⟩) hP hD hS hA [14, 15, 16, 6, 7, 8] [none, none, none, none, none, none, some 3, some 4, some 5, none, none, none, none, none, some 0, some 1, some 2] 6 rfl (by decide) (by decide) rfl rfl (fun H locs hP hD hS => ?_)
  have hP : va_P D vwCl (ceI cI cZ th0 th1 th2 th3 th4 th5 th6 th7 th8 u_th ++ (ceW cI cZ o10 o11 o12 o13 o14 z1 ++ (ceS cI cZ o20 o21 o22 z2))) H := hP
  have hD : va_D A (ceI cI cZ th0 th1 th2 th3 th4 th5 th6 th7 th8 u_th ++ (ceW cI cZ o10 o11 o12 o13 o14 z1 ++ (ceS cI cZ o20 o21 o22 z2))) := hD
  exact k_vret (u := (z1, z2)) hx hb hr hlocks hK hS eQ hf hP hD dX2_giveBack_16
