theorem hd_X4_length : yX4_length.cls ≠ "java/lang/invoke/MethodHandle" ∧ yX4_length.cls ≠ "java/lang/invoke/VarHandle" ∧ (parseMethodDescriptor yX4_length.desc).map (fun d => d.parameters.length) = some 0 := by decide +kernel
set_option maxHeartbeats 4000000 in
set_option maxRecDepth 100000 in
theorem c_X4_length (l : Launch) (D : va_G) (cI cZ : ClassId) (th0 : Nat) (th1 : Nat) (sz : Nat) (u_th : sP) (z : Int32 × Unit) (hf : f_X4_length u_th = some z) : Met l yX4_length wsX4_length rmX4_length (va_Pc [.ref th0] (wPr D cI cZ (ceP cI cZ th0 th1 u_th) sz)) (va_Qi (fun (r : Int32) (v : Unit) => (r, v) = z) (fun (v : Unit) t => wPo D cI cZ (va_A (ceP cI cZ th0 th1 u_th) sz) (ceP cI cZ th0 th1 u_th) t) (va_A (ceP cI cZ th0 th1 u_th) sz)) 0 0 (va_A (ceP cI cZ th0 th1 u_th) sz) := by
  refine k_enter (D := D) (cI := cI) (cZ := cZ) (wl := ceP cI cZ th0 th1 u_th) (sz := sz) (av := [.ref th0]) (cc := cX4_length) (maxL := 1) (ret := (some .int)) (Qc := fun A => va_Qi (fun (r : Int32) (v : Unit) => (r, v) = z) (fun (v : Unit) t => wPo D cI cZ (A) (ceP cI cZ th0 th1 u_th) t) (A)) (by decide) rfl (Nat.le_of_ble_eq_true rfl) ?_
  intro p e s m below meth c ls A Q H locs eQ hx hb hr hml hts hown hlocks hK hP hD hS hA hE hl
  have hown : s.vm.findClass RX4 = some m.cls := hown
  have hl : lv_has ls 1 [(0, .ref th0)] := hl
  have hi_X4 : ∀ w ∈ wsX40, w ∈ wsX4_length := fun w h => List.mem_cons_of_mem _ (List.mem_append_right _ h)
  rw [f_X4_length] at hf
  refine lv_aload_n hx hb dX4_length_0 rfl (lv_at hl 0 rfl) ?_
  refine va_get (D := D) (ci := 1) (v := .int (P_length u_th)) (C := RX4) (T := TX4) (N := 3) hx hb hts hi_X4 hown hK hP 0 rfl rfl 1 (by decide) (hts (.fieldLink RX4 15 "FairWheel$Pad" "length" "I") (List.mem_of_getElem? (i := 1) rfl)) (fun _ h9 => h9) rfl dX4_length_1 ?_
  exact k_iret (v := (P_length u_th)) (u := ()) hx hb hr hlocks hK hS eQ hf hP hD dX4_length_4
theorem hd_X4_signAt : yX4_signAt.cls ≠ "java/lang/invoke/MethodHandle" ∧ yX4_signAt.cls ≠ "java/lang/invoke/VarHandle" ∧ (parseMethodDescriptor yX4_signAt.desc).map (fun d => d.parameters.length) = some 1 := by decide +kernel
set_option maxHeartbeats 4000000 in
set_option maxRecDepth 100000 in
theorem c_X4_signAt (l : Launch) (D : va_G) (cI cZ : ClassId) (th0 : Nat) (th1 : Nat) (sz : Nat) (u_th : sP) (p1 : Int32) (z : Int32 × Unit) (hf : f_X4_signAt u_th p1 = some z) : Met l yX4_signAt wsX4_signAt rmX4_signAt (va_Pc [.ref th0, .int p1] (wPr D cI cZ (ceP cI cZ th0 th1 u_th) sz)) (va_Qi (fun (r : Int32) (v : Unit) => (r, v) = z) (fun (v : Unit) t => wPo D cI cZ (va_A (ceP cI cZ th0 th1 u_th) sz) (ceP cI cZ th0 th1 u_th) t) (va_A (ceP cI cZ th0 th1 u_th) sz)) 0 0 (va_A (ceP cI cZ th0 th1 u_th) sz) := by
  refine k_enter (D := D) (cI := cI) (cZ := cZ) (wl := ceP cI cZ th0 th1 u_th) (sz := sz) (av := [.ref th0, .int p1]) (cc := cX4_signAt) (maxL := 2) (ret := (some .int)) (Qc := fun A => va_Qi (fun (r : Int32) (v : Unit) => (r, v) = z) (fun (v : Unit) t => wPo D cI cZ (A) (ceP cI cZ th0 th1 u_th) t) (A)) (by decide) rfl (Nat.le_of_ble_eq_true rfl) ?_
  intro p e s m below meth c ls A Q H locs eQ hx hb hr hml hts hown hlocks hK hP hD hS hA hE hl
  have hown : s.vm.findClass RX4 = some m.cls := hown
  have hl : lv_has ls 2 [(0, .ref th0), (1, .int p1)] := hl
  have hi_X4 : ∀ w ∈ wsX40, w ∈ wsX4_signAt := fun w h => List.mem_cons_of_mem _ (List.mem_append_right _ h)
  rw [f_X4_signAt] at hf
  refine lv_aload_n hx hb dX4_signAt_0 rfl (lv_at hl 0 rfl) ?_
  refine va_get (D := D) (ci := 1) (v := .ref th1) (C := RX4) (T := TX4) (N := 3) hx hb hts hi_X4 hown hK hP 0 rfl rfl 0 (by decide) (hts (.fieldLink RX4 9 "FairWheel$Pad" "signs" "[I") (List.mem_of_getElem? (i := 1) rfl)) (fun _ h9 => h9) rfl dX4_signAt_1 ?_
  refine lv_iload_n hx hb dX4_signAt_4 rfl (lv_at hl 1 rfl) ?_
  obtain ⟨z1, hz_z1, hf⟩ := o_bind hf
  refine k_calli (va_runSN (As := [.ref th1, .int p1]) (rest := []) ⟨hx, hb, hml, hown, hts⟩ (c_X10_at l D cI cZ th1 H.size 60 (P_signs u_th) p1 z1 hz_z1) ⟨va_cnB 2 hts gX4_signAt_X10_at_n22 rfl rfl rfl (hE.1.1 (RX4, 22, yX10_at) (List.mem_of_getElem? (i := 1) rfl)) (hts (.initialized RX10) (List.mem_of_getElem? (i := 3) rfl)) hd_X10_at ⟨Nat.le_of_ble_eq_true rfl, Nat.le_of_ble_eq_true rfl⟩, hts (.static yX10_at) (List.mem_of_getElem? (i := 2) rfl), trivial⟩ (k_preS hK hP hD hS hA hE [1] (by decide) rfl) rfl rfl hl.1 rfl (lv_room (Nat.le_of_ble_eq_true rfl)) dX4_signAt_5 ⟨Nat.zero_le _, Nat.zero_le _⟩) hP hD hS hA [1] [none, some 0] 1 rfl (by decide) (by decide) rfl rfl (fun H locs hP hD hS => ?_)
  have hP : va_P D vwCl (ceP cI cZ th0 th1 u_th) H := hP
  have hD : va_D A (ceP cI cZ th0 th1 u_th) := hD
  exact k_iret (v := z1.1) (u := ()) hx hb hr hlocks hK hS eQ hf hP hD dX4_signAt_8
theorem hd_X4_write : yX4_write.cls ≠ "java/lang/invoke/MethodHandle" ∧ yX4_write.cls ≠ "java/lang/invoke/VarHandle" ∧ (parseMethodDescriptor yX4_write.desc).map (fun d => d.parameters.length) = some 1 := by decide +kernel
set_option maxHeartbeats 4000000 in
set_option maxRecDepth 100000 in
theorem c_X4_write (l : Launch) (D : va_G) (cI cZ : ClassId) (th0 : Nat) (th1 : Nat) (sz : Nat) (u_th : sP) (p1 : Int32) (z : sP) (hf : f_X4_write u_th p1 = some z) : Met l yX4_write wsX4_write rmX4_write (va_Pc [.ref th0, .int p1] (wPr D cI cZ (ceP cI cZ th0 th1 u_th) sz)) (va_Qv (fun (v : sP) => v = z) (fun (v : sP) t => wPo D cI cZ (va_A (ceP cI cZ th0 th1 u_th) sz) (ceP cI cZ th0 th1 v) t) (va_A (ceP cI cZ th0 th1 u_th) sz)) 0 0 (va_A (ceP cI cZ th0 th1 u_th) sz) := by
  refine k_enter (D := D) (cI := cI) (cZ := cZ) (wl := ceP cI cZ th0 th1 u_th) (sz := sz) (av := [.ref th0, .int p1]) (cc := cX4_write) (maxL := 2) (ret := none) (Qc := fun A => va_Qv (fun (v : sP) => v = z) (fun (v : sP) t => wPo D cI cZ (A) (ceP cI cZ th0 th1 v) t) (A)) (by decide) rfl (Nat.le_of_ble_eq_true rfl) ?_
  intro p e s m below meth c ls A Q H locs eQ hx hb hr hml hts hown hlocks hK hP hD hS hA hE hl
  have hown : s.vm.findClass RX4 = some m.cls := hown
  have hl : lv_has ls 2 [(0, .ref th0), (1, .int p1)] := hl
  have hi_X4 : ∀ w ∈ wsX40, w ∈ wsX4_write := fun w h => List.mem_cons_of_mem _ (List.mem_append_right _ h)
  rw [f_X4_write] at hf
  refine lv_aload_n hx hb dX4_write_0 rfl (lv_at hl 0 rfl) ?_
  refine va_get (D := D) (ci := 1) (v := .int (P_length u_th)) (C := RX4) (T := TX4) (N := 3) hx hb hts hi_X4 hown hK hP 0 rfl rfl 1 (by decide) (hts (.fieldLink RX4 15 "FairWheel$Pad" "length" "I") (List.mem_of_getElem? (i := 1) rfl)) (fun _ h9 => h9) rfl dX4_write_1 ?_
  refine lv_aload_n hx hb dX4_write_4 rfl (lv_at hl 0 rfl) ?_
  refine va_get (D := D) (ci := 1) (v := .ref th1) (C := RX4) (T := TX4) (N := 3) hx hb hts hi_X4 hown hK hP 0 rfl rfl 0 (by decide) (hts (.fieldLink RX4 9 "FairWheel$Pad" "signs" "[I") (List.mem_of_getElem? (i := 2) rfl)) (fun _ h9 => h9) rfl dX4_write_5 ?_
  refine va_alen hx hb hK hP 1 0 rfl rfl (v := (60 : Int32)) rfl dX4_write_8 ?_
  refine lv_icmp_ge (tgt := 54) hx hb dX4_write_9 (by decide) (fun c1 => ?_) (fun c1 => ?_)
  · have hf := (if_pos c1).symm.trans hf
    exact k_vret (u := u_th) hx hb hr hlocks hK hS eQ hf hP hD dX4_write_54
  · have hf := (if_neg c1).symm.trans hf
    refine lv_aload_n hx hb dX4_write_12 rfl (lv_at hl 0 rfl) ?_
    refine va_get (D := D) (ci := 1) (v := .ref th1) (C := RX4) (T := TX4) (N := 3) hx hb hts hi_X4 hown hK hP 0 rfl rfl 0 (by decide) (hts (.fieldLink RX4 9 "FairWheel$Pad" "signs" "[I") (List.mem_of_getElem? (i := 2) rfl)) (fun _ h9 => h9) rfl dX4_write_13 ?_
    refine lv_aload_n hx hb dX4_write_16 rfl (lv_at hl 0 rfl) ?_
    refine va_get (D := D) (ci := 1) (v := .int (P_length u_th)) (C := RX4) (T := TX4) (N := 3) hx hb hts hi_X4 hown hK hP 0 rfl rfl 1 (by decide) (hts (.fieldLink RX4 15 "FairWheel$Pad" "length" "I") (List.mem_of_getElem? (i := 1) rfl)) (fun _ h9 => h9) rfl dX4_write_17 ?_
    refine lv_iload_n hx hb dX4_write_20 rfl (lv_at hl 1 rfl) ?_
    obtain ⟨z2, hz_z2, hf⟩ := o_bind hf
    refine k_callv (va_runSN (As := [.ref th1, .int (P_length u_th), .int p1]) (rest := []) ⟨hx, hb, hml, hown, hts⟩ (c_X10_put l D cI cZ th1 H.size 60 (P_signs u_th) (P_length u_th) p1 z2 hz_z2) ⟨va_cnB 3 hts gX4_write_X10_put_n26 rfl rfl rfl (hE.1.1 (RX4, 26, yX10_put) (List.mem_of_getElem? (i := 2) rfl)) (hts (.initialized RX10) (List.mem_of_getElem? (i := 5) rfl)) hd_X10_put ⟨Nat.le_of_ble_eq_true rfl, Nat.le_of_ble_eq_true rfl⟩, hts (.static yX10_put) (List.mem_of_getElem? (i := 4) rfl), trivial⟩ (k_preS hK hP hD hS hA hE [1] (by decide) rfl) rfl rfl hl.1 rfl (lv_room (Nat.le_of_ble_eq_true rfl)) dX4_write_21 ⟨Nat.zero_le _, Nat.zero_le _⟩) hP hD hS hA [1] [none, some 0] 1 rfl (by decide) (by decide) rfl rfl (fun H locs hP hD hS => ?_)
    have hP : va_P D vwCl (ceP cI cZ th0 th1 (z2, (P_length u_th), (P_asked u_th))) H := hP
    have hD : va_D A (ceP cI cZ th0 th1 (z2, (P_length u_th), (P_asked u_th))) := hD
    refine lv_aload_n hx hb dX4_write_24 rfl (lv_at hl 0 rfl) ?_
    refine lv_dup hx hb dX4_write_25 rfl ?_
    refine va_get (D := D) (ci := 1) (v := .int (P_length u_th)) (C := RX4) (T := TX4) (N := 3) hx hb hts hi_X4 hown hK hP 0 rfl rfl 1 (by decide) (hts (.fieldLink RX4 15 "FairWheel$Pad" "length" "I") (List.mem_of_getElem? (i := 1) rfl)) (fun _ h9 => h9) rfl dX4_write_26 ?_
    refine lv_iconst (v := 1) hx hb dX4_write_29 (by decide) ?_
    refine lv_iadd hx hb dX4_write_30 ?_
    refine va_put (D := D) (ci := 1) (v := .int ((P_length u_th) + (1 : Int32))) (ty := .int) (C := RX4) (T := TX4) (N := 3) hx hb hts hi_X4 tyX4 tyX4_ok nmX4 hown hK hP hD hS 0 rfl rfl 1 (by decide) (hts (.fieldLink RX4 15 "FairWheel$Pad" "length" "I") (List.mem_of_getElem? (i := 1) rfl)) (fun _ h9 => h9) rfl (by decide +kernel) rfl rfl (Nat.le_of_ble_eq_true rfl) dX4_write_31 (fun H locs hP hD hS => ?_)
    have hP : va_P D vwCl (ceP cI cZ th0 th1 (z2, ((P_length u_th) + (1 : Int32)), (P_asked u_th))) H := hP
    have hD : va_D A (ceP cI cZ th0 th1 (z2, ((P_length u_th) + (1 : Int32)), (P_asked u_th))) := hD
    refine lv_aload_n hx hb dX4_write_34 rfl (lv_at hl 0 rfl) ?_
    refine lv_dup hx hb dX4_write_35 rfl ?_
    refine va_get (D := D) (ci := 1) (v := .int (P_asked u_th)) (C := RX4) (T := TX4) (N := 3) hx hb hts hi_X4 hown hK hP 0 rfl rfl 2 (by decide) (hts (.fieldLink RX4 19 "FairWheel$Pad" "asked" "I") (List.mem_of_getElem? (i := 3) rfl)) (fun _ h9 => h9) rfl dX4_write_36 ?_
    refine lv_iload_n hx hb dX4_write_39 rfl (lv_at hl 1 rfl) ?_
    refine lv_bipush (v := 63) hx hb dX4_write_40 (by decide) ?_
    refine lv_icmp_ne (tgt := 49) hx hb dX4_write_42 (by decide) (fun c3 => ?_) (fun c3 => ?_)
    · have hf := (if_neg c3).symm.trans hf
      refine lv_iconst (v := 0) hx hb dX4_write_49 (by decide) ?_
      refine lv_iadd hx hb dX4_write_50 ?_
      refine va_put (D := D) (ci := 1) (v := .int ((P_asked u_th) + (0 : Int32))) (ty := .int) (C := RX4) (T := TX4) (N := 3) hx hb hts hi_X4 tyX4 tyX4_ok nmX4 hown hK hP hD hS 0 rfl rfl 2 (by decide) (hts (.fieldLink RX4 19 "FairWheel$Pad" "asked" "I") (List.mem_of_getElem? (i := 3) rfl)) (fun _ h9 => h9) rfl (by decide +kernel) rfl rfl (Nat.le_of_ble_eq_true rfl) dX4_write_51 (fun H locs hP hD hS => ?_)
      have hP : va_P D vwCl (ceP cI cZ th0 th1 (z2, ((P_length u_th) + (1 : Int32)), ((P_asked u_th) + (0 : Int32)))) H := hP
      have hD : va_D A (ceP cI cZ th0 th1 (z2, ((P_length u_th) + (1 : Int32)), ((P_asked u_th) + (0 : Int32)))) := hD
      exact k_vret (u := (z2, ((P_length u_th) + (1 : Int32)), ((P_asked u_th) + (0 : Int32)))) hx hb hr hlocks hK hS eQ hf hP hD dX4_write_54
    · have hf := (if_pos c3).symm.trans hf
      refine lv_iconst (v := 1) hx hb dX4_write_45 (by decide) ?_
      refine lv_goto (tgt := 50) hx hb dX4_write_46 (by decide) ?_
      refine lv_iadd hx hb dX4_write_50 ?_
      refine va_put (D := D) (ci := 1) (v := .int ((P_asked u_th) + (1 : Int32))) (ty := .int) (C := RX4) (T := TX4) (N := 3) hx hb hts hi_X4 tyX4 tyX4_ok nmX4 hown hK hP hD hS 0 rfl rfl 2 (by decide) (hts (.fieldLink RX4 19 "FairWheel$Pad" "asked" "I") (List.mem_of_getElem? (i := 3) rfl)) (fun _ h9 => h9) rfl (by decide +kernel) rfl rfl (Nat.le_of_ble_eq_true rfl) dX4_write_51 (fun H locs hP hD hS => ?_)
      have hP : va_P D vwCl (ceP cI cZ th0 th1 (z2, ((P_length u_th) + (1 : Int32)), ((P_asked u_th) + (1 : Int32)))) H := hP
      have hD : va_D A (ceP cI cZ th0 th1 (z2, ((P_length u_th) + (1 : Int32)), ((P_asked u_th) + (1 : Int32)))) := hD
      exact k_vret (u := (z2, ((P_length u_th) + (1 : Int32)), ((P_asked u_th) + (1 : Int32)))) hx hb hr hlocks hK hS eQ hf hP hD dX4_write_54
theorem hd_X4_clear : yX4_clear.cls ≠ "java/lang/invoke/MethodHandle" ∧ yX4_clear.cls ≠ "java/lang/invoke/VarHandle" ∧ (parseMethodDescriptor yX4_clear.desc).map (fun d => d.parameters.length) = some 0 := by decide +kernel
set_option maxHeartbeats 4000000 in
set_option maxRecDepth 100000 in
theorem c_X4_clear (l : Launch) (D : va_G) (cI cZ : ClassId) (th0 : Nat) (th1 : Nat) (sz : Nat) (u_th : sP) (z : sP) (hf : f_X4_clear u_th = some z) : Met l yX4_clear wsX4_clear rmX4_clear (va_Pc [.ref th0] (wPr D cI cZ (ceP cI cZ th0 th1 u_th) sz)) (va_Qv (fun (v : sP) => v = z) (fun (v : sP) t => wPo D cI cZ (va_A (ceP cI cZ th0 th1 u_th) sz) (ceP cI cZ th0 th1 v) t) (va_A (ceP cI cZ th0 th1 u_th) sz)) 0 0 (va_A (ceP cI cZ th0 th1 u_th) sz) := by
  refine k_enter (D := D) (cI := cI) (cZ := cZ) (wl := ceP cI cZ th0 th1 u_th) (sz := sz) (av := [.ref th0]) (cc := cX4_clear) (maxL := 1) (ret := none) (Qc := fun A => va_Qv (fun (v : sP) => v = z) (fun (v : sP) t => wPo D cI cZ (A) (ceP cI cZ th0 th1 v) t) (A)) (by decide) rfl (Nat.le_of_ble_eq_true rfl) ?_
  intro p e s m below meth c ls A Q H locs eQ hx hb hr hml hts hown hlocks hK hP hD hS hA hE hl
  have hown : s.vm.findClass RX4 = some m.cls := hown
  have hl : lv_has ls 1 [(0, .ref th0)] := hl
  have hi_X4 : ∀ w ∈ wsX40, w ∈ wsX4_clear := fun w h => List.mem_cons_of_mem _ (List.mem_append_right _ h)
  rw [f_X4_clear] at hf
  refine lv_aload_n hx hb dX4_clear_0 rfl (lv_at hl 0 rfl) ?_
  refine lv_iconst (v := 0) hx hb dX4_clear_1 (by decide) ?_
  refine va_put (D := D) (ci := 1) (v := .int (0 : Int32)) (ty := .int) (C := RX4) (T := TX4) (N := 3) hx hb hts hi_X4 tyX4 tyX4_ok nmX4 hown hK hP hD hS 0 rfl rfl 1 (by decide) (hts (.fieldLink RX4 15 "FairWheel$Pad" "length" "I") (List.mem_of_getElem? (i := 1) rfl)) (fun _ h9 => h9) rfl (by decide +kernel) rfl rfl (Nat.le_of_ble_eq_true rfl) dX4_clear_2 (fun H locs hP hD hS => ?_)
  have hP : va_P D vwCl (ceP cI cZ th0 th1 ((P_signs u_th), (0 : Int32), (P_asked u_th))) H := hP
  have hD : va_D A (ceP cI cZ th0 th1 ((P_signs u_th), (0 : Int32), (P_asked u_th))) := hD
  refine lv_aload_n hx hb dX4_clear_5 rfl (lv_at hl 0 rfl) ?_
  refine lv_iconst (v := 0) hx hb dX4_clear_6 (by decide) ?_
  refine va_put (D := D) (ci := 1) (v := .int (0 : Int32)) (ty := .int) (C := RX4) (T := TX4) (N := 3) hx hb hts hi_X4 tyX4 tyX4_ok nmX4 hown hK hP hD hS 0 rfl rfl 2 (by decide) (hts (.fieldLink RX4 19 "FairWheel$Pad" "asked" "I") (List.mem_of_getElem? (i := 2) rfl)) (fun _ h9 => h9) rfl (by decide +kernel) rfl rfl (Nat.le_of_ble_eq_true rfl) dX4_clear_7 (fun H locs hP hD hS => ?_)
  have hP : va_P D vwCl (ceP cI cZ th0 th1 ((P_signs u_th), (0 : Int32), (0 : Int32))) H := hP
  have hD : va_D A (ceP cI cZ th0 th1 ((P_signs u_th), (0 : Int32), (0 : Int32))) := hD
  exact k_vret (u := ((P_signs u_th), (0 : Int32), (0 : Int32))) hx hb hr hlocks hK hS eQ hf hP hD dX4_clear_10
theorem hd_X4_asked : yX4_asked.cls ≠ "java/lang/invoke/MethodHandle" ∧ yX4_asked.cls ≠ "java/lang/invoke/VarHandle" ∧ (parseMethodDescriptor yX4_asked.desc).map (fun d => d.parameters.length) = some 0 := by decide +kernel
set_option maxHeartbeats 4000000 in
set_option maxRecDepth 100000 in
theorem c_X4_asked (l : Launch) (D : va_G) (cI cZ : ClassId) (th0 : Nat) (th1 : Nat) (sz : Nat) (u_th : sP) (z : Int32 × Unit) (hf : f_X4_asked u_th = some z) : Met l yX4_asked wsX4_asked rmX4_asked (va_Pc [.ref th0] (wPr D cI cZ (ceP cI cZ th0 th1 u_th) sz)) (va_Qi (fun (r : Int32) (v : Unit) => (r, v) = z) (fun (v : Unit) t => wPo D cI cZ (va_A (ceP cI cZ th0 th1 u_th) sz) (ceP cI cZ th0 th1 u_th) t) (va_A (ceP cI cZ th0 th1 u_th) sz)) 0 0 (va_A (ceP cI cZ th0 th1 u_th) sz) := by
  refine k_enter (D := D) (cI := cI) (cZ := cZ) (wl := ceP cI cZ th0 th1 u_th) (sz := sz) (av := [.ref th0]) (cc := cX4_asked) (maxL := 1) (ret := (some .int)) (Qc := fun A => va_Qi (fun (r : Int32) (v : Unit) => (r, v) = z) (fun (v : Unit) t => wPo D cI cZ (A) (ceP cI cZ th0 th1 u_th) t) (A)) (by decide) rfl (Nat.le_of_ble_eq_true rfl) ?_
  intro p e s m below meth c ls A Q H locs eQ hx hb hr hml hts hown hlocks hK hP hD hS hA hE hl
  have hown : s.vm.findClass RX4 = some m.cls := hown
  have hl : lv_has ls 1 [(0, .ref th0)] := hl
  have hi_X4 : ∀ w ∈ wsX40, w ∈ wsX4_asked := fun w h => List.mem_cons_of_mem _ (List.mem_append_right _ h)
  rw [f_X4_asked] at hf
  refine lv_aload_n hx hb dX4_asked_0 rfl (lv_at hl 0 rfl) ?_
  refine va_get (D := D) (ci := 1) (v := .int (P_asked u_th)) (C := RX4) (T := TX4) (N := 3) hx hb hts hi_X4 hown hK hP 0 rfl rfl 2 (by decide) (hts (.fieldLink RX4 19 "FairWheel$Pad" "asked" "I") (List.mem_of_getElem? (i := 1) rfl)) (fun _ h9 => h9) rfl dX4_asked_1 ?_
  exact k_iret (v := (P_asked u_th)) (u := ()) hx hb hr hlocks hK hS eQ hf hP hD dX4_asked_4
theorem hd_X4_getsIn : yX4_getsIn.cls ≠ "java/lang/invoke/MethodHandle" ∧ yX4_getsIn.cls ≠ "java/lang/invoke/VarHandle" ∧ (parseMethodDescriptor yX4_getsIn.desc).map (fun d => d.parameters.length) = some 1 := by decide +kernel
set_option maxHeartbeats 4000000 in
set_option maxRecDepth 100000 in
theorem c_X4_getsIn (l : Launch) (D : va_G) (cI cZ : ClassId) (sz : Nat) (p0 : Int32) (z : Int32 × Unit) (hf : f_X4_getsIn p0 = some z) : Met l yX4_getsIn wsX4_getsIn rmX4_getsIn (va_Pc [.int p0] (wPr D cI cZ (([] : va_W)) sz)) (va_Qi (fun (r : Int32) (v : Unit) => (r, v) = z) (fun (v : Unit) t => wPo D cI cZ (va_A (([] : va_W)) sz) (([] : va_W)) t) (va_A (([] : va_W)) sz)) 0 0 (va_A (([] : va_W)) sz) := by
  refine k_enter (D := D) (cI := cI) (cZ := cZ) (wl := ([] : va_W)) (sz := sz) (av := [.int p0]) (cc := cX4_getsIn) (maxL := 1) (ret := (some .boolean)) (Qc := fun A => va_Qi (fun (r : Int32) (v : Unit) => (r, v) = z) (fun (v : Unit) t => wPo D cI cZ (A) (([] : va_W)) t) (A)) (by decide) rfl (Nat.le_of_ble_eq_true rfl) ?_
  intro p e s m below meth c ls A Q H locs eQ hx hb hr hml hts hown hlocks hK hP hD hS hA hE hl
  have hown : s.vm.findClass RX4 = some m.cls := hown
  have hl : lv_has ls 1 [(0, .int p0)] := hl
  rw [f_X4_getsIn] at hf
  refine lv_iload_n hx hb dX4_getsIn_0 rfl (lv_at hl 0 rfl) ?_
  refine lv_bipush (v := 65) hx hb dX4_getsIn_1 (by decide) ?_
  refine lv_icmp_lt (tgt := 16) hx hb dX4_getsIn_3 (by decide) (fun c1 => ?_) (fun c1 => ?_)
  · have hf := (if_pos c1).symm.trans hf
    refine lv_iconst (v := 0) hx hb dX4_getsIn_16 (by decide) ?_
    exact k_zret (v := (0 : Int32)) (u := ()) hx hb hr hlocks hK hS eQ (by decide) hf hP hD dX4_getsIn_17
  · have hf := (if_neg c1).symm.trans hf
    refine lv_iload_n hx hb dX4_getsIn_6 rfl (lv_at hl 0 rfl) ?_
    refine lv_bipush (v := 73) hx hb dX4_getsIn_7 (by decide) ?_
    refine lv_icmp_ge (tgt := 16) hx hb dX4_getsIn_9 (by decide) (fun c2 => ?_) (fun c2 => ?_)
    · have hf := (if_pos c2).symm.trans hf
      refine lv_iconst (v := 0) hx hb dX4_getsIn_16 (by decide) ?_
      exact k_zret (v := (0 : Int32)) (u := ()) hx hb hr hlocks hK hS eQ (by decide) hf hP hD dX4_getsIn_17
    · have hf := (if_neg c2).symm.trans hf
      refine lv_iconst (v := 1) hx hb dX4_getsIn_12 (by decide) ?_
      refine lv_goto (tgt := 17) hx hb dX4_getsIn_13 (by decide) ?_
      exact k_zret (v := (1 : Int32)) (u := ()) hx hb hr hlocks hK hS eQ (by decide) hf hP hD dX4_getsIn_17
theorem hd_X4_getsOut : yX4_getsOut.cls ≠ "java/lang/invoke/MethodHandle" ∧ yX4_getsOut.cls ≠ "java/lang/invoke/VarHandle" ∧ (parseMethodDescriptor yX4_getsOut.desc).map (fun d => d.parameters.length) = some 1 := by decide +kernel
set_option maxHeartbeats 4000000 in
set_option maxRecDepth 100000 in
theorem c_X4_getsOut (l : Launch) (D : va_G) (cI cZ : ClassId) (sz : Nat) (p0 : Int32) (z : Int32 × Unit) (hf : f_X4_getsOut p0 = some z) : Met l yX4_getsOut wsX4_getsOut rmX4_getsOut (va_Pc [.int p0] (wPr D cI cZ (([] : va_W)) sz)) (va_Qi (fun (r : Int32) (v : Unit) => (r, v) = z) (fun (v : Unit) t => wPo D cI cZ (va_A (([] : va_W)) sz) (([] : va_W)) t) (va_A (([] : va_W)) sz)) 0 0 (va_A (([] : va_W)) sz) := by
  refine k_enter (D := D) (cI := cI) (cZ := cZ) (wl := ([] : va_W)) (sz := sz) (av := [.int p0]) (cc := cX4_getsOut) (maxL := 1) (ret := (some .boolean)) (Qc := fun A => va_Qi (fun (r : Int32) (v : Unit) => (r, v) = z) (fun (v : Unit) t => wPo D cI cZ (A) (([] : va_W)) t) (A)) (by decide) rfl (Nat.le_of_ble_eq_true rfl) ?_
  intro p e s m below meth c ls A Q H locs eQ hx hb hr hml hts hown hlocks hK hP hD hS hA hE hl
  have hown : s.vm.findClass RX4 = some m.cls := hown
  have hl : lv_has ls 1 [(0, .int p0)] := hl
  rw [f_X4_getsOut] at hf
  refine lv_iload_n hx hb dX4_getsOut_0 rfl (lv_at hl 0 rfl) ?_
  refine lv_bipush (v := 97) hx hb dX4_getsOut_1 (by decide) ?_
  refine lv_icmp_lt (tgt := 16) hx hb dX4_getsOut_3 (by decide) (fun c1 => ?_) (fun c1 => ?_)
  · have hf := (if_pos c1).symm.trans hf
    refine lv_iconst (v := 0) hx hb dX4_getsOut_16 (by decide) ?_
    exact k_zret (v := (0 : Int32)) (u := ()) hx hb hr hlocks hK hS eQ (by decide) hf hP hD dX4_getsOut_17
  · have hf := (if_neg c1).symm.trans hf
    refine lv_iload_n hx hb dX4_getsOut_6 rfl (lv_at hl 0 rfl) ?_
    refine lv_bipush (v := 105) hx hb dX4_getsOut_7 (by decide) ?_
    refine lv_icmp_ge (tgt := 16) hx hb dX4_getsOut_9 (by decide) (fun c2 => ?_) (fun c2 => ?_)
    · have hf := (if_pos c2).symm.trans hf
      refine lv_iconst (v := 0) hx hb dX4_getsOut_16 (by decide) ?_
      exact k_zret (v := (0 : Int32)) (u := ()) hx hb hr hlocks hK hS eQ (by decide) hf hP hD dX4_getsOut_17
    · have hf := (if_neg c2).symm.trans hf
      refine lv_iconst (v := 1) hx hb dX4_getsOut_12 (by decide) ?_
      refine lv_goto (tgt := 17) hx hb dX4_getsOut_13 (by decide) ?_
      exact k_zret (v := (1 : Int32)) (u := ()) hx hb hr hlocks hK hS eQ (by decide) hf hP hD dX4_getsOut_17
theorem hd_X4_isDigit : yX4_isDigit.cls ≠ "java/lang/invoke/MethodHandle" ∧ yX4_isDigit.cls ≠ "java/lang/invoke/VarHandle" ∧ (parseMethodDescriptor yX4_isDigit.desc).map (fun d => d.parameters.length) = some 1 := by decide +kernel
set_option maxHeartbeats 4000000 in
set_option maxRecDepth 100000 in
theorem c_X4_isDigit (l : Launch) (D : va_G) (cI cZ : ClassId) (sz : Nat) (p0 : Int32) (z : Int32 × Unit) (hf : f_X4_isDigit p0 = some z) : Met l yX4_isDigit wsX4_isDigit rmX4_isDigit (va_Pc [.int p0] (wPr D cI cZ (([] : va_W)) sz)) (va_Qi (fun (r : Int32) (v : Unit) => (r, v) = z) (fun (v : Unit) t => wPo D cI cZ (va_A (([] : va_W)) sz) (([] : va_W)) t) (va_A (([] : va_W)) sz)) 0 0 (va_A (([] : va_W)) sz) := by
  refine k_enter (D := D) (cI := cI) (cZ := cZ) (wl := ([] : va_W)) (sz := sz) (av := [.int p0]) (cc := cX4_isDigit) (maxL := 1) (ret := (some .boolean)) (Qc := fun A => va_Qi (fun (r : Int32) (v : Unit) => (r, v) = z) (fun (v : Unit) t => wPo D cI cZ (A) (([] : va_W)) t) (A)) (by decide) rfl (Nat.le_of_ble_eq_true rfl) ?_
  intro p e s m below meth c ls A Q H locs eQ hx hb hr hml hts hown hlocks hK hP hD hS hA hE hl
  have hown : s.vm.findClass RX4 = some m.cls := hown
  have hl : lv_has ls 1 [(0, .int p0)] := hl
  rw [f_X4_isDigit] at hf
  refine lv_iload_n hx hb dX4_isDigit_0 rfl (lv_at hl 0 rfl) ?_
  refine lv_bipush (v := 48) hx hb dX4_isDigit_1 (by decide) ?_
  refine lv_icmp_lt (tgt := 16) hx hb dX4_isDigit_3 (by decide) (fun c1 => ?_) (fun c1 => ?_)
  · have hf := (if_pos c1).symm.trans hf
    refine lv_iconst (v := 0) hx hb dX4_isDigit_16 (by decide) ?_
    exact k_zret (v := (0 : Int32)) (u := ()) hx hb hr hlocks hK hS eQ (by decide) hf hP hD dX4_isDigit_17
  · have hf := (if_neg c1).symm.trans hf
    refine lv_iload_n hx hb dX4_isDigit_6 rfl (lv_at hl 0 rfl) ?_
    refine lv_bipush (v := 57) hx hb dX4_isDigit_7 (by decide) ?_
    refine lv_icmp_gt (tgt := 16) hx hb dX4_isDigit_9 (by decide) (fun c2 => ?_) (fun c2 => ?_)
    · have hf := (if_pos c2).symm.trans hf
      refine lv_iconst (v := 0) hx hb dX4_isDigit_16 (by decide) ?_
      exact k_zret (v := (0 : Int32)) (u := ()) hx hb hr hlocks hK hS eQ (by decide) hf hP hD dX4_isDigit_17
    · have hf := (if_neg c2).symm.trans hf
      refine lv_iconst (v := 1) hx hb dX4_isDigit_12 (by decide) ?_
      refine lv_goto (tgt := 17) hx hb dX4_isDigit_13 (by decide) ?_
      exact k_zret (v := (1 : Int32)) (u := ()) hx hb hr hlocks hK hS eQ (by decide) hf hP hD dX4_isDigit_17
theorem hd_X4_isMotion : yX4_isMotion.cls ≠ "java/lang/invoke/MethodHandle" ∧ yX4_isMotion.cls ≠ "java/lang/invoke/VarHandle" ∧ (parseMethodDescriptor yX4_isMotion.desc).map (fun d => d.parameters.length) = some 1 := by decide +kernel
set_option maxHeartbeats 4000000 in
set_option maxRecDepth 100000 in
theorem c_X4_isMotion (l : Launch) (D : va_G) (cI cZ : ClassId) (sz : Nat) (p0 : Int32) (z : Int32 × Unit) (hf : f_X4_isMotion p0 = some z) : Met l yX4_isMotion wsX4_isMotion rmX4_isMotion (va_Pc [.int p0] (wPr D cI cZ (([] : va_W)) sz)) (va_Qi (fun (r : Int32) (v : Unit) => (r, v) = z) (fun (v : Unit) t => wPo D cI cZ (va_A (([] : va_W)) sz) (([] : va_W)) t) (va_A (([] : va_W)) sz)) 0 0 (va_A (([] : va_W)) sz) := by
  refine k_enter (D := D) (cI := cI) (cZ := cZ) (wl := ([] : va_W)) (sz := sz) (av := [.int p0]) (cc := cX4_isMotion) (maxL := 1) (ret := (some .boolean)) (Qc := fun A => va_Qi (fun (r : Int32) (v : Unit) => (r, v) = z) (fun (v : Unit) t => wPo D cI cZ (A) (([] : va_W)) t) (A)) (by decide) rfl (Nat.le_of_ble_eq_true rfl) ?_
  intro p e s m below meth c ls A Q H locs eQ hx hb hr hml hts hown hlocks hK hP hD hS hA hE hl
  have hown : s.vm.findClass RX4 = some m.cls := hown
  have hl : lv_has ls 1 [(0, .int p0)] := hl
  rw [f_X4_isMotion] at hf
  refine lv_iload_n hx hb dX4_isMotion_0 rfl (lv_at hl 0 rfl) ?_
  refine lv_bipush (v := 94) hx hb dX4_isMotion_1 (by decide) ?_
  refine lv_icmp_eq (tgt := 18) hx hb dX4_isMotion_3 (by decide) (fun c1 => ?_) (fun c1 => ?_)
  · have hf := (if_pos c1).symm.trans hf
    refine lv_iconst (v := 1) hx hb dX4_isMotion_18 (by decide) ?_
    refine lv_goto (tgt := 23) hx hb dX4_isMotion_19 (by decide) ?_
    exact k_zret (v := (1 : Int32)) (u := ()) hx hb hr hlocks hK hS eQ (by decide) hf hP hD dX4_isMotion_23
  · have hf := (if_neg c1).symm.trans hf
    refine lv_iload_n hx hb dX4_isMotion_6 rfl (lv_at hl 0 rfl) ?_
    refine lv_bipush (v := 62) hx hb dX4_isMotion_7 (by decide) ?_
    refine lv_icmp_eq (tgt := 18) hx hb dX4_isMotion_9 (by decide) (fun c2 => ?_) (fun c2 => ?_)
    · have hf := (if_pos c2).symm.trans hf
      refine lv_iconst (v := 1) hx hb dX4_isMotion_18 (by decide) ?_
      refine lv_goto (tgt := 23) hx hb dX4_isMotion_19 (by decide) ?_
      exact k_zret (v := (1 : Int32)) (u := ()) hx hb hr hlocks hK hS eQ (by decide) hf hP hD dX4_isMotion_23
    · have hf := (if_neg c2).symm.trans hf
      refine lv_iload_n hx hb dX4_isMotion_12 rfl (lv_at hl 0 rfl) ?_
      refine lv_bipush (v := 60) hx hb dX4_isMotion_13 (by decide) ?_
      refine lv_icmp_ne (tgt := 22) hx hb dX4_isMotion_15 (by decide) (fun c3 => ?_) (fun c3 => ?_)
      · have hf := (if_neg c3).symm.trans hf
        refine lv_iconst (v := 0) hx hb dX4_isMotion_22 (by decide) ?_
        exact k_zret (v := (0 : Int32)) (u := ()) hx hb hr hlocks hK hS eQ (by decide) hf hP hD dX4_isMotion_23
      · have hf := (if_pos c3).symm.trans hf
        refine lv_iconst (v := 1) hx hb dX4_isMotion_18 (by decide) ?_
        refine lv_goto (tgt := 23) hx hb dX4_isMotion_19 (by decide) ?_
        exact k_zret (v := (1 : Int32)) (u := ()) hx hb hr hlocks hK hS eQ (by decide) hf hP hD dX4_isMotion_23
theorem hd_X4_firstFault : yX4_firstFault.cls ≠ "java/lang/invoke/MethodHandle" ∧ yX4_firstFault.cls ≠ "java/lang/invoke/VarHandle" ∧ (parseMethodDescriptor yX4_firstFault.desc).map (fun d => d.parameters.length) = some 0 := by decide +kernel
set_option maxHeartbeats 4000000 in
set_option maxRecDepth 100000 in
theorem c_X4_firstFault (l : Launch) (D : va_G) (cI cZ : ClassId) (th0 : Nat) (th1 : Nat) (sz : Nat) (u_th : sP) (z : Int32 × Unit) (hf : f_X4_firstFault u_th = some z) : Met l yX4_firstFault wsX4_firstFault rmX4_firstFault (va_Pc [.ref th0] (wPr D cI cZ (ceP cI cZ th0 th1 u_th) sz)) (va_Qi (fun (r : Int32) (v : Unit) => (r, v) = z) (fun (v : Unit) t => wPo D cI cZ (va_A (ceP cI cZ th0 th1 u_th) sz) (ceP cI cZ th0 th1 u_th) t) (va_A (ceP cI cZ th0 th1 u_th) sz)) 0 0 (va_A (ceP cI cZ th0 th1 u_th) sz) := by
  refine k_enter (D := D) (cI := cI) (cZ := cZ) (wl := ceP cI cZ th0 th1 u_th) (sz := sz) (av := [.ref th0]) (cc := cX4_firstFault) (maxL := 5) (ret := (some .int)) (Qc := fun A => va_Qi (fun (r : Int32) (v : Unit) => (r, v) = z) (fun (v : Unit) t => wPo D cI cZ (A) (ceP cI cZ th0 th1 u_th) t) (A)) (by decide) rfl (Nat.le_of_ble_eq_true rfl) ?_
  intro p e s m below meth c ls A Q H locs eQ hx hb hr hml hts hown hlocks hK hP hD hS hA hE hl
  have hown : s.vm.findClass RX4 = some m.cls := hown
  have hl : lv_has ls 5 [(0, .ref th0)] := hl
  have hi_X4 : ∀ w ∈ wsX40, w ∈ wsX4_firstFault := fun w h => List.mem_cons_of_mem _ (List.mem_append_right _ h)
  have hJ70 : ∀ (K_4 : Int32 → Int32 → Option (Int32 × Unit)), (∀ (v1 : Int32) (v2 : Int32) (H : Heap) (locs : List Loc) (ls : Array Slot), lv_has ls 5 [(0, .ref th0), (1, .int v1), (2, .int v2)] → va_P D vwCl (ceP cI cZ th0 th1 u_th) H → va_D A (ceP cI cZ th0 th1 u_th) → va_S A s.heap H locs → K_4 v1 v2 = some z → W p l e (headSpec wsX4_firstFault rmX4_firstFault).room s m ([.ref th0] : List Value).toArray below meth c H locs 0 0 Q (F0 m 4 ls [])) → ∀ (v1 : Int32) (v2 : Int32) (v3 : Int32) (s0 : Int32) (H : Heap) (locs : List Loc) (ls : Array Slot), lv_has ls 5 [(0, .ref th0), (1, .int v1), (2, .int v2), (3, .int v3)] → va_P D vwCl (ceP cI cZ th0 th1 u_th) H → va_D A (ceP cI cZ th0 th1 u_th) → va_S A s.heap H locs → f_X4_firstFault_J70 u_th K_4 v1 v2 v3 s0 = some z → W p l e (headSpec wsX4_firstFault rmX4_firstFault).room s m ([.ref th0] : List Value).toArray below meth c H locs 0 0 Q (F0 m 70 ls [.int s0]) := by
    intro K_4 hK_4 v1 v2 v3 s0 H locs ls hl hP hD hS hf
    rw [f_X4_firstFault_J70] at hf
    refine lv_istore (lv' := [(4, .int s0), (0, .ref th0), (1, .int v1), (2, .int v2), (3, .int v3)]) hx hb dX4_firstFault_70 hl (by decide) rfl (fun ls hl => ?_)
    refine lv_iload hx hb dX4_firstFault_72 (lv_at hl 0 rfl) ?_
    refine lv_if_ne (tgt := 79) hx hb dX4_firstFault_74 (by decide) (fun c6 => ?_) (fun c6 => ?_)
    · have hf := (if_neg c6).symm.trans hf
      refine lv_iload_n hx hb dX4_firstFault_79 rfl (lv_at hl 2 rfl) ?_
      refine lv_iload_n hx hb dX4_firstFault_80 rfl (lv_at hl 4 rfl) ?_
      refine lv_bipush (v := 63) hx hb dX4_firstFault_81 (by decide) ?_
      refine lv_icmp_ne (tgt := 90) hx hb dX4_firstFault_83 (by decide) (fun c7 => ?_) (fun c7 => ?_)
      · have hf := (if_neg c7).symm.trans hf
        refine lv_iconst (v := 0) hx hb dX4_firstFault_90 (by decide) ?_
        refine lv_iadd hx hb dX4_firstFault_91 ?_
        refine lv_istore_n (lv' := [(1, .int (v1 + (0 : Int32))), (4, .int s0), (0, .ref th0), (2, .int v2), (3, .int v3)]) hx hb dX4_firstFault_92 rfl hl (by decide) rfl (fun ls hl => ?_)
        refine lv_iinc (v := (v2 + (1 : Int32))) (lv' := [(2, .int (v2 + (1 : Int32))), (1, .int (v1 + (0 : Int32))), (4, .int s0), (0, .ref th0), (3, .int v3)]) hx hb dX4_firstFault_93 hl (k := 3) rfl rfl (by decide) rfl (fun ls hl => ?_)
        refine lv_goto (tgt := 4) hx hb dX4_firstFault_96 (by decide) ?_
        exact hK_4 (v1 + (0 : Int32)) (v2 + (1 : Int32)) _ _ ls (lv_sub hl [3, 1, 0] rfl) hP hD hS hf
      · have hf := (if_pos c7).symm.trans hf
        refine lv_iconst (v := 1) hx hb dX4_firstFault_86 (by decide) ?_
        refine lv_goto (tgt := 91) hx hb dX4_firstFault_87 (by decide) ?_
        refine lv_iadd hx hb dX4_firstFault_91 ?_
        refine lv_istore_n (lv' := [(1, .int (v1 + (1 : Int32))), (4, .int s0), (0, .ref th0), (2, .int v2), (3, .int v3)]) hx hb dX4_firstFault_92 rfl hl (by decide) rfl (fun ls hl => ?_)
        refine lv_iinc (v := (v2 + (1 : Int32))) (lv' := [(2, .int (v2 + (1 : Int32))), (1, .int (v1 + (1 : Int32))), (4, .int s0), (0, .ref th0), (3, .int v3)]) hx hb dX4_firstFault_93 hl (k := 3) rfl rfl (by decide) rfl (fun ls hl => ?_)
        refine lv_goto (tgt := 4) hx hb dX4_firstFault_96 (by decide) ?_
        exact hK_4 (v1 + (1 : Int32)) (v2 + (1 : Int32)) _ _ ls (lv_sub hl [3, 1, 0] rfl) hP hD hS hf
    · have hf := (if_pos c6).symm.trans hf
      refine lv_iload_n hx hb dX4_firstFault_77 rfl (lv_at hl 3 rfl) ?_
      exact k_iret (v := v2) (u := ()) hx hb hr hlocks hK hS eQ hf hP hD dX4_firstFault_78
  have hL4 : ∀ (n : Nat), ∀ (v1 : Int32) (v2 : Int32) (H : Heap) (locs : List Loc) (ls : Array Slot), lv_has ls 5 [(0, .ref th0), (1, .int v1), (2, .int v2)] → va_P D vwCl (ceP cI cZ th0 th1 u_th) H → va_D A (ceP cI cZ th0 th1 u_th) → va_S A s.heap H locs → f_X4_firstFault_L4 u_th n v1 v2 = some z → W p l e (headSpec wsX4_firstFault rmX4_firstFault).room s m ([.ref th0] : List Value).toArray below meth c H locs 0 0 Q (F0 m 4 ls []) := by
    intro n
    induction n with
    | zero =>
      intro v1 v2 H locs ls hl hP hD hS hf
      exact absurd (show (none : Option (Int32 × Unit)) = some z from hf) (fun h => by cases h)
    | succ n ih =>
      intro v1 v2 H locs ls hl hP hD hS hf
      rw [f_X4_firstFault_L4] at hf
      refine lv_iload_n hx hb dX4_firstFault_4 rfl (lv_at hl 2 rfl) ?_
      refine lv_aload_n hx hb dX4_firstFault_5 rfl (lv_at hl 0 rfl) ?_
      refine va_get (D := D) (ci := 1) (v := .int (P_length u_th)) (C := RX4) (T := TX4) (N := 3) hx hb hts hi_X4 hown hK hP 0 rfl rfl 1 (by decide) (hts (.fieldLink RX4 15 "FairWheel$Pad" "length" "I") (List.mem_of_getElem? (i := 1) rfl)) (fun _ h9 => h9) rfl dX4_firstFault_6 ?_
      refine lv_icmp_ge (tgt := 99) hx hb dX4_firstFault_9 (by decide) (fun c1 => ?_) (fun c1 => ?_)
      · have hf := (if_pos c1).symm.trans hf
        refine lv_bipush (v := -6) hx hb dX4_firstFault_99 (by decide) ?_
        exact k_iret (v := (-6 : Int32)) (u := ()) hx hb hr hlocks hK hS eQ hf hP hD dX4_firstFault_101
      · have hf := (if_neg c1).symm.trans hf
        refine lv_aload_n hx hb dX4_firstFault_12 rfl (lv_at hl 0 rfl) ?_
        refine lv_iload_n hx hb dX4_firstFault_13 rfl (lv_at hl 2 rfl) ?_
        obtain ⟨z2, hz_z2, hf⟩ := o_bind hf
        refine k_calli (va_runV (As := [.int v2]) (rest := []) ⟨hx, hb, hml, hown, hts⟩ (c_X4_signAt l D cI cZ th0 th1 H.size u_th v2 z2 hz_z2) (cwV 1 hts gX4_firstFault_X4_signAt rfl rfl rfl ⟨rfl, hd_X4_signAt⟩ ⟨Nat.le_of_ble_eq_true rfl, Nat.le_of_ble_eq_true rfl⟩) (k_preV hK hP hD hS hA hE [0, 1] (by decide) rfl (ci := 1) rfl rfl) rfl rfl hl.1 rfl (lv_room (Nat.le_of_ble_eq_true rfl)) dX4_firstFault_14 ⟨Nat.zero_le _, Nat.zero_le _⟩) hP hD hS hA [0, 1] [some 0, some 1] 2 rfl (by decide) (by decide) rfl rfl (fun H locs hP hD hS => ?_)
        have hP : va_P D vwCl (ceP cI cZ th0 th1 u_th) H := hP
        have hD : va_D A (ceP cI cZ th0 th1 u_th) := hD
        refine lv_istore_n (lv' := [(3, .int z2.1), (0, .ref th0), (1, .int v1), (2, .int v2)]) hx hb dX4_firstFault_17 rfl hl (by decide) rfl (fun ls hl => ?_)
        refine lv_iload_n hx hb dX4_firstFault_18 rfl (lv_at hl 0 rfl) ?_
        refine lv_bipush (v := 63) hx hb dX4_firstFault_19 (by decide) ?_
        refine lv_icmp_ne (tgt := 37) hx hb dX4_firstFault_21 (by decide) (fun c3 => ?_) (fun c3 => ?_)
        · have hf := (if_neg c3).symm.trans hf
          refine lv_iload_n hx hb dX4_firstFault_37 rfl (lv_at hl 0 rfl) ?_
          obtain ⟨z4, hz_z4, hf⟩ := o_bind hf
          refine k_calli (va_runS (As := [.int z2.1]) (rest := []) ⟨hx, hb, hml, hown, hts⟩ (c_X4_getsIn l D cI cZ  H.size z2.1 z4 hz_z4) (va_cwS 1 hts gX4_firstFault_X4_getsIn rfl rfl rfl hd_X4_getsIn ⟨Nat.le_of_ble_eq_true rfl, Nat.le_of_ble_eq_true rfl⟩) (k_preS hK hP hD hS hA hE [] (by decide) rfl) rfl rfl hl.1 rfl (lv_room (Nat.le_of_ble_eq_true rfl)) dX4_firstFault_38 ⟨Nat.zero_le _, Nat.zero_le _⟩) hP hD hS hA [] [none, none] 0 rfl (by decide) (by decide) rfl rfl (fun H locs hP hD hS => ?_)
          have hP : va_P D vwCl (ceP cI cZ th0 th1 u_th) H := hP
          have hD : va_D A (ceP cI cZ th0 th1 u_th) := hD
          refine lv_if_ne (tgt := 65) hx hb dX4_firstFault_41 (by decide) (fun c5 => ?_) (fun c5 => ?_)
          · have hf := (if_neg c5).symm.trans hf
            refine lv_iconst (v := 1) hx hb dX4_firstFault_65 (by decide) ?_
            refine lv_goto (tgt := 70) hx hb dX4_firstFault_66 (by decide) ?_
            exact hJ70 (f_X4_firstFault_L4 u_th n) ih v1 v2 z2.1 (1 : Int32) _ _ ls (lv_sub hl [1, 2, 3, 0] rfl) hP hD hS hf
          · have hf := (if_pos c5).symm.trans hf
            refine lv_iload_n hx hb dX4_firstFault_44 rfl (lv_at hl 0 rfl) ?_
            obtain ⟨z8, hz_z8, hf⟩ := o_bind hf
            refine k_calli (va_runS (As := [.int z2.1]) (rest := []) ⟨hx, hb, hml, hown, hts⟩ (c_X4_getsOut l D cI cZ  H.size z2.1 z8 hz_z8) (va_cwS 1 hts gX4_firstFault_X4_getsOut rfl rfl rfl hd_X4_getsOut ⟨Nat.le_of_ble_eq_true rfl, Nat.le_of_ble_eq_true rfl⟩) (k_preS hK hP hD hS hA hE [] (by decide) rfl) rfl rfl hl.1 rfl (lv_room (Nat.le_of_ble_eq_true rfl)) dX4_firstFault_45 ⟨Nat.zero_le _, Nat.zero_le _⟩) hP hD hS hA [] [none, none] 0 rfl (by decide) (by decide) rfl rfl (fun H locs hP hD hS => ?_)
            have hP : va_P D vwCl (ceP cI cZ th0 th1 u_th) H := hP
            have hD : va_D A (ceP cI cZ th0 th1 u_th) := hD
            refine lv_if_ne (tgt := 65) hx hb dX4_firstFault_48 (by decide) (fun c9 => ?_) (fun c9 => ?_)
            · have hf := (if_neg c9).symm.trans hf
              refine lv_iconst (v := 1) hx hb dX4_firstFault_65 (by decide) ?_
              refine lv_goto (tgt := 70) hx hb dX4_firstFault_66 (by decide) ?_
              exact hJ70 (f_X4_firstFault_L4 u_th n) ih v1 v2 z2.1 (1 : Int32) _ _ ls (lv_sub hl [1, 2, 3, 0] rfl) hP hD hS hf
            · have hf := (if_pos c9).symm.trans hf
              refine lv_iload_n hx hb dX4_firstFault_51 rfl (lv_at hl 0 rfl) ?_
              obtain ⟨z10, hz_z10, hf⟩ := o_bind hf
              refine k_calli (va_runS (As := [.int z2.1]) (rest := []) ⟨hx, hb, hml, hown, hts⟩ (c_X4_isDigit l D cI cZ  H.size z2.1 z10 hz_z10) (va_cwS 1 hts gX4_firstFault_X4_isDigit rfl rfl rfl hd_X4_isDigit ⟨Nat.le_of_ble_eq_true rfl, Nat.le_of_ble_eq_true rfl⟩) (k_preS hK hP hD hS hA hE [] (by decide) rfl) rfl rfl hl.1 rfl (lv_room (Nat.le_of_ble_eq_true rfl)) dX4_firstFault_52 ⟨Nat.zero_le _, Nat.zero_le _⟩) hP hD hS hA [] [none, none] 0 rfl (by decide) (by decide) rfl rfl (fun H locs hP hD hS => ?_)
              have hP : va_P D vwCl (ceP cI cZ th0 th1 u_th) H := hP
              have hD : va_D A (ceP cI cZ th0 th1 u_th) := hD
              refine lv_if_ne (tgt := 65) hx hb dX4_firstFault_55 (by decide) (fun c11 => ?_) (fun c11 => ?_)
              · have hf := (if_neg c11).symm.trans hf
                refine lv_iconst (v := 1) hx hb dX4_firstFault_65 (by decide) ?_
                refine lv_goto (tgt := 70) hx hb dX4_firstFault_66 (by decide) ?_
                exact hJ70 (f_X4_firstFault_L4 u_th n) ih v1 v2 z2.1 (1 : Int32) _ _ ls (lv_sub hl [1, 2, 3, 0] rfl) hP hD hS hf
              · have hf := (if_pos c11).symm.trans hf
                refine lv_iload_n hx hb dX4_firstFault_58 rfl (lv_at hl 0 rfl) ?_
                obtain ⟨z12, hz_z12, hf⟩ := o_bind hf
                refine k_calli (va_runS (As := [.int z2.1]) (rest := []) ⟨hx, hb, hml, hown, hts⟩ (c_X4_isMotion l D cI cZ  H.size z2.1 z12 hz_z12) (va_cwS 1 hts gX4_firstFault_X4_isMotion rfl rfl rfl hd_X4_isMotion ⟨Nat.le_of_ble_eq_true rfl, Nat.le_of_ble_eq_true rfl⟩) (k_preS hK hP hD hS hA hE [] (by decide) rfl) rfl rfl hl.1 rfl (lv_room (Nat.le_of_ble_eq_true rfl)) dX4_firstFault_59 ⟨Nat.zero_le _, Nat.zero_le _⟩) hP hD hS hA [] [none, none] 0 rfl (by decide) (by decide) rfl rfl (fun H locs hP hD hS => ?_)
                have hP : va_P D vwCl (ceP cI cZ th0 th1 u_th) H := hP
                have hD : va_D A (ceP cI cZ th0 th1 u_th) := hD
                refine lv_if_eq (tgt := 69) hx hb dX4_firstFault_62 (by decide) (fun c13 => ?_) (fun c13 => ?_)
                · have hf := (if_pos c13).symm.trans hf
                  refine lv_iconst (v := 0) hx hb dX4_firstFault_69 (by decide) ?_
                  exact hJ70 (f_X4_firstFault_L4 u_th n) ih v1 v2 z2.1 (0 : Int32) _ _ ls (lv_sub hl [1, 2, 3, 0] rfl) hP hD hS hf
                · have hf := (if_neg c13).symm.trans hf
                  refine lv_iconst (v := 1) hx hb dX4_firstFault_65 (by decide) ?_
                  refine lv_goto (tgt := 70) hx hb dX4_firstFault_66 (by decide) ?_
                  exact hJ70 (f_X4_firstFault_L4 u_th n) ih v1 v2 z2.1 (1 : Int32) _ _ ls (lv_sub hl [1, 2, 3, 0] rfl) hP hD hS hf
        · have hf := (if_pos c3).symm.trans hf
          refine lv_iload_n hx hb dX4_firstFault_24 rfl (lv_at hl 2 rfl) ?_
          refine lv_iconst (v := 3) hx hb dX4_firstFault_25 (by decide) ?_
          refine lv_icmp_ge (tgt := 33) hx hb dX4_firstFault_26 (by decide) (fun c14 => ?_) (fun c14 => ?_)
          · have hf := (if_pos c14).symm.trans hf
            refine lv_iconst (v := 0) hx hb dX4_firstFault_33 (by decide) ?_
            refine lv_goto (tgt := 70) hx hb dX4_firstFault_34 (by decide) ?_
            exact hJ70 (f_X4_firstFault_L4 u_th n) ih v1 v2 z2.1 (0 : Int32) _ _ ls (lv_sub hl [1, 2, 3, 0] rfl) hP hD hS hf
          · have hf := (if_neg c14).symm.trans hf
            refine lv_iconst (v := 1) hx hb dX4_firstFault_29 (by decide) ?_
            refine lv_goto (tgt := 70) hx hb dX4_firstFault_30 (by decide) ?_
            exact hJ70 (f_X4_firstFault_L4 u_th n) ih v1 v2 z2.1 (1 : Int32) _ _ ls (lv_sub hl [1, 2, 3, 0] rfl) hP hD hS hf
  rw [f_X4_firstFault] at hf
  refine lv_iconst (v := 0) hx hb dX4_firstFault_0 (by decide) ?_
  refine lv_istore_n (lv' := [(1, .int (0 : Int32)), (0, .ref th0)]) hx hb dX4_firstFault_1 rfl hl (by decide) rfl (fun ls hl => ?_)
  refine lv_iconst (v := 0) hx hb dX4_firstFault_2 (by decide) ?_
  refine lv_istore_n (lv' := [(2, .int (0 : Int32)), (1, .int (0 : Int32)), (0, .ref th0)]) hx hb dX4_firstFault_3 rfl hl (by decide) rfl (fun ls hl => ?_)
  exact hL4 oF (0 : Int32) (0 : Int32) _ _ ls (lv_sub hl [2, 1, 0] rfl) hP hD hS hf
theorem hd_X6_copyFrom : yX6_copyFrom.cls ≠ "java/lang/invoke/MethodHandle" ∧ yX6_copyFrom.cls ≠ "java/lang/invoke/VarHandle" ∧ (parseMethodDescriptor yX6_copyFrom.desc).map (fun d => d.parameters.length) = some 1 := by decide +kernel
set_option maxHeartbeats 4000000 in
set_option maxRecDepth 100000 in
theorem c_X6_copyFrom (l : Launch) (D : va_G) (cI cZ : ClassId) (th0 : Nat) (th1 : Nat) (th2 : Nat) (o10 : Nat) (o11 : Nat) (o12 : Nat) (sz : Nat) (u_th : sS) (u_o1 : sS) (z : sS) (hf : f_X6_copyFrom u_th u_o1 = some z) : Met l yX6_copyFrom wsX6_copyFrom rmX6_copyFrom (va_Pc [.ref th0, .ref o10] (wPr D cI cZ (ceS cI cZ th0 th1 th2 u_th ++ (ceS cI cZ o10 o11 o12 u_o1)) sz)) (va_Qv (fun (v : sS) => v = z) (fun (v : sS) t => wPo D cI cZ (va_A (ceS cI cZ th0 th1 th2 u_th ++ (ceS cI cZ o10 o11 o12 u_o1)) sz) (ceS cI cZ th0 th1 th2 v ++ (ceS cI cZ o10 o11 o12 u_o1)) t) (va_A (ceS cI cZ th0 th1 th2 u_th ++ (ceS cI cZ o10 o11 o12 u_o1)) sz)) 0 0 (va_A (ceS cI cZ th0 th1 th2 u_th ++ (ceS cI cZ o10 o11 o12 u_o1)) sz) := by
  refine k_enter (D := D) (cI := cI) (cZ := cZ) (wl := ceS cI cZ th0 th1 th2 u_th ++ (ceS cI cZ o10 o11 o12 u_o1)) (sz := sz) (av := [.ref th0, .ref o10]) (cc := cX6_copyFrom) (maxL := 2) (ret := none) (Qc := fun A => va_Qv (fun (v : sS) => v = z) (fun (v : sS) t => wPo D cI cZ (A) (ceS cI cZ th0 th1 th2 v ++ (ceS cI cZ o10 o11 o12 u_o1)) t) (A)) (by decide) rfl (Nat.le_of_ble_eq_true rfl) ?_
  intro p e s m below meth c ls A Q H locs eQ hx hb hr hml hts hown hlocks hK hP hD hS hA hE hl
  have hown : s.vm.findClass RX6 = some m.cls := hown
  have hl : lv_has ls 2 [(0, .ref th0), (1, .ref o10)] := hl
  have hi_X6 : ∀ w ∈ wsX60, w ∈ wsX6_copyFrom := fun w h => List.mem_cons_of_mem _ (List.mem_append_right _ h)
  rw [f_X6_copyFrom] at hf
  refine lv_aload_n hx hb dX6_copyFrom_0 rfl (lv_at hl 1 rfl) ?_
  refine va_get (D := D) (ci := 3) (v := .ref o11) (C := RX6) (T := TX6) (N := 3) hx hb hts hi_X6 hown hK hP 3 rfl rfl 0 (by decide) (hts (.fieldLink RX6 9 "FairWheel$Sights" "people" "[I") (List.mem_of_getElem? (i := 1) rfl)) (fun _ h9 => h9) rfl dX6_copyFrom_1 ?_
  refine lv_aload_n hx hb dX6_copyFrom_4 rfl (lv_at hl 0 rfl) ?_
  refine va_get (D := D) (ci := 3) (v := .ref th1) (C := RX6) (T := TX6) (N := 3) hx hb hts hi_X6 hown hK hP 0 rfl rfl 0 (by decide) (hts (.fieldLink RX6 9 "FairWheel$Sights" "people" "[I") (List.mem_of_getElem? (i := 1) rfl)) (fun _ h9 => h9) rfl dX6_copyFrom_5 ?_
  obtain ⟨z1, hz_z1, hf⟩ := o_bind hf
  refine k_callv (va_runSN (As := [.ref o11, .ref th1]) (rest := []) ⟨hx, hb, hml, hown, hts⟩ (c_X10_copyRow l D cI cZ o11 th1 H.size 6 6 (S_people u_o1) (S_people u_th) z1 hz_z1) ⟨va_cnB 2 hts gX6_copyFrom_X10_copyRow_n22 rfl rfl rfl (hE.1.1 (RX6, 22, yX10_copyRow) (List.mem_of_getElem? (i := 6) rfl)) (hts (.initialized RX10) (List.mem_of_getElem? (i := 5) rfl)) hd_X10_copyRow ⟨Nat.le_of_ble_eq_true rfl, Nat.le_of_ble_eq_true rfl⟩, hts (.static yX10_copyRow) (List.mem_of_getElem? (i := 4) rfl), trivial⟩ (k_preS hK hP hD hS hA hE [4, 1] (by decide) rfl) rfl rfl hl.1 rfl (lv_room (Nat.le_of_ble_eq_true rfl)) dX6_copyFrom_8 ⟨Nat.zero_le _, Nat.zero_le _⟩) hP hD hS hA [4, 1] [none, some 1, none, none, some 0, none] 2 rfl (by decide) (by decide) rfl rfl (fun H locs hP hD hS => ?_)
  have hP : va_P D vwCl (ceS cI cZ th0 th1 th2 (z1, (S_cars u_th), (S_count u_th)) ++ (ceS cI cZ o10 o11 o12 u_o1)) H := hP
  have hD : va_D A (ceS cI cZ th0 th1 th2 (z1, (S_cars u_th), (S_count u_th)) ++ (ceS cI cZ o10 o11 o12 u_o1)) := hD
  refine lv_aload_n hx hb dX6_copyFrom_11 rfl (lv_at hl 1 rfl) ?_
  refine va_get (D := D) (ci := 3) (v := .ref o12) (C := RX6) (T := TX6) (N := 3) hx hb hts hi_X6 hown hK hP 3 rfl rfl 1 (by decide) (hts (.fieldLink RX6 15 "FairWheel$Sights" "cars" "[I") (List.mem_of_getElem? (i := 2) rfl)) (fun _ h9 => h9) rfl dX6_copyFrom_12 ?_
  refine lv_aload_n hx hb dX6_copyFrom_15 rfl (lv_at hl 0 rfl) ?_
  refine va_get (D := D) (ci := 3) (v := .ref th2) (C := RX6) (T := TX6) (N := 3) hx hb hts hi_X6 hown hK hP 0 rfl rfl 1 (by decide) (hts (.fieldLink RX6 15 "FairWheel$Sights" "cars" "[I") (List.mem_of_getElem? (i := 2) rfl)) (fun _ h9 => h9) rfl dX6_copyFrom_16 ?_
  obtain ⟨z2, hz_z2, hf⟩ := o_bind hf
  refine k_callv (va_runSN (As := [.ref o12, .ref th2]) (rest := []) ⟨hx, hb, hml, hown, hts⟩ (c_X10_copyRow l D cI cZ o12 th2 H.size 6 6 (S_cars u_o1) (S_cars u_th) z2 hz_z2) ⟨va_cnB 2 hts gX6_copyFrom_X10_copyRow_n22 rfl rfl rfl (hE.1.1 (RX6, 22, yX10_copyRow) (List.mem_of_getElem? (i := 6) rfl)) (hts (.initialized RX10) (List.mem_of_getElem? (i := 5) rfl)) hd_X10_copyRow ⟨Nat.le_of_ble_eq_true rfl, Nat.le_of_ble_eq_true rfl⟩, hts (.static yX10_copyRow) (List.mem_of_getElem? (i := 4) rfl), trivial⟩ (k_preS hK hP hD hS hA hE [5, 2] (by decide) rfl) rfl rfl hl.1 rfl (lv_room (Nat.le_of_ble_eq_true rfl)) dX6_copyFrom_19 ⟨Nat.zero_le _, Nat.zero_le _⟩) hP hD hS hA [5, 2] [none, none, some 1, none, none, some 0] 2 rfl (by decide) (by decide) rfl rfl (fun H locs hP hD hS => ?_)
  have hP : va_P D vwCl (ceS cI cZ th0 th1 th2 (z1, z2, (S_count u_th)) ++ (ceS cI cZ o10 o11 o12 u_o1)) H := hP
  have hD : va_D A (ceS cI cZ th0 th1 th2 (z1, z2, (S_count u_th)) ++ (ceS cI cZ o10 o11 o12 u_o1)) := hD
  refine lv_aload_n hx hb dX6_copyFrom_22 rfl (lv_at hl 0 rfl) ?_
  refine lv_aload_n hx hb dX6_copyFrom_23 rfl (lv_at hl 1 rfl) ?_
  refine va_get (D := D) (ci := 3) (v := .int (S_count u_o1)) (C := RX6) (T := TX6) (N := 3) hx hb hts hi_X6 hown hK hP 3 rfl rfl 2 (by decide) (hts (.fieldLink RX6 18 "FairWheel$Sights" "count" "I") (List.mem_of_getElem? (i := 3) rfl)) (fun _ h9 => h9) rfl dX6_copyFrom_24 ?_
  refine va_put (D := D) (ci := 3) (v := .int (S_count u_o1)) (ty := .int) (C := RX6) (T := TX6) (N := 3) hx hb hts hi_X6 tyX6 tyX6_ok nmX6 hown hK hP hD hS 0 rfl rfl 2 (by decide) (hts (.fieldLink RX6 18 "FairWheel$Sights" "count" "I") (List.mem_of_getElem? (i := 3) rfl)) (fun _ h9 => h9) rfl (by decide +kernel) rfl rfl (Nat.le_of_ble_eq_true rfl) dX6_copyFrom_27 (fun H locs hP hD hS => ?_)
  have hP : va_P D vwCl (ceS cI cZ th0 th1 th2 (z1, z2, (S_count u_o1)) ++ (ceS cI cZ o10 o11 o12 u_o1)) H := hP
  have hD : va_D A (ceS cI cZ th0 th1 th2 (z1, z2, (S_count u_o1)) ++ (ceS cI cZ o10 o11 o12 u_o1)) := hD
  exact k_vret (u := (z1, z2, (S_count u_o1))) hx hb hr hlocks hK hS eQ hf hP hD dX6_copyFrom_30
theorem hd_X6_count : yX6_count.cls ≠ "java/lang/invoke/MethodHandle" ∧ yX6_count.cls ≠ "java/lang/invoke/VarHandle" ∧ (parseMethodDescriptor yX6_count.desc).map (fun d => d.parameters.length) = some 0 := by decide +kernel
set_option maxHeartbeats 4000000 in
set_option maxRecDepth 100000 in
theorem c_X6_count (l : Launch) (D : va_G) (cI cZ : ClassId) (th0 : Nat) (th1 : Nat) (th2 : Nat) (sz : Nat) (u_th : sS) (z : Int32 × Unit) (hf : f_X6_count u_th = some z) : Met l yX6_count wsX6_count rmX6_count (va_Pc [.ref th0] (wPr D cI cZ (ceS cI cZ th0 th1 th2 u_th) sz)) (va_Qi (fun (r : Int32) (v : Unit) => (r, v) = z) (fun (v : Unit) t => wPo D cI cZ (va_A (ceS cI cZ th0 th1 th2 u_th) sz) (ceS cI cZ th0 th1 th2 u_th) t) (va_A (ceS cI cZ th0 th1 th2 u_th) sz)) 0 0 (va_A (ceS cI cZ th0 th1 th2 u_th) sz) := by
  refine k_enter (D := D) (cI := cI) (cZ := cZ) (wl := ceS cI cZ th0 th1 th2 u_th) (sz := sz) (av := [.ref th0]) (cc := cX6_count) (maxL := 1) (ret := (some .int)) (Qc := fun A => va_Qi (fun (r : Int32) (v : Unit) => (r, v) = z) (fun (v : Unit) t => wPo D cI cZ (A) (ceS cI cZ th0 th1 th2 u_th) t) (A)) (by decide) rfl (Nat.le_of_ble_eq_true rfl) ?_
  intro p e s m below meth c ls A Q H locs eQ hx hb hr hml hts hown hlocks hK hP hD hS hA hE hl
  have hown : s.vm.findClass RX6 = some m.cls := hown
  have hl : lv_has ls 1 [(0, .ref th0)] := hl
  have hi_X6 : ∀ w ∈ wsX60, w ∈ wsX6_count := fun w h => List.mem_cons_of_mem _ (List.mem_append_right _ h)
  rw [f_X6_count] at hf
  refine lv_aload_n hx hb dX6_count_0 rfl (lv_at hl 0 rfl) ?_
  refine va_get (D := D) (ci := 3) (v := .int (S_count u_th)) (C := RX6) (T := TX6) (N := 3) hx hb hts hi_X6 hown hK hP 0 rfl rfl 2 (by decide) (hts (.fieldLink RX6 18 "FairWheel$Sights" "count" "I") (List.mem_of_getElem? (i := 1) rfl)) (fun _ h9 => h9) rfl dX6_count_1 ?_
  exact k_iret (v := (S_count u_th)) (u := ()) hx hb hr hlocks hK hS eQ hf hP hD dX6_count_4
theorem hd_X6_add : yX6_add.cls ≠ "java/lang/invoke/MethodHandle" ∧ yX6_add.cls ≠ "java/lang/invoke/VarHandle" ∧ (parseMethodDescriptor yX6_add.desc).map (fun d => d.parameters.length) = some 2 := by decide +kernel
set_option maxHeartbeats 4000000 in
set_option maxRecDepth 100000 in
theorem c_X6_add (l : Launch) (D : va_G) (cI cZ : ClassId) (th0 : Nat) (th1 : Nat) (th2 : Nat) (sz : Nat) (u_th : sS) (p1 : Int32) (p2 : Int32) (z : sS) (hf : f_X6_add u_th p1 p2 = some z) : Met l yX6_add wsX6_add rmX6_add (va_Pc [.ref th0, .int p1, .int p2] (wPr D cI cZ (ceS cI cZ th0 th1 th2 u_th) sz)) (va_Qv (fun (v : sS) => v = z) (fun (v : sS) t => wPo D cI cZ (va_A (ceS cI cZ th0 th1 th2 u_th) sz) (ceS cI cZ th0 th1 th2 v) t) (va_A (ceS cI cZ th0 th1 th2 u_th) sz)) 0 0 (va_A (ceS cI cZ th0 th1 th2 u_th) sz) := by
  refine k_enter (D := D) (cI := cI) (cZ := cZ) (wl := ceS cI cZ th0 th1 th2 u_th) (sz := sz) (av := [.ref th0, .int p1, .int p2]) (cc := cX6_add) (maxL := 3) (ret := none) (Qc := fun A => va_Qv (fun (v : sS) => v = z) (fun (v : sS) t => wPo D cI cZ (A) (ceS cI cZ th0 th1 th2 v) t) (A)) (by decide) rfl (Nat.le_of_ble_eq_true rfl) ?_
  intro p e s m below meth c ls A Q H locs eQ hx hb hr hml hts hown hlocks hK hP hD hS hA hE hl
  have hown : s.vm.findClass RX6 = some m.cls := hown
  have hl : lv_has ls 3 [(0, .ref th0), (1, .int p1), (2, .int p2)] := hl
  have hi_X6 : ∀ w ∈ wsX60, w ∈ wsX6_add := fun w h => List.mem_cons_of_mem _ (List.mem_append_right _ h)
  rw [f_X6_add] at hf
  refine lv_aload_n hx hb dX6_add_0 rfl (lv_at hl 0 rfl) ?_
  refine va_get (D := D) (ci := 3) (v := .int (S_count u_th)) (C := RX6) (T := TX6) (N := 3) hx hb hts hi_X6 hown hK hP 0 rfl rfl 2 (by decide) (hts (.fieldLink RX6 18 "FairWheel$Sights" "count" "I") (List.mem_of_getElem? (i := 1) rfl)) (fun _ h9 => h9) rfl dX6_add_1 ?_
  refine lv_bipush (v := 6) hx hb dX6_add_4 (by decide) ?_
  refine lv_icmp_ge (tgt := 43) hx hb dX6_add_6 (by decide) (fun c1 => ?_) (fun c1 => ?_)
  · have hf := (if_pos c1).symm.trans hf
    exact k_vret (u := u_th) hx hb hr hlocks hK hS eQ hf hP hD dX6_add_43
  · have hf := (if_neg c1).symm.trans hf
    refine lv_aload_n hx hb dX6_add_9 rfl (lv_at hl 0 rfl) ?_
    refine va_get (D := D) (ci := 3) (v := .ref th1) (C := RX6) (T := TX6) (N := 3) hx hb hts hi_X6 hown hK hP 0 rfl rfl 0 (by decide) (hts (.fieldLink RX6 9 "FairWheel$Sights" "people" "[I") (List.mem_of_getElem? (i := 2) rfl)) (fun _ h9 => h9) rfl dX6_add_10 ?_
    refine lv_aload_n hx hb dX6_add_13 rfl (lv_at hl 0 rfl) ?_
    refine va_get (D := D) (ci := 3) (v := .int (S_count u_th)) (C := RX6) (T := TX6) (N := 3) hx hb hts hi_X6 hown hK hP 0 rfl rfl 2 (by decide) (hts (.fieldLink RX6 18 "FairWheel$Sights" "count" "I") (List.mem_of_getElem? (i := 1) rfl)) (fun _ h9 => h9) rfl dX6_add_14 ?_
    refine lv_iload_n hx hb dX6_add_17 rfl (lv_at hl 1 rfl) ?_
    obtain ⟨z2, hz_z2, hf⟩ := o_bind hf
    refine k_callv (va_runSN (As := [.ref th1, .int (S_count u_th), .int p1]) (rest := []) ⟨hx, hb, hml, hown, hts⟩ (c_X10_put l D cI cZ th1 H.size 6 (S_people u_th) (S_count u_th) p1 z2 hz_z2) ⟨va_cnB 3 hts gX6_add_X10_put_n26 rfl rfl rfl (hE.1.1 (RX6, 26, yX10_put) (List.mem_of_getElem? (i := 7) rfl)) (hts (.initialized RX10) (List.mem_of_getElem? (i := 5) rfl)) hd_X10_put ⟨Nat.le_of_ble_eq_true rfl, Nat.le_of_ble_eq_true rfl⟩, hts (.static yX10_put) (List.mem_of_getElem? (i := 4) rfl), trivial⟩ (k_preS hK hP hD hS hA hE [1] (by decide) rfl) rfl rfl hl.1 rfl (lv_room (Nat.le_of_ble_eq_true rfl)) dX6_add_18 ⟨Nat.zero_le _, Nat.zero_le _⟩) hP hD hS hA [1] [none, some 0, none] 1 rfl (by decide) (by decide) rfl rfl (fun H locs hP hD hS => ?_)
    have hP : va_P D vwCl (ceS cI cZ th0 th1 th2 (z2, (S_cars u_th), (S_count u_th))) H := hP
    have hD : va_D A (ceS cI cZ th0 th1 th2 (z2, (S_cars u_th), (S_count u_th))) := hD
    refine lv_aload_n hx hb dX6_add_21 rfl (lv_at hl 0 rfl) ?_
    refine va_get (D := D) (ci := 3) (v := .ref th2) (C := RX6) (T := TX6) (N := 3) hx hb hts hi_X6 hown hK hP 0 rfl rfl 1 (by decide) (hts (.fieldLink RX6 15 "FairWheel$Sights" "cars" "[I") (List.mem_of_getElem? (i := 3) rfl)) (fun _ h9 => h9) rfl dX6_add_22 ?_
    refine lv_aload_n hx hb dX6_add_25 rfl (lv_at hl 0 rfl) ?_
    refine va_get (D := D) (ci := 3) (v := .int (S_count u_th)) (C := RX6) (T := TX6) (N := 3) hx hb hts hi_X6 hown hK hP 0 rfl rfl 2 (by decide) (hts (.fieldLink RX6 18 "FairWheel$Sights" "count" "I") (List.mem_of_getElem? (i := 1) rfl)) (fun _ h9 => h9) rfl dX6_add_26 ?_
    refine lv_iload_n hx hb dX6_add_29 rfl (lv_at hl 2 rfl) ?_
    obtain ⟨z3, hz_z3, hf⟩ := o_bind hf
    refine k_callv (va_runSN (As := [.ref th2, .int (S_count u_th), .int p2]) (rest := []) ⟨hx, hb, hml, hown, hts⟩ (c_X10_put l D cI cZ th2 H.size 6 (S_cars u_th) (S_count u_th) p2 z3 hz_z3) ⟨va_cnB 3 hts gX6_add_X10_put_n26 rfl rfl rfl (hE.1.1 (RX6, 26, yX10_put) (List.mem_of_getElem? (i := 7) rfl)) (hts (.initialized RX10) (List.mem_of_getElem? (i := 5) rfl)) hd_X10_put ⟨Nat.le_of_ble_eq_true rfl, Nat.le_of_ble_eq_true rfl⟩, hts (.static yX10_put) (List.mem_of_getElem? (i := 4) rfl), trivial⟩ (k_preS hK hP hD hS hA hE [2] (by decide) rfl) rfl rfl hl.1 rfl (lv_room (Nat.le_of_ble_eq_true rfl)) dX6_add_30 ⟨Nat.zero_le _, Nat.zero_le _⟩) hP hD hS hA [2] [none, none, some 0] 1 rfl (by decide) (by decide) rfl rfl (fun H locs hP hD hS => ?_)
    have hP : va_P D vwCl (ceS cI cZ th0 th1 th2 (z2, z3, (S_count u_th))) H := hP
    have hD : va_D A (ceS cI cZ th0 th1 th2 (z2, z3, (S_count u_th))) := hD
    refine lv_aload_n hx hb dX6_add_33 rfl (lv_at hl 0 rfl) ?_
    refine lv_dup hx hb dX6_add_34 rfl ?_
    refine va_get (D := D) (ci := 3) (v := .int (S_count u_th)) (C := RX6) (T := TX6) (N := 3) hx hb hts hi_X6 hown hK hP 0 rfl rfl 2 (by decide) (hts (.fieldLink RX6 18 "FairWheel$Sights" "count" "I") (List.mem_of_getElem? (i := 1) rfl)) (fun _ h9 => h9) rfl dX6_add_35 ?_
    refine lv_iconst (v := 1) hx hb dX6_add_38 (by decide) ?_
    refine lv_iadd hx hb dX6_add_39 ?_
    refine va_put (D := D) (ci := 3) (v := .int ((S_count u_th) + (1 : Int32))) (ty := .int) (C := RX6) (T := TX6) (N := 3) hx hb hts hi_X6 tyX6 tyX6_ok nmX6 hown hK hP hD hS 0 rfl rfl 2 (by decide) (hts (.fieldLink RX6 18 "FairWheel$Sights" "count" "I") (List.mem_of_getElem? (i := 1) rfl)) (fun _ h9 => h9) rfl (by decide +kernel) rfl rfl (Nat.le_of_ble_eq_true rfl) dX6_add_40 (fun H locs hP hD hS => ?_)
    have hP : va_P D vwCl (ceS cI cZ th0 th1 th2 (z2, z3, ((S_count u_th) + (1 : Int32)))) H := hP
    have hD : va_D A (ceS cI cZ th0 th1 th2 (z2, z3, ((S_count u_th) + (1 : Int32)))) := hD
    exact k_vret (u := (z2, z3, ((S_count u_th) + (1 : Int32)))) hx hb hr hlocks hK hS eQ hf hP hD dX6_add_43
theorem hd_X6_clear : yX6_clear.cls ≠ "java/lang/invoke/MethodHandle" ∧ yX6_clear.cls ≠ "java/lang/invoke/VarHandle" ∧ (parseMethodDescriptor yX6_clear.desc).map (fun d => d.parameters.length) = some 0 := by decide +kernel
set_option maxHeartbeats 4000000 in
set_option maxRecDepth 100000 in
theorem c_X6_clear (l : Launch) (D : va_G) (cI cZ : ClassId) (th0 : Nat) (th1 : Nat) (th2 : Nat) (sz : Nat) (u_th : sS) (z : sS) (hf : f_X6_clear u_th = some z) : Met l yX6_clear wsX6_clear rmX6_clear (va_Pc [.ref th0] (wPr D cI cZ (ceS cI cZ th0 th1 th2 u_th) sz)) (va_Qv (fun (v : sS) => v = z) (fun (v : sS) t => wPo D cI cZ (va_A (ceS cI cZ th0 th1 th2 u_th) sz) (ceS cI cZ th0 th1 th2 v) t) (va_A (ceS cI cZ th0 th1 th2 u_th) sz)) 0 0 (va_A (ceS cI cZ th0 th1 th2 u_th) sz) := by
  refine k_enter (D := D) (cI := cI) (cZ := cZ) (wl := ceS cI cZ th0 th1 th2 u_th) (sz := sz) (av := [.ref th0]) (cc := cX6_clear) (maxL := 1) (ret := none) (Qc := fun A => va_Qv (fun (v : sS) => v = z) (fun (v : sS) t => wPo D cI cZ (A) (ceS cI cZ th0 th1 th2 v) t) (A)) (by decide) rfl (Nat.le_of_ble_eq_true rfl) ?_
  intro p e s m below meth c ls A Q H locs eQ hx hb hr hml hts hown hlocks hK hP hD hS hA hE hl
  have hown : s.vm.findClass RX6 = some m.cls := hown
  have hl : lv_has ls 1 [(0, .ref th0)] := hl
  have hi_X6 : ∀ w ∈ wsX60, w ∈ wsX6_clear := fun w h => List.mem_cons_of_mem _ (List.mem_append_right _ h)
  rw [f_X6_clear] at hf
  refine lv_aload_n hx hb dX6_clear_0 rfl (lv_at hl 0 rfl) ?_
  refine lv_iconst (v := 0) hx hb dX6_clear_1 (by decide) ?_
  refine va_put (D := D) (ci := 3) (v := .int (0 : Int32)) (ty := .int) (C := RX6) (T := TX6) (N := 3) hx hb hts hi_X6 tyX6 tyX6_ok nmX6 hown hK hP hD hS 0 rfl rfl 2 (by decide) (hts (.fieldLink RX6 18 "FairWheel$Sights" "count" "I") (List.mem_of_getElem? (i := 1) rfl)) (fun _ h9 => h9) rfl (by decide +kernel) rfl rfl (Nat.le_of_ble_eq_true rfl) dX6_clear_2 (fun H locs hP hD hS => ?_)
  have hP : va_P D vwCl (ceS cI cZ th0 th1 th2 ((S_people u_th), (S_cars u_th), (0 : Int32))) H := hP
  have hD : va_D A (ceS cI cZ th0 th1 th2 ((S_people u_th), (S_cars u_th), (0 : Int32))) := hD
  exact k_vret (u := ((S_people u_th), (S_cars u_th), (0 : Int32))) hx hb hr hlocks hK hS eQ hf hP hD dX6_clear_5
theorem hd_X6_areTrue : yX6_areTrue.cls ≠ "java/lang/invoke/MethodHandle" ∧ yX6_areTrue.cls ≠ "java/lang/invoke/VarHandle" ∧ (parseMethodDescriptor yX6_areTrue.desc).map (fun d => d.parameters.length) = some 1 := by decide +kernel
set_option maxHeartbeats 4000000 in
set_option maxRecDepth 100000 in
theorem c_X6_areTrue (l : Launch) (D : va_G) (cI cZ : ClassId) (th0 : Nat) (th1 : Nat) (th2 : Nat) (o10 : Nat) (o11 : Nat) (o12 : Nat) (o13 : Nat) (o14 : Nat) (sz : Nat) (u_th : sS) (u_o1 : sW) (z : Int32 × Unit) (hf : f_X6_areTrue u_th u_o1 = some z) : Met l yX6_areTrue wsX6_areTrue rmX6_areTrue (va_Pc [.ref th0, .ref o10] (wPr D cI cZ (ceS cI cZ th0 th1 th2 u_th ++ (ceW cI cZ o10 o11 o12 o13 o14 u_o1)) sz)) (va_Qi (fun (r : Int32) (v : Unit) => (r, v) = z) (fun (v : Unit) t => wPo D cI cZ (va_A (ceS cI cZ th0 th1 th2 u_th ++ (ceW cI cZ o10 o11 o12 o13 o14 u_o1)) sz) (ceS cI cZ th0 th1 th2 u_th ++ (ceW cI cZ o10 o11 o12 o13 o14 u_o1)) t) (va_A (ceS cI cZ th0 th1 th2 u_th ++ (ceW cI cZ o10 o11 o12 o13 o14 u_o1)) sz)) 0 0 (va_A (ceS cI cZ th0 th1 th2 u_th ++ (ceW cI cZ o10 o11 o12 o13 o14 u_o1)) sz) := by
  refine k_enter (D := D) (cI := cI) (cZ := cZ) (wl := ceS cI cZ th0 th1 th2 u_th ++ (ceW cI cZ o10 o11 o12 o13 o14 u_o1)) (sz := sz) (av := [.ref th0, .ref o10]) (cc := cX6_areTrue) (maxL := 3) (ret := (some .boolean)) (Qc := fun A => va_Qi (fun (r : Int32) (v : Unit) => (r, v) = z) (fun (v : Unit) t => wPo D cI cZ (A) (ceS cI cZ th0 th1 th2 u_th ++ (ceW cI cZ o10 o11 o12 o13 o14 u_o1)) t) (A)) (by decide) rfl (Nat.le_of_ble_eq_true rfl) ?_
  intro p e s m below meth c ls A Q H locs eQ hx hb hr hml hts hown hlocks hK hP hD hS hA hE hl
  have hown : s.vm.findClass RX6 = some m.cls := hown
  have hl : lv_has ls 3 [(0, .ref th0), (1, .ref o10)] := hl
  have hi_X6 : ∀ w ∈ wsX60, w ∈ wsX6_areTrue := fun w h => List.mem_cons_of_mem _ (List.mem_append_left _ (List.mem_append_right _ h))
  have hL2 : ∀ (n : Nat), ∀ (v2 : Int32) (H : Heap) (locs : List Loc) (ls : Array Slot), lv_has ls 3 [(0, .ref th0), (1, .ref o10), (2, .int v2)] → va_P D vwCl (ceS cI cZ th0 th1 th2 u_th ++ (ceW cI cZ o10 o11 o12 o13 o14 u_o1)) H → va_D A (ceS cI cZ th0 th1 th2 u_th ++ (ceW cI cZ o10 o11 o12 o13 o14 u_o1)) → va_S A s.heap H locs → f_X6_areTrue_L2 u_th u_o1 n v2 = some z → W p l e (headSpec wsX6_areTrue rmX6_areTrue).room s m ([.ref th0, .ref o10] : List Value).toArray below meth c H locs 0 0 Q (F0 m 2 ls []) := by
    intro n
    induction n with
    | zero =>
      intro v2 H locs ls hl hP hD hS hf
      exact absurd (show (none : Option (Int32 × Unit)) = some z from hf) (fun h => by cases h)
    | succ n ih =>
      intro v2 H locs ls hl hP hD hS hf
      rw [f_X6_areTrue_L2] at hf
      refine lv_iload_n hx hb dX6_areTrue_2 rfl (lv_at hl 2 rfl) ?_
      refine lv_aload_n hx hb dX6_areTrue_3 rfl (lv_at hl 0 rfl) ?_
      refine va_get (D := D) (ci := 3) (v := .int (S_count u_th)) (C := RX6) (T := TX6) (N := 3) hx hb hts hi_X6 hown hK hP 0 rfl rfl 2 (by decide) (hts (.fieldLink RX6 18 "FairWheel$Sights" "count" "I") (List.mem_of_getElem? (i := 1) rfl)) (fun _ h9 => h9) rfl dX6_areTrue_4 ?_
      refine lv_icmp_ge (tgt := 41) hx hb dX6_areTrue_7 (by decide) (fun c1 => ?_) (fun c1 => ?_)
      · have hf := (if_pos c1).symm.trans hf
        refine lv_iconst (v := 1) hx hb dX6_areTrue_41 (by decide) ?_
        exact k_zret (v := (1 : Int32)) (u := ()) hx hb hr hlocks hK hS eQ (by decide) hf hP hD dX6_areTrue_42
      · have hf := (if_neg c1).symm.trans hf
        refine lv_aload_n hx hb dX6_areTrue_10 rfl (lv_at hl 1 rfl) ?_
        refine lv_aload_n hx hb dX6_areTrue_11 rfl (lv_at hl 0 rfl) ?_
        refine va_get (D := D) (ci := 3) (v := .ref th1) (C := RX6) (T := TX6) (N := 3) hx hb hts hi_X6 hown hK hP 0 rfl rfl 0 (by decide) (hts (.fieldLink RX6 9 "FairWheel$Sights" "people" "[I") (List.mem_of_getElem? (i := 2) rfl)) (fun _ h9 => h9) rfl dX6_areTrue_12 ?_
        refine lv_iload_n hx hb dX6_areTrue_15 rfl (lv_at hl 2 rfl) ?_
        obtain ⟨z2, hz_z2, hf⟩ := o_bind hf
        refine k_calli (va_runSN (As := [.ref th1, .int v2]) (rest := [.ref o10]) ⟨hx, hb, hml, hown, hts⟩ (c_X10_at l D cI cZ th1 H.size 6 (S_people u_th) v2 z2 hz_z2) ⟨va_cnB 2 hts gX6_areTrue_X10_at_n30 rfl rfl rfl (hE.1.1 (RX6, 30, yX10_at) (List.mem_of_getElem? (i := 8) rfl)) (hts (.initialized RX10) (List.mem_of_getElem? (i := 5) rfl)) hd_X10_at ⟨Nat.le_of_ble_eq_true rfl, Nat.le_of_ble_eq_true rfl⟩, hts (.static yX10_at) (List.mem_of_getElem? (i := 4) rfl), trivial⟩ (k_preS hK hP hD hS hA hE [1] (by decide) rfl) rfl rfl hl.1 rfl (lv_room (Nat.le_of_ble_eq_true rfl)) dX6_areTrue_16 ⟨Nat.zero_le _, Nat.zero_le _⟩) hP hD hS hA [1] [none, some 0, none, none, none, none, none, none] 1 rfl (by decide) (by decide) rfl rfl (fun H locs hP hD hS => ?_)
        have hP : va_P D vwCl (ceS cI cZ th0 th1 th2 u_th ++ (ceW cI cZ o10 o11 o12 o13 o14 u_o1)) H := hP
        have hD : va_D A (ceS cI cZ th0 th1 th2 u_th ++ (ceW cI cZ o10 o11 o12 o13 o14 u_o1)) := hD
        obtain ⟨z3, hz_z3, hf⟩ := o_bind hf
        refine k_calli (va_runV (As := [.int z2.1]) (rest := []) ⟨hx, hb, hml, hown, hts⟩ (c_X9_carOf l D cI cZ o10 o11 o12 o13 o14 H.size u_o1 z2.1 z3 hz_z3) (cwV 1 hts gX6_areTrue_X9_carOf rfl rfl rfl ⟨rfl, hd_X9_carOf⟩ ⟨Nat.le_of_ble_eq_true rfl, Nat.le_of_ble_eq_true rfl⟩) (k_preV hK hP hD hS hA hE [3, 4, 5, 6, 7] (by decide) rfl (ci := 6) rfl rfl) rfl rfl hl.1 rfl (lv_room (Nat.le_of_ble_eq_true rfl)) dX6_areTrue_19 ⟨Nat.zero_le _, Nat.zero_le _⟩) hP hD hS hA [3, 4, 5, 6, 7] [none, none, none, some 0, some 1, some 2, some 3, some 4] 5 rfl (by decide) (by decide) rfl rfl (fun H locs hP hD hS => ?_)
        have hP : va_P D vwCl (ceS cI cZ th0 th1 th2 u_th ++ (ceW cI cZ o10 o11 o12 o13 o14 u_o1)) H := hP
        have hD : va_D A (ceS cI cZ th0 th1 th2 u_th ++ (ceW cI cZ o10 o11 o12 o13 o14 u_o1)) := hD
        refine lv_aload_n hx hb dX6_areTrue_22 rfl (lv_at hl 0 rfl) ?_
        refine va_get (D := D) (ci := 3) (v := .ref th2) (C := RX6) (T := TX6) (N := 3) hx hb hts hi_X6 hown hK hP 0 rfl rfl 1 (by decide) (hts (.fieldLink RX6 15 "FairWheel$Sights" "cars" "[I") (List.mem_of_getElem? (i := 3) rfl)) (fun _ h9 => h9) rfl dX6_areTrue_23 ?_
        refine lv_iload_n hx hb dX6_areTrue_26 rfl (lv_at hl 2 rfl) ?_
        obtain ⟨z4, hz_z4, hf⟩ := o_bind hf
        refine k_calli (va_runSN (As := [.ref th2, .int v2]) (rest := [.int z3.1]) ⟨hx, hb, hml, hown, hts⟩ (c_X10_at l D cI cZ th2 H.size 6 (S_cars u_th) v2 z4 hz_z4) ⟨va_cnB 2 hts gX6_areTrue_X10_at_n30 rfl rfl rfl (hE.1.1 (RX6, 30, yX10_at) (List.mem_of_getElem? (i := 8) rfl)) (hts (.initialized RX10) (List.mem_of_getElem? (i := 5) rfl)) hd_X10_at ⟨Nat.le_of_ble_eq_true rfl, Nat.le_of_ble_eq_true rfl⟩, hts (.static yX10_at) (List.mem_of_getElem? (i := 4) rfl), trivial⟩ (k_preS hK hP hD hS hA hE [2] (by decide) rfl) rfl rfl hl.1 rfl (lv_room (Nat.le_of_ble_eq_true rfl)) dX6_areTrue_27 ⟨Nat.zero_le _, Nat.zero_le _⟩) hP hD hS hA [2] [none, none, some 0, none, none, none, none, none] 1 rfl (by decide) (by decide) rfl rfl (fun H locs hP hD hS => ?_)
        have hP : va_P D vwCl (ceS cI cZ th0 th1 th2 u_th ++ (ceW cI cZ o10 o11 o12 o13 o14 u_o1)) H := hP
        have hD : va_D A (ceS cI cZ th0 th1 th2 u_th ++ (ceW cI cZ o10 o11 o12 o13 o14 u_o1)) := hD
        refine lv_icmp_eq (tgt := 35) hx hb dX6_areTrue_30 (by decide) (fun c5 => ?_) (fun c5 => ?_)
        · have hf := (if_pos c5).symm.trans hf
          refine lv_iinc (v := (v2 + (1 : Int32))) (lv' := [(2, .int (v2 + (1 : Int32))), (0, .ref th0), (1, .ref o10)]) hx hb dX6_areTrue_35 hl (k := 2) rfl rfl (by decide) rfl (fun ls hl => ?_)
          refine lv_goto (tgt := 2) hx hb dX6_areTrue_38 (by decide) ?_
          exact ih (v2 + (1 : Int32)) _ _ ls (lv_sub hl [1, 2, 0] rfl) hP hD hS hf
        · have hf := (if_neg c5).symm.trans hf
          refine lv_iconst (v := 0) hx hb dX6_areTrue_33 (by decide) ?_
          exact k_zret (v := (0 : Int32)) (u := ()) hx hb hr hlocks hK hS eQ (by decide) hf hP hD dX6_areTrue_34
  rw [f_X6_areTrue] at hf
  refine lv_iconst (v := 0) hx hb dX6_areTrue_0 (by decide) ?_
  refine lv_istore_n (lv' := [(2, .int (0 : Int32)), (0, .ref th0), (1, .ref o10)]) hx hb dX6_areTrue_1 rfl hl (by decide) rfl (fun ls hl => ?_)
  exact hL2 oF (0 : Int32) _ _ ls (lv_sub hl [1, 2, 0] rfl) hP hD hS hf
theorem hd_X1_howMany : yX1_howMany.cls ≠ "java/lang/invoke/MethodHandle" ∧ yX1_howMany.cls ≠ "java/lang/invoke/VarHandle" ∧ (parseMethodDescriptor yX1_howMany.desc).map (fun d => d.parameters.length) = some 1 := by decide +kernel
set_option maxHeartbeats 4000000 in
set_option maxRecDepth 100000 in
theorem c_X1_howMany (l : Launch) (D : va_G) (cI cZ : ClassId) (sz : Nat) (p0 : Int32) (z : Int32 × Unit) (hf : f_X1_howMany p0 = some z) : Met l yX1_howMany wsX1_howMany rmX1_howMany (va_Pc [.int p0] (wPr D cI cZ (([] : va_W)) sz)) (va_Qi (fun (r : Int32) (v : Unit) => (r, v) = z) (fun (v : Unit) t => wPo D cI cZ (va_A (([] : va_W)) sz) (([] : va_W)) t) (va_A (([] : va_W)) sz)) 0 0 (va_A (([] : va_W)) sz) := by
  refine k_enter (D := D) (cI := cI) (cZ := cZ) (wl := ([] : va_W)) (sz := sz) (av := [.int p0]) (cc := cX1_howMany) (maxL := 1) (ret := (some .int)) (Qc := fun A => va_Qi (fun (r : Int32) (v : Unit) => (r, v) = z) (fun (v : Unit) t => wPo D cI cZ (A) (([] : va_W)) t) (A)) (by decide) rfl (Nat.le_of_ble_eq_true rfl) ?_
  intro p e s m below meth c ls A Q H locs eQ hx hb hr hml hts hown hlocks hK hP hD hS hA hE hl
  have hown : s.vm.findClass RX1 = some m.cls := hown
  have hl : lv_has ls 1 [(0, .int p0)] := hl
  rw [f_X1_howMany] at hf
  refine lv_iload_n hx hb dX1_howMany_0 rfl (lv_at hl 0 rfl) ?_
  refine lv_if_lt (tgt := 9) hx hb dX1_howMany_1 (by decide) (fun c1 => ?_) (fun c1 => ?_)
  · have hf := (if_pos c1).symm.trans hf
    refine lv_iconst (v := 0) hx hb dX1_howMany_9 (by decide) ?_
    refine lv_goto (tgt := 18) hx hb dX1_howMany_10 (by decide) ?_
    exact k_iret (v := (0 : Int32)) (u := ()) hx hb hr hlocks hK hS eQ hf hP hD dX1_howMany_18
  · have hf := (if_neg c1).symm.trans hf
    refine lv_iload_n hx hb dX1_howMany_4 rfl (lv_at hl 0 rfl) ?_
    refine lv_iconst (v := 3) hx hb dX1_howMany_5 (by decide) ?_
    refine lv_icmp_le (tgt := 13) hx hb dX1_howMany_6 (by decide) (fun c2 => ?_) (fun c2 => ?_)
    · have hf := (if_pos c2).symm.trans hf
      refine lv_iconst (v := 1) hx hb dX1_howMany_13 (by decide) ?_
      refine lv_iconst (v := 3) hx hb dX1_howMany_14 (by decide) ?_
      refine lv_iload_n hx hb dX1_howMany_15 rfl (lv_at hl 0 rfl) ?_
      refine lv_imul hx hb dX1_howMany_16 ?_
      refine lv_ishl hx hb dX1_howMany_17 ?_
      exact k_iret (v := ((1 : Int32) <<< (((3 : Int32) * p0) &&& 31))) (u := ()) hx hb hr hlocks hK hS eQ hf hP hD dX1_howMany_18
    · have hf := (if_neg c2).symm.trans hf
      refine lv_iconst (v := 0) hx hb dX1_howMany_9 (by decide) ?_
      refine lv_goto (tgt := 18) hx hb dX1_howMany_10 (by decide) ?_
      exact k_iret (v := (0 : Int32)) (u := ()) hx hb hr hlocks hK hS eQ hf hP hD dX1_howMany_18
theorem hd_X1_personAt : yX1_personAt.cls ≠ "java/lang/invoke/MethodHandle" ∧ yX1_personAt.cls ≠ "java/lang/invoke/VarHandle" ∧ (parseMethodDescriptor yX1_personAt.desc).map (fun d => d.parameters.length) = some 3 := by decide +kernel
set_option maxHeartbeats 4000000 in
set_option maxRecDepth 100000 in
theorem c_X1_personAt (l : Launch) (D : va_G) (cI cZ : ClassId) (sz : Nat) (p0 : Int32) (p1 : Int32) (p2 : Int32) (z : Int32 × Unit) (hf : f_X1_personAt p0 p1 p2 = some z) : Met l yX1_personAt wsX1_personAt rmX1_personAt (va_Pc [.int p0, .int p1, .int p2] (wPr D cI cZ (([] : va_W)) sz)) (va_Qi (fun (r : Int32) (v : Unit) => (r, v) = z) (fun (v : Unit) t => wPo D cI cZ (va_A (([] : va_W)) sz) (([] : va_W)) t) (va_A (([] : va_W)) sz)) 0 0 (va_A (([] : va_W)) sz) := by
  refine k_enter (D := D) (cI := cI) (cZ := cZ) (wl := ([] : va_W)) (sz := sz) (av := [.int p0, .int p1, .int p2]) (cc := cX1_personAt) (maxL := 3) (ret := (some .int)) (Qc := fun A => va_Qi (fun (r : Int32) (v : Unit) => (r, v) = z) (fun (v : Unit) t => wPo D cI cZ (A) (([] : va_W)) t) (A)) (by decide) rfl (Nat.le_of_ble_eq_true rfl) ?_
  intro p e s m below meth c ls A Q H locs eQ hx hb hr hml hts hown hlocks hK hP hD hS hA hE hl
  have hown : s.vm.findClass RX1 = some m.cls := hown
  have hl : lv_has ls 3 [(0, .int p0), (1, .int p1), (2, .int p2)] := hl
  rw [f_X1_personAt] at hf
  refine lv_iload_n hx hb dX1_personAt_0 rfl (lv_at hl 0 rfl) ?_
  refine lv_iconst (v := 3) hx hb dX1_personAt_1 (by decide) ?_
  refine lv_iload_n hx hb dX1_personAt_2 rfl (lv_at hl 2 rfl) ?_
  refine lv_iconst (v := 1) hx hb dX1_personAt_3 (by decide) ?_
  refine lv_isub hx hb dX1_personAt_4 ?_
  refine lv_iload_n hx hb dX1_personAt_5 rfl (lv_at hl 1 rfl) ?_
  refine lv_isub hx hb dX1_personAt_6 ?_
  refine lv_imul hx hb dX1_personAt_7 ?_
  refine lv_ishr hx hb dX1_personAt_8 ?_
  refine lv_bipush (v := 7) hx hb dX1_personAt_9 (by decide) ?_
  refine lv_iand hx hb dX1_personAt_11 ?_
  exact k_iret (v := ((p0 >>> (((3 : Int32) * ((p2 - (1 : Int32)) - p1)) &&& 31)) &&& (7 : Int32))) (u := ()) hx hb hr hlocks hK hS eQ hf hP hD dX1_personAt_12
theorem hd_X7_wheel : yX7_wheel.cls ≠ "java/lang/invoke/MethodHandle" ∧ yX7_wheel.cls ≠ "java/lang/invoke/VarHandle" ∧ (parseMethodDescriptor yX7_wheel.desc).map (fun d => d.parameters.length) = some 0 := by decide +kernel
set_option maxHeartbeats 4000000 in
set_option maxRecDepth 100000 in
theorem c_X7_wheel (l : Launch) (D : va_G) (cI cZ : ClassId) (th0 : Nat) (th1 : Nat) (th2 : Nat) (th3 : Nat) (th4 : Nat) (th5 : Nat) (sz : Nat) (u_th : sT) : Met l yX7_wheel wsX7_wheel rmX7_wheel (va_Pc [.ref th0] (wPr D cI cZ (ceT cI cZ th0 th1 th2 th3 th4 th5 u_th) sz)) (va_Qr (fun (_ : Unit) => True) (fun _ a t => a = th1 ∧ wPo D cI cZ (va_A (ceT cI cZ th0 th1 th2 th3 th4 th5 u_th) sz) (ceT cI cZ th0 th1 th2 th3 th4 th5 u_th) t) (va_A (ceT cI cZ th0 th1 th2 th3 th4 th5 u_th) sz)) 0 0 (va_A (ceT cI cZ th0 th1 th2 th3 th4 th5 u_th) sz) := by
  refine k_enter (D := D) (cI := cI) (cZ := cZ) (wl := ceT cI cZ th0 th1 th2 th3 th4 th5 u_th) (sz := sz) (av := [.ref th0]) (cc := cX7_wheel) (maxL := 1) (ret := (some (.object "FairWheel$Wheel"))) (Qc := fun A => va_Qr (fun (_ : Unit) => True) (fun _ a t => a = th1 ∧ wPo D cI cZ (A) (ceT cI cZ th0 th1 th2 th3 th4 th5 u_th) t) (A)) (by decide) rfl (Nat.le_of_ble_eq_true rfl) ?_
  intro p e s m below meth c ls A Q H locs eQ hx hb hr hml hts hown hlocks hK hP hD hS hA hE hl
  have hown : s.vm.findClass RX7 = some m.cls := hown
  have hl : lv_has ls 1 [(0, .ref th0)] := hl
  have hi_X7 : ∀ w ∈ wsX70, w ∈ wsX7_wheel := fun w h => List.mem_cons_of_mem _ (List.mem_append_right _ h)
  refine lv_aload_n hx hb dX7_wheel_0 rfl (lv_at hl 0 rfl) ?_
  refine va_get (D := D) (ci := 4) (v := .ref th1) (C := RX7) (T := TX7) (N := 7) hx hb hts hi_X7 hown hK hP 0 rfl rfl 0 (by decide) (hts (.fieldLink RX7 12 "FairWheel$Telling" "wheel" "LFairWheel$Wheel;") (List.mem_of_getElem? (i := 1) rfl)) (fun _ h9 => h9) rfl dX7_wheel_1 ?_
  exact k_aret hx hb hr hlocks hK hS eQ rfl hP hD dX7_wheel_4
theorem hd_X7_failedEvent : yX7_failedEvent.cls ≠ "java/lang/invoke/MethodHandle" ∧ yX7_failedEvent.cls ≠ "java/lang/invoke/VarHandle" ∧ (parseMethodDescriptor yX7_failedEvent.desc).map (fun d => d.parameters.length) = some 0 := by decide +kernel
set_option maxHeartbeats 4000000 in
set_option maxRecDepth 100000 in
theorem c_X7_failedEvent (l : Launch) (D : va_G) (cI cZ : ClassId) (th0 : Nat) (th1 : Nat) (th2 : Nat) (th3 : Nat) (th4 : Nat) (th5 : Nat) (sz : Nat) (u_th : sT) (z : Int32 × Unit) (hf : f_X7_failedEvent u_th = some z) : Met l yX7_failedEvent wsX7_failedEvent rmX7_failedEvent (va_Pc [.ref th0] (wPr D cI cZ (ceT cI cZ th0 th1 th2 th3 th4 th5 u_th) sz)) (va_Qi (fun (r : Int32) (v : Unit) => (r, v) = z) (fun (v : Unit) t => wPo D cI cZ (va_A (ceT cI cZ th0 th1 th2 th3 th4 th5 u_th) sz) (ceT cI cZ th0 th1 th2 th3 th4 th5 u_th) t) (va_A (ceT cI cZ th0 th1 th2 th3 th4 th5 u_th) sz)) 0 0 (va_A (ceT cI cZ th0 th1 th2 th3 th4 th5 u_th) sz) := by
  refine k_enter (D := D) (cI := cI) (cZ := cZ) (wl := ceT cI cZ th0 th1 th2 th3 th4 th5 u_th) (sz := sz) (av := [.ref th0]) (cc := cX7_failedEvent) (maxL := 1) (ret := (some .int)) (Qc := fun A => va_Qi (fun (r : Int32) (v : Unit) => (r, v) = z) (fun (v : Unit) t => wPo D cI cZ (A) (ceT cI cZ th0 th1 th2 th3 th4 th5 u_th) t) (A)) (by decide) rfl (Nat.le_of_ble_eq_true rfl) ?_
  intro p e s m below meth c ls A Q H locs eQ hx hb hr hml hts hown hlocks hK hP hD hS hA hE hl
  have hown : s.vm.findClass RX7 = some m.cls := hown
  have hl : lv_has ls 1 [(0, .ref th0)] := hl
  have hi_X7 : ∀ w ∈ wsX70, w ∈ wsX7_failedEvent := fun w h => List.mem_cons_of_mem _ (List.mem_append_right _ h)
  rw [f_X7_failedEvent] at hf
  refine lv_aload_n hx hb dX7_failedEvent_0 rfl (lv_at hl 0 rfl) ?_
  refine va_get (D := D) (ci := 4) (v := .int (T_failedEvent u_th)) (C := RX7) (T := TX7) (N := 7) hx hb hts hi_X7 hown hK hP 0 rfl rfl 1 (by decide) (hts (.fieldLink RX7 18 "FairWheel$Telling" "failedEvent" "I") (List.mem_of_getElem? (i := 1) rfl)) (fun _ h9 => h9) rfl dX7_failedEvent_1 ?_
  exact k_iret (v := (T_failedEvent u_th)) (u := ()) hx hb hr hlocks hK hS eQ hf hP hD dX7_failedEvent_4
theorem hd_X7_reason : yX7_reason.cls ≠ "java/lang/invoke/MethodHandle" ∧ yX7_reason.cls ≠ "java/lang/invoke/VarHandle" ∧ (parseMethodDescriptor yX7_reason.desc).map (fun d => d.parameters.length) = some 0 := by decide +kernel
set_option maxHeartbeats 4000000 in
set_option maxRecDepth 100000 in
theorem c_X7_reason (l : Launch) (D : va_G) (cI cZ : ClassId) (th0 : Nat) (th1 : Nat) (th2 : Nat) (th3 : Nat) (th4 : Nat) (th5 : Nat) (sz : Nat) (u_th : sT) (z : Int32 × Unit) (hf : f_X7_reason u_th = some z) : Met l yX7_reason wsX7_reason rmX7_reason (va_Pc [.ref th0] (wPr D cI cZ (ceT cI cZ th0 th1 th2 th3 th4 th5 u_th) sz)) (va_Qi (fun (r : Int32) (v : Unit) => (r, v) = z) (fun (v : Unit) t => wPo D cI cZ (va_A (ceT cI cZ th0 th1 th2 th3 th4 th5 u_th) sz) (ceT cI cZ th0 th1 th2 th3 th4 th5 u_th) t) (va_A (ceT cI cZ th0 th1 th2 th3 th4 th5 u_th) sz)) 0 0 (va_A (ceT cI cZ th0 th1 th2 th3 th4 th5 u_th) sz) := by
  refine k_enter (D := D) (cI := cI) (cZ := cZ) (wl := ceT cI cZ th0 th1 th2 th3 th4 th5 u_th) (sz := sz) (av := [.ref th0]) (cc := cX7_reason) (maxL := 1) (ret := (some .int)) (Qc := fun A => va_Qi (fun (r : Int32) (v : Unit) => (r, v) = z) (fun (v : Unit) t => wPo D cI cZ (A) (ceT cI cZ th0 th1 th2 th3 th4 th5 u_th) t) (A)) (by decide) rfl (Nat.le_of_ble_eq_true rfl) ?_
  intro p e s m below meth c ls A Q H locs eQ hx hb hr hml hts hown hlocks hK hP hD hS hA hE hl
  have hown : s.vm.findClass RX7 = some m.cls := hown
  have hl : lv_has ls 1 [(0, .ref th0)] := hl
  have hi_X7 : ∀ w ∈ wsX70, w ∈ wsX7_reason := fun w h => List.mem_cons_of_mem _ (List.mem_append_right _ h)
  rw [f_X7_reason] at hf
  refine lv_aload_n hx hb dX7_reason_0 rfl (lv_at hl 0 rfl) ?_
  refine va_get (D := D) (ci := 4) (v := .int (T_reason u_th)) (C := RX7) (T := TX7) (N := 7) hx hb hts hi_X7 hown hK hP 0 rfl rfl 2 (by decide) (hts (.fieldLink RX7 22 "FairWheel$Telling" "reason" "I") (List.mem_of_getElem? (i := 1) rfl)) (fun _ h9 => h9) rfl dX7_reason_1 ?_
  exact k_iret (v := (T_reason u_th)) (u := ()) hx hb hr hlocks hK hS eQ hf hP hD dX7_reason_4
theorem hd_X7_turned : yX7_turned.cls ≠ "java/lang/invoke/MethodHandle" ∧ yX7_turned.cls ≠ "java/lang/invoke/VarHandle" ∧ (parseMethodDescriptor yX7_turned.desc).map (fun d => d.parameters.length) = some 0 := by decide +kernel
set_option maxHeartbeats 4000000 in
set_option maxRecDepth 100000 in
theorem c_X7_turned (l : Launch) (D : va_G) (cI cZ : ClassId) (th0 : Nat) (th1 : Nat) (th2 : Nat) (th3 : Nat) (th4 : Nat) (th5 : Nat) (sz : Nat) (u_th : sT) (z : Int32 × Unit) (hf : f_X7_turned u_th = some z) : Met l yX7_turned wsX7_turned rmX7_turned (va_Pc [.ref th0] (wPr D cI cZ (ceT cI cZ th0 th1 th2 th3 th4 th5 u_th) sz)) (va_Qi (fun (r : Int32) (v : Unit) => (r, v) = z) (fun (v : Unit) t => wPo D cI cZ (va_A (ceT cI cZ th0 th1 th2 th3 th4 th5 u_th) sz) (ceT cI cZ th0 th1 th2 th3 th4 th5 u_th) t) (va_A (ceT cI cZ th0 th1 th2 th3 th4 th5 u_th) sz)) 0 0 (va_A (ceT cI cZ th0 th1 th2 th3 th4 th5 u_th) sz) := by
  refine k_enter (D := D) (cI := cI) (cZ := cZ) (wl := ceT cI cZ th0 th1 th2 th3 th4 th5 u_th) (sz := sz) (av := [.ref th0]) (cc := cX7_turned) (maxL := 1) (ret := (some .int)) (Qc := fun A => va_Qi (fun (r : Int32) (v : Unit) => (r, v) = z) (fun (v : Unit) t => wPo D cI cZ (A) (ceT cI cZ th0 th1 th2 th3 th4 th5 u_th) t) (A)) (by decide) rfl (Nat.le_of_ble_eq_true rfl) ?_
  intro p e s m below meth c ls A Q H locs eQ hx hb hr hml hts hown hlocks hK hP hD hS hA hE hl
  have hown : s.vm.findClass RX7 = some m.cls := hown
  have hl : lv_has ls 1 [(0, .ref th0)] := hl
  have hi_X7 : ∀ w ∈ wsX70, w ∈ wsX7_turned := fun w h => List.mem_cons_of_mem _ (List.mem_append_right _ h)
  rw [f_X7_turned] at hf
  refine lv_aload_n hx hb dX7_turned_0 rfl (lv_at hl 0 rfl) ?_
  refine va_get (D := D) (ci := 4) (v := .int (T_turned u_th)) (C := RX7) (T := TX7) (N := 7) hx hb hts hi_X7 hown hK hP 0 rfl rfl 3 (by decide) (hts (.fieldLink RX7 25 "FairWheel$Telling" "turned" "I") (List.mem_of_getElem? (i := 1) rfl)) (fun _ h9 => h9) rfl dX7_turned_1 ?_
  exact k_iret (v := (T_turned u_th)) (u := ()) hx hb hr hlocks hK hS eQ hf hP hD dX7_turned_4
theorem hd_X7_load : yX7_load.cls ≠ "java/lang/invoke/MethodHandle" ∧ yX7_load.cls ≠ "java/lang/invoke/VarHandle" ∧ (parseMethodDescriptor yX7_load.desc).map (fun d => d.parameters.length) = some 1 := by decide +kernel
set_option maxHeartbeats 4000000 in
set_option maxRecDepth 100000 in
theorem c_X7_load (l : Launch) (D : va_G) (cI cZ : ClassId) (th0 : Nat) (th1 : Nat) (th2 : Nat) (th3 : Nat) (th4 : Nat) (th5 : Nat) (sz : Nat) (u_th : sT) (p1 : Int32) (z : Int32 × sT) (hf : f_X7_load u_th p1 = some z) : Met l yX7_load wsX7_load rmX7_load (va_Pc [.ref th0, .int p1] (wPr D cI cZ (ceT cI cZ th0 th1 th2 th3 th4 th5 u_th) sz)) (va_Qi (fun (r : Int32) (v : sT) => (r, v) = z) (fun (v : sT) t => wPo D cI cZ (va_A (ceT cI cZ th0 th1 th2 th3 th4 th5 u_th) sz) (ceT cI cZ th0 th1 th2 th3 th4 th5 v) t) (va_A (ceT cI cZ th0 th1 th2 th3 th4 th5 u_th) sz)) 0 0 (va_A (ceT cI cZ th0 th1 th2 th3 th4 th5 u_th) sz) := by
  refine k_enter (D := D) (cI := cI) (cZ := cZ) (wl := ceT cI cZ th0 th1 th2 th3 th4 th5 u_th) (sz := sz) (av := [.ref th0, .int p1]) (cc := cX7_load) (maxL := 4) (ret := (some .int)) (Qc := fun A => va_Qi (fun (r : Int32) (v : sT) => (r, v) = z) (fun (v : sT) t => wPo D cI cZ (A) (ceT cI cZ th0 th1 th2 th3 th4 th5 v) t) (A)) (by decide) rfl (Nat.le_of_ble_eq_true rfl) ?_
  intro p e s m below meth c ls A Q H locs eQ hx hb hr hml hts hown hlocks hK hP hD hS hA hE hl
  have hown : s.vm.findClass RX7 = some m.cls := hown
  have hl : lv_has ls 4 [(0, .ref th0), (1, .int p1)] := hl
  have hi_X7 : ∀ w ∈ wsX70, w ∈ wsX7_load := fun w h => List.mem_cons_of_mem _ (List.mem_append_left _ (List.mem_append_right _ h))
  have hJ26 : ∀ (v2 : Int32) (s0 : Int32) (u_th : sT) (H : Heap) (locs : List Loc) (ls : Array Slot), lv_has ls 4 [(0, .ref th0), (2, .int v2)] → va_P D vwCl (ceT cI cZ th0 th1 th2 th3 th4 th5 u_th) H → va_D A (ceT cI cZ th0 th1 th2 th3 th4 th5 u_th) → va_S A s.heap H locs → f_X7_load_J26 v2 s0 u_th = some z → W p l e (headSpec wsX7_load rmX7_load).room s m ([.ref th0, .int p1] : List Value).toArray below meth c H locs 0 0 Q (F0 m 26 ls [.int s0]) := by
    intro  v2 s0 u_th H locs ls hl hP hD hS hf
    rw [f_X7_load_J26] at hf
    refine lv_istore_n (lv' := [(3, .int s0), (0, .ref th0), (2, .int v2)]) hx hb dX7_load_26 rfl hl (by decide) rfl (fun ls hl => ?_)
    refine lv_iload_n hx hb dX7_load_27 rfl (lv_at hl 0 rfl) ?_
    refine lv_bipush (v := 99) hx hb dX7_load_28 (by decide) ?_
    refine lv_icmp_le (tgt := 35) hx hb dX7_load_30 (by decide) (fun c4 => ?_) (fun c4 => ?_)
    · have hf := (if_pos c4).symm.trans hf
      refine lv_aload_n hx hb dX7_load_35 rfl (lv_at hl 1 rfl) ?_
      refine va_get (D := D) (ci := 4) (v := .ref th1) (C := RX7) (T := TX7) (N := 7) hx hb hts hi_X7 hown hK hP 0 rfl rfl 0 (by decide) (hts (.fieldLink RX7 12 "FairWheel$Telling" "wheel" "LFairWheel$Wheel;") (List.mem_of_getElem? (i := 1) rfl)) (fun _ h9 => h9) rfl dX7_load_36 ?_
      refine lv_iload_n hx hb dX7_load_39 rfl (lv_at hl 2 rfl) ?_
      refine lv_iload_n hx hb dX7_load_40 rfl (lv_at hl 0 rfl) ?_
      obtain ⟨z5, hz_z5, hf⟩ := o_bind hf
      refine k_callv (va_runV (As := [.int v2, .int s0]) (rest := []) ⟨hx, hb, hml, hown, hts⟩ (c_X9_setLoad l D cI cZ th1 th2 th3 th4 th5 H.size (T_wheel u_th) v2 s0 z5 hz_z5) (cwV 2 hts gX7_load_X9_setLoad rfl rfl rfl ⟨rfl, hd_X9_setLoad⟩ ⟨Nat.le_of_ble_eq_true rfl, Nat.le_of_ble_eq_true rfl⟩) (k_preV hK hP hD hS hA hE [1, 2, 3, 4, 5] (by decide) rfl (ci := 6) rfl rfl) rfl rfl hl.1 rfl (lv_room (Nat.le_of_ble_eq_true rfl)) dX7_load_41 ⟨Nat.zero_le _, Nat.zero_le _⟩) hP hD hS hA [1, 2, 3, 4, 5] [none, some 0, some 1, some 2, some 3, some 4] 5 rfl (by decide) (by decide) rfl rfl (fun H locs hP hD hS => ?_)
      have hP : va_P D vwCl (ceT cI cZ th0 th1 th2 th3 th4 th5 (z5, (T_failedEvent u_th), (T_reason u_th), (T_turned u_th), (T_filling u_th), (T_asked u_th), (T_askedBefore u_th))) H := hP
      have hD : va_D A (ceT cI cZ th0 th1 th2 th3 th4 th5 (z5, (T_failedEvent u_th), (T_reason u_th), (T_turned u_th), (T_filling u_th), (T_asked u_th), (T_askedBefore u_th))) := hD
      refine lv_iconst (v := 0) hx hb dX7_load_44 (by decide) ?_
      exact k_iret (v := (0 : Int32)) (u := (z5, (T_failedEvent u_th), (T_reason u_th), (T_turned u_th), (T_filling u_th), (T_asked u_th), (T_askedBefore u_th))) hx hb hr hlocks hK hS eQ hf hP hD dX7_load_45
    · have hf := (if_neg c4).symm.trans hf
      refine lv_iconst (v := 4) hx hb dX7_load_33 (by decide) ?_
      exact k_iret (v := (4 : Int32)) (u := u_th) hx hb hr hlocks hK hS eQ hf hP hD dX7_load_34
  rw [f_X7_load] at hf
  refine lv_aload_n hx hb dX7_load_0 rfl (lv_at hl 0 rfl) ?_
  refine va_get (D := D) (ci := 4) (v := .ref th1) (C := RX7) (T := TX7) (N := 7) hx hb hts hi_X7 hown hK hP 0 rfl rfl 0 (by decide) (hts (.fieldLink RX7 12 "FairWheel$Telling" "wheel" "LFairWheel$Wheel;") (List.mem_of_getElem? (i := 1) rfl)) (fun _ h9 => h9) rfl dX7_load_1 ?_
  obtain ⟨z1, hz_z1, hf⟩ := o_bind hf
  refine k_calli (va_runV (As := []) (rest := []) ⟨hx, hb, hml, hown, hts⟩ (c_X9_lowest l D cI cZ th1 th2 th3 th4 th5 H.size (T_wheel u_th) z1 hz_z1) (cwV 0 hts gX7_load_X9_lowest rfl rfl rfl ⟨rfl, hd_X9_lowest⟩ ⟨Nat.le_of_ble_eq_true rfl, Nat.le_of_ble_eq_true rfl⟩) (k_preV hK hP hD hS hA hE [1, 2, 3, 4, 5] (by decide) rfl (ci := 6) rfl rfl) rfl rfl hl.1 rfl (lv_room (Nat.le_of_ble_eq_true rfl)) dX7_load_4 ⟨Nat.zero_le _, Nat.zero_le _⟩) hP hD hS hA [1, 2, 3, 4, 5] [none, some 0, some 1, some 2, some 3, some 4] 5 rfl (by decide) (by decide) rfl rfl (fun H locs hP hD hS => ?_)
  have hP : va_P D vwCl (ceT cI cZ th0 th1 th2 th3 th4 th5 u_th) H := hP
  have hD : va_D A (ceT cI cZ th0 th1 th2 th3 th4 th5 u_th) := hD
  refine lv_istore_n (lv' := [(2, .int z1.1), (0, .ref th0), (1, .int p1)]) hx hb dX7_load_7 rfl hl (by decide) rfl (fun ls hl => ?_)
  refine lv_iload_n hx hb dX7_load_8 rfl (lv_at hl 2 rfl) ?_
  refine lv_if_ne (tgt := 16) hx hb dX7_load_9 (by decide) (fun c2 => ?_) (fun c2 => ?_)
  · have hf := (if_neg c2).symm.trans hf
    refine lv_aload_n hx hb dX7_load_16 rfl (lv_at hl 1 rfl) ?_
    refine va_get (D := D) (ci := 4) (v := .ref th1) (C := RX7) (T := TX7) (N := 7) hx hb hts hi_X7 hown hK hP 0 rfl rfl 0 (by decide) (hts (.fieldLink RX7 12 "FairWheel$Telling" "wheel" "LFairWheel$Wheel;") (List.mem_of_getElem? (i := 1) rfl)) (fun _ h9 => h9) rfl dX7_load_17 ?_
    refine lv_iload_n hx hb dX7_load_20 rfl (lv_at hl 0 rfl) ?_
    obtain ⟨z3, hz_z3, hf⟩ := o_bind hf
    refine k_calli (va_runV (As := [.int z1.1]) (rest := []) ⟨hx, hb, hml, hown, hts⟩ (c_X9_loadOf l D cI cZ th1 th2 th3 th4 th5 H.size (T_wheel u_th) z1.1 z3 hz_z3) (cwV 1 hts gX7_load_X9_loadOf rfl rfl rfl ⟨rfl, hd_X9_loadOf⟩ ⟨Nat.le_of_ble_eq_true rfl, Nat.le_of_ble_eq_true rfl⟩) (k_preV hK hP hD hS hA hE [1, 2, 3, 4, 5] (by decide) rfl (ci := 6) rfl rfl) rfl rfl hl.1 rfl (lv_room (Nat.le_of_ble_eq_true rfl)) dX7_load_21 ⟨Nat.zero_le _, Nat.zero_le _⟩) hP hD hS hA [1, 2, 3, 4, 5] [none, some 0, some 1, some 2, some 3, some 4] 5 rfl (by decide) (by decide) rfl rfl (fun H locs hP hD hS => ?_)
    have hP : va_P D vwCl (ceT cI cZ th0 th1 th2 th3 th4 th5 u_th) H := hP
    have hD : va_D A (ceT cI cZ th0 th1 th2 th3 th4 th5 u_th) := hD
    refine lv_iload_n hx hb dX7_load_24 rfl (lv_at hl 2 rfl) ?_
    refine lv_iadd hx hb dX7_load_25 ?_
    exact hJ26 z1.1 (z3.1 + p1) u_th _ _ ls (lv_sub hl [1, 0] rfl) hP hD hS hf
  · have hf := (if_pos c2).symm.trans hf
    refine lv_iconst (v := 0) hx hb dX7_load_12 (by decide) ?_
    refine lv_goto (tgt := 26) hx hb dX7_load_13 (by decide) ?_
    exact hJ26 z1.1 (0 : Int32) u_th _ _ ls (lv_sub hl [1, 0] rfl) hP hD hS hf
theorem hd_X7_letIn : yX7_letIn.cls ≠ "java/lang/invoke/MethodHandle" ∧ yX7_letIn.cls ≠ "java/lang/invoke/VarHandle" ∧ (parseMethodDescriptor yX7_letIn.desc).map (fun d => d.parameters.length) = some 1 := by decide +kernel
set_option maxHeartbeats 4000000 in
set_option maxRecDepth 100000 in
theorem c_X7_letIn (l : Launch) (D : va_G) (cI cZ : ClassId) (th0 : Nat) (th1 : Nat) (th2 : Nat) (th3 : Nat) (th4 : Nat) (th5 : Nat) (sz : Nat) (u_th : sT) (p1 : Int32) (z : Int32 × sT) (hf : f_X7_letIn u_th p1 = some z) : Met l yX7_letIn wsX7_letIn rmX7_letIn (va_Pc [.ref th0, .int p1] (wPr D cI cZ (ceT cI cZ th0 th1 th2 th3 th4 th5 u_th) sz)) (va_Qi (fun (r : Int32) (v : sT) => (r, v) = z) (fun (v : sT) t => wPo D cI cZ (va_A (ceT cI cZ th0 th1 th2 th3 th4 th5 u_th) sz) (ceT cI cZ th0 th1 th2 th3 th4 th5 v) t) (va_A (ceT cI cZ th0 th1 th2 th3 th4 th5 u_th) sz)) 0 0 (va_A (ceT cI cZ th0 th1 th2 th3 th4 th5 u_th) sz) := by
  refine k_enter (D := D) (cI := cI) (cZ := cZ) (wl := ceT cI cZ th0 th1 th2 th3 th4 th5 u_th) (sz := sz) (av := [.ref th0, .int p1]) (cc := cX7_letIn) (maxL := 2) (ret := (some .int)) (Qc := fun A => va_Qi (fun (r : Int32) (v : sT) => (r, v) = z) (fun (v : sT) t => wPo D cI cZ (A) (ceT cI cZ th0 th1 th2 th3 th4 th5 v) t) (A)) (by decide) rfl (Nat.le_of_ble_eq_true rfl) ?_
  intro p e s m below meth c ls A Q H locs eQ hx hb hr hml hts hown hlocks hK hP hD hS hA hE hl
  have hown : s.vm.findClass RX7 = some m.cls := hown
  have hl : lv_has ls 2 [(0, .ref th0), (1, .int p1)] := hl
  have hi_X7 : ∀ w ∈ wsX70, w ∈ wsX7_letIn := fun w h => List.mem_cons_of_mem _ (List.mem_append_left _ (List.mem_append_right _ h))
  rw [f_X7_letIn] at hf
  refine lv_aload_n hx hb dX7_letIn_0 rfl (lv_at hl 0 rfl) ?_
  refine va_get (D := D) (ci := 4) (v := .ref th1) (C := RX7) (T := TX7) (N := 7) hx hb hts hi_X7 hown hK hP 0 rfl rfl 0 (by decide) (hts (.fieldLink RX7 12 "FairWheel$Telling" "wheel" "LFairWheel$Wheel;") (List.mem_of_getElem? (i := 1) rfl)) (fun _ h9 => h9) rfl dX7_letIn_1 ?_
  refine lv_iload_n hx hb dX7_letIn_4 rfl (lv_at hl 1 rfl) ?_
  obtain ⟨z1, hz_z1, hf⟩ := o_bind hf
  refine k_calli (va_runV (As := [.int p1]) (rest := []) ⟨hx, hb, hml, hown, hts⟩ (c_X9_isAboard l D cI cZ th1 th2 th3 th4 th5 H.size (T_wheel u_th) p1 z1 hz_z1) (cwV 1 hts gX7_letIn_X9_isAboard rfl rfl rfl ⟨rfl, hd_X9_isAboard⟩ ⟨Nat.le_of_ble_eq_true rfl, Nat.le_of_ble_eq_true rfl⟩) (k_preV hK hP hD hS hA hE [1, 2, 3, 4, 5] (by decide) rfl (ci := 6) rfl rfl) rfl rfl hl.1 rfl (lv_room (Nat.le_of_ble_eq_true rfl)) dX7_letIn_5 ⟨Nat.zero_le _, Nat.zero_le _⟩) hP hD hS hA [1, 2, 3, 4, 5] [none, some 0, some 1, some 2, some 3, some 4] 5 rfl (by decide) (by decide) rfl rfl (fun H locs hP hD hS => ?_)
  have hP : va_P D vwCl (ceT cI cZ th0 th1 th2 th3 th4 th5 u_th) H := hP
  have hD : va_D A (ceT cI cZ th0 th1 th2 th3 th4 th5 u_th) := hD
  refine lv_if_eq (tgt := 13) hx hb dX7_letIn_8 (by decide) (fun c2 => ?_) (fun c2 => ?_)
  · have hf := (if_pos c2).symm.trans hf
    refine lv_aload_n hx hb dX7_letIn_13 rfl (lv_at hl 0 rfl) ?_
    refine va_get (D := D) (ci := 4) (v := .ref th1) (C := RX7) (T := TX7) (N := 7) hx hb hts hi_X7 hown hK hP 0 rfl rfl 0 (by decide) (hts (.fieldLink RX7 12 "FairWheel$Telling" "wheel" "LFairWheel$Wheel;") (List.mem_of_getElem? (i := 1) rfl)) (fun _ h9 => h9) rfl dX7_letIn_14 ?_
    obtain ⟨z3, hz_z3, hf⟩ := o_bind hf
    refine k_calli (va_runV (As := []) (rest := []) ⟨hx, hb, hml, hown, hts⟩ (c_X9_isTaken l D cI cZ th1 th2 th3 th4 th5 H.size (T_wheel u_th) z3 hz_z3) (cwV 0 hts gX7_letIn_X9_isTaken rfl rfl rfl ⟨rfl, hd_X9_isTaken⟩ ⟨Nat.le_of_ble_eq_true rfl, Nat.le_of_ble_eq_true rfl⟩) (k_preV hK hP hD hS hA hE [1, 2, 3, 4, 5] (by decide) rfl (ci := 6) rfl rfl) rfl rfl hl.1 rfl (lv_room (Nat.le_of_ble_eq_true rfl)) dX7_letIn_17 ⟨Nat.zero_le _, Nat.zero_le _⟩) hP hD hS hA [1, 2, 3, 4, 5] [none, some 0, some 1, some 2, some 3, some 4] 5 rfl (by decide) (by decide) rfl rfl (fun H locs hP hD hS => ?_)
    have hP : va_P D vwCl (ceT cI cZ th0 th1 th2 th3 th4 th5 u_th) H := hP
    have hD : va_D A (ceT cI cZ th0 th1 th2 th3 th4 th5 u_th) := hD
    refine lv_if_eq (tgt := 25) hx hb dX7_letIn_20 (by decide) (fun c4 => ?_) (fun c4 => ?_)
    · have hf := (if_pos c4).symm.trans hf
      refine lv_aload_n hx hb dX7_letIn_25 rfl (lv_at hl 0 rfl) ?_
      refine va_get (D := D) (ci := 4) (v := .ref th1) (C := RX7) (T := TX7) (N := 7) hx hb hts hi_X7 hown hK hP 0 rfl rfl 0 (by decide) (hts (.fieldLink RX7 12 "FairWheel$Telling" "wheel" "LFairWheel$Wheel;") (List.mem_of_getElem? (i := 1) rfl)) (fun _ h9 => h9) rfl dX7_letIn_26 ?_
      refine lv_iload_n hx hb dX7_letIn_29 rfl (lv_at hl 1 rfl) ?_
      refine lv_aload_n hx hb dX7_letIn_30 rfl (lv_at hl 0 rfl) ?_
      refine va_get (D := D) (ci := 4) (v := .ref th1) (C := RX7) (T := TX7) (N := 7) hx hb hts hi_X7 hown hK hP 0 rfl rfl 0 (by decide) (hts (.fieldLink RX7 12 "FairWheel$Telling" "wheel" "LFairWheel$Wheel;") (List.mem_of_getElem? (i := 1) rfl)) (fun _ h9 => h9) rfl dX7_letIn_31 ?_
      obtain ⟨z5, hz_z5, hf⟩ := o_bind hf
      refine k_calli (va_runV (As := []) (rest := [.int p1, .ref th1]) ⟨hx, hb, hml, hown, hts⟩ (c_X9_lowest l D cI cZ th1 th2 th3 th4 th5 H.size (T_wheel u_th) z5 hz_z5) (cwV 0 hts gX7_letIn_X9_lowest rfl rfl rfl ⟨rfl, hd_X9_lowest⟩ ⟨Nat.le_of_ble_eq_true rfl, Nat.le_of_ble_eq_true rfl⟩) (k_preV hK hP hD hS hA hE [1, 2, 3, 4, 5] (by decide) rfl (ci := 6) rfl rfl) rfl rfl hl.1 rfl (lv_room (Nat.le_of_ble_eq_true rfl)) dX7_letIn_34 ⟨Nat.zero_le _, Nat.zero_le _⟩) hP hD hS hA [1, 2, 3, 4, 5] [none, some 0, some 1, some 2, some 3, some 4] 5 rfl (by decide) (by decide) rfl rfl (fun H locs hP hD hS => ?_)
      have hP : va_P D vwCl (ceT cI cZ th0 th1 th2 th3 th4 th5 u_th) H := hP
      have hD : va_D A (ceT cI cZ th0 th1 th2 th3 th4 th5 u_th) := hD
      obtain ⟨z6, hz_z6, hf⟩ := o_bind hf
      refine k_callv (va_runV (As := [.int p1, .int z5.1]) (rest := []) ⟨hx, hb, hml, hown, hts⟩ (c_X9_seat l D cI cZ th1 th2 th3 th4 th5 H.size (T_wheel u_th) p1 z5.1 z6 hz_z6) (cwV 2 hts gX7_letIn_X9_seat rfl rfl rfl ⟨rfl, hd_X9_seat⟩ ⟨Nat.le_of_ble_eq_true rfl, Nat.le_of_ble_eq_true rfl⟩) (k_preV hK hP hD hS hA hE [1, 2, 3, 4, 5] (by decide) rfl (ci := 6) rfl rfl) rfl rfl hl.1 rfl (lv_room (Nat.le_of_ble_eq_true rfl)) dX7_letIn_37 ⟨Nat.zero_le _, Nat.zero_le _⟩) hP hD hS hA [1, 2, 3, 4, 5] [none, some 0, some 1, some 2, some 3, some 4] 5 rfl (by decide) (by decide) rfl rfl (fun H locs hP hD hS => ?_)
      have hP : va_P D vwCl (ceT cI cZ th0 th1 th2 th3 th4 th5 (z6, (T_failedEvent u_th), (T_reason u_th), (T_turned u_th), (T_filling u_th), (T_asked u_th), (T_askedBefore u_th))) H := hP
      have hD : va_D A (ceT cI cZ th0 th1 th2 th3 th4 th5 (z6, (T_failedEvent u_th), (T_reason u_th), (T_turned u_th), (T_filling u_th), (T_asked u_th), (T_askedBefore u_th))) := hD
      refine lv_iconst (v := 0) hx hb dX7_letIn_40 (by decide) ?_
      exact k_iret (v := (0 : Int32)) (u := (z6, (T_failedEvent u_th), (T_reason u_th), (T_turned u_th), (T_filling u_th), (T_asked u_th), (T_askedBefore u_th))) hx hb hr hlocks hK hS eQ hf hP hD dX7_letIn_41
    · have hf := (if_neg c4).symm.trans hf
      refine lv_iconst (v := 2) hx hb dX7_letIn_23 (by decide) ?_
      exact k_iret (v := (2 : Int32)) (u := u_th) hx hb hr hlocks hK hS eQ hf hP hD dX7_letIn_24
  · have hf := (if_neg c2).symm.trans hf
    refine lv_iconst (v := 1) hx hb dX7_letIn_11 (by decide) ?_
    exact k_iret (v := (1 : Int32)) (u := u_th) hx hb hr hlocks hK hS eQ hf hP hD dX7_letIn_12
theorem hd_X7_letOut : yX7_letOut.cls ≠ "java/lang/invoke/MethodHandle" ∧ yX7_letOut.cls ≠ "java/lang/invoke/VarHandle" ∧ (parseMethodDescriptor yX7_letOut.desc).map (fun d => d.parameters.length) = some 1 := by decide +kernel
set_option maxHeartbeats 4000000 in
set_option maxRecDepth 100000 in
theorem c_X7_letOut (l : Launch) (D : va_G) (cI cZ : ClassId) (th0 : Nat) (th1 : Nat) (th2 : Nat) (th3 : Nat) (th4 : Nat) (th5 : Nat) (sz : Nat) (u_th : sT) (p1 : Int32) (z : Int32 × sT) (hf : f_X7_letOut u_th p1 = some z) : Met l yX7_letOut wsX7_letOut rmX7_letOut (va_Pc [.ref th0, .int p1] (wPr D cI cZ (ceT cI cZ th0 th1 th2 th3 th4 th5 u_th) sz)) (va_Qi (fun (r : Int32) (v : sT) => (r, v) = z) (fun (v : sT) t => wPo D cI cZ (va_A (ceT cI cZ th0 th1 th2 th3 th4 th5 u_th) sz) (ceT cI cZ th0 th1 th2 th3 th4 th5 v) t) (va_A (ceT cI cZ th0 th1 th2 th3 th4 th5 u_th) sz)) 0 0 (va_A (ceT cI cZ th0 th1 th2 th3 th4 th5 u_th) sz) := by
  refine k_enter (D := D) (cI := cI) (cZ := cZ) (wl := ceT cI cZ th0 th1 th2 th3 th4 th5 u_th) (sz := sz) (av := [.ref th0, .int p1]) (cc := cX7_letOut) (maxL := 2) (ret := (some .int)) (Qc := fun A => va_Qi (fun (r : Int32) (v : sT) => (r, v) = z) (fun (v : sT) t => wPo D cI cZ (A) (ceT cI cZ th0 th1 th2 th3 th4 th5 v) t) (A)) (by decide) rfl (Nat.le_of_ble_eq_true rfl) ?_
  intro p e s m below meth c ls A Q H locs eQ hx hb hr hml hts hown hlocks hK hP hD hS hA hE hl
  have hown : s.vm.findClass RX7 = some m.cls := hown
  have hl : lv_has ls 2 [(0, .ref th0), (1, .int p1)] := hl
  have hi_X7 : ∀ w ∈ wsX70, w ∈ wsX7_letOut := fun w h => List.mem_cons_of_mem _ (List.mem_append_left _ (List.mem_append_right _ h))
  rw [f_X7_letOut] at hf
  refine lv_aload_n hx hb dX7_letOut_0 rfl (lv_at hl 0 rfl) ?_
  refine va_get (D := D) (ci := 4) (v := .ref th1) (C := RX7) (T := TX7) (N := 7) hx hb hts hi_X7 hown hK hP 0 rfl rfl 0 (by decide) (hts (.fieldLink RX7 12 "FairWheel$Telling" "wheel" "LFairWheel$Wheel;") (List.mem_of_getElem? (i := 1) rfl)) (fun _ h9 => h9) rfl dX7_letOut_1 ?_
  refine lv_iload_n hx hb dX7_letOut_4 rfl (lv_at hl 1 rfl) ?_
  obtain ⟨z1, hz_z1, hf⟩ := o_bind hf
  refine k_calli (va_runV (As := [.int p1]) (rest := []) ⟨hx, hb, hml, hown, hts⟩ (c_X9_isLowest l D cI cZ th1 th2 th3 th4 th5 H.size (T_wheel u_th) p1 z1 hz_z1) (cwV 1 hts gX7_letOut_X9_isLowest rfl rfl rfl ⟨rfl, hd_X9_isLowest⟩ ⟨Nat.le_of_ble_eq_true rfl, Nat.le_of_ble_eq_true rfl⟩) (k_preV hK hP hD hS hA hE [1, 2, 3, 4, 5] (by decide) rfl (ci := 6) rfl rfl) rfl rfl hl.1 rfl (lv_room (Nat.le_of_ble_eq_true rfl)) dX7_letOut_5 ⟨Nat.zero_le _, Nat.zero_le _⟩) hP hD hS hA [1, 2, 3, 4, 5] [none, some 0, some 1, some 2, some 3, some 4] 5 rfl (by decide) (by decide) rfl rfl (fun H locs hP hD hS => ?_)
  have hP : va_P D vwCl (ceT cI cZ th0 th1 th2 th3 th4 th5 u_th) H := hP
  have hD : va_D A (ceT cI cZ th0 th1 th2 th3 th4 th5 u_th) := hD
  refine lv_if_ne (tgt := 13) hx hb dX7_letOut_8 (by decide) (fun c2 => ?_) (fun c2 => ?_)
  · have hf := (if_neg c2).symm.trans hf
    refine lv_aload_n hx hb dX7_letOut_13 rfl (lv_at hl 0 rfl) ?_
    refine va_get (D := D) (ci := 4) (v := .ref th1) (C := RX7) (T := TX7) (N := 7) hx hb hts hi_X7 hown hK hP 0 rfl rfl 0 (by decide) (hts (.fieldLink RX7 12 "FairWheel$Telling" "wheel" "LFairWheel$Wheel;") (List.mem_of_getElem? (i := 1) rfl)) (fun _ h9 => h9) rfl dX7_letOut_14 ?_
    refine lv_aload_n hx hb dX7_letOut_17 rfl (lv_at hl 0 rfl) ?_
    refine va_get (D := D) (ci := 4) (v := .ref th1) (C := RX7) (T := TX7) (N := 7) hx hb hts hi_X7 hown hK hP 0 rfl rfl 0 (by decide) (hts (.fieldLink RX7 12 "FairWheel$Telling" "wheel" "LFairWheel$Wheel;") (List.mem_of_getElem? (i := 1) rfl)) (fun _ h9 => h9) rfl dX7_letOut_18 ?_
    obtain ⟨z3, hz_z3, hf⟩ := o_bind hf
    refine k_calli (va_runV (As := []) (rest := [.ref th1]) ⟨hx, hb, hml, hown, hts⟩ (c_X9_lowest l D cI cZ th1 th2 th3 th4 th5 H.size (T_wheel u_th) z3 hz_z3) (cwV 0 hts gX7_letOut_X9_lowest rfl rfl rfl ⟨rfl, hd_X9_lowest⟩ ⟨Nat.le_of_ble_eq_true rfl, Nat.le_of_ble_eq_true rfl⟩) (k_preV hK hP hD hS hA hE [1, 2, 3, 4, 5] (by decide) rfl (ci := 6) rfl rfl) rfl rfl hl.1 rfl (lv_room (Nat.le_of_ble_eq_true rfl)) dX7_letOut_21 ⟨Nat.zero_le _, Nat.zero_le _⟩) hP hD hS hA [1, 2, 3, 4, 5] [none, some 0, some 1, some 2, some 3, some 4] 5 rfl (by decide) (by decide) rfl rfl (fun H locs hP hD hS => ?_)
    have hP : va_P D vwCl (ceT cI cZ th0 th1 th2 th3 th4 th5 u_th) H := hP
    have hD : va_D A (ceT cI cZ th0 th1 th2 th3 th4 th5 u_th) := hD
    obtain ⟨z4, hz_z4, hf⟩ := o_bind hf
    refine k_callv (va_runV (As := [.int z3.1]) (rest := []) ⟨hx, hb, hml, hown, hts⟩ (c_X9_unseat l D cI cZ th1 th2 th3 th4 th5 H.size (T_wheel u_th) z3.1 z4 hz_z4) (cwV 1 hts gX7_letOut_X9_unseat rfl rfl rfl ⟨rfl, hd_X9_unseat⟩ ⟨Nat.le_of_ble_eq_true rfl, Nat.le_of_ble_eq_true rfl⟩) (k_preV hK hP hD hS hA hE [1, 2, 3, 4, 5] (by decide) rfl (ci := 6) rfl rfl) rfl rfl hl.1 rfl (lv_room (Nat.le_of_ble_eq_true rfl)) dX7_letOut_24 ⟨Nat.zero_le _, Nat.zero_le _⟩) hP hD hS hA [1, 2, 3, 4, 5] [none, some 0, some 1, some 2, some 3, some 4] 5 rfl (by decide) (by decide) rfl rfl (fun H locs hP hD hS => ?_)
    have hP : va_P D vwCl (ceT cI cZ th0 th1 th2 th3 th4 th5 (z4, (T_failedEvent u_th), (T_reason u_th), (T_turned u_th), (T_filling u_th), (T_asked u_th), (T_askedBefore u_th))) H := hP
    have hD : va_D A (ceT cI cZ th0 th1 th2 th3 th4 th5 (z4, (T_failedEvent u_th), (T_reason u_th), (T_turned u_th), (T_filling u_th), (T_asked u_th), (T_askedBefore u_th))) := hD
    refine lv_iconst (v := 0) hx hb dX7_letOut_27 (by decide) ?_
    exact k_iret (v := (0 : Int32)) (u := (z4, (T_failedEvent u_th), (T_reason u_th), (T_turned u_th), (T_filling u_th), (T_asked u_th), (T_askedBefore u_th))) hx hb hr hlocks hK hS eQ hf hP hD dX7_letOut_28
  · have hf := (if_pos c2).symm.trans hf
    refine lv_iconst (v := 3) hx hb dX7_letOut_11 (by decide) ?_
    exact k_iret (v := (3 : Int32)) (u := u_th) hx hb hr hlocks hK hS eQ hf hP hD dX7_letOut_12
theorem hd_X7_happen : yX7_happen.cls ≠ "java/lang/invoke/MethodHandle" ∧ yX7_happen.cls ≠ "java/lang/invoke/VarHandle" ∧ (parseMethodDescriptor yX7_happen.desc).map (fun d => d.parameters.length) = some 1 := by decide +kernel
set_option maxHeartbeats 4000000 in
set_option maxRecDepth 100000 in
theorem c_X7_happen (l : Launch) (D : va_G) (cI cZ : ClassId) (th0 : Nat) (th1 : Nat) (th2 : Nat) (th3 : Nat) (th4 : Nat) (th5 : Nat) (sz : Nat) (u_th : sT) (p1 : Int32) (z : Int32 × sT) (hf : f_X7_happen u_th p1 = some z) : Met l yX7_happen wsX7_happen rmX7_happen (va_Pc [.ref th0, .int p1] (wPr D cI cZ (ceT cI cZ th0 th1 th2 th3 th4 th5 u_th) sz)) (va_Qi (fun (r : Int32) (v : sT) => (r, v) = z) (fun (v : sT) t => wPo D cI cZ (va_A (ceT cI cZ th0 th1 th2 th3 th4 th5 u_th) sz) (ceT cI cZ th0 th1 th2 th3 th4 th5 v) t) (va_A (ceT cI cZ th0 th1 th2 th3 th4 th5 u_th) sz)) 0 0 (va_A (ceT cI cZ th0 th1 th2 th3 th4 th5 u_th) sz) := by
  refine k_enter (D := D) (cI := cI) (cZ := cZ) (wl := ceT cI cZ th0 th1 th2 th3 th4 th5 u_th) (sz := sz) (av := [.ref th0, .int p1]) (cc := cX7_happen) (maxL := 3) (ret := (some .int)) (Qc := fun A => va_Qi (fun (r : Int32) (v : sT) => (r, v) = z) (fun (v : sT) t => wPo D cI cZ (A) (ceT cI cZ th0 th1 th2 th3 th4 th5 v) t) (A)) (by decide) rfl (Nat.le_of_ble_eq_true rfl) ?_
  intro p e s m below meth c ls A Q H locs eQ hx hb hr hml hts hown hlocks hK hP hD hS hA hE hl
  have hown : s.vm.findClass RX7 = some m.cls := hown
  have hl : lv_has ls 3 [(0, .ref th0), (1, .int p1)] := hl
  have hi_X7 : ∀ w ∈ wsX70, w ∈ wsX7_happen := fun w h => List.mem_cons_of_mem _ (List.mem_append_left _ (List.mem_append_right _ h))
  have hJ46 : ∀ (s1 : Int32) (u_th : sT) (H : Heap) (locs : List Loc) (ls : Array Slot), lv_has ls 3 [] → va_P D vwCl (ceT cI cZ th0 th1 th2 th3 th4 th5 u_th) H → va_D A (ceT cI cZ th0 th1 th2 th3 th4 th5 u_th) → va_S A s.heap H locs → f_X7_happen_J46 s1 u_th = some z → W p l e (headSpec wsX7_happen rmX7_happen).room s m ([.ref th0, .int p1] : List Value).toArray below meth c H locs 0 0 Q (F0 m 46 ls [.int s1, .ref th1]) := by
    intro  s1 u_th H locs ls hl hP hD hS hf
    rw [f_X7_happen_J46] at hf
    obtain ⟨z15, hz_z15, hf⟩ := o_bind hf
    refine k_callv (va_runV (As := [.int s1]) (rest := []) ⟨hx, hb, hml, hown, hts⟩ (c_X9_turn l D cI cZ th1 th2 th3 th4 th5 H.size (T_wheel u_th) s1 z15 hz_z15) (cwV 1 hts gX7_happen_X9_turn rfl rfl rfl ⟨rfl, hd_X9_turn⟩ ⟨Nat.le_of_ble_eq_true rfl, Nat.le_of_ble_eq_true rfl⟩) (k_preV hK hP hD hS hA hE [1, 2, 3, 4, 5] (by decide) rfl (ci := 6) rfl rfl) rfl rfl hl.1 rfl (lv_room (Nat.le_of_ble_eq_true rfl)) dX7_happen_46 ⟨Nat.zero_le _, Nat.zero_le _⟩) hP hD hS hA [1, 2, 3, 4, 5] [none, some 0, some 1, some 2, some 3, some 4] 5 rfl (by decide) (by decide) rfl rfl (fun H locs hP hD hS => ?_)
    have hP : va_P D vwCl (ceT cI cZ th0 th1 th2 th3 th4 th5 (z15, (T_failedEvent u_th), (T_reason u_th), (T_turned u_th), (T_filling u_th), (T_asked u_th), (T_askedBefore u_th))) H := hP
    have hD : va_D A (ceT cI cZ th0 th1 th2 th3 th4 th5 (z15, (T_failedEvent u_th), (T_reason u_th), (T_turned u_th), (T_filling u_th), (T_asked u_th), (T_askedBefore u_th))) := hD
    refine lv_iconst (v := 0) hx hb dX7_happen_49 (by decide) ?_
    exact k_iret (v := (0 : Int32)) (u := (z15, (T_failedEvent u_th), (T_reason u_th), (T_turned u_th), (T_filling u_th), (T_asked u_th), (T_askedBefore u_th))) hx hb hr hlocks hK hS eQ hf hP hD dX7_happen_50
  rw [f_X7_happen] at hf
  refine lv_iload_n hx hb dX7_happen_0 rfl (lv_at hl 1 rfl) ?_
  refine lv_bipush (v := 94) hx hb dX7_happen_1 (by decide) ?_
  refine lv_icmp_ne (tgt := 24) hx hb dX7_happen_3 (by decide) (fun c1 => ?_) (fun c1 => ?_)
  · have hf := (if_neg c1).symm.trans hf
    refine lv_iload_n hx hb dX7_happen_24 rfl (lv_at hl 1 rfl) ?_
    obtain ⟨z2, hz_z2, hf⟩ := o_bind hf
    refine k_calli (va_runS (As := [.int p1]) (rest := []) ⟨hx, hb, hml, hown, hts⟩ (c_X4_isMotion l D cI cZ  H.size p1 z2 hz_z2) (va_cwS 1 hts gX7_happen_X4_isMotion rfl rfl rfl hd_X4_isMotion ⟨Nat.le_of_ble_eq_true rfl, Nat.le_of_ble_eq_true rfl⟩) (k_preS hK hP hD hS hA hE [] (by decide) rfl) rfl rfl hl.1 rfl (lv_room (Nat.le_of_ble_eq_true rfl)) dX7_happen_25 ⟨Nat.zero_le _, Nat.zero_le _⟩) hP hD hS hA [] [none, none, none, none, none, none] 0 rfl (by decide) (by decide) rfl rfl (fun H locs hP hD hS => ?_)
    have hP : va_P D vwCl (ceT cI cZ th0 th1 th2 th3 th4 th5 u_th) H := hP
    have hD : va_D A (ceT cI cZ th0 th1 th2 th3 th4 th5 u_th) := hD
    refine lv_if_eq (tgt := 51) hx hb dX7_happen_28 (by decide) (fun c3 => ?_) (fun c3 => ?_)
    · have hf := (if_pos c3).symm.trans hf
      refine lv_iload_n hx hb dX7_happen_51 rfl (lv_at hl 1 rfl) ?_
      obtain ⟨z4, hz_z4, hf⟩ := o_bind hf
      refine k_calli (va_runS (As := [.int p1]) (rest := []) ⟨hx, hb, hml, hown, hts⟩ (c_X4_isDigit l D cI cZ  H.size p1 z4 hz_z4) (va_cwS 1 hts gX7_happen_X4_isDigit rfl rfl rfl hd_X4_isDigit ⟨Nat.le_of_ble_eq_true rfl, Nat.le_of_ble_eq_true rfl⟩) (k_preS hK hP hD hS hA hE [] (by decide) rfl) rfl rfl hl.1 rfl (lv_room (Nat.le_of_ble_eq_true rfl)) dX7_happen_52 ⟨Nat.zero_le _, Nat.zero_le _⟩) hP hD hS hA [] [none, none, none, none, none, none] 0 rfl (by decide) (by decide) rfl rfl (fun H locs hP hD hS => ?_)
      have hP : va_P D vwCl (ceT cI cZ th0 th1 th2 th3 th4 th5 u_th) H := hP
      have hD : va_D A (ceT cI cZ th0 th1 th2 th3 th4 th5 u_th) := hD
      refine lv_if_eq (tgt := 67) hx hb dX7_happen_55 (by decide) (fun c5 => ?_) (fun c5 => ?_)
      · have hf := (if_pos c5).symm.trans hf
        refine lv_iload_n hx hb dX7_happen_67 rfl (lv_at hl 1 rfl) ?_
        obtain ⟨z6, hz_z6, hf⟩ := o_bind hf
        refine k_calli (va_runS (As := [.int p1]) (rest := []) ⟨hx, hb, hml, hown, hts⟩ (c_X4_getsOut l D cI cZ  H.size p1 z6 hz_z6) (va_cwS 1 hts gX7_happen_X4_getsOut rfl rfl rfl hd_X4_getsOut ⟨Nat.le_of_ble_eq_true rfl, Nat.le_of_ble_eq_true rfl⟩) (k_preS hK hP hD hS hA hE [] (by decide) rfl) rfl rfl hl.1 rfl (lv_room (Nat.le_of_ble_eq_true rfl)) dX7_happen_68 ⟨Nat.zero_le _, Nat.zero_le _⟩) hP hD hS hA [] [none, none, none, none, none, none] 0 rfl (by decide) (by decide) rfl rfl (fun H locs hP hD hS => ?_)
        have hP : va_P D vwCl (ceT cI cZ th0 th1 th2 th3 th4 th5 u_th) H := hP
        have hD : va_D A (ceT cI cZ th0 th1 th2 th3 th4 th5 u_th) := hD
        refine lv_if_eq (tgt := 83) hx hb dX7_happen_71 (by decide) (fun c7 => ?_) (fun c7 => ?_)
        · have hf := (if_pos c7).symm.trans hf
          refine lv_iload_n hx hb dX7_happen_83 rfl (lv_at hl 1 rfl) ?_
          refine lv_bipush (v := 63) hx hb dX7_happen_84 (by decide) ?_
          refine lv_icmp_ne (tgt := 121) hx hb dX7_happen_86 (by decide) (fun c8 => ?_) (fun c8 => ?_)
          · have hf := (if_neg c8).symm.trans hf
            refine lv_aload_n hx hb dX7_happen_121 rfl (lv_at hl 0 rfl) ?_
            refine lv_iload_n hx hb dX7_happen_122 rfl (lv_at hl 1 rfl) ?_
            refine lv_bipush (v := 65) hx hb dX7_happen_123 (by decide) ?_
            refine lv_isub hx hb dX7_happen_125 ?_
            obtain ⟨z9, hz_z9, hf⟩ := o_bind hf
            refine k_calli (va_runV (As := [.int (p1 - (65 : Int32))]) (rest := []) ⟨hx, hb, hml, hown, hts⟩ (c_X7_letIn l D cI cZ th0 th1 th2 th3 th4 th5 H.size u_th (p1 - (65 : Int32)) z9 hz_z9) (cwV 1 hts gX7_happen_X7_letIn rfl rfl rfl ⟨rfl, hd_X7_letIn⟩ ⟨Nat.le_of_ble_eq_true rfl, Nat.le_of_ble_eq_true rfl⟩) (k_preV hK hP hD hS hA hE [0, 1, 2, 3, 4, 5] (by decide) rfl (ci := 4) rfl rfl) rfl rfl hl.1 rfl (lv_room (Nat.le_of_ble_eq_true rfl)) dX7_happen_126 ⟨Nat.zero_le _, Nat.zero_le _⟩) hP hD hS hA [0, 1, 2, 3, 4, 5] [some 0, some 1, some 2, some 3, some 4, some 5] 6 rfl (by decide) (by decide) rfl rfl (fun H locs hP hD hS => ?_)
            have hP : va_P D vwCl (ceT cI cZ th0 th1 th2 th3 th4 th5 z9.2) H := hP
            have hD : va_D A (ceT cI cZ th0 th1 th2 th3 th4 th5 z9.2) := hD
            exact k_iret (v := z9.1) (u := z9.2) hx hb hr hlocks hK hS eQ hf hP hD dX7_happen_129
          · have hf := (if_pos c8).symm.trans hf
            refine lv_aload_n hx hb dX7_happen_89 rfl (lv_at hl 0 rfl) ?_
            refine va_get (D := D) (ci := 4) (v := .int (T_filling u_th)) (C := RX7) (T := TX7) (N := 7) hx hb hts hi_X7 hown hK hP 0 rfl rfl 4 (by decide) (hts (.fieldLink RX7 28 "FairWheel$Telling" "filling" "I") (List.mem_of_getElem? (i := 3) rfl)) (fun _ h9 => h9) rfl dX7_happen_90 ?_
            refine lv_aload_n hx hb dX7_happen_93 rfl (lv_at hl 0 rfl) ?_
            refine va_get (D := D) (ci := 4) (v := .int (T_askedBefore u_th)) (C := RX7) (T := TX7) (N := 7) hx hb hts hi_X7 hown hK hP 0 rfl rfl 6 (by decide) (hts (.fieldLink RX7 34 "FairWheel$Telling" "askedBefore" "I") (List.mem_of_getElem? (i := 4) rfl)) (fun _ h9 => h9) rfl dX7_happen_94 ?_
            refine lv_aload_n hx hb dX7_happen_97 rfl (lv_at hl 0 rfl) ?_
            refine va_get (D := D) (ci := 4) (v := .int (T_asked u_th)) (C := RX7) (T := TX7) (N := 7) hx hb hts hi_X7 hown hK hP 0 rfl rfl 5 (by decide) (hts (.fieldLink RX7 31 "FairWheel$Telling" "asked" "I") (List.mem_of_getElem? (i := 5) rfl)) (fun _ h9 => h9) rfl dX7_happen_98 ?_
            obtain ⟨z10, hz_z10, hf⟩ := o_bind hf
            refine k_calli (va_runS (As := [.int (T_filling u_th), .int (T_askedBefore u_th), .int (T_asked u_th)]) (rest := []) ⟨hx, hb, hml, hown, hts⟩ (c_X1_personAt l D cI cZ  H.size (T_filling u_th) (T_askedBefore u_th) (T_asked u_th) z10 hz_z10) (va_cwS 3 hts gX7_happen_X1_personAt rfl rfl rfl hd_X1_personAt ⟨Nat.le_of_ble_eq_true rfl, Nat.le_of_ble_eq_true rfl⟩) (k_preS hK hP hD hS hA hE [] (by decide) rfl) rfl rfl hl.1 rfl (lv_room (Nat.le_of_ble_eq_true rfl)) dX7_happen_101 ⟨Nat.zero_le _, Nat.zero_le _⟩) hP hD hS hA [] [none, none, none, none, none, none] 0 rfl (by decide) (by decide) rfl rfl (fun H locs hP hD hS => ?_)
            have hP : va_P D vwCl (ceT cI cZ th0 th1 th2 th3 th4 th5 u_th) H := hP
            have hD : va_D A (ceT cI cZ th0 th1 th2 th3 th4 th5 u_th) := hD
            refine lv_istore_n (lv' := [(2, .int z10.1), (0, .ref th0), (1, .int p1)]) hx hb dX7_happen_104 rfl hl (by decide) rfl (fun ls hl => ?_)
            refine lv_aload_n hx hb dX7_happen_105 rfl (lv_at hl 1 rfl) ?_
            refine lv_dup hx hb dX7_happen_106 rfl ?_
            refine va_get (D := D) (ci := 4) (v := .int (T_askedBefore u_th)) (C := RX7) (T := TX7) (N := 7) hx hb hts hi_X7 hown hK hP 0 rfl rfl 6 (by decide) (hts (.fieldLink RX7 34 "FairWheel$Telling" "askedBefore" "I") (List.mem_of_getElem? (i := 4) rfl)) (fun _ h9 => h9) rfl dX7_happen_107 ?_
            refine lv_iconst (v := 1) hx hb dX7_happen_110 (by decide) ?_
            refine lv_iadd hx hb dX7_happen_111 ?_
            refine va_put (D := D) (ci := 4) (v := .int ((T_askedBefore u_th) + (1 : Int32))) (ty := .int) (C := RX7) (T := TX7) (N := 7) hx hb hts hi_X7 tyX7 tyX7_ok nmX7 hown hK hP hD hS 0 rfl rfl 6 (by decide) (hts (.fieldLink RX7 34 "FairWheel$Telling" "askedBefore" "I") (List.mem_of_getElem? (i := 4) rfl)) (fun _ h9 => h9) rfl (by decide +kernel) rfl rfl (Nat.le_of_ble_eq_true rfl) dX7_happen_112 (fun H locs hP hD hS => ?_)
            have hP : va_P D vwCl (ceT cI cZ th0 th1 th2 th3 th4 th5 ((T_wheel u_th), (T_failedEvent u_th), (T_reason u_th), (T_turned u_th), (T_filling u_th), (T_asked u_th), ((T_askedBefore u_th) + (1 : Int32)))) H := hP
            have hD : va_D A (ceT cI cZ th0 th1 th2 th3 th4 th5 ((T_wheel u_th), (T_failedEvent u_th), (T_reason u_th), (T_turned u_th), (T_filling u_th), (T_asked u_th), ((T_askedBefore u_th) + (1 : Int32)))) := hD
            refine lv_aload_n hx hb dX7_happen_115 rfl (lv_at hl 1 rfl) ?_
            refine lv_iload_n hx hb dX7_happen_116 rfl (lv_at hl 0 rfl) ?_
            obtain ⟨z11, hz_z11, hf⟩ := o_bind hf
            refine k_calli (va_runV (As := [.int z10.1]) (rest := []) ⟨hx, hb, hml, hown, hts⟩ (c_X7_letIn l D cI cZ th0 th1 th2 th3 th4 th5 H.size ((T_wheel u_th), (T_failedEvent u_th), (T_reason u_th), (T_turned u_th), (T_filling u_th), (T_asked u_th), ((T_askedBefore u_th) + (1 : Int32))) z10.1 z11 hz_z11) (cwV 1 hts gX7_happen_X7_letIn rfl rfl rfl ⟨rfl, hd_X7_letIn⟩ ⟨Nat.le_of_ble_eq_true rfl, Nat.le_of_ble_eq_true rfl⟩) (k_preV hK hP hD hS hA hE [0, 1, 2, 3, 4, 5] (by decide) rfl (ci := 4) rfl rfl) rfl rfl hl.1 rfl (lv_room (Nat.le_of_ble_eq_true rfl)) dX7_happen_117 ⟨Nat.zero_le _, Nat.zero_le _⟩) hP hD hS hA [0, 1, 2, 3, 4, 5] [some 0, some 1, some 2, some 3, some 4, some 5] 6 rfl (by decide) (by decide) rfl rfl (fun H locs hP hD hS => ?_)
            have hP : va_P D vwCl (ceT cI cZ th0 th1 th2 th3 th4 th5 z11.2) H := hP
            have hD : va_D A (ceT cI cZ th0 th1 th2 th3 th4 th5 z11.2) := hD
            exact k_iret (v := z11.1) (u := z11.2) hx hb hr hlocks hK hS eQ hf hP hD dX7_happen_120
        · have hf := (if_neg c7).symm.trans hf
          refine lv_aload_n hx hb dX7_happen_74 rfl (lv_at hl 0 rfl) ?_
          refine lv_iload_n hx hb dX7_happen_75 rfl (lv_at hl 1 rfl) ?_
          refine lv_bipush (v := 97) hx hb dX7_happen_76 (by decide) ?_
          refine lv_isub hx hb dX7_happen_78 ?_
          obtain ⟨z12, hz_z12, hf⟩ := o_bind hf
          refine k_calli (va_runV (As := [.int (p1 - (97 : Int32))]) (rest := []) ⟨hx, hb, hml, hown, hts⟩ (c_X7_letOut l D cI cZ th0 th1 th2 th3 th4 th5 H.size u_th (p1 - (97 : Int32)) z12 hz_z12) (cwV 1 hts gX7_happen_X7_letOut rfl rfl rfl ⟨rfl, hd_X7_letOut⟩ ⟨Nat.le_of_ble_eq_true rfl, Nat.le_of_ble_eq_true rfl⟩) (k_preV hK hP hD hS hA hE [0, 1, 2, 3, 4, 5] (by decide) rfl (ci := 4) rfl rfl) rfl rfl hl.1 rfl (lv_room (Nat.le_of_ble_eq_true rfl)) dX7_happen_79 ⟨Nat.zero_le _, Nat.zero_le _⟩) hP hD hS hA [0, 1, 2, 3, 4, 5] [some 0, some 1, some 2, some 3, some 4, some 5] 6 rfl (by decide) (by decide) rfl rfl (fun H locs hP hD hS => ?_)
          have hP : va_P D vwCl (ceT cI cZ th0 th1 th2 th3 th4 th5 z12.2) H := hP
          have hD : va_D A (ceT cI cZ th0 th1 th2 th3 th4 th5 z12.2) := hD
          exact k_iret (v := z12.1) (u := z12.2) hx hb hr hlocks hK hS eQ hf hP hD dX7_happen_82
      · have hf := (if_neg c5).symm.trans hf
        refine lv_aload_n hx hb dX7_happen_58 rfl (lv_at hl 0 rfl) ?_
        refine lv_iload_n hx hb dX7_happen_59 rfl (lv_at hl 1 rfl) ?_
        refine lv_bipush (v := 48) hx hb dX7_happen_60 (by decide) ?_
        refine lv_isub hx hb dX7_happen_62 ?_
        obtain ⟨z13, hz_z13, hf⟩ := o_bind hf
        refine k_calli (va_runV (As := [.int (p1 - (48 : Int32))]) (rest := []) ⟨hx, hb, hml, hown, hts⟩ (c_X7_load l D cI cZ th0 th1 th2 th3 th4 th5 H.size u_th (p1 - (48 : Int32)) z13 hz_z13) (cwV 1 hts gX7_happen_X7_load rfl rfl rfl ⟨rfl, hd_X7_load⟩ ⟨Nat.le_of_ble_eq_true rfl, Nat.le_of_ble_eq_true rfl⟩) (k_preV hK hP hD hS hA hE [0, 1, 2, 3, 4, 5] (by decide) rfl (ci := 4) rfl rfl) rfl rfl hl.1 rfl (lv_room (Nat.le_of_ble_eq_true rfl)) dX7_happen_63 ⟨Nat.zero_le _, Nat.zero_le _⟩) hP hD hS hA [0, 1, 2, 3, 4, 5] [some 0, some 1, some 2, some 3, some 4, some 5] 6 rfl (by decide) (by decide) rfl rfl (fun H locs hP hD hS => ?_)
        have hP : va_P D vwCl (ceT cI cZ th0 th1 th2 th3 th4 th5 z13.2) H := hP
        have hD : va_D A (ceT cI cZ th0 th1 th2 th3 th4 th5 z13.2) := hD
        exact k_iret (v := z13.1) (u := z13.2) hx hb hr hlocks hK hS eQ hf hP hD dX7_happen_66
    · have hf := (if_neg c3).symm.trans hf
      refine lv_aload_n hx hb dX7_happen_31 rfl (lv_at hl 0 rfl) ?_
      refine va_get (D := D) (ci := 4) (v := .ref th1) (C := RX7) (T := TX7) (N := 7) hx hb hts hi_X7 hown hK hP 0 rfl rfl 0 (by decide) (hts (.fieldLink RX7 12 "FairWheel$Telling" "wheel" "LFairWheel$Wheel;") (List.mem_of_getElem? (i := 2) rfl)) (fun _ h9 => h9) rfl dX7_happen_32 ?_
      refine lv_iload_n hx hb dX7_happen_35 rfl (lv_at hl 1 rfl) ?_
      refine lv_bipush (v := 62) hx hb dX7_happen_36 (by decide) ?_
      refine lv_icmp_ne (tgt := 45) hx hb dX7_happen_38 (by decide) (fun c14 => ?_) (fun c14 => ?_)
      · have hf := (if_neg c14).symm.trans hf
        refine lv_iconst (v := -1) hx hb dX7_happen_45 (by decide) ?_
        exact hJ46 (-1 : Int32) u_th _ _ ls (lv_sub hl [] rfl) hP hD hS hf
      · have hf := (if_pos c14).symm.trans hf
        refine lv_iconst (v := 1) hx hb dX7_happen_41 (by decide) ?_
        refine lv_goto (tgt := 46) hx hb dX7_happen_42 (by decide) ?_
        exact hJ46 (1 : Int32) u_th _ _ ls (lv_sub hl [] rfl) hP hD hS hf
  · have hf := (if_pos c1).symm.trans hf
    refine lv_aload_n hx hb dX7_happen_6 rfl (lv_at hl 0 rfl) ?_
    refine lv_dup hx hb dX7_happen_7 rfl ?_
    refine va_get (D := D) (ci := 4) (v := .int (T_turned u_th)) (C := RX7) (T := TX7) (N := 7) hx hb hts hi_X7 hown hK hP 0 rfl rfl 3 (by decide) (hts (.fieldLink RX7 25 "FairWheel$Telling" "turned" "I") (List.mem_of_getElem? (i := 1) rfl)) (fun _ h9 => h9) rfl dX7_happen_8 ?_
    refine lv_aload_n hx hb dX7_happen_11 rfl (lv_at hl 0 rfl) ?_
    refine va_get (D := D) (ci := 4) (v := .ref th1) (C := RX7) (T := TX7) (N := 7) hx hb hts hi_X7 hown hK hP 0 rfl rfl 0 (by decide) (hts (.fieldLink RX7 12 "FairWheel$Telling" "wheel" "LFairWheel$Wheel;") (List.mem_of_getElem? (i := 2) rfl)) (fun _ h9 => h9) rfl dX7_happen_12 ?_
    obtain ⟨z16, hz_z16, hf⟩ := o_bind hf
    refine k_calli (va_runV (As := []) (rest := [.int (T_turned u_th), .ref th0]) ⟨hx, hb, hml, hown, hts⟩ (c_X9_letGo l D cI cZ th1 th2 th3 th4 th5 H.size (T_wheel u_th) z16 hz_z16) (cwV 0 hts gX7_happen_X9_letGo rfl rfl rfl ⟨rfl, hd_X9_letGo⟩ ⟨Nat.le_of_ble_eq_true rfl, Nat.le_of_ble_eq_true rfl⟩) (k_preV hK hP hD hS hA hE [1, 2, 3, 4, 5] (by decide) rfl (ci := 6) rfl rfl) rfl rfl hl.1 rfl (lv_room (Nat.le_of_ble_eq_true rfl)) dX7_happen_15 ⟨Nat.zero_le _, Nat.zero_le _⟩) hP hD hS hA [1, 2, 3, 4, 5] [none, some 0, some 1, some 2, some 3, some 4] 5 rfl (by decide) (by decide) rfl rfl (fun H locs hP hD hS => ?_)
    have hP : va_P D vwCl (ceT cI cZ th0 th1 th2 th3 th4 th5 (z16.2, (T_failedEvent u_th), (T_reason u_th), (T_turned u_th), (T_filling u_th), (T_asked u_th), (T_askedBefore u_th))) H := hP
    have hD : va_D A (ceT cI cZ th0 th1 th2 th3 th4 th5 (z16.2, (T_failedEvent u_th), (T_reason u_th), (T_turned u_th), (T_filling u_th), (T_asked u_th), (T_askedBefore u_th))) := hD
    refine lv_iadd hx hb dX7_happen_18 ?_
    refine va_put (D := D) (ci := 4) (v := .int ((T_turned u_th) + z16.1)) (ty := .int) (C := RX7) (T := TX7) (N := 7) hx hb hts hi_X7 tyX7 tyX7_ok nmX7 hown hK hP hD hS 0 rfl rfl 3 (by decide) (hts (.fieldLink RX7 25 "FairWheel$Telling" "turned" "I") (List.mem_of_getElem? (i := 1) rfl)) (fun _ h9 => h9) rfl (by decide +kernel) rfl rfl (Nat.le_of_ble_eq_true rfl) dX7_happen_19 (fun H locs hP hD hS => ?_)
    have hP : va_P D vwCl (ceT cI cZ th0 th1 th2 th3 th4 th5 (z16.2, (T_failedEvent u_th), (T_reason u_th), ((T_turned u_th) + z16.1), (T_filling u_th), (T_asked u_th), (T_askedBefore u_th))) H := hP
    have hD : va_D A (ceT cI cZ th0 th1 th2 th3 th4 th5 (z16.2, (T_failedEvent u_th), (T_reason u_th), ((T_turned u_th) + z16.1), (T_filling u_th), (T_asked u_th), (T_askedBefore u_th))) := hD
    refine lv_iconst (v := 0) hx hb dX7_happen_22 (by decide) ?_
    exact k_iret (v := (0 : Int32)) (u := (z16.2, (T_failedEvent u_th), (T_reason u_th), ((T_turned u_th) + z16.1), (T_filling u_th), (T_asked u_th), (T_askedBefore u_th))) hx hb hr hlocks hK hS eQ hf hP hD dX7_happen_23
theorem hd_X7_tell : yX7_tell.cls ≠ "java/lang/invoke/MethodHandle" ∧ yX7_tell.cls ≠ "java/lang/invoke/VarHandle" ∧ (parseMethodDescriptor yX7_tell.desc).map (fun d => d.parameters.length) = some 4 := by decide +kernel
set_option maxHeartbeats 4000000 in
set_option maxRecDepth 100000 in
theorem c_X7_tell (l : Launch) (D : va_G) (cI cZ : ClassId) (th0 : Nat) (th1 : Nat) (th2 : Nat) (th3 : Nat) (th4 : Nat) (th5 : Nat) (o10 : Nat) (o11 : Nat) (o12 : Nat) (o13 : Nat) (o14 : Nat) (o20 : Nat) (o21 : Nat) (sz : Nat) (u_th : sT) (u_o1 : sW) (u_o2 : sP) (p3 : Int32) (p4 : Int32) (z : Int32 × sT) (hf : f_X7_tell u_th u_o1 u_o2 p3 p4 = some z) : Met l yX7_tell wsX7_tell rmX7_tell (va_Pc [.ref th0, .ref o10, .ref o20, .int p3, .int p4] (wPr D cI cZ (ceT cI cZ th0 th1 th2 th3 th4 th5 u_th ++ (ceW cI cZ o10 o11 o12 o13 o14 u_o1 ++ (ceP cI cZ o20 o21 u_o2))) sz)) (va_Qi (fun (r : Int32) (v : sT) => (r, v) = z) (fun (v : sT) t => wPo D cI cZ (va_A (ceT cI cZ th0 th1 th2 th3 th4 th5 u_th ++ (ceW cI cZ o10 o11 o12 o13 o14 u_o1 ++ (ceP cI cZ o20 o21 u_o2))) sz) (ceT cI cZ th0 th1 th2 th3 th4 th5 v ++ (ceW cI cZ o10 o11 o12 o13 o14 u_o1 ++ (ceP cI cZ o20 o21 u_o2))) t) (va_A (ceT cI cZ th0 th1 th2 th3 th4 th5 u_th ++ (ceW cI cZ o10 o11 o12 o13 o14 u_o1 ++ (ceP cI cZ o20 o21 u_o2))) sz)) 0 0 (va_A (ceT cI cZ th0 th1 th2 th3 th4 th5 u_th ++ (ceW cI cZ o10 o11 o12 o13 o14 u_o1 ++ (ceP cI cZ o20 o21 u_o2))) sz) := by
  refine k_enter (D := D) (cI := cI) (cZ := cZ) (wl := ceT cI cZ th0 th1 th2 th3 th4 th5 u_th ++ (ceW cI cZ o10 o11 o12 o13 o14 u_o1 ++ (ceP cI cZ o20 o21 u_o2))) (sz := sz) (av := [.ref th0, .ref o10, .ref o20, .int p3, .int p4]) (cc := cX7_tell) (maxL := 7) (ret := (some .boolean)) (Qc := fun A => va_Qi (fun (r : Int32) (v : sT) => (r, v) = z) (fun (v : sT) t => wPo D cI cZ (A) (ceT cI cZ th0 th1 th2 th3 th4 th5 v ++ (ceW cI cZ o10 o11 o12 o13 o14 u_o1 ++ (ceP cI cZ o20 o21 u_o2))) t) (A)) (by decide) rfl (Nat.le_of_ble_eq_true rfl) ?_
  intro p e s m below meth c ls A Q H locs eQ hx hb hr hml hts hown hlocks hK hP hD hS hA hE hl
  have hown : s.vm.findClass RX7 = some m.cls := hown
  have hl : lv_has ls 7 [(0, .ref th0), (1, .ref o10), (2, .ref o20), (3, .int p3), (4, .int p4)] := hl
  have hi_X7 : ∀ w ∈ wsX70, w ∈ wsX7_tell := fun w h => List.mem_cons_of_mem _ (List.mem_append_left _ (List.mem_append_left _ (List.mem_append_right _ h)))
  have hJ76 : ∀ (K_47 : Int32 → Int32 → sT → Option (Int32 × sT)), (∀ (v3 : Int32) (v5 : Int32) (u_th : sT) (H : Heap) (locs : List Loc) (ls : Array Slot), lv_has ls 7 [(0, .ref th0), (2, .ref o20), (3, .int v3), (5, .int v5)] → va_P D vwCl (ceT cI cZ th0 th1 th2 th3 th4 th5 u_th ++ (ceW cI cZ o10 o11 o12 o13 o14 u_o1 ++ (ceP cI cZ o20 o21 u_o2))) H → va_D A (ceT cI cZ th0 th1 th2 th3 th4 th5 u_th ++ (ceW cI cZ o10 o11 o12 o13 o14 u_o1 ++ (ceP cI cZ o20 o21 u_o2))) → va_S A s.heap H locs → K_47 v3 v5 u_th = some z → W p l e (headSpec wsX7_tell rmX7_tell).room s m ([.ref th0, .ref o10, .ref o20, .int p3, .int p4] : List Value).toArray below meth c H locs 0 0 Q (F0 m 47 ls [])) → ∀ (v3 : Int32) (v5 : Int32) (s0 : Int32) (u_th : sT) (H : Heap) (locs : List Loc) (ls : Array Slot), lv_has ls 7 [(0, .ref th0), (2, .ref o20), (3, .int v3), (5, .int v5)] → va_P D vwCl (ceT cI cZ th0 th1 th2 th3 th4 th5 u_th ++ (ceW cI cZ o10 o11 o12 o13 o14 u_o1 ++ (ceP cI cZ o20 o21 u_o2))) H → va_D A (ceT cI cZ th0 th1 th2 th3 th4 th5 u_th ++ (ceW cI cZ o10 o11 o12 o13 o14 u_o1 ++ (ceP cI cZ o20 o21 u_o2))) → va_S A s.heap H locs → f_X7_tell_J76 u_o1 u_o2 K_47 v3 v5 s0 u_th = some z → W p l e (headSpec wsX7_tell rmX7_tell).room s m ([.ref th0, .ref o10, .ref o20, .int p3, .int p4] : List Value).toArray below meth c H locs 0 0 Q (F0 m 76 ls [.int s0]) := by
    intro K_47 hK_47 v3 v5 s0 u_th H locs ls hl hP hD hS hf
    rw [f_X7_tell_J76] at hf
    refine lv_istore (lv' := [(6, .int s0), (0, .ref th0), (2, .ref o20), (3, .int v3), (5, .int v5)]) hx hb dX7_tell_76 hl (by decide) rfl (fun ls hl => ?_)
    refine lv_iload hx hb dX7_tell_78 (lv_at hl 0 rfl) ?_
    refine lv_if_eq (tgt := 97) hx hb dX7_tell_80 (by decide) (fun c8 => ?_) (fun c8 => ?_)
    · have hf := (if_pos c8).symm.trans hf
      refine lv_iinc (v := (v5 + (1 : Int32))) (lv' := [(5, .int (v5 + (1 : Int32))), (6, .int s0), (0, .ref th0), (2, .ref o20), (3, .int v3)]) hx hb dX7_tell_97 hl (k := 4) rfl rfl (by decide) rfl (fun ls hl => ?_)
      refine lv_goto (tgt := 47) hx hb dX7_tell_100 (by decide) ?_
      exact hK_47 v3 (v5 + (1 : Int32)) u_th _ _ ls (lv_sub hl [2, 3, 4, 0] rfl) hP hD hS hf
    · have hf := (if_neg c8).symm.trans hf
      refine lv_aload_n hx hb dX7_tell_83 rfl (lv_at hl 1 rfl) ?_
      refine lv_iload hx hb dX7_tell_84 (lv_at hl 4 rfl) ?_
      refine va_put (D := D) (ci := 4) (v := .int v5) (ty := .int) (C := RX7) (T := TX7) (N := 7) hx hb hts hi_X7 tyX7 tyX7_ok nmX7 hown hK hP hD hS 0 rfl rfl 1 (by decide) (hts (.fieldLink RX7 18 "FairWheel$Telling" "failedEvent" "I") (List.mem_of_getElem? (i := 2) rfl)) (fun _ h9 => h9) rfl (by decide +kernel) rfl rfl (Nat.le_of_ble_eq_true rfl) dX7_tell_86 (fun H locs hP hD hS => ?_)
      have hP : va_P D vwCl (ceT cI cZ th0 th1 th2 th3 th4 th5 ((T_wheel u_th), v5, (T_reason u_th), (T_turned u_th), (T_filling u_th), (T_asked u_th), (T_askedBefore u_th)) ++ (ceW cI cZ o10 o11 o12 o13 o14 u_o1 ++ (ceP cI cZ o20 o21 u_o2))) H := hP
      have hD : va_D A (ceT cI cZ th0 th1 th2 th3 th4 th5 ((T_wheel u_th), v5, (T_reason u_th), (T_turned u_th), (T_filling u_th), (T_asked u_th), (T_askedBefore u_th)) ++ (ceW cI cZ o10 o11 o12 o13 o14 u_o1 ++ (ceP cI cZ o20 o21 u_o2))) := hD
      refine lv_aload_n hx hb dX7_tell_89 rfl (lv_at hl 1 rfl) ?_
      refine lv_iload hx hb dX7_tell_90 (lv_at hl 0 rfl) ?_
      refine va_put (D := D) (ci := 4) (v := .int s0) (ty := .int) (C := RX7) (T := TX7) (N := 7) hx hb hts hi_X7 tyX7 tyX7_ok nmX7 hown hK hP hD hS 0 rfl rfl 2 (by decide) (hts (.fieldLink RX7 22 "FairWheel$Telling" "reason" "I") (List.mem_of_getElem? (i := 3) rfl)) (fun _ h9 => h9) rfl (by decide +kernel) rfl rfl (Nat.le_of_ble_eq_true rfl) dX7_tell_92 (fun H locs hP hD hS => ?_)
      have hP : va_P D vwCl (ceT cI cZ th0 th1 th2 th3 th4 th5 ((T_wheel u_th), v5, s0, (T_turned u_th), (T_filling u_th), (T_asked u_th), (T_askedBefore u_th)) ++ (ceW cI cZ o10 o11 o12 o13 o14 u_o1 ++ (ceP cI cZ o20 o21 u_o2))) H := hP
      have hD : va_D A (ceT cI cZ th0 th1 th2 th3 th4 th5 ((T_wheel u_th), v5, s0, (T_turned u_th), (T_filling u_th), (T_asked u_th), (T_askedBefore u_th)) ++ (ceW cI cZ o10 o11 o12 o13 o14 u_o1 ++ (ceP cI cZ o20 o21 u_o2))) := hD
      refine lv_iconst (v := 0) hx hb dX7_tell_95 (by decide) ?_
      exact k_zret (v := (0 : Int32)) (u := ((T_wheel u_th), v5, s0, (T_turned u_th), (T_filling u_th), (T_asked u_th), (T_askedBefore u_th))) hx hb hr hlocks hK hS eQ (by decide) hf hP hD dX7_tell_96
  have hL47 : ∀ (n : Nat), ∀ (v3 : Int32) (v5 : Int32) (u_th : sT) (H : Heap) (locs : List Loc) (ls : Array Slot), lv_has ls 7 [(0, .ref th0), (2, .ref o20), (3, .int v3), (5, .int v5)] → va_P D vwCl (ceT cI cZ th0 th1 th2 th3 th4 th5 u_th ++ (ceW cI cZ o10 o11 o12 o13 o14 u_o1 ++ (ceP cI cZ o20 o21 u_o2))) H → va_D A (ceT cI cZ th0 th1 th2 th3 th4 th5 u_th ++ (ceW cI cZ o10 o11 o12 o13 o14 u_o1 ++ (ceP cI cZ o20 o21 u_o2))) → va_S A s.heap H locs → f_X7_tell_L47 u_o1 u_o2 n v3 v5 u_th = some z → W p l e (headSpec wsX7_tell rmX7_tell).room s m ([.ref th0, .ref o10, .ref o20, .int p3, .int p4] : List Value).toArray below meth c H locs 0 0 Q (F0 m 47 ls []) := by
    intro n
    induction n with
    | zero =>
      intro v3 v5 u_th H locs ls hl hP hD hS hf
      exact absurd (show (none : Option (Int32 × sT)) = some z from hf) (fun h => by cases h)
    | succ n ih =>
      intro v3 v5 u_th H locs ls hl hP hD hS hf
      rw [f_X7_tell_L47] at hf
      refine lv_iload hx hb dX7_tell_47 (lv_at hl 3 rfl) ?_
      refine lv_aload_n hx hb dX7_tell_49 rfl (lv_at hl 1 rfl) ?_
      obtain ⟨z3, hz_z3, hf⟩ := o_bind hf
      refine k_calli (va_runV (As := []) (rest := [.int v5]) ⟨hx, hb, hml, hown, hts⟩ (c_X4_length l D cI cZ o20 o21 H.size u_o2 z3 hz_z3) (cwV 0 hts gX7_tell_X4_length rfl rfl rfl ⟨rfl, hd_X4_length⟩ ⟨Nat.le_of_ble_eq_true rfl, Nat.le_of_ble_eq_true rfl⟩) (k_preV hK hP hD hS hA hE [11, 12] (by decide) rfl (ci := 1) rfl rfl) rfl rfl hl.1 rfl (lv_room (Nat.le_of_ble_eq_true rfl)) dX7_tell_50 ⟨Nat.zero_le _, Nat.zero_le _⟩) hP hD hS hA [11, 12] [none, none, none, none, none, none, none, none, none, none, none, some 0, some 1] 2 rfl (by decide) (by decide) rfl rfl (fun H locs hP hD hS => ?_)
      have hP : va_P D vwCl (ceT cI cZ th0 th1 th2 th3 th4 th5 u_th ++ (ceW cI cZ o10 o11 o12 o13 o14 u_o1 ++ (ceP cI cZ o20 o21 u_o2))) H := hP
      have hD : va_D A (ceT cI cZ th0 th1 th2 th3 th4 th5 u_th ++ (ceW cI cZ o10 o11 o12 o13 o14 u_o1 ++ (ceP cI cZ o20 o21 u_o2))) := hD
      refine lv_icmp_ge (tgt := 103) hx hb dX7_tell_53 (by decide) (fun c4 => ?_) (fun c4 => ?_)
      · have hf := (if_pos c4).symm.trans hf
        refine lv_iconst (v := 1) hx hb dX7_tell_103 (by decide) ?_
        exact k_zret (v := (1 : Int32)) (u := u_th) hx hb hr hlocks hK hS eQ (by decide) hf hP hD dX7_tell_104
      · have hf := (if_neg c4).symm.trans hf
        refine lv_iload hx hb dX7_tell_56 (lv_at hl 3 rfl) ?_
        refine lv_iload_n hx hb dX7_tell_58 rfl (lv_at hl 2 rfl) ?_
        refine lv_icmp_ne (tgt := 66) hx hb dX7_tell_59 (by decide) (fun c5 => ?_) (fun c5 => ?_)
        · have hf := (if_neg c5).symm.trans hf
          refine lv_aload_n hx hb dX7_tell_66 rfl (lv_at hl 0 rfl) ?_
          refine lv_aload_n hx hb dX7_tell_67 rfl (lv_at hl 1 rfl) ?_
          refine lv_iload hx hb dX7_tell_68 (lv_at hl 3 rfl) ?_
          obtain ⟨z6, hz_z6, hf⟩ := o_bind hf
          refine k_calli (va_runV (As := [.int v5]) (rest := [.ref th0]) ⟨hx, hb, hml, hown, hts⟩ (c_X4_signAt l D cI cZ o20 o21 H.size u_o2 v5 z6 hz_z6) (cwV 1 hts gX7_tell_X4_signAt rfl rfl rfl ⟨rfl, hd_X4_signAt⟩ ⟨Nat.le_of_ble_eq_true rfl, Nat.le_of_ble_eq_true rfl⟩) (k_preV hK hP hD hS hA hE [11, 12] (by decide) rfl (ci := 1) rfl rfl) rfl rfl hl.1 rfl (lv_room (Nat.le_of_ble_eq_true rfl)) dX7_tell_70 ⟨Nat.zero_le _, Nat.zero_le _⟩) hP hD hS hA [11, 12] [none, none, none, none, none, none, none, none, none, none, none, some 0, some 1] 2 rfl (by decide) (by decide) rfl rfl (fun H locs hP hD hS => ?_)
          have hP : va_P D vwCl (ceT cI cZ th0 th1 th2 th3 th4 th5 u_th ++ (ceW cI cZ o10 o11 o12 o13 o14 u_o1 ++ (ceP cI cZ o20 o21 u_o2))) H := hP
          have hD : va_D A (ceT cI cZ th0 th1 th2 th3 th4 th5 u_th ++ (ceW cI cZ o10 o11 o12 o13 o14 u_o1 ++ (ceP cI cZ o20 o21 u_o2))) := hD
          obtain ⟨z7, hz_z7, hf⟩ := o_bind hf
          refine k_calli (va_runV (As := [.int z6.1]) (rest := []) ⟨hx, hb, hml, hown, hts⟩ (c_X7_happen l D cI cZ th0 th1 th2 th3 th4 th5 H.size u_th z6.1 z7 hz_z7) (cwV 1 hts gX7_tell_X7_happen rfl rfl rfl ⟨rfl, hd_X7_happen⟩ ⟨Nat.le_of_ble_eq_true rfl, Nat.le_of_ble_eq_true rfl⟩) (k_preV hK hP hD hS hA hE [0, 1, 2, 3, 4, 5] (by decide) rfl (ci := 4) rfl rfl) rfl rfl hl.1 rfl (lv_room (Nat.le_of_ble_eq_true rfl)) dX7_tell_73 ⟨Nat.zero_le _, Nat.zero_le _⟩) hP hD hS hA [0, 1, 2, 3, 4, 5] [some 0, some 1, some 2, some 3, some 4, some 5, none, none, none, none, none, none, none] 6 rfl (by decide) (by decide) rfl rfl (fun H locs hP hD hS => ?_)
          have hP : va_P D vwCl (ceT cI cZ th0 th1 th2 th3 th4 th5 z7.2 ++ (ceW cI cZ o10 o11 o12 o13 o14 u_o1 ++ (ceP cI cZ o20 o21 u_o2))) H := hP
          have hD : va_D A (ceT cI cZ th0 th1 th2 th3 th4 th5 z7.2 ++ (ceW cI cZ o10 o11 o12 o13 o14 u_o1 ++ (ceP cI cZ o20 o21 u_o2))) := hD
          exact hJ76 (f_X7_tell_L47 u_o1 u_o2 n) ih v3 v5 z7.1 z7.2 _ _ ls (lv_sub hl [0, 1, 2, 3] rfl) hP hD hS hf
        · have hf := (if_pos c5).symm.trans hf
          refine lv_iconst (v := 0) hx hb dX7_tell_62 (by decide) ?_
          refine lv_goto (tgt := 76) hx hb dX7_tell_63 (by decide) ?_
          exact hJ76 (f_X7_tell_L47 u_o1 u_o2 n) ih v3 v5 (0 : Int32) u_th _ _ ls (lv_sub hl [0, 1, 2, 3] rfl) hP hD hS hf
  rw [f_X7_tell] at hf
  refine lv_aload_n hx hb dX7_tell_0 rfl (lv_at hl 0 rfl) ?_
  refine va_get (D := D) (ci := 4) (v := .ref th1) (C := RX7) (T := TX7) (N := 7) hx hb hts hi_X7 hown hK hP 0 rfl rfl 0 (by decide) (hts (.fieldLink RX7 12 "FairWheel$Telling" "wheel" "LFairWheel$Wheel;") (List.mem_of_getElem? (i := 1) rfl)) (fun _ h9 => h9) rfl dX7_tell_1 ?_
  refine lv_aload_n hx hb dX7_tell_4 rfl (lv_at hl 1 rfl) ?_
  obtain ⟨z1, hz_z1, hf⟩ := o_bind hf
  refine k_callv (va_runV (As := [.ref o10]) (rest := []) ⟨hx, hb, hml, hown, hts⟩ (c_X9_copyFrom l D cI cZ th1 th2 th3 th4 th5 o10 o11 o12 o13 o14 H.size (T_wheel u_th) u_o1 z1 hz_z1) (cwV 1 hts gX7_tell_X9_copyFrom rfl rfl rfl ⟨rfl, hd_X9_copyFrom⟩ ⟨Nat.le_of_ble_eq_true rfl, Nat.le_of_ble_eq_true rfl⟩) (k_preV hK hP hD hS hA hE [1, 2, 3, 4, 5, 6, 7, 8, 9, 10] (by decide) rfl (ci := 6) rfl rfl) rfl rfl hl.1 rfl (lv_room (Nat.le_of_ble_eq_true rfl)) dX7_tell_5 ⟨Nat.zero_le _, Nat.zero_le _⟩) hP hD hS hA [1, 2, 3, 4, 5, 6, 7, 8, 9, 10] [none, some 0, some 1, some 2, some 3, some 4, some 5, some 6, some 7, some 8, some 9, none, none] 10 rfl (by decide) (by decide) rfl rfl (fun H locs hP hD hS => ?_)
  have hP : va_P D vwCl (ceT cI cZ th0 th1 th2 th3 th4 th5 (z1, (T_failedEvent u_th), (T_reason u_th), (T_turned u_th), (T_filling u_th), (T_asked u_th), (T_askedBefore u_th)) ++ (ceW cI cZ o10 o11 o12 o13 o14 u_o1 ++ (ceP cI cZ o20 o21 u_o2))) H := hP
  have hD : va_D A (ceT cI cZ th0 th1 th2 th3 th4 th5 (z1, (T_failedEvent u_th), (T_reason u_th), (T_turned u_th), (T_filling u_th), (T_asked u_th), (T_askedBefore u_th)) ++ (ceW cI cZ o10 o11 o12 o13 o14 u_o1 ++ (ceP cI cZ o20 o21 u_o2))) := hD
  refine lv_aload_n hx hb dX7_tell_8 rfl (lv_at hl 0 rfl) ?_
  refine lv_bipush (v := -6) hx hb dX7_tell_9 (by decide) ?_
  refine va_put (D := D) (ci := 4) (v := .int (-6 : Int32)) (ty := .int) (C := RX7) (T := TX7) (N := 7) hx hb hts hi_X7 tyX7 tyX7_ok nmX7 hown hK hP hD hS 0 rfl rfl 1 (by decide) (hts (.fieldLink RX7 18 "FairWheel$Telling" "failedEvent" "I") (List.mem_of_getElem? (i := 2) rfl)) (fun _ h9 => h9) rfl (by decide +kernel) rfl rfl (Nat.le_of_ble_eq_true rfl) dX7_tell_11 (fun H locs hP hD hS => ?_)
  have hP : va_P D vwCl (ceT cI cZ th0 th1 th2 th3 th4 th5 (z1, (-6 : Int32), (T_reason u_th), (T_turned u_th), (T_filling u_th), (T_asked u_th), (T_askedBefore u_th)) ++ (ceW cI cZ o10 o11 o12 o13 o14 u_o1 ++ (ceP cI cZ o20 o21 u_o2))) H := hP
  have hD : va_D A (ceT cI cZ th0 th1 th2 th3 th4 th5 (z1, (-6 : Int32), (T_reason u_th), (T_turned u_th), (T_filling u_th), (T_asked u_th), (T_askedBefore u_th)) ++ (ceW cI cZ o10 o11 o12 o13 o14 u_o1 ++ (ceP cI cZ o20 o21 u_o2))) := hD
  refine lv_aload_n hx hb dX7_tell_14 rfl (lv_at hl 0 rfl) ?_
  refine lv_bipush (v := -6) hx hb dX7_tell_15 (by decide) ?_
  refine va_put (D := D) (ci := 4) (v := .int (-6 : Int32)) (ty := .int) (C := RX7) (T := TX7) (N := 7) hx hb hts hi_X7 tyX7 tyX7_ok nmX7 hown hK hP hD hS 0 rfl rfl 2 (by decide) (hts (.fieldLink RX7 22 "FairWheel$Telling" "reason" "I") (List.mem_of_getElem? (i := 3) rfl)) (fun _ h9 => h9) rfl (by decide +kernel) rfl rfl (Nat.le_of_ble_eq_true rfl) dX7_tell_17 (fun H locs hP hD hS => ?_)
  have hP : va_P D vwCl (ceT cI cZ th0 th1 th2 th3 th4 th5 (z1, (-6 : Int32), (-6 : Int32), (T_turned u_th), (T_filling u_th), (T_asked u_th), (T_askedBefore u_th)) ++ (ceW cI cZ o10 o11 o12 o13 o14 u_o1 ++ (ceP cI cZ o20 o21 u_o2))) H := hP
  have hD : va_D A (ceT cI cZ th0 th1 th2 th3 th4 th5 (z1, (-6 : Int32), (-6 : Int32), (T_turned u_th), (T_filling u_th), (T_asked u_th), (T_askedBefore u_th)) ++ (ceW cI cZ o10 o11 o12 o13 o14 u_o1 ++ (ceP cI cZ o20 o21 u_o2))) := hD
  refine lv_aload_n hx hb dX7_tell_20 rfl (lv_at hl 0 rfl) ?_
  refine lv_iconst (v := 0) hx hb dX7_tell_21 (by decide) ?_
  refine va_put (D := D) (ci := 4) (v := .int (0 : Int32)) (ty := .int) (C := RX7) (T := TX7) (N := 7) hx hb hts hi_X7 tyX7 tyX7_ok nmX7 hown hK hP hD hS 0 rfl rfl 3 (by decide) (hts (.fieldLink RX7 25 "FairWheel$Telling" "turned" "I") (List.mem_of_getElem? (i := 4) rfl)) (fun _ h9 => h9) rfl (by decide +kernel) rfl rfl (Nat.le_of_ble_eq_true rfl) dX7_tell_22 (fun H locs hP hD hS => ?_)
  have hP : va_P D vwCl (ceT cI cZ th0 th1 th2 th3 th4 th5 (z1, (-6 : Int32), (-6 : Int32), (0 : Int32), (T_filling u_th), (T_asked u_th), (T_askedBefore u_th)) ++ (ceW cI cZ o10 o11 o12 o13 o14 u_o1 ++ (ceP cI cZ o20 o21 u_o2))) H := hP
  have hD : va_D A (ceT cI cZ th0 th1 th2 th3 th4 th5 (z1, (-6 : Int32), (-6 : Int32), (0 : Int32), (T_filling u_th), (T_asked u_th), (T_askedBefore u_th)) ++ (ceW cI cZ o10 o11 o12 o13 o14 u_o1 ++ (ceP cI cZ o20 o21 u_o2))) := hD
  refine lv_aload_n hx hb dX7_tell_25 rfl (lv_at hl 0 rfl) ?_
  refine lv_iload hx hb dX7_tell_26 (lv_at hl 4 rfl) ?_
  refine va_put (D := D) (ci := 4) (v := .int p4) (ty := .int) (C := RX7) (T := TX7) (N := 7) hx hb hts hi_X7 tyX7 tyX7_ok nmX7 hown hK hP hD hS 0 rfl rfl 4 (by decide) (hts (.fieldLink RX7 28 "FairWheel$Telling" "filling" "I") (List.mem_of_getElem? (i := 5) rfl)) (fun _ h9 => h9) rfl (by decide +kernel) rfl rfl (Nat.le_of_ble_eq_true rfl) dX7_tell_28 (fun H locs hP hD hS => ?_)
  have hP : va_P D vwCl (ceT cI cZ th0 th1 th2 th3 th4 th5 (z1, (-6 : Int32), (-6 : Int32), (0 : Int32), p4, (T_asked u_th), (T_askedBefore u_th)) ++ (ceW cI cZ o10 o11 o12 o13 o14 u_o1 ++ (ceP cI cZ o20 o21 u_o2))) H := hP
  have hD : va_D A (ceT cI cZ th0 th1 th2 th3 th4 th5 (z1, (-6 : Int32), (-6 : Int32), (0 : Int32), p4, (T_asked u_th), (T_askedBefore u_th)) ++ (ceW cI cZ o10 o11 o12 o13 o14 u_o1 ++ (ceP cI cZ o20 o21 u_o2))) := hD
  refine lv_aload_n hx hb dX7_tell_31 rfl (lv_at hl 0 rfl) ?_
  refine lv_aload_n hx hb dX7_tell_32 rfl (lv_at hl 2 rfl) ?_
  obtain ⟨z2, hz_z2, hf⟩ := o_bind hf
  refine k_calli (va_runV (As := []) (rest := [.ref th0]) ⟨hx, hb, hml, hown, hts⟩ (c_X4_asked l D cI cZ o20 o21 H.size u_o2 z2 hz_z2) (cwV 0 hts gX7_tell_X4_asked rfl rfl rfl ⟨rfl, hd_X4_asked⟩ ⟨Nat.le_of_ble_eq_true rfl, Nat.le_of_ble_eq_true rfl⟩) (k_preV hK hP hD hS hA hE [11, 12] (by decide) rfl (ci := 1) rfl rfl) rfl rfl hl.1 rfl (lv_room (Nat.le_of_ble_eq_true rfl)) dX7_tell_33 ⟨Nat.zero_le _, Nat.zero_le _⟩) hP hD hS hA [11, 12] [none, none, none, none, none, none, none, none, none, none, none, some 0, some 1] 2 rfl (by decide) (by decide) rfl rfl (fun H locs hP hD hS => ?_)
  have hP : va_P D vwCl (ceT cI cZ th0 th1 th2 th3 th4 th5 (z1, (-6 : Int32), (-6 : Int32), (0 : Int32), p4, (T_asked u_th), (T_askedBefore u_th)) ++ (ceW cI cZ o10 o11 o12 o13 o14 u_o1 ++ (ceP cI cZ o20 o21 u_o2))) H := hP
  have hD : va_D A (ceT cI cZ th0 th1 th2 th3 th4 th5 (z1, (-6 : Int32), (-6 : Int32), (0 : Int32), p4, (T_asked u_th), (T_askedBefore u_th)) ++ (ceW cI cZ o10 o11 o12 o13 o14 u_o1 ++ (ceP cI cZ o20 o21 u_o2))) := hD
  refine va_put (D := D) (ci := 4) (v := .int z2.1) (ty := .int) (C := RX7) (T := TX7) (N := 7) hx hb hts hi_X7 tyX7 tyX7_ok nmX7 hown hK hP hD hS 0 rfl rfl 5 (by decide) (hts (.fieldLink RX7 31 "FairWheel$Telling" "asked" "I") (List.mem_of_getElem? (i := 6) rfl)) (fun _ h9 => h9) rfl (by decide +kernel) rfl rfl (Nat.le_of_ble_eq_true rfl) dX7_tell_36 (fun H locs hP hD hS => ?_)
  have hP : va_P D vwCl (ceT cI cZ th0 th1 th2 th3 th4 th5 (z1, (-6 : Int32), (-6 : Int32), (0 : Int32), p4, z2.1, (T_askedBefore u_th)) ++ (ceW cI cZ o10 o11 o12 o13 o14 u_o1 ++ (ceP cI cZ o20 o21 u_o2))) H := hP
  have hD : va_D A (ceT cI cZ th0 th1 th2 th3 th4 th5 (z1, (-6 : Int32), (-6 : Int32), (0 : Int32), p4, z2.1, (T_askedBefore u_th)) ++ (ceW cI cZ o10 o11 o12 o13 o14 u_o1 ++ (ceP cI cZ o20 o21 u_o2))) := hD
  refine lv_aload_n hx hb dX7_tell_39 rfl (lv_at hl 0 rfl) ?_
  refine lv_iconst (v := 0) hx hb dX7_tell_40 (by decide) ?_
  refine va_put (D := D) (ci := 4) (v := .int (0 : Int32)) (ty := .int) (C := RX7) (T := TX7) (N := 7) hx hb hts hi_X7 tyX7 tyX7_ok nmX7 hown hK hP hD hS 0 rfl rfl 6 (by decide) (hts (.fieldLink RX7 34 "FairWheel$Telling" "askedBefore" "I") (List.mem_of_getElem? (i := 7) rfl)) (fun _ h9 => h9) rfl (by decide +kernel) rfl rfl (Nat.le_of_ble_eq_true rfl) dX7_tell_41 (fun H locs hP hD hS => ?_)
  have hP : va_P D vwCl (ceT cI cZ th0 th1 th2 th3 th4 th5 (z1, (-6 : Int32), (-6 : Int32), (0 : Int32), p4, z2.1, (0 : Int32)) ++ (ceW cI cZ o10 o11 o12 o13 o14 u_o1 ++ (ceP cI cZ o20 o21 u_o2))) H := hP
  have hD : va_D A (ceT cI cZ th0 th1 th2 th3 th4 th5 (z1, (-6 : Int32), (-6 : Int32), (0 : Int32), p4, z2.1, (0 : Int32)) ++ (ceW cI cZ o10 o11 o12 o13 o14 u_o1 ++ (ceP cI cZ o20 o21 u_o2))) := hD
  refine lv_iconst (v := 0) hx hb dX7_tell_44 (by decide) ?_
  refine lv_istore (lv' := [(5, .int (0 : Int32)), (0, .ref th0), (1, .ref o10), (2, .ref o20), (3, .int p3), (4, .int p4)]) hx hb dX7_tell_45 hl (by decide) rfl (fun ls hl => ?_)
  exact hL47 oF p3 (0 : Int32) (z1, (-6 : Int32), (-6 : Int32), (0 : Int32), p4, z2.1, (0 : Int32)) _ _ ls (lv_sub hl [1, 3, 4, 0] rfl) hP hD hS hf
