theorem hd_X10_imageOf : yX10_imageOf.cls ≠ "java/lang/invoke/MethodHandle" ∧ yX10_imageOf.cls ≠ "java/lang/invoke/VarHandle" ∧ (parseMethodDescriptor yX10_imageOf.desc).map (fun d => d.parameters.length) = some 1 := by decide +kernel
set_option maxHeartbeats 4000000 in
set_option maxRecDepth 100000 in
theorem c_X10_imageOf (l : Launch) (D : va_G) (cI cZ : ClassId) (th0 : Nat) (th1 : Nat) (th2 : Nat) (th3 : Nat) (th4 : Nat) (th5 : Nat) (th6 : Nat) (th7 : Nat) (th8 : Nat) (th9 : Nat) (sz : Nat) (p1 : Int32) : Met l yX10_imageOf wsX10_imageOf rmX10_imageOf (va_Pc [.ref th0, .int p1] (wPr D cI cZ (ceX th0 th1 th2 th3 th4 th5 th6 th7 th8 th9) sz)) (va_Qr (fun (_ : Unit) => True) (fun _ a t => a = (if p1 = 0 then th8 else th9) ∧ wPo D cI cZ (va_A (ceX th0 th1 th2 th3 th4 th5 th6 th7 th8 th9) sz) (ceX th0 th1 th2 th3 th4 th5 th6 th7 th8 th9) t) (va_A (ceX th0 th1 th2 th3 th4 th5 th6 th7 th8 th9) sz)) 0 0 (va_A (ceX th0 th1 th2 th3 th4 th5 th6 th7 th8 th9) sz) := by
  refine k_enter (D := D) (cI := cI) (cZ := cZ) (wl := ceX th0 th1 th2 th3 th4 th5 th6 th7 th8 th9) (sz := sz) (av := [.ref th0, .int p1]) (cc := cX10_imageOf) (maxL := 2) (ret := (some (.object "FairWheel$Image"))) (Qc := fun A => va_Qr (fun (_ : Unit) => True) (fun _ a t => a = (if p1 = 0 then th8 else th9) ∧ wPo D cI cZ (A) (ceX th0 th1 th2 th3 th4 th5 th6 th7 th8 th9) t) (A)) (by decide) rfl (Nat.le_of_ble_eq_true rfl) ?_
  intro p e s m below meth c ls A Q H locs eQ hx hb hr hml hts hown hlocks hK hP hD hS hA hE hl
  have hown : s.vm.findClass RX10 = some m.cls := hown
  have hl : lv_has ls 2 [(0, .ref th0), (1, .int p1)] := hl
  have hi_X10 : ∀ w ∈ wsX100, w ∈ wsX10_imageOf := fun w h => List.mem_cons_of_mem _ (List.mem_append_right _ h)
  refine lv_iload_n hx hb dX10_imageOf_0 rfl (lv_at hl 1 rfl) ?_
  refine lv_if_ne (tgt := 11) hx hb dX10_imageOf_1 (by decide) (fun c1 => ?_) (fun c1 => ?_)
  · skip
    refine lv_aload_n hx hb dX10_imageOf_11 rfl (lv_at hl 0 rfl) ?_
    refine va_get (D := D) (ci := 7) (v := .ref th9) (C := RX10) (T := TX10) (N := 9) hx hb hts hi_X10 hown hK hP 0 rfl rfl 8 (by decide) (hts (.fieldLink RX10 61 "FairWheel" "secondImage" "LFairWheel$Image;") (List.mem_of_getElem? (i := 2) rfl)) (fun _ h9 => h9) rfl dX10_imageOf_12 ?_
    exact k_aret hx hb hr hlocks hK hS eQ (by first | exact (if_pos c1).symm | exact (if_neg c1).symm) hP hD dX10_imageOf_15
  · skip
    refine lv_aload_n hx hb dX10_imageOf_4 rfl (lv_at hl 0 rfl) ?_
    refine va_get (D := D) (ci := 7) (v := .ref th8) (C := RX10) (T := TX10) (N := 9) hx hb hts hi_X10 hown hK hP 0 rfl rfl 7 (by decide) (hts (.fieldLink RX10 57 "FairWheel" "firstImage" "LFairWheel$Image;") (List.mem_of_getElem? (i := 1) rfl)) (fun _ h9 => h9) rfl dX10_imageOf_5 ?_
    refine lv_goto (tgt := 15) hx hb dX10_imageOf_8 (by decide) ?_
    exact k_aret hx hb hr hlocks hK hS eQ (by first | exact (if_pos c1).symm | exact (if_neg c1).symm) hP hD dX10_imageOf_15
theorem hd_X10_refuseText : yX10_refuseText.cls ≠ "java/lang/invoke/MethodHandle" ∧ yX10_refuseText.cls ≠ "java/lang/invoke/VarHandle" ∧ (parseMethodDescriptor yX10_refuseText.desc).map (fun d => d.parameters.length) = some 0 := by decide +kernel
set_option maxHeartbeats 4000000 in
set_option maxRecDepth 100000 in
theorem c_X10_refuseText (l : Launch) (D : va_G) (cI cZ : ClassId) (th0 : Nat) (th1 : Nat) (th2 : Nat) (th3 : Nat) (th4 : Nat) (th5 : Nat) (th6 : Nat) (th7 : Nat) (th8 : Nat) (th9 : Nat) (pad1 : Nat) (sz : Nat) (u_pad : sP) (z : Int32 × Unit) (hf : f_X10_refuseText u_pad = some z) : Met l yX10_refuseText wsX10_refuseText rmX10_refuseText (va_Pc [.ref th0] (wPr D cI cZ (ceX th0 th1 th2 th3 th4 th5 th6 th7 th8 th9 ++ (ceP cI cZ th3 pad1 u_pad)) sz)) (va_Qi (fun (r : Int32) (v : Unit) => (r, v) = z) (fun (v : Unit) t => wPo D cI cZ (va_A (ceX th0 th1 th2 th3 th4 th5 th6 th7 th8 th9 ++ (ceP cI cZ th3 pad1 u_pad)) sz) (ceX th0 th1 th2 th3 th4 th5 th6 th7 th8 th9 ++ (ceP cI cZ th3 pad1 u_pad)) t) (va_A (ceX th0 th1 th2 th3 th4 th5 th6 th7 th8 th9 ++ (ceP cI cZ th3 pad1 u_pad)) sz)) 0 0 (va_A (ceX th0 th1 th2 th3 th4 th5 th6 th7 th8 th9 ++ (ceP cI cZ th3 pad1 u_pad)) sz) := by
  refine k_enter (D := D) (cI := cI) (cZ := cZ) (wl := ceX th0 th1 th2 th3 th4 th5 th6 th7 th8 th9 ++ (ceP cI cZ th3 pad1 u_pad)) (sz := sz) (av := [.ref th0]) (cc := cX10_refuseText) (maxL := 1) (ret := (some .int)) (Qc := fun A => va_Qi (fun (r : Int32) (v : Unit) => (r, v) = z) (fun (v : Unit) t => wPo D cI cZ (A) (ceX th0 th1 th2 th3 th4 th5 th6 th7 th8 th9 ++ (ceP cI cZ th3 pad1 u_pad)) t) (A)) (by decide) rfl (Nat.le_of_ble_eq_true rfl) ?_
  intro p e s m below meth c ls A Q H locs eQ hx hb hr hml hts hown hlocks hK hP hD hS hA hE hl
  have hown : s.vm.findClass RX10 = some m.cls := hown
  have hl : lv_has ls 1 [(0, .ref th0)] := hl
  have hi_X10 : ∀ w ∈ wsX100, w ∈ wsX10_refuseText := fun w h => List.mem_cons_of_mem _ (List.mem_append_left _ (List.mem_append_right _ h))
  rw [f_X10_refuseText] at hf
  refine lv_aload_n hx hb dX10_refuseText_0 rfl (lv_at hl 0 rfl) ?_
  refine va_get (D := D) (ci := 7) (v := .ref th3) (C := RX10) (T := TX10) (N := 9) hx hb hts hi_X10 hown hK hP 0 rfl rfl 2 (by decide) (hts (.fieldLink RX10 22 "FairWheel" "pad" "LFairWheel$Pad;") (List.mem_of_getElem? (i := 1) rfl)) (fun _ h9 => h9) rfl dX10_refuseText_1 ?_
  obtain ⟨z1, hz_z1, hf⟩ := o_bind hf
  refine k_calli (va_runV (As := []) (rest := []) ⟨hx, hb, hml, hown, hts⟩ (c_X4_firstFault l D cI cZ th3 pad1 H.size u_pad z1 hz_z1) (cwV 0 hts gX10_refuseText_X4_firstFault rfl rfl rfl ⟨rfl, hd_X4_firstFault⟩ ⟨Nat.le_of_ble_eq_true rfl, Nat.le_of_ble_eq_true rfl⟩) (k_preV hK hP hD hS hA hE [1, 2] (by decide) rfl (ci := 1) rfl rfl) rfl rfl hl.1 rfl (lv_room (Nat.le_of_ble_eq_true rfl)) dX10_refuseText_4 ⟨Nat.zero_le _, Nat.zero_le _⟩) hP hD hS hA [1, 2] [none, some 0, some 1] 2 rfl (by decide) (by decide) rfl rfl (fun H locs hP hD hS => ?_)
  have hP : va_P D vwCl (ceX th0 th1 th2 th3 th4 th5 th6 th7 th8 th9 ++ (ceP cI cZ th3 pad1 u_pad)) H := hP
  have hD : va_D A (ceX th0 th1 th2 th3 th4 th5 th6 th7 th8 th9 ++ (ceP cI cZ th3 pad1 u_pad)) := hD
  refine lv_bipush (v := -6) hx hb dX10_refuseText_7 (by decide) ?_
  refine lv_icmp_eq (tgt := 15) hx hb dX10_refuseText_9 (by decide) (fun c2 => ?_) (fun c2 => ?_)
  · have hf := (if_pos c2).symm.trans hf
    refine lv_aload_n hx hb dX10_refuseText_15 rfl (lv_at hl 0 rfl) ?_
    refine va_get (D := D) (ci := 7) (v := .ref th3) (C := RX10) (T := TX10) (N := 9) hx hb hts hi_X10 hown hK hP 0 rfl rfl 2 (by decide) (hts (.fieldLink RX10 22 "FairWheel" "pad" "LFairWheel$Pad;") (List.mem_of_getElem? (i := 1) rfl)) (fun _ h9 => h9) rfl dX10_refuseText_16 ?_
    obtain ⟨z3, hz_z3, hf⟩ := o_bind hf
    refine k_calli (va_runV (As := []) (rest := []) ⟨hx, hb, hml, hown, hts⟩ (c_X4_asked l D cI cZ th3 pad1 H.size u_pad z3 hz_z3) (cwV 0 hts gX10_refuseText_X4_asked rfl rfl rfl ⟨rfl, hd_X4_asked⟩ ⟨Nat.le_of_ble_eq_true rfl, Nat.le_of_ble_eq_true rfl⟩) (k_preV hK hP hD hS hA hE [1, 2] (by decide) rfl (ci := 1) rfl rfl) rfl rfl hl.1 rfl (lv_room (Nat.le_of_ble_eq_true rfl)) dX10_refuseText_19 ⟨Nat.zero_le _, Nat.zero_le _⟩) hP hD hS hA [1, 2] [none, some 0, some 1] 2 rfl (by decide) (by decide) rfl rfl (fun H locs hP hD hS => ?_)
    have hP : va_P D vwCl (ceX th0 th1 th2 th3 th4 th5 th6 th7 th8 th9 ++ (ceP cI cZ th3 pad1 u_pad)) H := hP
    have hD : va_D A (ceX th0 th1 th2 th3 th4 th5 th6 th7 th8 th9 ++ (ceP cI cZ th3 pad1 u_pad)) := hD
    refine lv_if_le (tgt := 30) hx hb dX10_refuseText_22 (by decide) (fun c4 => ?_) (fun c4 => ?_)
    · have hf := (if_pos c4).symm.trans hf
      refine lv_iconst (v := 0) hx hb dX10_refuseText_30 (by decide) ?_
      exact k_iret (v := (0 : Int32)) (u := ()) hx hb hr hlocks hK hS eQ hf hP hD dX10_refuseText_31
    · have hf := (if_neg c4).symm.trans hf
      refine lv_bipush (v := -3) hx hb dX10_refuseText_25 (by decide) ?_
      refine lv_goto (tgt := 31) hx hb dX10_refuseText_27 (by decide) ?_
      exact k_iret (v := (-3 : Int32)) (u := ()) hx hb hr hlocks hK hS eQ hf hP hD dX10_refuseText_31
  · have hf := (if_neg c2).symm.trans hf
    refine lv_bipush (v := -5) hx hb dX10_refuseText_12 (by decide) ?_
    exact k_iret (v := (-5 : Int32)) (u := ()) hx hb hr hlocks hK hS eQ hf hP hD dX10_refuseText_14
theorem hd_X10_refuseEvening : yX10_refuseEvening.cls ≠ "java/lang/invoke/MethodHandle" ∧ yX10_refuseEvening.cls ≠ "java/lang/invoke/VarHandle" ∧ (parseMethodDescriptor yX10_refuseEvening.desc).map (fun d => d.parameters.length) = some 0 := by decide +kernel
set_option maxHeartbeats 4000000 in
set_option maxRecDepth 100000 in
theorem c_X10_refuseEvening (l : Launch) (D : va_G) (cI cZ : ClassId) (th0 : Nat) (th1 : Nat) (th2 : Nat) (th3 : Nat) (th4 : Nat) (th5 : Nat) (th6 : Nat) (th7 : Nat) (th8 : Nat) (th9 : Nat) (wheel1 : Nat) (wheel2 : Nat) (wheel3 : Nat) (wheel4 : Nat) (pad1 : Nat) (telling1 : Nat) (telling2 : Nat) (telling3 : Nat) (telling4 : Nat) (telling5 : Nat) (sz : Nat) (u_wheel : sW) (u_pad : sP) (u_telling : sT) (z : Int32 × sT) (hf : f_X10_refuseEvening u_wheel u_pad u_telling = some z) : Met l yX10_refuseEvening wsX10_refuseEvening rmX10_refuseEvening (va_Pc [.ref th0] (wPr D cI cZ (ceX th0 th1 th2 th3 th4 th5 th6 th7 th8 th9 ++ (ceW cI cZ th1 wheel1 wheel2 wheel3 wheel4 u_wheel ++ (ceP cI cZ th3 pad1 u_pad ++ (ceT cI cZ th5 telling1 telling2 telling3 telling4 telling5 u_telling)))) sz)) (va_Qi (fun (r : Int32) (v : sT) => (r, v) = z) (fun (v : sT) t => wPo D cI cZ (va_A (ceX th0 th1 th2 th3 th4 th5 th6 th7 th8 th9 ++ (ceW cI cZ th1 wheel1 wheel2 wheel3 wheel4 u_wheel ++ (ceP cI cZ th3 pad1 u_pad ++ (ceT cI cZ th5 telling1 telling2 telling3 telling4 telling5 u_telling)))) sz) (ceX th0 th1 th2 th3 th4 th5 th6 th7 th8 th9 ++ (ceW cI cZ th1 wheel1 wheel2 wheel3 wheel4 u_wheel ++ (ceP cI cZ th3 pad1 u_pad ++ (ceT cI cZ th5 telling1 telling2 telling3 telling4 telling5 v)))) t) (va_A (ceX th0 th1 th2 th3 th4 th5 th6 th7 th8 th9 ++ (ceW cI cZ th1 wheel1 wheel2 wheel3 wheel4 u_wheel ++ (ceP cI cZ th3 pad1 u_pad ++ (ceT cI cZ th5 telling1 telling2 telling3 telling4 telling5 u_telling)))) sz)) 0 0 (va_A (ceX th0 th1 th2 th3 th4 th5 th6 th7 th8 th9 ++ (ceW cI cZ th1 wheel1 wheel2 wheel3 wheel4 u_wheel ++ (ceP cI cZ th3 pad1 u_pad ++ (ceT cI cZ th5 telling1 telling2 telling3 telling4 telling5 u_telling)))) sz) := by
  refine k_enter (D := D) (cI := cI) (cZ := cZ) (wl := ceX th0 th1 th2 th3 th4 th5 th6 th7 th8 th9 ++ (ceW cI cZ th1 wheel1 wheel2 wheel3 wheel4 u_wheel ++ (ceP cI cZ th3 pad1 u_pad ++ (ceT cI cZ th5 telling1 telling2 telling3 telling4 telling5 u_telling)))) (sz := sz) (av := [.ref th0]) (cc := cX10_refuseEvening) (maxL := 2) (ret := (some .int)) (Qc := fun A => va_Qi (fun (r : Int32) (v : sT) => (r, v) = z) (fun (v : sT) t => wPo D cI cZ (A) (ceX th0 th1 th2 th3 th4 th5 th6 th7 th8 th9 ++ (ceW cI cZ th1 wheel1 wheel2 wheel3 wheel4 u_wheel ++ (ceP cI cZ th3 pad1 u_pad ++ (ceT cI cZ th5 telling1 telling2 telling3 telling4 telling5 v)))) t) (A)) (by decide) rfl (Nat.le_of_ble_eq_true rfl) ?_
  intro p e s m below meth c ls A Q H locs eQ hx hb hr hml hts hown hlocks hK hP hD hS hA hE hl
  have hown : s.vm.findClass RX10 = some m.cls := hown
  have hl : lv_has ls 2 [(0, .ref th0)] := hl
  have hi_X10 : ∀ w ∈ wsX100, w ∈ wsX10_refuseEvening := fun w h => List.mem_cons_of_mem _ (List.mem_append_left _ (List.mem_append_left _ (List.mem_append_left _ (List.mem_append_right _ h))))
  rw [f_X10_refuseEvening] at hf
  refine lv_aload_n hx hb dX10_refuseEvening_0 rfl (lv_at hl 0 rfl) ?_
  obtain ⟨z1, hz_z1, hf⟩ := o_bind hf
  refine k_calli (va_runV (As := []) (rest := []) ⟨hx, hb, hml, hown, hts⟩ (c_X10_refuseText l D cI cZ th0 th1 th2 th3 th4 th5 th6 th7 th8 th9 pad1 H.size u_pad z1 hz_z1) (cwV 0 hts gX10_refuseEvening_X10_refuseText rfl rfl rfl ⟨rfl, hd_X10_refuseText⟩ ⟨Nat.le_of_ble_eq_true rfl, Nat.le_of_ble_eq_true rfl⟩) (k_preV hK hP hD hS hA hE [0, 6, 7] (by decide) rfl (ci := 7) rfl rfl) rfl rfl hl.1 rfl (lv_room (Nat.le_of_ble_eq_true rfl)) dX10_refuseEvening_1 ⟨Nat.zero_le _, Nat.zero_le _⟩) hP hD hS hA [0, 6, 7] [some 0, none, none, none, none, none, some 1, some 2, none, none, none, none, none, none] 3 rfl (by decide) (by decide) rfl rfl (fun H locs hP hD hS => ?_)
  have hP : va_P D vwCl (ceX th0 th1 th2 th3 th4 th5 th6 th7 th8 th9 ++ (ceW cI cZ th1 wheel1 wheel2 wheel3 wheel4 u_wheel ++ (ceP cI cZ th3 pad1 u_pad ++ (ceT cI cZ th5 telling1 telling2 telling3 telling4 telling5 u_telling)))) H := hP
  have hD : va_D A (ceX th0 th1 th2 th3 th4 th5 th6 th7 th8 th9 ++ (ceW cI cZ th1 wheel1 wheel2 wheel3 wheel4 u_wheel ++ (ceP cI cZ th3 pad1 u_pad ++ (ceT cI cZ th5 telling1 telling2 telling3 telling4 telling5 u_telling)))) := hD
  refine lv_istore_n (lv' := [(1, .int z1.1), (0, .ref th0)]) hx hb dX10_refuseEvening_4 rfl hl (by decide) rfl (fun ls hl => ?_)
  refine lv_iload_n hx hb dX10_refuseEvening_5 rfl (lv_at hl 0 rfl) ?_
  refine lv_if_eq (tgt := 11) hx hb dX10_refuseEvening_6 (by decide) (fun c2 => ?_) (fun c2 => ?_)
  · have hf := (if_pos c2).symm.trans hf
    refine lv_aload_n hx hb dX10_refuseEvening_11 rfl (lv_at hl 1 rfl) ?_
    refine va_get (D := D) (ci := 7) (v := .ref th5) (C := RX10) (T := TX10) (N := 9) hx hb hts hi_X10 hown hK hP 0 rfl rfl 4 (by decide) (hts (.fieldLink RX10 36 "FairWheel" "telling" "LFairWheel$Telling;") (List.mem_of_getElem? (i := 1) rfl)) (fun _ h9 => h9) rfl dX10_refuseEvening_12 ?_
    refine lv_aload_n hx hb dX10_refuseEvening_15 rfl (lv_at hl 1 rfl) ?_
    refine va_get (D := D) (ci := 7) (v := .ref th1) (C := RX10) (T := TX10) (N := 9) hx hb hts hi_X10 hown hK hP 0 rfl rfl 0 (by decide) (hts (.fieldLink RX10 10 "FairWheel" "wheel" "LFairWheel$Wheel;") (List.mem_of_getElem? (i := 2) rfl)) (fun _ h9 => h9) rfl dX10_refuseEvening_16 ?_
    refine lv_aload_n hx hb dX10_refuseEvening_19 rfl (lv_at hl 1 rfl) ?_
    refine va_get (D := D) (ci := 7) (v := .ref th3) (C := RX10) (T := TX10) (N := 9) hx hb hts hi_X10 hown hK hP 0 rfl rfl 2 (by decide) (hts (.fieldLink RX10 22 "FairWheel" "pad" "LFairWheel$Pad;") (List.mem_of_getElem? (i := 3) rfl)) (fun _ h9 => h9) rfl dX10_refuseEvening_20 ?_
    refine lv_bipush (v := -6) hx hb dX10_refuseEvening_23 (by decide) ?_
    refine lv_iconst (v := 0) hx hb dX10_refuseEvening_25 (by decide) ?_
    obtain ⟨z3, hz_z3, hf⟩ := o_bind hf
    refine k_calli (va_runV (As := [.ref th1, .ref th3, .int (-6 : Int32), .int (0 : Int32)]) (rest := []) ⟨hx, hb, hml, hown, hts⟩ (c_X7_tell l D cI cZ th5 telling1 telling2 telling3 telling4 telling5 th1 wheel1 wheel2 wheel3 wheel4 th3 pad1 H.size u_telling u_wheel u_pad (-6 : Int32) (0 : Int32) z3 hz_z3) (cwV 4 hts gX10_refuseEvening_X7_tell rfl rfl rfl ⟨rfl, hd_X7_tell⟩ ⟨Nat.le_of_ble_eq_true rfl, Nat.le_of_ble_eq_true rfl⟩) (k_preV hK hP hD hS hA hE [8, 9, 10, 11, 12, 13, 1, 2, 3, 4, 5, 6, 7] (by decide) rfl (ci := 4) rfl rfl) rfl rfl hl.1 rfl (lv_room (Nat.le_of_ble_eq_true rfl)) dX10_refuseEvening_26 ⟨Nat.zero_le _, Nat.zero_le _⟩) hP hD hS hA [8, 9, 10, 11, 12, 13, 1, 2, 3, 4, 5, 6, 7] [none, some 6, some 7, some 8, some 9, some 10, some 11, some 12, some 0, some 1, some 2, some 3, some 4, some 5] 13 rfl (by decide) (by decide) rfl rfl (fun H locs hP hD hS => ?_)
    have hP : va_P D vwCl (ceX th0 th1 th2 th3 th4 th5 th6 th7 th8 th9 ++ (ceW cI cZ th1 wheel1 wheel2 wheel3 wheel4 u_wheel ++ (ceP cI cZ th3 pad1 u_pad ++ (ceT cI cZ th5 telling1 telling2 telling3 telling4 telling5 z3.2)))) H := hP
    have hD : va_D A (ceX th0 th1 th2 th3 th4 th5 th6 th7 th8 th9 ++ (ceW cI cZ th1 wheel1 wheel2 wheel3 wheel4 u_wheel ++ (ceP cI cZ th3 pad1 u_pad ++ (ceT cI cZ th5 telling1 telling2 telling3 telling4 telling5 z3.2)))) := hD
    refine lv_if_eq (tgt := 36) hx hb dX10_refuseEvening_29 (by decide) (fun c4 => ?_) (fun c4 => ?_)
    · have hf := (if_pos c4).symm.trans hf
      refine lv_bipush (v := -5) hx hb dX10_refuseEvening_36 (by decide) ?_
      exact k_iret (v := (-5 : Int32)) (u := z3.2) hx hb hr hlocks hK hS eQ hf hP hD dX10_refuseEvening_38
    · have hf := (if_neg c4).symm.trans hf
      refine lv_iconst (v := 0) hx hb dX10_refuseEvening_32 (by decide) ?_
      refine lv_goto (tgt := 38) hx hb dX10_refuseEvening_33 (by decide) ?_
      exact k_iret (v := (0 : Int32)) (u := z3.2) hx hb hr hlocks hK hS eQ hf hP hD dX10_refuseEvening_38
  · have hf := (if_neg c2).symm.trans hf
    refine lv_iload_n hx hb dX10_refuseEvening_9 rfl (lv_at hl 0 rfl) ?_
    exact k_iret (v := z1.1) (u := u_telling) hx hb hr hlocks hK hS eQ hf hP hD dX10_refuseEvening_10
theorem hd_X10_canBeLeftOut : yX10_canBeLeftOut.cls ≠ "java/lang/invoke/MethodHandle" ∧ yX10_canBeLeftOut.cls ≠ "java/lang/invoke/VarHandle" ∧ (parseMethodDescriptor yX10_canBeLeftOut.desc).map (fun d => d.parameters.length) = some 2 := by decide +kernel
set_option maxHeartbeats 4000000 in
set_option maxRecDepth 100000 in
theorem c_X10_canBeLeftOut (l : Launch) (D : va_G) (cI cZ : ClassId) (th0 : Nat) (th1 : Nat) (th2 : Nat) (th3 : Nat) (th4 : Nat) (th5 : Nat) (th6 : Nat) (th7 : Nat) (th8 : Nat) (th9 : Nat) (wheel1 : Nat) (wheel2 : Nat) (wheel3 : Nat) (wheel4 : Nat) (pad1 : Nat) (telling1 : Nat) (telling2 : Nat) (telling3 : Nat) (telling4 : Nat) (telling5 : Nat) (sz : Nat) (u_wheel : sW) (u_pad : sP) (u_telling : sT) (p1 : Int32) (p2 : Int32) (z : Int32 × sT) (hf : f_X10_canBeLeftOut u_wheel u_pad u_telling p1 p2 = some z) : Met l yX10_canBeLeftOut wsX10_canBeLeftOut rmX10_canBeLeftOut (va_Pc [.ref th0, .int p1, .int p2] (wPr D cI cZ (ceX th0 th1 th2 th3 th4 th5 th6 th7 th8 th9 ++ (ceW cI cZ th1 wheel1 wheel2 wheel3 wheel4 u_wheel ++ (ceP cI cZ th3 pad1 u_pad ++ (ceT cI cZ th5 telling1 telling2 telling3 telling4 telling5 u_telling)))) sz)) (va_Qi (fun (r : Int32) (v : sT) => (r, v) = z) (fun (v : sT) t => wPo D cI cZ (va_A (ceX th0 th1 th2 th3 th4 th5 th6 th7 th8 th9 ++ (ceW cI cZ th1 wheel1 wheel2 wheel3 wheel4 u_wheel ++ (ceP cI cZ th3 pad1 u_pad ++ (ceT cI cZ th5 telling1 telling2 telling3 telling4 telling5 u_telling)))) sz) (ceX th0 th1 th2 th3 th4 th5 th6 th7 th8 th9 ++ (ceW cI cZ th1 wheel1 wheel2 wheel3 wheel4 u_wheel ++ (ceP cI cZ th3 pad1 u_pad ++ (ceT cI cZ th5 telling1 telling2 telling3 telling4 telling5 v)))) t) (va_A (ceX th0 th1 th2 th3 th4 th5 th6 th7 th8 th9 ++ (ceW cI cZ th1 wheel1 wheel2 wheel3 wheel4 u_wheel ++ (ceP cI cZ th3 pad1 u_pad ++ (ceT cI cZ th5 telling1 telling2 telling3 telling4 telling5 u_telling)))) sz)) 0 0 (va_A (ceX th0 th1 th2 th3 th4 th5 th6 th7 th8 th9 ++ (ceW cI cZ th1 wheel1 wheel2 wheel3 wheel4 u_wheel ++ (ceP cI cZ th3 pad1 u_pad ++ (ceT cI cZ th5 telling1 telling2 telling3 telling4 telling5 u_telling)))) sz) := by
  refine k_enter (D := D) (cI := cI) (cZ := cZ) (wl := ceX th0 th1 th2 th3 th4 th5 th6 th7 th8 th9 ++ (ceW cI cZ th1 wheel1 wheel2 wheel3 wheel4 u_wheel ++ (ceP cI cZ th3 pad1 u_pad ++ (ceT cI cZ th5 telling1 telling2 telling3 telling4 telling5 u_telling)))) (sz := sz) (av := [.ref th0, .int p1, .int p2]) (cc := cX10_canBeLeftOut) (maxL := 3) (ret := (some .boolean)) (Qc := fun A => va_Qi (fun (r : Int32) (v : sT) => (r, v) = z) (fun (v : sT) t => wPo D cI cZ (A) (ceX th0 th1 th2 th3 th4 th5 th6 th7 th8 th9 ++ (ceW cI cZ th1 wheel1 wheel2 wheel3 wheel4 u_wheel ++ (ceP cI cZ th3 pad1 u_pad ++ (ceT cI cZ th5 telling1 telling2 telling3 telling4 telling5 v)))) t) (A)) (by decide) rfl (Nat.le_of_ble_eq_true rfl) ?_
  intro p e s m below meth c ls A Q H locs eQ hx hb hr hml hts hown hlocks hK hP hD hS hA hE hl
  have hown : s.vm.findClass RX10 = some m.cls := hown
  have hl : lv_has ls 3 [(0, .ref th0), (1, .int p1), (2, .int p2)] := hl
  have hi_X10 : ∀ w ∈ wsX100, w ∈ wsX10_canBeLeftOut := fun w h => List.mem_cons_of_mem _ (List.mem_append_left _ (List.mem_append_left _ (List.mem_append_left _ (List.mem_append_right _ h))))
  rw [f_X10_canBeLeftOut] at hf
  refine lv_aload_n hx hb dX10_canBeLeftOut_0 rfl (lv_at hl 0 rfl) ?_
  refine va_get (D := D) (ci := 7) (v := .ref th3) (C := RX10) (T := TX10) (N := 9) hx hb hts hi_X10 hown hK hP 0 rfl rfl 2 (by decide) (hts (.fieldLink RX10 22 "FairWheel" "pad" "LFairWheel$Pad;") (List.mem_of_getElem? (i := 1) rfl)) (fun _ h9 => h9) rfl dX10_canBeLeftOut_1 ?_
  refine lv_iload_n hx hb dX10_canBeLeftOut_4 rfl (lv_at hl 1 rfl) ?_
  obtain ⟨z1, hz_z1, hf⟩ := o_bind hf
  refine k_calli (va_runV (As := [.int p1]) (rest := []) ⟨hx, hb, hml, hown, hts⟩ (c_X4_signAt l D cI cZ th3 pad1 H.size u_pad p1 z1 hz_z1) (cwV 1 hts gX10_canBeLeftOut_X4_signAt rfl rfl rfl ⟨rfl, hd_X4_signAt⟩ ⟨Nat.le_of_ble_eq_true rfl, Nat.le_of_ble_eq_true rfl⟩) (k_preV hK hP hD hS hA hE [6, 7] (by decide) rfl (ci := 1) rfl rfl) rfl rfl hl.1 rfl (lv_room (Nat.le_of_ble_eq_true rfl)) dX10_canBeLeftOut_5 ⟨Nat.zero_le _, Nat.zero_le _⟩) hP hD hS hA [6, 7] [none, none, none, none, none, none, some 0, some 1, none, none, none, none, none, none] 2 rfl (by decide) (by decide) rfl rfl (fun H locs hP hD hS => ?_)
  have hP : va_P D vwCl (ceX th0 th1 th2 th3 th4 th5 th6 th7 th8 th9 ++ (ceW cI cZ th1 wheel1 wheel2 wheel3 wheel4 u_wheel ++ (ceP cI cZ th3 pad1 u_pad ++ (ceT cI cZ th5 telling1 telling2 telling3 telling4 telling5 u_telling)))) H := hP
  have hD : va_D A (ceX th0 th1 th2 th3 th4 th5 th6 th7 th8 th9 ++ (ceW cI cZ th1 wheel1 wheel2 wheel3 wheel4 u_wheel ++ (ceP cI cZ th3 pad1 u_pad ++ (ceT cI cZ th5 telling1 telling2 telling3 telling4 telling5 u_telling)))) := hD
  obtain ⟨z2, hz_z2, hf⟩ := o_bind hf
  refine k_calli (va_runS (As := [.int z1.1]) (rest := []) ⟨hx, hb, hml, hown, hts⟩ (c_X4_isMotion l D cI cZ  H.size z1.1 z2 hz_z2) (va_cwS 1 hts gX10_canBeLeftOut_X4_isMotion rfl rfl rfl hd_X4_isMotion ⟨Nat.le_of_ble_eq_true rfl, Nat.le_of_ble_eq_true rfl⟩) (k_preS hK hP hD hS hA hE [] (by decide) rfl) rfl rfl hl.1 rfl (lv_room (Nat.le_of_ble_eq_true rfl)) dX10_canBeLeftOut_8 ⟨Nat.zero_le _, Nat.zero_le _⟩) hP hD hS hA [] [none, none, none, none, none, none, none, none, none, none, none, none, none, none] 0 rfl (by decide) (by decide) rfl rfl (fun H locs hP hD hS => ?_)
  have hP : va_P D vwCl (ceX th0 th1 th2 th3 th4 th5 th6 th7 th8 th9 ++ (ceW cI cZ th1 wheel1 wheel2 wheel3 wheel4 u_wheel ++ (ceP cI cZ th3 pad1 u_pad ++ (ceT cI cZ th5 telling1 telling2 telling3 telling4 telling5 u_telling)))) H := hP
  have hD : va_D A (ceX th0 th1 th2 th3 th4 th5 th6 th7 th8 th9 ++ (ceW cI cZ th1 wheel1 wheel2 wheel3 wheel4 u_wheel ++ (ceP cI cZ th3 pad1 u_pad ++ (ceT cI cZ th5 telling1 telling2 telling3 telling4 telling5 u_telling)))) := hD
  refine lv_if_eq (tgt := 16) hx hb dX10_canBeLeftOut_11 (by decide) (fun c3 => ?_) (fun c3 => ?_)
  · have hf := (if_pos c3).symm.trans hf
    refine lv_aload_n hx hb dX10_canBeLeftOut_16 rfl (lv_at hl 0 rfl) ?_
    refine va_get (D := D) (ci := 7) (v := .ref th5) (C := RX10) (T := TX10) (N := 9) hx hb hts hi_X10 hown hK hP 0 rfl rfl 4 (by decide) (hts (.fieldLink RX10 36 "FairWheel" "telling" "LFairWheel$Telling;") (List.mem_of_getElem? (i := 2) rfl)) (fun _ h9 => h9) rfl dX10_canBeLeftOut_17 ?_
    refine lv_aload_n hx hb dX10_canBeLeftOut_20 rfl (lv_at hl 0 rfl) ?_
    refine va_get (D := D) (ci := 7) (v := .ref th1) (C := RX10) (T := TX10) (N := 9) hx hb hts hi_X10 hown hK hP 0 rfl rfl 0 (by decide) (hts (.fieldLink RX10 10 "FairWheel" "wheel" "LFairWheel$Wheel;") (List.mem_of_getElem? (i := 3) rfl)) (fun _ h9 => h9) rfl dX10_canBeLeftOut_21 ?_
    refine lv_aload_n hx hb dX10_canBeLeftOut_24 rfl (lv_at hl 0 rfl) ?_
    refine va_get (D := D) (ci := 7) (v := .ref th3) (C := RX10) (T := TX10) (N := 9) hx hb hts hi_X10 hown hK hP 0 rfl rfl 2 (by decide) (hts (.fieldLink RX10 22 "FairWheel" "pad" "LFairWheel$Pad;") (List.mem_of_getElem? (i := 1) rfl)) (fun _ h9 => h9) rfl dX10_canBeLeftOut_25 ?_
    refine lv_iload_n hx hb dX10_canBeLeftOut_28 rfl (lv_at hl 1 rfl) ?_
    refine lv_iconst (v := 0) hx hb dX10_canBeLeftOut_29 (by decide) ?_
    obtain ⟨z4, hz_z4, hf⟩ := o_bind hf
    refine k_calli (va_runV (As := [.ref th1, .ref th3, .int p1, .int (0 : Int32)]) (rest := []) ⟨hx, hb, hml, hown, hts⟩ (c_X7_tell l D cI cZ th5 telling1 telling2 telling3 telling4 telling5 th1 wheel1 wheel2 wheel3 wheel4 th3 pad1 H.size u_telling u_wheel u_pad p1 (0 : Int32) z4 hz_z4) (cwV 4 hts gX10_canBeLeftOut_X7_tell rfl rfl rfl ⟨rfl, hd_X7_tell⟩ ⟨Nat.le_of_ble_eq_true rfl, Nat.le_of_ble_eq_true rfl⟩) (k_preV hK hP hD hS hA hE [8, 9, 10, 11, 12, 13, 1, 2, 3, 4, 5, 6, 7] (by decide) rfl (ci := 4) rfl rfl) rfl rfl hl.1 rfl (lv_room (Nat.le_of_ble_eq_true rfl)) dX10_canBeLeftOut_30 ⟨Nat.zero_le _, Nat.zero_le _⟩) hP hD hS hA [8, 9, 10, 11, 12, 13, 1, 2, 3, 4, 5, 6, 7] [none, some 6, some 7, some 8, some 9, some 10, some 11, some 12, some 0, some 1, some 2, some 3, some 4, some 5] 13 rfl (by decide) (by decide) rfl rfl (fun H locs hP hD hS => ?_)
    have hP : va_P D vwCl (ceX th0 th1 th2 th3 th4 th5 th6 th7 th8 th9 ++ (ceW cI cZ th1 wheel1 wheel2 wheel3 wheel4 u_wheel ++ (ceP cI cZ th3 pad1 u_pad ++ (ceT cI cZ th5 telling1 telling2 telling3 telling4 telling5 z4.2)))) H := hP
    have hD : va_D A (ceX th0 th1 th2 th3 th4 th5 th6 th7 th8 th9 ++ (ceW cI cZ th1 wheel1 wheel2 wheel3 wheel4 u_wheel ++ (ceP cI cZ th3 pad1 u_pad ++ (ceT cI cZ th5 telling1 telling2 telling3 telling4 telling5 z4.2)))) := hD
    refine lv_if_eq (tgt := 54) hx hb dX10_canBeLeftOut_33 (by decide) (fun c5 => ?_) (fun c5 => ?_)
    · have hf := (if_pos c5).symm.trans hf
      refine lv_iconst (v := 0) hx hb dX10_canBeLeftOut_54 (by decide) ?_
      exact k_zret (v := (0 : Int32)) (u := z4.2) hx hb hr hlocks hK hS eQ (by decide) hf hP hD dX10_canBeLeftOut_55
    · have hf := (if_neg c5).symm.trans hf
      refine lv_aload_n hx hb dX10_canBeLeftOut_36 rfl (lv_at hl 0 rfl) ?_
      refine va_get (D := D) (ci := 7) (v := .ref th5) (C := RX10) (T := TX10) (N := 9) hx hb hts hi_X10 hown hK hP 0 rfl rfl 4 (by decide) (hts (.fieldLink RX10 36 "FairWheel" "telling" "LFairWheel$Telling;") (List.mem_of_getElem? (i := 2) rfl)) (fun _ h9 => h9) rfl dX10_canBeLeftOut_37 ?_
      refine k_callr (va_runV (As := []) (rest := []) ⟨hx, hb, hml, hown, hts⟩ (c_X7_wheel l D cI cZ th5 telling1 telling2 telling3 telling4 telling5 H.size z4.2) (cwV 0 hts gX10_canBeLeftOut_X7_wheel rfl rfl rfl ⟨rfl, hd_X7_wheel⟩ ⟨Nat.le_of_ble_eq_true rfl, Nat.le_of_ble_eq_true rfl⟩) (k_preV hK hP hD hS hA hE [8, 9, 10, 11, 12, 13] (by decide) rfl (ci := 4) rfl rfl) rfl rfl hl.1 rfl (lv_room (Nat.le_of_ble_eq_true rfl)) dX10_canBeLeftOut_40 ⟨Nat.zero_le _, Nat.zero_le _⟩) hP hD hS hA [8, 9, 10, 11, 12, 13] [none, none, none, none, none, none, none, none, some 0, some 1, some 2, some 3, some 4, some 5] 6 rfl (by decide) (by decide) rfl rfl (fun H locs hP hD hS => ?_)
      have hP : va_P D vwCl (ceX th0 th1 th2 th3 th4 th5 th6 th7 th8 th9 ++ (ceW cI cZ th1 wheel1 wheel2 wheel3 wheel4 u_wheel ++ (ceP cI cZ th3 pad1 u_pad ++ (ceT cI cZ th5 telling1 telling2 telling3 telling4 telling5 z4.2)))) H := hP
      have hD : va_D A (ceX th0 th1 th2 th3 th4 th5 th6 th7 th8 th9 ++ (ceW cI cZ th1 wheel1 wheel2 wheel3 wheel4 u_wheel ++ (ceP cI cZ th3 pad1 u_pad ++ (ceT cI cZ th5 telling1 telling2 telling3 telling4 telling5 z4.2)))) := hD
      obtain ⟨z7, hz_z7, hf⟩ := o_bind hf
      refine k_calli (va_runV (As := []) (rest := []) ⟨hx, hb, hml, hown, hts⟩ (c_X9_lowest l D cI cZ telling1 telling2 telling3 telling4 telling5 H.size (T_wheel z4.2) z7 hz_z7) (cwV 0 hts gX10_canBeLeftOut_X9_lowest rfl rfl rfl ⟨rfl, hd_X9_lowest⟩ ⟨Nat.le_of_ble_eq_true rfl, Nat.le_of_ble_eq_true rfl⟩) (k_preV hK hP hD hS hA hE [9, 10, 11, 12, 13] (by decide) rfl (ci := 6) rfl rfl) rfl rfl hl.1 rfl (lv_room (Nat.le_of_ble_eq_true rfl)) dX10_canBeLeftOut_43 ⟨Nat.zero_le _, Nat.zero_le _⟩) hP hD hS hA [9, 10, 11, 12, 13] [none, none, none, none, none, none, none, none, none, some 0, some 1, some 2, some 3, some 4] 5 rfl (by decide) (by decide) rfl rfl (fun H locs hP hD hS => ?_)
      have hP : va_P D vwCl (ceX th0 th1 th2 th3 th4 th5 th6 th7 th8 th9 ++ (ceW cI cZ th1 wheel1 wheel2 wheel3 wheel4 u_wheel ++ (ceP cI cZ th3 pad1 u_pad ++ (ceT cI cZ th5 telling1 telling2 telling3 telling4 telling5 z4.2)))) H := hP
      have hD : va_D A (ceX th0 th1 th2 th3 th4 th5 th6 th7 th8 th9 ++ (ceW cI cZ th1 wheel1 wheel2 wheel3 wheel4 u_wheel ++ (ceP cI cZ th3 pad1 u_pad ++ (ceT cI cZ th5 telling1 telling2 telling3 telling4 telling5 z4.2)))) := hD
      refine lv_iload_n hx hb dX10_canBeLeftOut_46 rfl (lv_at hl 2 rfl) ?_
      refine lv_icmp_ne (tgt := 54) hx hb dX10_canBeLeftOut_47 (by decide) (fun c8 => ?_) (fun c8 => ?_)
      · have hf := (if_neg c8).symm.trans hf
        refine lv_iconst (v := 0) hx hb dX10_canBeLeftOut_54 (by decide) ?_
        exact k_zret (v := (0 : Int32)) (u := z4.2) hx hb hr hlocks hK hS eQ (by decide) hf hP hD dX10_canBeLeftOut_55
      · have hf := (if_pos c8).symm.trans hf
        refine lv_iconst (v := 1) hx hb dX10_canBeLeftOut_50 (by decide) ?_
        refine lv_goto (tgt := 55) hx hb dX10_canBeLeftOut_51 (by decide) ?_
        exact k_zret (v := (1 : Int32)) (u := z4.2) hx hb hr hlocks hK hS eQ (by decide) hf hP hD dX10_canBeLeftOut_55
  · have hf := (if_neg c3).symm.trans hf
    refine lv_iconst (v := 0) hx hb dX10_canBeLeftOut_14 (by decide) ?_
    exact k_zret (v := (0 : Int32)) (u := u_telling) hx hb hr hlocks hK hS eQ (by decide) hf hP hD dX10_canBeLeftOut_15
theorem hd_X10_tellMove : yX10_tellMove.cls ≠ "java/lang/invoke/MethodHandle" ∧ yX10_tellMove.cls ≠ "java/lang/invoke/VarHandle" ∧ (parseMethodDescriptor yX10_tellMove.desc).map (fun d => d.parameters.length) = some 2 := by decide +kernel
set_option maxHeartbeats 4000000 in
set_option maxRecDepth 100000 in
theorem c_X10_tellMove (l : Launch) (D : va_G) (cI cZ : ClassId) (th0 : Nat) (th1 : Nat) (th2 : Nat) (th3 : Nat) (th4 : Nat) (th5 : Nat) (th6 : Nat) (th7 : Nat) (th8 : Nat) (th9 : Nat) (wheel1 : Nat) (wheel2 : Nat) (wheel3 : Nat) (wheel4 : Nat) (sz : Nat) (u_wheel : sW) (p1 : Int32) (p2 : Int32) (z : Int32 × Unit) (hf : f_X10_tellMove u_wheel p1 p2 = some z) : Met l yX10_tellMove wsX10_tellMove rmX10_tellMove (va_Pc [.ref th0, .int p1, .int p2] (wPr D cI cZ (ceX th0 th1 th2 th3 th4 th5 th6 th7 th8 th9 ++ (ceW cI cZ th1 wheel1 wheel2 wheel3 wheel4 u_wheel)) sz)) (va_Qi (fun (r : Int32) (v : Unit) => (r, v) = z) (fun (v : Unit) t => wPo D cI cZ (va_A (ceX th0 th1 th2 th3 th4 th5 th6 th7 th8 th9 ++ (ceW cI cZ th1 wheel1 wheel2 wheel3 wheel4 u_wheel)) sz) (ceX th0 th1 th2 th3 th4 th5 th6 th7 th8 th9 ++ (ceW cI cZ th1 wheel1 wheel2 wheel3 wheel4 u_wheel)) t) (va_A (ceX th0 th1 th2 th3 th4 th5 th6 th7 th8 th9 ++ (ceW cI cZ th1 wheel1 wheel2 wheel3 wheel4 u_wheel)) sz)) 0 0 (va_A (ceX th0 th1 th2 th3 th4 th5 th6 th7 th8 th9 ++ (ceW cI cZ th1 wheel1 wheel2 wheel3 wheel4 u_wheel)) sz) := by
  refine k_enter (D := D) (cI := cI) (cZ := cZ) (wl := ceX th0 th1 th2 th3 th4 th5 th6 th7 th8 th9 ++ (ceW cI cZ th1 wheel1 wheel2 wheel3 wheel4 u_wheel)) (sz := sz) (av := [.ref th0, .int p1, .int p2]) (cc := cX10_tellMove) (maxL := 3) (ret := (some .int)) (Qc := fun A => va_Qi (fun (r : Int32) (v : Unit) => (r, v) = z) (fun (v : Unit) t => wPo D cI cZ (A) (ceX th0 th1 th2 th3 th4 th5 th6 th7 th8 th9 ++ (ceW cI cZ th1 wheel1 wheel2 wheel3 wheel4 u_wheel)) t) (A)) (by decide) rfl (Nat.le_of_ble_eq_true rfl) ?_
  intro p e s m below meth c ls A Q H locs eQ hx hb hr hml hts hown hlocks hK hP hD hS hA hE hl
  have hown : s.vm.findClass RX10 = some m.cls := hown
  have hl : lv_has ls 3 [(0, .ref th0), (1, .int p1), (2, .int p2)] := hl
  have hi_X10 : ∀ w ∈ wsX100, w ∈ wsX10_tellMove := fun w h => List.mem_cons_of_mem _ (List.mem_append_left _ (List.mem_append_right _ h))
  rw [f_X10_tellMove] at hf
  refine lv_iload_n hx hb dX10_tellMove_0 rfl (lv_at hl 2 rfl) ?_
  refine lv_iconst (v := 1) hx hb dX10_tellMove_1 (by decide) ?_
  refine lv_icmp_ne (tgt := 22) hx hb dX10_tellMove_2 (by decide) (fun c1 => ?_) (fun c1 => ?_)
  · have hf := (if_neg c1).symm.trans hf
    refine lv_iload_n hx hb dX10_tellMove_22 rfl (lv_at hl 1 rfl) ?_
    obtain ⟨z2, hz_z2, hf⟩ := o_bind hf
    refine k_calli (va_runS (As := [.int p1]) (rest := []) ⟨hx, hb, hml, hown, hts⟩ (c_X10_isPerson l D cI cZ  H.size p1 z2 hz_z2) (va_cwS 1 hts gX10_tellMove_X10_isPerson rfl rfl rfl hd_X10_isPerson ⟨Nat.le_of_ble_eq_true rfl, Nat.le_of_ble_eq_true rfl⟩) (k_preS hK hP hD hS hA hE [] (by decide) rfl) rfl rfl hl.1 rfl (lv_room (Nat.le_of_ble_eq_true rfl)) dX10_tellMove_23 ⟨Nat.zero_le _, Nat.zero_le _⟩) hP hD hS hA [] [none, none, none, none, none, none] 0 rfl (by decide) (by decide) rfl rfl (fun H locs hP hD hS => ?_)
    have hP : va_P D vwCl (ceX th0 th1 th2 th3 th4 th5 th6 th7 th8 th9 ++ (ceW cI cZ th1 wheel1 wheel2 wheel3 wheel4 u_wheel)) H := hP
    have hD : va_D A (ceX th0 th1 th2 th3 th4 th5 th6 th7 th8 th9 ++ (ceW cI cZ th1 wheel1 wheel2 wheel3 wheel4 u_wheel)) := hD
    refine lv_if_eq (tgt := 33) hx hb dX10_tellMove_26 (by decide) (fun c3 => ?_) (fun c3 => ?_)
    · have hf := (if_pos c3).symm.trans hf
      refine lv_bipush (v := -6) hx hb dX10_tellMove_33 (by decide) ?_
      exact k_iret (v := (-6 : Int32)) (u := ()) hx hb hr hlocks hK hS eQ hf hP hD dX10_tellMove_35
    · have hf := (if_neg c3).symm.trans hf
      refine lv_iload_n hx hb dX10_tellMove_29 rfl (lv_at hl 1 rfl) ?_
      refine lv_goto (tgt := 35) hx hb dX10_tellMove_30 (by decide) ?_
      exact k_iret (v := p1) (u := ()) hx hb hr hlocks hK hS eQ hf hP hD dX10_tellMove_35
  · have hf := (if_pos c1).symm.trans hf
    refine lv_aload_n hx hb dX10_tellMove_5 rfl (lv_at hl 0 rfl) ?_
    refine va_get (D := D) (ci := 7) (v := .ref th1) (C := RX10) (T := TX10) (N := 9) hx hb hts hi_X10 hown hK hP 0 rfl rfl 0 (by decide) (hts (.fieldLink RX10 10 "FairWheel" "wheel" "LFairWheel$Wheel;") (List.mem_of_getElem? (i := 1) rfl)) (fun _ h9 => h9) rfl dX10_tellMove_6 ?_
    refine lv_iload_n hx hb dX10_tellMove_9 rfl (lv_at hl 1 rfl) ?_
    obtain ⟨z4, hz_z4, hf⟩ := o_bind hf
    refine k_calli (va_runS (As := [.ref th1, .int p1]) (rest := []) ⟨hx, hb, hml, hown, hts⟩ (c_X3_getsOut l D cI cZ th1 wheel1 wheel2 wheel3 wheel4 H.size u_wheel p1 z4 hz_z4) (va_cwS 2 hts gX10_tellMove_X3_getsOut rfl rfl rfl hd_X3_getsOut ⟨Nat.le_of_ble_eq_true rfl, Nat.le_of_ble_eq_true rfl⟩) (k_preS hK hP hD hS hA hE [1, 2, 3, 4, 5] (by decide) rfl) rfl rfl hl.1 rfl (lv_room (Nat.le_of_ble_eq_true rfl)) dX10_tellMove_10 ⟨Nat.zero_le _, Nat.zero_le _⟩) hP hD hS hA [1, 2, 3, 4, 5] [none, some 0, some 1, some 2, some 3, some 4] 5 rfl (by decide) (by decide) rfl rfl (fun H locs hP hD hS => ?_)
    have hP : va_P D vwCl (ceX th0 th1 th2 th3 th4 th5 th6 th7 th8 th9 ++ (ceW cI cZ th1 wheel1 wheel2 wheel3 wheel4 u_wheel)) H := hP
    have hD : va_D A (ceX th0 th1 th2 th3 th4 th5 th6 th7 th8 th9 ++ (ceW cI cZ th1 wheel1 wheel2 wheel3 wheel4 u_wheel)) := hD
    refine lv_if_eq (tgt := 20) hx hb dX10_tellMove_13 (by decide) (fun c5 => ?_) (fun c5 => ?_)
    · have hf := (if_pos c5).symm.trans hf
      refine lv_iconst (v := 0) hx hb dX10_tellMove_20 (by decide) ?_
      exact k_iret (v := (0 : Int32)) (u := ()) hx hb hr hlocks hK hS eQ hf hP hD dX10_tellMove_21
    · have hf := (if_neg c5).symm.trans hf
      refine lv_iconst (v := 1) hx hb dX10_tellMove_16 (by decide) ?_
      refine lv_goto (tgt := 21) hx hb dX10_tellMove_17 (by decide) ?_
      exact k_iret (v := (1 : Int32)) (u := ()) hx hb hr hlocks hK hS eQ hf hP hD dX10_tellMove_21
theorem hd_X10_endsAt : yX10_endsAt.cls ≠ "java/lang/invoke/MethodHandle" ∧ yX10_endsAt.cls ≠ "java/lang/invoke/VarHandle" ∧ (parseMethodDescriptor yX10_endsAt.desc).map (fun d => d.parameters.length) = some 3 := by decide +kernel
set_option maxHeartbeats 4000000 in
set_option maxRecDepth 100000 in
theorem c_X10_endsAt (l : Launch) (D : va_G) (cI cZ : ClassId) (th0 : Nat) (th1 : Nat) (th2 : Nat) (th3 : Nat) (th4 : Nat) (th5 : Nat) (th6 : Nat) (th7 : Nat) (th8 : Nat) (th9 : Nat) (wheel1 : Nat) (wheel2 : Nat) (wheel3 : Nat) (wheel4 : Nat) (trial1 : Nat) (trial2 : Nat) (trial3 : Nat) (trial4 : Nat) (pad1 : Nat) (telling1 : Nat) (telling2 : Nat) (telling3 : Nat) (telling4 : Nat) (telling5 : Nat) (sz : Nat) (u_wheel : sW) (u_trial : sW) (u_pad : sP) (u_telling : sT) (p1 : Int32) (p2 : Int32) (p3 : Int32) (z : Int32 × sW × sT) (hf : f_X10_endsAt u_wheel u_trial u_pad u_telling p1 p2 p3 = some z) : Met l yX10_endsAt wsX10_endsAt rmX10_endsAt (va_Pc [.ref th0, .int p1, .int p2, .int p3] (wPr D cI cZ (ceX th0 th1 th2 th3 th4 th5 th6 th7 th8 th9 ++ (ceW cI cZ th1 wheel1 wheel2 wheel3 wheel4 u_wheel ++ (ceW cI cZ th2 trial1 trial2 trial3 trial4 u_trial ++ (ceP cI cZ th3 pad1 u_pad ++ (ceT cI cZ th5 telling1 telling2 telling3 telling4 telling5 u_telling))))) sz)) (va_Qi (fun (r : Int32) (v : sW × sT) => (r, v) = z) (fun (v : sW × sT) t => wPo D cI cZ (va_A (ceX th0 th1 th2 th3 th4 th5 th6 th7 th8 th9 ++ (ceW cI cZ th1 wheel1 wheel2 wheel3 wheel4 u_wheel ++ (ceW cI cZ th2 trial1 trial2 trial3 trial4 u_trial ++ (ceP cI cZ th3 pad1 u_pad ++ (ceT cI cZ th5 telling1 telling2 telling3 telling4 telling5 u_telling))))) sz) (ceX th0 th1 th2 th3 th4 th5 th6 th7 th8 th9 ++ (ceW cI cZ th1 wheel1 wheel2 wheel3 wheel4 u_wheel ++ (ceW cI cZ th2 trial1 trial2 trial3 trial4 v.1 ++ (ceP cI cZ th3 pad1 u_pad ++ (ceT cI cZ th5 telling1 telling2 telling3 telling4 telling5 v.2))))) t) (va_A (ceX th0 th1 th2 th3 th4 th5 th6 th7 th8 th9 ++ (ceW cI cZ th1 wheel1 wheel2 wheel3 wheel4 u_wheel ++ (ceW cI cZ th2 trial1 trial2 trial3 trial4 u_trial ++ (ceP cI cZ th3 pad1 u_pad ++ (ceT cI cZ th5 telling1 telling2 telling3 telling4 telling5 u_telling))))) sz)) 0 0 (va_A (ceX th0 th1 th2 th3 th4 th5 th6 th7 th8 th9 ++ (ceW cI cZ th1 wheel1 wheel2 wheel3 wheel4 u_wheel ++ (ceW cI cZ th2 trial1 trial2 trial3 trial4 u_trial ++ (ceP cI cZ th3 pad1 u_pad ++ (ceT cI cZ th5 telling1 telling2 telling3 telling4 telling5 u_telling))))) sz) := by
  refine k_enter (D := D) (cI := cI) (cZ := cZ) (wl := ceX th0 th1 th2 th3 th4 th5 th6 th7 th8 th9 ++ (ceW cI cZ th1 wheel1 wheel2 wheel3 wheel4 u_wheel ++ (ceW cI cZ th2 trial1 trial2 trial3 trial4 u_trial ++ (ceP cI cZ th3 pad1 u_pad ++ (ceT cI cZ th5 telling1 telling2 telling3 telling4 telling5 u_telling))))) (sz := sz) (av := [.ref th0, .int p1, .int p2, .int p3]) (cc := cX10_endsAt) (maxL := 4) (ret := (some .boolean)) (Qc := fun A => va_Qi (fun (r : Int32) (v : sW × sT) => (r, v) = z) (fun (v : sW × sT) t => wPo D cI cZ (A) (ceX th0 th1 th2 th3 th4 th5 th6 th7 th8 th9 ++ (ceW cI cZ th1 wheel1 wheel2 wheel3 wheel4 u_wheel ++ (ceW cI cZ th2 trial1 trial2 trial3 trial4 v.1 ++ (ceP cI cZ th3 pad1 u_pad ++ (ceT cI cZ th5 telling1 telling2 telling3 telling4 telling5 v.2))))) t) (A)) (by decide) rfl (Nat.le_of_ble_eq_true rfl) ?_
  intro p e s m below meth c ls A Q H locs eQ hx hb hr hml hts hown hlocks hK hP hD hS hA hE hl
  have hown : s.vm.findClass RX10 = some m.cls := hown
  have hl : lv_has ls 4 [(0, .ref th0), (1, .int p1), (2, .int p2), (3, .int p3)] := hl
  have hi_X10 : ∀ w ∈ wsX100, w ∈ wsX10_endsAt := fun w h => List.mem_cons_of_mem _ (List.mem_append_left _ (List.mem_append_left _ (List.mem_append_left _ (List.mem_append_right _ h))))
  rw [f_X10_endsAt] at hf
  refine lv_aload_n hx hb dX10_endsAt_0 rfl (lv_at hl 0 rfl) ?_
  refine va_get (D := D) (ci := 7) (v := .ref th2) (C := RX10) (T := TX10) (N := 9) hx hb hts hi_X10 hown hK hP 0 rfl rfl 1 (by decide) (hts (.fieldLink RX10 16 "FairWheel" "trial" "LFairWheel$Wheel;") (List.mem_of_getElem? (i := 1) rfl)) (fun _ h9 => h9) rfl dX10_endsAt_1 ?_
  refine lv_aload_n hx hb dX10_endsAt_4 rfl (lv_at hl 0 rfl) ?_
  refine va_get (D := D) (ci := 7) (v := .ref th1) (C := RX10) (T := TX10) (N := 9) hx hb hts hi_X10 hown hK hP 0 rfl rfl 0 (by decide) (hts (.fieldLink RX10 10 "FairWheel" "wheel" "LFairWheel$Wheel;") (List.mem_of_getElem? (i := 2) rfl)) (fun _ h9 => h9) rfl dX10_endsAt_5 ?_
  obtain ⟨z1, hz_z1, hf⟩ := o_bind hf
  refine k_callv (va_runV (As := [.ref th1]) (rest := []) ⟨hx, hb, hml, hown, hts⟩ (c_X9_copyFrom l D cI cZ th2 trial1 trial2 trial3 trial4 th1 wheel1 wheel2 wheel3 wheel4 H.size u_trial u_wheel z1 hz_z1) (cwV 1 hts gX10_endsAt_X9_copyFrom rfl rfl rfl ⟨rfl, hd_X9_copyFrom⟩ ⟨Nat.le_of_ble_eq_true rfl, Nat.le_of_ble_eq_true rfl⟩) (k_preV hK hP hD hS hA hE [6, 7, 8, 9, 10, 1, 2, 3, 4, 5] (by decide) rfl (ci := 6) rfl rfl) rfl rfl hl.1 rfl (lv_room (Nat.le_of_ble_eq_true rfl)) dX10_endsAt_8 ⟨Nat.zero_le _, Nat.zero_le _⟩) hP hD hS hA [6, 7, 8, 9, 10, 1, 2, 3, 4, 5] [none, some 5, some 6, some 7, some 8, some 9, some 0, some 1, some 2, some 3, some 4, none, none, none, none, none, none, none, none] 10 rfl (by decide) (by decide) rfl rfl (fun H locs hP hD hS => ?_)
  have hP : va_P D vwCl (ceX th0 th1 th2 th3 th4 th5 th6 th7 th8 th9 ++ (ceW cI cZ th1 wheel1 wheel2 wheel3 wheel4 u_wheel ++ (ceW cI cZ th2 trial1 trial2 trial3 trial4 z1 ++ (ceP cI cZ th3 pad1 u_pad ++ (ceT cI cZ th5 telling1 telling2 telling3 telling4 telling5 u_telling))))) H := hP
  have hD : va_D A (ceX th0 th1 th2 th3 th4 th5 th6 th7 th8 th9 ++ (ceW cI cZ th1 wheel1 wheel2 wheel3 wheel4 u_wheel ++ (ceW cI cZ th2 trial1 trial2 trial3 trial4 z1 ++ (ceP cI cZ th3 pad1 u_pad ++ (ceT cI cZ th5 telling1 telling2 telling3 telling4 telling5 u_telling))))) := hD
  refine lv_aload_n hx hb dX10_endsAt_11 rfl (lv_at hl 0 rfl) ?_
  refine va_get (D := D) (ci := 7) (v := .ref th2) (C := RX10) (T := TX10) (N := 9) hx hb hts hi_X10 hown hK hP 0 rfl rfl 1 (by decide) (hts (.fieldLink RX10 16 "FairWheel" "trial" "LFairWheel$Wheel;") (List.mem_of_getElem? (i := 1) rfl)) (fun _ h9 => h9) rfl dX10_endsAt_12 ?_
  refine lv_iload_n hx hb dX10_endsAt_15 rfl (lv_at hl 1 rfl) ?_
  refine lv_iload_n hx hb dX10_endsAt_16 rfl (lv_at hl 2 rfl) ?_
  obtain ⟨z2, hz_z2, hf⟩ := o_bind hf
  refine k_callv (va_runV (As := [.int p1, .int p2]) (rest := []) ⟨hx, hb, hml, hown, hts⟩ (c_X9_setWeight l D cI cZ th2 trial1 trial2 trial3 trial4 H.size z1 p1 p2 z2 hz_z2) (cwV 2 hts gX10_endsAt_X9_setWeight rfl rfl rfl ⟨rfl, hd_X9_setWeight⟩ ⟨Nat.le_of_ble_eq_true rfl, Nat.le_of_ble_eq_true rfl⟩) (k_preV hK hP hD hS hA hE [6, 7, 8, 9, 10] (by decide) rfl (ci := 6) rfl rfl) rfl rfl hl.1 rfl (lv_room (Nat.le_of_ble_eq_true rfl)) dX10_endsAt_17 ⟨Nat.zero_le _, Nat.zero_le _⟩) hP hD hS hA [6, 7, 8, 9, 10] [none, none, none, none, none, none, some 0, some 1, some 2, some 3, some 4, none, none, none, none, none, none, none, none] 5 rfl (by decide) (by decide) rfl rfl (fun H locs hP hD hS => ?_)
  have hP : va_P D vwCl (ceX th0 th1 th2 th3 th4 th5 th6 th7 th8 th9 ++ (ceW cI cZ th1 wheel1 wheel2 wheel3 wheel4 u_wheel ++ (ceW cI cZ th2 trial1 trial2 trial3 trial4 z2 ++ (ceP cI cZ th3 pad1 u_pad ++ (ceT cI cZ th5 telling1 telling2 telling3 telling4 telling5 u_telling))))) H := hP
  have hD : va_D A (ceX th0 th1 th2 th3 th4 th5 th6 th7 th8 th9 ++ (ceW cI cZ th1 wheel1 wheel2 wheel3 wheel4 u_wheel ++ (ceW cI cZ th2 trial1 trial2 trial3 trial4 z2 ++ (ceP cI cZ th3 pad1 u_pad ++ (ceT cI cZ th5 telling1 telling2 telling3 telling4 telling5 u_telling))))) := hD
  refine lv_aload_n hx hb dX10_endsAt_20 rfl (lv_at hl 0 rfl) ?_
  refine va_get (D := D) (ci := 7) (v := .ref th5) (C := RX10) (T := TX10) (N := 9) hx hb hts hi_X10 hown hK hP 0 rfl rfl 4 (by decide) (hts (.fieldLink RX10 36 "FairWheel" "telling" "LFairWheel$Telling;") (List.mem_of_getElem? (i := 3) rfl)) (fun _ h9 => h9) rfl dX10_endsAt_21 ?_
  refine lv_aload_n hx hb dX10_endsAt_24 rfl (lv_at hl 0 rfl) ?_
  refine va_get (D := D) (ci := 7) (v := .ref th2) (C := RX10) (T := TX10) (N := 9) hx hb hts hi_X10 hown hK hP 0 rfl rfl 1 (by decide) (hts (.fieldLink RX10 16 "FairWheel" "trial" "LFairWheel$Wheel;") (List.mem_of_getElem? (i := 1) rfl)) (fun _ h9 => h9) rfl dX10_endsAt_25 ?_
  refine lv_aload_n hx hb dX10_endsAt_28 rfl (lv_at hl 0 rfl) ?_
  refine va_get (D := D) (ci := 7) (v := .ref th3) (C := RX10) (T := TX10) (N := 9) hx hb hts hi_X10 hown hK hP 0 rfl rfl 2 (by decide) (hts (.fieldLink RX10 22 "FairWheel" "pad" "LFairWheel$Pad;") (List.mem_of_getElem? (i := 4) rfl)) (fun _ h9 => h9) rfl dX10_endsAt_29 ?_
  refine lv_bipush (v := -6) hx hb dX10_endsAt_32 (by decide) ?_
  refine lv_iconst (v := 0) hx hb dX10_endsAt_34 (by decide) ?_
  obtain ⟨z3, hz_z3, hf⟩ := o_bind hf
  refine k_calli (va_runV (As := [.ref th2, .ref th3, .int (-6 : Int32), .int (0 : Int32)]) (rest := []) ⟨hx, hb, hml, hown, hts⟩ (c_X7_tell l D cI cZ th5 telling1 telling2 telling3 telling4 telling5 th2 trial1 trial2 trial3 trial4 th3 pad1 H.size u_telling z2 u_pad (-6 : Int32) (0 : Int32) z3 hz_z3) (cwV 4 hts gX10_endsAt_X7_tell rfl rfl rfl ⟨rfl, hd_X7_tell⟩ ⟨Nat.le_of_ble_eq_true rfl, Nat.le_of_ble_eq_true rfl⟩) (k_preV hK hP hD hS hA hE [13, 14, 15, 16, 17, 18, 6, 7, 8, 9, 10, 11, 12] (by decide) rfl (ci := 4) rfl rfl) rfl rfl hl.1 rfl (lv_room (Nat.le_of_ble_eq_true rfl)) dX10_endsAt_35 ⟨Nat.zero_le _, Nat.zero_le _⟩) hP hD hS hA [13, 14, 15, 16, 17, 18, 6, 7, 8, 9, 10, 11, 12] [none, none, none, none, none, none, some 6, some 7, some 8, some 9, some 10, some 11, some 12, some 0, some 1, some 2, some 3, some 4, some 5] 13 rfl (by decide) (by decide) rfl rfl (fun H locs hP hD hS => ?_)
  have hP : va_P D vwCl (ceX th0 th1 th2 th3 th4 th5 th6 th7 th8 th9 ++ (ceW cI cZ th1 wheel1 wheel2 wheel3 wheel4 u_wheel ++ (ceW cI cZ th2 trial1 trial2 trial3 trial4 z2 ++ (ceP cI cZ th3 pad1 u_pad ++ (ceT cI cZ th5 telling1 telling2 telling3 telling4 telling5 z3.2))))) H := hP
  have hD : va_D A (ceX th0 th1 th2 th3 th4 th5 th6 th7 th8 th9 ++ (ceW cI cZ th1 wheel1 wheel2 wheel3 wheel4 u_wheel ++ (ceW cI cZ th2 trial1 trial2 trial3 trial4 z2 ++ (ceP cI cZ th3 pad1 u_pad ++ (ceT cI cZ th5 telling1 telling2 telling3 telling4 telling5 z3.2))))) := hD
  refine lv_if_eq (tgt := 59) hx hb dX10_endsAt_38 (by decide) (fun c4 => ?_) (fun c4 => ?_)
  · have hf := (if_pos c4).symm.trans hf
    refine lv_iconst (v := 0) hx hb dX10_endsAt_59 (by decide) ?_
    exact k_zret (v := (0 : Int32)) (u := (z2, z3.2)) hx hb hr hlocks hK hS eQ (by decide) hf hP hD dX10_endsAt_60
  · have hf := (if_neg c4).symm.trans hf
    refine lv_aload_n hx hb dX10_endsAt_41 rfl (lv_at hl 0 rfl) ?_
    refine va_get (D := D) (ci := 7) (v := .ref th5) (C := RX10) (T := TX10) (N := 9) hx hb hts hi_X10 hown hK hP 0 rfl rfl 4 (by decide) (hts (.fieldLink RX10 36 "FairWheel" "telling" "LFairWheel$Telling;") (List.mem_of_getElem? (i := 3) rfl)) (fun _ h9 => h9) rfl dX10_endsAt_42 ?_
    refine k_callr (va_runV (As := []) (rest := []) ⟨hx, hb, hml, hown, hts⟩ (c_X7_wheel l D cI cZ th5 telling1 telling2 telling3 telling4 telling5 H.size z3.2) (cwV 0 hts gX10_endsAt_X7_wheel rfl rfl rfl ⟨rfl, hd_X7_wheel⟩ ⟨Nat.le_of_ble_eq_true rfl, Nat.le_of_ble_eq_true rfl⟩) (k_preV hK hP hD hS hA hE [13, 14, 15, 16, 17, 18] (by decide) rfl (ci := 4) rfl rfl) rfl rfl hl.1 rfl (lv_room (Nat.le_of_ble_eq_true rfl)) dX10_endsAt_45 ⟨Nat.zero_le _, Nat.zero_le _⟩) hP hD hS hA [13, 14, 15, 16, 17, 18] [none, none, none, none, none, none, none, none, none, none, none, none, none, some 0, some 1, some 2, some 3, some 4, some 5] 6 rfl (by decide) (by decide) rfl rfl (fun H locs hP hD hS => ?_)
    have hP : va_P D vwCl (ceX th0 th1 th2 th3 th4 th5 th6 th7 th8 th9 ++ (ceW cI cZ th1 wheel1 wheel2 wheel3 wheel4 u_wheel ++ (ceW cI cZ th2 trial1 trial2 trial3 trial4 z2 ++ (ceP cI cZ th3 pad1 u_pad ++ (ceT cI cZ th5 telling1 telling2 telling3 telling4 telling5 z3.2))))) H := hP
    have hD : va_D A (ceX th0 th1 th2 th3 th4 th5 th6 th7 th8 th9 ++ (ceW cI cZ th1 wheel1 wheel2 wheel3 wheel4 u_wheel ++ (ceW cI cZ th2 trial1 trial2 trial3 trial4 z2 ++ (ceP cI cZ th3 pad1 u_pad ++ (ceT cI cZ th5 telling1 telling2 telling3 telling4 telling5 z3.2))))) := hD
    obtain ⟨z6, hz_z6, hf⟩ := o_bind hf
    refine k_calli (va_runV (As := []) (rest := []) ⟨hx, hb, hml, hown, hts⟩ (c_X9_lowest l D cI cZ telling1 telling2 telling3 telling4 telling5 H.size (T_wheel z3.2) z6 hz_z6) (cwV 0 hts gX10_endsAt_X9_lowest rfl rfl rfl ⟨rfl, hd_X9_lowest⟩ ⟨Nat.le_of_ble_eq_true rfl, Nat.le_of_ble_eq_true rfl⟩) (k_preV hK hP hD hS hA hE [14, 15, 16, 17, 18] (by decide) rfl (ci := 6) rfl rfl) rfl rfl hl.1 rfl (lv_room (Nat.le_of_ble_eq_true rfl)) dX10_endsAt_48 ⟨Nat.zero_le _, Nat.zero_le _⟩) hP hD hS hA [14, 15, 16, 17, 18] [none, none, none, none, none, none, none, none, none, none, none, none, none, none, some 0, some 1, some 2, some 3, some 4] 5 rfl (by decide) (by decide) rfl rfl (fun H locs hP hD hS => ?_)
    have hP : va_P D vwCl (ceX th0 th1 th2 th3 th4 th5 th6 th7 th8 th9 ++ (ceW cI cZ th1 wheel1 wheel2 wheel3 wheel4 u_wheel ++ (ceW cI cZ th2 trial1 trial2 trial3 trial4 z2 ++ (ceP cI cZ th3 pad1 u_pad ++ (ceT cI cZ th5 telling1 telling2 telling3 telling4 telling5 z3.2))))) H := hP
    have hD : va_D A (ceX th0 th1 th2 th3 th4 th5 th6 th7 th8 th9 ++ (ceW cI cZ th1 wheel1 wheel2 wheel3 wheel4 u_wheel ++ (ceW cI cZ th2 trial1 trial2 trial3 trial4 z2 ++ (ceP cI cZ th3 pad1 u_pad ++ (ceT cI cZ th5 telling1 telling2 telling3 telling4 telling5 z3.2))))) := hD
    refine lv_iload_n hx hb dX10_endsAt_51 rfl (lv_at hl 3 rfl) ?_
    refine lv_icmp_ne (tgt := 59) hx hb dX10_endsAt_52 (by decide) (fun c7 => ?_) (fun c7 => ?_)
    · have hf := (if_neg c7).symm.trans hf
      refine lv_iconst (v := 0) hx hb dX10_endsAt_59 (by decide) ?_
      exact k_zret (v := (0 : Int32)) (u := (z2, z3.2)) hx hb hr hlocks hK hS eQ (by decide) hf hP hD dX10_endsAt_60
    · have hf := (if_pos c7).symm.trans hf
      refine lv_iconst (v := 1) hx hb dX10_endsAt_55 (by decide) ?_
      refine lv_goto (tgt := 60) hx hb dX10_endsAt_56 (by decide) ?_
      exact k_zret (v := (1 : Int32)) (u := (z2, z3.2)) hx hb hr hlocks hK hS eQ (by decide) hf hP hD dX10_endsAt_60
theorem hd_X10_holds : yX10_holds.cls ≠ "java/lang/invoke/MethodHandle" ∧ yX10_holds.cls ≠ "java/lang/invoke/VarHandle" ∧ (parseMethodDescriptor yX10_holds.desc).map (fun d => d.parameters.length) = some 1 := by decide +kernel
set_option maxHeartbeats 4000000 in
set_option maxRecDepth 100000 in
theorem c_X10_holds (l : Launch) (D : va_G) (cI cZ : ClassId) (th0 : Nat) (th1 : Nat) (th2 : Nat) (th3 : Nat) (th4 : Nat) (th5 : Nat) (th6 : Nat) (th7 : Nat) (th8 : Nat) (th9 : Nat) (wheel1 : Nat) (wheel2 : Nat) (wheel3 : Nat) (wheel4 : Nat) (pad1 : Nat) (sights1 : Nat) (sights2 : Nat) (telling1 : Nat) (telling2 : Nat) (telling3 : Nat) (telling4 : Nat) (telling5 : Nat) (sz : Nat) (u_wheel : sW) (u_pad : sP) (u_sights : sS) (u_telling : sT) (p1 : Int32) (z : Int32 × sT) (hf : f_X10_holds u_wheel u_pad u_sights u_telling p1 = some z) : Met l yX10_holds wsX10_holds rmX10_holds (va_Pc [.ref th0, .int p1] (wPr D cI cZ (ceX th0 th1 th2 th3 th4 th5 th6 th7 th8 th9 ++ (ceW cI cZ th1 wheel1 wheel2 wheel3 wheel4 u_wheel ++ (ceP cI cZ th3 pad1 u_pad ++ (ceS cI cZ th4 sights1 sights2 u_sights ++ (ceT cI cZ th5 telling1 telling2 telling3 telling4 telling5 u_telling))))) sz)) (va_Qi (fun (r : Int32) (v : sT) => (r, v) = z) (fun (v : sT) t => wPo D cI cZ (va_A (ceX th0 th1 th2 th3 th4 th5 th6 th7 th8 th9 ++ (ceW cI cZ th1 wheel1 wheel2 wheel3 wheel4 u_wheel ++ (ceP cI cZ th3 pad1 u_pad ++ (ceS cI cZ th4 sights1 sights2 u_sights ++ (ceT cI cZ th5 telling1 telling2 telling3 telling4 telling5 u_telling))))) sz) (ceX th0 th1 th2 th3 th4 th5 th6 th7 th8 th9 ++ (ceW cI cZ th1 wheel1 wheel2 wheel3 wheel4 u_wheel ++ (ceP cI cZ th3 pad1 u_pad ++ (ceS cI cZ th4 sights1 sights2 u_sights ++ (ceT cI cZ th5 telling1 telling2 telling3 telling4 telling5 v))))) t) (va_A (ceX th0 th1 th2 th3 th4 th5 th6 th7 th8 th9 ++ (ceW cI cZ th1 wheel1 wheel2 wheel3 wheel4 u_wheel ++ (ceP cI cZ th3 pad1 u_pad ++ (ceS cI cZ th4 sights1 sights2 u_sights ++ (ceT cI cZ th5 telling1 telling2 telling3 telling4 telling5 u_telling))))) sz)) 0 0 (va_A (ceX th0 th1 th2 th3 th4 th5 th6 th7 th8 th9 ++ (ceW cI cZ th1 wheel1 wheel2 wheel3 wheel4 u_wheel ++ (ceP cI cZ th3 pad1 u_pad ++ (ceS cI cZ th4 sights1 sights2 u_sights ++ (ceT cI cZ th5 telling1 telling2 telling3 telling4 telling5 u_telling))))) sz) := by
  refine k_enter (D := D) (cI := cI) (cZ := cZ) (wl := ceX th0 th1 th2 th3 th4 th5 th6 th7 th8 th9 ++ (ceW cI cZ th1 wheel1 wheel2 wheel3 wheel4 u_wheel ++ (ceP cI cZ th3 pad1 u_pad ++ (ceS cI cZ th4 sights1 sights2 u_sights ++ (ceT cI cZ th5 telling1 telling2 telling3 telling4 telling5 u_telling))))) (sz := sz) (av := [.ref th0, .int p1]) (cc := cX10_holds) (maxL := 2) (ret := (some .boolean)) (Qc := fun A => va_Qi (fun (r : Int32) (v : sT) => (r, v) = z) (fun (v : sT) t => wPo D cI cZ (A) (ceX th0 th1 th2 th3 th4 th5 th6 th7 th8 th9 ++ (ceW cI cZ th1 wheel1 wheel2 wheel3 wheel4 u_wheel ++ (ceP cI cZ th3 pad1 u_pad ++ (ceS cI cZ th4 sights1 sights2 u_sights ++ (ceT cI cZ th5 telling1 telling2 telling3 telling4 telling5 v))))) t) (A)) (by decide) rfl (Nat.le_of_ble_eq_true rfl) ?_
  intro p e s m below meth c ls A Q H locs eQ hx hb hr hml hts hown hlocks hK hP hD hS hA hE hl
  have hown : s.vm.findClass RX10 = some m.cls := hown
  have hl : lv_has ls 2 [(0, .ref th0), (1, .int p1)] := hl
  have hi_X10 : ∀ w ∈ wsX100, w ∈ wsX10_holds := fun w h => List.mem_cons_of_mem _ (List.mem_append_left _ (List.mem_append_left _ (List.mem_append_left _ (List.mem_append_left _ (List.mem_append_right _ h)))))
  rw [f_X10_holds] at hf
  refine lv_aload_n hx hb dX10_holds_0 rfl (lv_at hl 0 rfl) ?_
  refine va_get (D := D) (ci := 7) (v := .ref th5) (C := RX10) (T := TX10) (N := 9) hx hb hts hi_X10 hown hK hP 0 rfl rfl 4 (by decide) (hts (.fieldLink RX10 36 "FairWheel" "telling" "LFairWheel$Telling;") (List.mem_of_getElem? (i := 1) rfl)) (fun _ h9 => h9) rfl dX10_holds_1 ?_
  refine lv_aload_n hx hb dX10_holds_4 rfl (lv_at hl 0 rfl) ?_
  refine va_get (D := D) (ci := 7) (v := .ref th1) (C := RX10) (T := TX10) (N := 9) hx hb hts hi_X10 hown hK hP 0 rfl rfl 0 (by decide) (hts (.fieldLink RX10 10 "FairWheel" "wheel" "LFairWheel$Wheel;") (List.mem_of_getElem? (i := 2) rfl)) (fun _ h9 => h9) rfl dX10_holds_5 ?_
  refine lv_aload_n hx hb dX10_holds_8 rfl (lv_at hl 0 rfl) ?_
  refine va_get (D := D) (ci := 7) (v := .ref th3) (C := RX10) (T := TX10) (N := 9) hx hb hts hi_X10 hown hK hP 0 rfl rfl 2 (by decide) (hts (.fieldLink RX10 22 "FairWheel" "pad" "LFairWheel$Pad;") (List.mem_of_getElem? (i := 3) rfl)) (fun _ h9 => h9) rfl dX10_holds_9 ?_
  refine lv_bipush (v := -6) hx hb dX10_holds_12 (by decide) ?_
  refine lv_iload_n hx hb dX10_holds_14 rfl (lv_at hl 1 rfl) ?_
  obtain ⟨z1, hz_z1, hf⟩ := o_bind hf
  refine k_calli (va_runV (As := [.ref th1, .ref th3, .int (-6 : Int32), .int p1]) (rest := []) ⟨hx, hb, hml, hown, hts⟩ (c_X7_tell l D cI cZ th5 telling1 telling2 telling3 telling4 telling5 th1 wheel1 wheel2 wheel3 wheel4 th3 pad1 H.size u_telling u_wheel u_pad (-6 : Int32) p1 z1 hz_z1) (cwV 4 hts gX10_holds_X7_tell rfl rfl rfl ⟨rfl, hd_X7_tell⟩ ⟨Nat.le_of_ble_eq_true rfl, Nat.le_of_ble_eq_true rfl⟩) (k_preV hK hP hD hS hA hE [11, 12, 13, 14, 15, 16, 1, 2, 3, 4, 5, 6, 7] (by decide) rfl (ci := 4) rfl rfl) rfl rfl hl.1 rfl (lv_room (Nat.le_of_ble_eq_true rfl)) dX10_holds_15 ⟨Nat.zero_le _, Nat.zero_le _⟩) hP hD hS hA [11, 12, 13, 14, 15, 16, 1, 2, 3, 4, 5, 6, 7] [none, some 6, some 7, some 8, some 9, some 10, some 11, some 12, none, none, none, some 0, some 1, some 2, some 3, some 4, some 5] 13 rfl (by decide) (by decide) rfl rfl (fun H locs hP hD hS => ?_)
  have hP : va_P D vwCl (ceX th0 th1 th2 th3 th4 th5 th6 th7 th8 th9 ++ (ceW cI cZ th1 wheel1 wheel2 wheel3 wheel4 u_wheel ++ (ceP cI cZ th3 pad1 u_pad ++ (ceS cI cZ th4 sights1 sights2 u_sights ++ (ceT cI cZ th5 telling1 telling2 telling3 telling4 telling5 z1.2))))) H := hP
  have hD : va_D A (ceX th0 th1 th2 th3 th4 th5 th6 th7 th8 th9 ++ (ceW cI cZ th1 wheel1 wheel2 wheel3 wheel4 u_wheel ++ (ceP cI cZ th3 pad1 u_pad ++ (ceS cI cZ th4 sights1 sights2 u_sights ++ (ceT cI cZ th5 telling1 telling2 telling3 telling4 telling5 z1.2))))) := hD
  refine lv_if_eq (tgt := 42) hx hb dX10_holds_18 (by decide) (fun c2 => ?_) (fun c2 => ?_)
  · have hf := (if_pos c2).symm.trans hf
    refine lv_iconst (v := 0) hx hb dX10_holds_42 (by decide) ?_
    exact k_zret (v := (0 : Int32)) (u := z1.2) hx hb hr hlocks hK hS eQ (by decide) hf hP hD dX10_holds_43
  · have hf := (if_neg c2).symm.trans hf
    refine lv_aload_n hx hb dX10_holds_21 rfl (lv_at hl 0 rfl) ?_
    refine va_get (D := D) (ci := 7) (v := .ref th4) (C := RX10) (T := TX10) (N := 9) hx hb hts hi_X10 hown hK hP 0 rfl rfl 3 (by decide) (hts (.fieldLink RX10 29 "FairWheel" "sights" "LFairWheel$Sights;") (List.mem_of_getElem? (i := 4) rfl)) (fun _ h9 => h9) rfl dX10_holds_22 ?_
    refine lv_aload_n hx hb dX10_holds_25 rfl (lv_at hl 0 rfl) ?_
    refine va_get (D := D) (ci := 7) (v := .ref th5) (C := RX10) (T := TX10) (N := 9) hx hb hts hi_X10 hown hK hP 0 rfl rfl 4 (by decide) (hts (.fieldLink RX10 36 "FairWheel" "telling" "LFairWheel$Telling;") (List.mem_of_getElem? (i := 1) rfl)) (fun _ h9 => h9) rfl dX10_holds_26 ?_
    refine k_callr (va_runV (As := []) (rest := [.ref th4]) ⟨hx, hb, hml, hown, hts⟩ (c_X7_wheel l D cI cZ th5 telling1 telling2 telling3 telling4 telling5 H.size z1.2) (cwV 0 hts gX10_holds_X7_wheel rfl rfl rfl ⟨rfl, hd_X7_wheel⟩ ⟨Nat.le_of_ble_eq_true rfl, Nat.le_of_ble_eq_true rfl⟩) (k_preV hK hP hD hS hA hE [11, 12, 13, 14, 15, 16] (by decide) rfl (ci := 4) rfl rfl) rfl rfl hl.1 rfl (lv_room (Nat.le_of_ble_eq_true rfl)) dX10_holds_29 ⟨Nat.zero_le _, Nat.zero_le _⟩) hP hD hS hA [11, 12, 13, 14, 15, 16] [none, none, none, none, none, none, none, none, none, none, none, some 0, some 1, some 2, some 3, some 4, some 5] 6 rfl (by decide) (by decide) rfl rfl (fun H locs hP hD hS => ?_)
    have hP : va_P D vwCl (ceX th0 th1 th2 th3 th4 th5 th6 th7 th8 th9 ++ (ceW cI cZ th1 wheel1 wheel2 wheel3 wheel4 u_wheel ++ (ceP cI cZ th3 pad1 u_pad ++ (ceS cI cZ th4 sights1 sights2 u_sights ++ (ceT cI cZ th5 telling1 telling2 telling3 telling4 telling5 z1.2))))) H := hP
    have hD : va_D A (ceX th0 th1 th2 th3 th4 th5 th6 th7 th8 th9 ++ (ceW cI cZ th1 wheel1 wheel2 wheel3 wheel4 u_wheel ++ (ceP cI cZ th3 pad1 u_pad ++ (ceS cI cZ th4 sights1 sights2 u_sights ++ (ceT cI cZ th5 telling1 telling2 telling3 telling4 telling5 z1.2))))) := hD
    obtain ⟨z4, hz_z4, hf⟩ := o_bind hf
    refine k_calli (va_runV (As := [.ref telling1]) (rest := []) ⟨hx, hb, hml, hown, hts⟩ (c_X6_areTrue l D cI cZ th4 sights1 sights2 telling1 telling2 telling3 telling4 telling5 H.size u_sights (T_wheel z1.2) z4 hz_z4) (cwV 1 hts gX10_holds_X6_areTrue rfl rfl rfl ⟨rfl, hd_X6_areTrue⟩ ⟨Nat.le_of_ble_eq_true rfl, Nat.le_of_ble_eq_true rfl⟩) (k_preV hK hP hD hS hA hE [8, 9, 10, 12, 13, 14, 15, 16] (by decide) rfl (ci := 3) rfl rfl) rfl rfl hl.1 rfl (lv_room (Nat.le_of_ble_eq_true rfl)) dX10_holds_32 ⟨Nat.zero_le _, Nat.zero_le _⟩) hP hD hS hA [8, 9, 10, 12, 13, 14, 15, 16] [none, none, none, none, none, none, none, none, some 0, some 1, some 2, none, some 3, some 4, some 5, some 6, some 7] 8 rfl (by decide) (by decide) rfl rfl (fun H locs hP hD hS => ?_)
    have hP : va_P D vwCl (ceX th0 th1 th2 th3 th4 th5 th6 th7 th8 th9 ++ (ceW cI cZ th1 wheel1 wheel2 wheel3 wheel4 u_wheel ++ (ceP cI cZ th3 pad1 u_pad ++ (ceS cI cZ th4 sights1 sights2 u_sights ++ (ceT cI cZ th5 telling1 telling2 telling3 telling4 telling5 z1.2))))) H := hP
    have hD : va_D A (ceX th0 th1 th2 th3 th4 th5 th6 th7 th8 th9 ++ (ceW cI cZ th1 wheel1 wheel2 wheel3 wheel4 u_wheel ++ (ceP cI cZ th3 pad1 u_pad ++ (ceS cI cZ th4 sights1 sights2 u_sights ++ (ceT cI cZ th5 telling1 telling2 telling3 telling4 telling5 z1.2))))) := hD
    refine lv_if_eq (tgt := 42) hx hb dX10_holds_35 (by decide) (fun c5 => ?_) (fun c5 => ?_)
    · have hf := (if_pos c5).symm.trans hf
      refine lv_iconst (v := 0) hx hb dX10_holds_42 (by decide) ?_
      exact k_zret (v := (0 : Int32)) (u := z1.2) hx hb hr hlocks hK hS eQ (by decide) hf hP hD dX10_holds_43
    · have hf := (if_neg c5).symm.trans hf
      refine lv_iconst (v := 1) hx hb dX10_holds_38 (by decide) ?_
      refine lv_goto (tgt := 43) hx hb dX10_holds_39 (by decide) ?_
      exact k_zret (v := (1 : Int32)) (u := z1.2) hx hb hr hlocks hK hS eQ (by decide) hf hP hD dX10_holds_43
theorem hd_X10_weigh : yX10_weigh.cls ≠ "java/lang/invoke/MethodHandle" ∧ yX10_weigh.cls ≠ "java/lang/invoke/VarHandle" ∧ (parseMethodDescriptor yX10_weigh.desc).map (fun d => d.parameters.length) = some 2 := by decide +kernel
set_option maxHeartbeats 4000000 in
set_option maxRecDepth 100000 in
theorem c_X10_weigh (l : Launch) (D : va_G) (cI cZ : ClassId) (th0 : Nat) (th1 : Nat) (th2 : Nat) (th3 : Nat) (th4 : Nat) (th5 : Nat) (th6 : Nat) (th7 : Nat) (th8 : Nat) (th9 : Nat) (wheel1 : Nat) (wheel2 : Nat) (wheel3 : Nat) (wheel4 : Nat) (sz : Nat) (u_wheel : sW) (p1 : Int32) (p2 : Int32) (z : Int32 × sW) (hf : f_X10_weigh u_wheel p1 p2 = some z) : Met l yX10_weigh wsX10_weigh rmX10_weigh (va_Pc [.ref th0, .int p1, .int p2] (wPr D cI cZ (ceX th0 th1 th2 th3 th4 th5 th6 th7 th8 th9 ++ (ceW cI cZ th1 wheel1 wheel2 wheel3 wheel4 u_wheel)) sz)) (va_Qi (fun (r : Int32) (v : sW) => (r, v) = z) (fun (v : sW) t => wPo D cI cZ (va_A (ceX th0 th1 th2 th3 th4 th5 th6 th7 th8 th9 ++ (ceW cI cZ th1 wheel1 wheel2 wheel3 wheel4 u_wheel)) sz) (ceX th0 th1 th2 th3 th4 th5 th6 th7 th8 th9 ++ (ceW cI cZ th1 wheel1 wheel2 wheel3 wheel4 v)) t) (va_A (ceX th0 th1 th2 th3 th4 th5 th6 th7 th8 th9 ++ (ceW cI cZ th1 wheel1 wheel2 wheel3 wheel4 u_wheel)) sz)) 0 0 (va_A (ceX th0 th1 th2 th3 th4 th5 th6 th7 th8 th9 ++ (ceW cI cZ th1 wheel1 wheel2 wheel3 wheel4 u_wheel)) sz) := by
  refine k_enter (D := D) (cI := cI) (cZ := cZ) (wl := ceX th0 th1 th2 th3 th4 th5 th6 th7 th8 th9 ++ (ceW cI cZ th1 wheel1 wheel2 wheel3 wheel4 u_wheel)) (sz := sz) (av := [.ref th0, .int p1, .int p2]) (cc := cX10_weigh) (maxL := 4) (ret := (some .int)) (Qc := fun A => va_Qi (fun (r : Int32) (v : sW) => (r, v) = z) (fun (v : sW) t => wPo D cI cZ (A) (ceX th0 th1 th2 th3 th4 th5 th6 th7 th8 th9 ++ (ceW cI cZ th1 wheel1 wheel2 wheel3 wheel4 v)) t) (A)) (by decide) rfl (Nat.le_of_ble_eq_true rfl) ?_
  intro p e s m below meth c ls A Q H locs eQ hx hb hr hml hts hown hlocks hK hP hD hS hA hE hl
  have hown : s.vm.findClass RX10 = some m.cls := hown
  have hl : lv_has ls 4 [(0, .ref th0), (1, .int p1), (2, .int p2)] := hl
  have hi_X10 : ∀ w ∈ wsX100, w ∈ wsX10_weigh := fun w h => List.mem_cons_of_mem _ (List.mem_append_left _ (List.mem_append_right _ h))
  rw [f_X10_weigh] at hf
  refine lv_iload_n hx hb dX10_weigh_0 rfl (lv_at hl 1 rfl) ?_
  obtain ⟨z1, hz_z1, hf⟩ := o_bind hf
  refine k_calli (va_runS (As := [.int p1]) (rest := []) ⟨hx, hb, hml, hown, hts⟩ (c_X10_isPerson l D cI cZ  H.size p1 z1 hz_z1) (va_cwS 1 hts gX10_weigh_X10_isPerson rfl rfl rfl hd_X10_isPerson ⟨Nat.le_of_ble_eq_true rfl, Nat.le_of_ble_eq_true rfl⟩) (k_preS hK hP hD hS hA hE [] (by decide) rfl) rfl rfl hl.1 rfl (lv_room (Nat.le_of_ble_eq_true rfl)) dX10_weigh_1 ⟨Nat.zero_le _, Nat.zero_le _⟩) hP hD hS hA [] [none, none, none, none, none, none] 0 rfl (by decide) (by decide) rfl rfl (fun H locs hP hD hS => ?_)
  have hP : va_P D vwCl (ceX th0 th1 th2 th3 th4 th5 th6 th7 th8 th9 ++ (ceW cI cZ th1 wheel1 wheel2 wheel3 wheel4 u_wheel)) H := hP
  have hD : va_D A (ceX th0 th1 th2 th3 th4 th5 th6 th7 th8 th9 ++ (ceW cI cZ th1 wheel1 wheel2 wheel3 wheel4 u_wheel)) := hD
  refine lv_if_ne (tgt := 9) hx hb dX10_weigh_4 (by decide) (fun c2 => ?_) (fun c2 => ?_)
  · have hf := (if_neg c2).symm.trans hf
    refine lv_iload_n hx hb dX10_weigh_9 rfl (lv_at hl 2 rfl) ?_
    refine lv_iconst (v := 1) hx hb dX10_weigh_10 (by decide) ?_
    refine lv_icmp_lt (tgt := 20) hx hb dX10_weigh_11 (by decide) (fun c3 => ?_) (fun c3 => ?_)
    · have hf := (if_pos c3).symm.trans hf
      refine lv_bipush (v := -2) hx hb dX10_weigh_20 (by decide) ?_
      exact k_iret (v := (-2 : Int32)) (u := u_wheel) hx hb hr hlocks hK hS eQ hf hP hD dX10_weigh_22
    · have hf := (if_neg c3).symm.trans hf
      refine lv_iload_n hx hb dX10_weigh_14 rfl (lv_at hl 2 rfl) ?_
      refine lv_bipush (v := 99) hx hb dX10_weigh_15 (by decide) ?_
      refine lv_icmp_le (tgt := 23) hx hb dX10_weigh_17 (by decide) (fun c4 => ?_) (fun c4 => ?_)
      · have hf := (if_pos c4).symm.trans hf
        refine lv_aload_n hx hb dX10_weigh_23 rfl (lv_at hl 0 rfl) ?_
        refine va_get (D := D) (ci := 7) (v := .ref th1) (C := RX10) (T := TX10) (N := 9) hx hb hts hi_X10 hown hK hP 0 rfl rfl 0 (by decide) (hts (.fieldLink RX10 10 "FairWheel" "wheel" "LFairWheel$Wheel;") (List.mem_of_getElem? (i := 1) rfl)) (fun _ h9 => h9) rfl dX10_weigh_24 ?_
        refine lv_iload_n hx hb dX10_weigh_27 rfl (lv_at hl 1 rfl) ?_
        obtain ⟨z5, hz_z5, hf⟩ := o_bind hf
        refine k_calli (va_runV (As := [.int p1]) (rest := []) ⟨hx, hb, hml, hown, hts⟩ (c_X9_weightOf l D cI cZ th1 wheel1 wheel2 wheel3 wheel4 H.size u_wheel p1 z5 hz_z5) (cwV 1 hts gX10_weigh_X9_weightOf rfl rfl rfl ⟨rfl, hd_X9_weightOf⟩ ⟨Nat.le_of_ble_eq_true rfl, Nat.le_of_ble_eq_true rfl⟩) (k_preV hK hP hD hS hA hE [1, 2, 3, 4, 5] (by decide) rfl (ci := 6) rfl rfl) rfl rfl hl.1 rfl (lv_room (Nat.le_of_ble_eq_true rfl)) dX10_weigh_28 ⟨Nat.zero_le _, Nat.zero_le _⟩) hP hD hS hA [1, 2, 3, 4, 5] [none, some 0, some 1, some 2, some 3, some 4] 5 rfl (by decide) (by decide) rfl rfl (fun H locs hP hD hS => ?_)
        have hP : va_P D vwCl (ceX th0 th1 th2 th3 th4 th5 th6 th7 th8 th9 ++ (ceW cI cZ th1 wheel1 wheel2 wheel3 wheel4 u_wheel)) H := hP
        have hD : va_D A (ceX th0 th1 th2 th3 th4 th5 th6 th7 th8 th9 ++ (ceW cI cZ th1 wheel1 wheel2 wheel3 wheel4 u_wheel)) := hD
        refine lv_istore_n (lv' := [(3, .int z5.1), (0, .ref th0), (1, .int p1), (2, .int p2)]) hx hb dX10_weigh_31 rfl hl (by decide) rfl (fun ls hl => ?_)
        refine lv_aload_n hx hb dX10_weigh_32 rfl (lv_at hl 1 rfl) ?_
        refine va_get (D := D) (ci := 7) (v := .ref th1) (C := RX10) (T := TX10) (N := 9) hx hb hts hi_X10 hown hK hP 0 rfl rfl 0 (by decide) (hts (.fieldLink RX10 10 "FairWheel" "wheel" "LFairWheel$Wheel;") (List.mem_of_getElem? (i := 1) rfl)) (fun _ h9 => h9) rfl dX10_weigh_33 ?_
        refine lv_iload_n hx hb dX10_weigh_36 rfl (lv_at hl 2 rfl) ?_
        refine lv_iload_n hx hb dX10_weigh_37 rfl (lv_at hl 3 rfl) ?_
        obtain ⟨z6, hz_z6, hf⟩ := o_bind hf
        refine k_callv (va_runV (As := [.int p1, .int p2]) (rest := []) ⟨hx, hb, hml, hown, hts⟩ (c_X9_setWeight l D cI cZ th1 wheel1 wheel2 wheel3 wheel4 H.size u_wheel p1 p2 z6 hz_z6) (cwV 2 hts gX10_weigh_X9_setWeight rfl rfl rfl ⟨rfl, hd_X9_setWeight⟩ ⟨Nat.le_of_ble_eq_true rfl, Nat.le_of_ble_eq_true rfl⟩) (k_preV hK hP hD hS hA hE [1, 2, 3, 4, 5] (by decide) rfl (ci := 6) rfl rfl) rfl rfl hl.1 rfl (lv_room (Nat.le_of_ble_eq_true rfl)) dX10_weigh_38 ⟨Nat.zero_le _, Nat.zero_le _⟩) hP hD hS hA [1, 2, 3, 4, 5] [none, some 0, some 1, some 2, some 3, some 4] 5 rfl (by decide) (by decide) rfl rfl (fun H locs hP hD hS => ?_)
        have hP : va_P D vwCl (ceX th0 th1 th2 th3 th4 th5 th6 th7 th8 th9 ++ (ceW cI cZ th1 wheel1 wheel2 wheel3 wheel4 z6)) H := hP
        have hD : va_D A (ceX th0 th1 th2 th3 th4 th5 th6 th7 th8 th9 ++ (ceW cI cZ th1 wheel1 wheel2 wheel3 wheel4 z6)) := hD
        refine lv_iload_n hx hb dX10_weigh_41 rfl (lv_at hl 0 rfl) ?_
        exact k_iret (v := z5.1) (u := z6) hx hb hr hlocks hK hS eQ hf hP hD dX10_weigh_42
      · have hf := (if_neg c4).symm.trans hf
        refine lv_bipush (v := -2) hx hb dX10_weigh_20 (by decide) ?_
        exact k_iret (v := (-2 : Int32)) (u := u_wheel) hx hb hr hlocks hK hS eQ hf hP hD dX10_weigh_22
  · have hf := (if_pos c2).symm.trans hf
    refine lv_iconst (v := -1) hx hb dX10_weigh_7 (by decide) ?_
    exact k_iret (v := (-1 : Int32)) (u := u_wheel) hx hb hr hlocks hK hS eQ hf hP hD dX10_weigh_8
theorem hd_X10_drag : yX10_drag.cls ≠ "java/lang/invoke/MethodHandle" ∧ yX10_drag.cls ≠ "java/lang/invoke/VarHandle" ∧ (parseMethodDescriptor yX10_drag.desc).map (fun d => d.parameters.length) = some 1 := by decide +kernel
set_option maxHeartbeats 4000000 in
set_option maxRecDepth 100000 in
theorem c_X10_drag (l : Launch) (D : va_G) (cI cZ : ClassId) (th0 : Nat) (th1 : Nat) (th2 : Nat) (th3 : Nat) (th4 : Nat) (th5 : Nat) (th6 : Nat) (th7 : Nat) (th8 : Nat) (th9 : Nat) (wheel1 : Nat) (wheel2 : Nat) (wheel3 : Nat) (wheel4 : Nat) (sz : Nat) (u_wheel : sW) (p1 : Int32) (z : Int32 × sW) (hf : f_X10_drag u_wheel p1 = some z) : Met l yX10_drag wsX10_drag rmX10_drag (va_Pc [.ref th0, .int p1] (wPr D cI cZ (ceX th0 th1 th2 th3 th4 th5 th6 th7 th8 th9 ++ (ceW cI cZ th1 wheel1 wheel2 wheel3 wheel4 u_wheel)) sz)) (va_Qi (fun (r : Int32) (v : sW) => (r, v) = z) (fun (v : sW) t => wPo D cI cZ (va_A (ceX th0 th1 th2 th3 th4 th5 th6 th7 th8 th9 ++ (ceW cI cZ th1 wheel1 wheel2 wheel3 wheel4 u_wheel)) sz) (ceX th0 th1 th2 th3 th4 th5 th6 th7 th8 th9 ++ (ceW cI cZ th1 wheel1 wheel2 wheel3 wheel4 v)) t) (va_A (ceX th0 th1 th2 th3 th4 th5 th6 th7 th8 th9 ++ (ceW cI cZ th1 wheel1 wheel2 wheel3 wheel4 u_wheel)) sz)) 0 0 (va_A (ceX th0 th1 th2 th3 th4 th5 th6 th7 th8 th9 ++ (ceW cI cZ th1 wheel1 wheel2 wheel3 wheel4 u_wheel)) sz) := by
  refine k_enter (D := D) (cI := cI) (cZ := cZ) (wl := ceX th0 th1 th2 th3 th4 th5 th6 th7 th8 th9 ++ (ceW cI cZ th1 wheel1 wheel2 wheel3 wheel4 u_wheel)) (sz := sz) (av := [.ref th0, .int p1]) (cc := cX10_drag) (maxL := 3) (ret := (some .int)) (Qc := fun A => va_Qi (fun (r : Int32) (v : sW) => (r, v) = z) (fun (v : sW) t => wPo D cI cZ (A) (ceX th0 th1 th2 th3 th4 th5 th6 th7 th8 th9 ++ (ceW cI cZ th1 wheel1 wheel2 wheel3 wheel4 v)) t) (A)) (by decide) rfl (Nat.le_of_ble_eq_true rfl) ?_
  intro p e s m below meth c ls A Q H locs eQ hx hb hr hml hts hown hlocks hK hP hD hS hA hE hl
  have hown : s.vm.findClass RX10 = some m.cls := hown
  have hl : lv_has ls 3 [(0, .ref th0), (1, .int p1)] := hl
  have hi_X10 : ∀ w ∈ wsX100, w ∈ wsX10_drag := fun w h => List.mem_cons_of_mem _ (List.mem_append_left _ (List.mem_append_right _ h))
  rw [f_X10_drag] at hf
  refine lv_iload_n hx hb dX10_drag_0 rfl (lv_at hl 1 rfl) ?_
  refine lv_if_lt (tgt := 11) hx hb dX10_drag_1 (by decide) (fun c1 => ?_) (fun c1 => ?_)
  · have hf := (if_pos c1).symm.trans hf
    refine lv_bipush (v := -2) hx hb dX10_drag_11 (by decide) ?_
    exact k_iret (v := (-2 : Int32)) (u := u_wheel) hx hb hr hlocks hK hS eQ hf hP hD dX10_drag_13
  · have hf := (if_neg c1).symm.trans hf
    refine lv_iload_n hx hb dX10_drag_4 rfl (lv_at hl 1 rfl) ?_
    refine lv_sipush (v := 9999) hx hb dX10_drag_5 (by decide) ?_
    refine lv_icmp_le (tgt := 14) hx hb dX10_drag_8 (by decide) (fun c2 => ?_) (fun c2 => ?_)
    · have hf := (if_pos c2).symm.trans hf
      refine lv_aload_n hx hb dX10_drag_14 rfl (lv_at hl 0 rfl) ?_
      refine va_get (D := D) (ci := 7) (v := .ref th1) (C := RX10) (T := TX10) (N := 9) hx hb hts hi_X10 hown hK hP 0 rfl rfl 0 (by decide) (hts (.fieldLink RX10 10 "FairWheel" "wheel" "LFairWheel$Wheel;") (List.mem_of_getElem? (i := 1) rfl)) (fun _ h9 => h9) rfl dX10_drag_15 ?_
      obtain ⟨z3, hz_z3, hf⟩ := o_bind hf
      refine k_calli (va_runV (As := []) (rest := []) ⟨hx, hb, hml, hown, hts⟩ (c_X9_friction l D cI cZ th1 wheel1 wheel2 wheel3 wheel4 H.size u_wheel z3 hz_z3) (cwV 0 hts gX10_drag_X9_friction rfl rfl rfl ⟨rfl, hd_X9_friction⟩ ⟨Nat.le_of_ble_eq_true rfl, Nat.le_of_ble_eq_true rfl⟩) (k_preV hK hP hD hS hA hE [1, 2, 3, 4, 5] (by decide) rfl (ci := 6) rfl rfl) rfl rfl hl.1 rfl (lv_room (Nat.le_of_ble_eq_true rfl)) dX10_drag_18 ⟨Nat.zero_le _, Nat.zero_le _⟩) hP hD hS hA [1, 2, 3, 4, 5] [none, some 0, some 1, some 2, some 3, some 4] 5 rfl (by decide) (by decide) rfl rfl (fun H locs hP hD hS => ?_)
      have hP : va_P D vwCl (ceX th0 th1 th2 th3 th4 th5 th6 th7 th8 th9 ++ (ceW cI cZ th1 wheel1 wheel2 wheel3 wheel4 u_wheel)) H := hP
      have hD : va_D A (ceX th0 th1 th2 th3 th4 th5 th6 th7 th8 th9 ++ (ceW cI cZ th1 wheel1 wheel2 wheel3 wheel4 u_wheel)) := hD
      refine lv_istore_n (lv' := [(2, .int z3.1), (0, .ref th0), (1, .int p1)]) hx hb dX10_drag_21 rfl hl (by decide) rfl (fun ls hl => ?_)
      refine lv_aload_n hx hb dX10_drag_22 rfl (lv_at hl 1 rfl) ?_
      refine va_get (D := D) (ci := 7) (v := .ref th1) (C := RX10) (T := TX10) (N := 9) hx hb hts hi_X10 hown hK hP 0 rfl rfl 0 (by decide) (hts (.fieldLink RX10 10 "FairWheel" "wheel" "LFairWheel$Wheel;") (List.mem_of_getElem? (i := 1) rfl)) (fun _ h9 => h9) rfl dX10_drag_23 ?_
      refine lv_iload_n hx hb dX10_drag_26 rfl (lv_at hl 2 rfl) ?_
      obtain ⟨z4, hz_z4, hf⟩ := o_bind hf
      refine k_callv (va_runV (As := [.int p1]) (rest := []) ⟨hx, hb, hml, hown, hts⟩ (c_X9_setFriction l D cI cZ th1 wheel1 wheel2 wheel3 wheel4 H.size u_wheel p1 z4 hz_z4) (cwV 1 hts gX10_drag_X9_setFriction rfl rfl rfl ⟨rfl, hd_X9_setFriction⟩ ⟨Nat.le_of_ble_eq_true rfl, Nat.le_of_ble_eq_true rfl⟩) (k_preV hK hP hD hS hA hE [1, 2, 3, 4, 5] (by decide) rfl (ci := 6) rfl rfl) rfl rfl hl.1 rfl (lv_room (Nat.le_of_ble_eq_true rfl)) dX10_drag_27 ⟨Nat.zero_le _, Nat.zero_le _⟩) hP hD hS hA [1, 2, 3, 4, 5] [none, some 0, some 1, some 2, some 3, some 4] 5 rfl (by decide) (by decide) rfl rfl (fun H locs hP hD hS => ?_)
      have hP : va_P D vwCl (ceX th0 th1 th2 th3 th4 th5 th6 th7 th8 th9 ++ (ceW cI cZ th1 wheel1 wheel2 wheel3 wheel4 z4)) H := hP
      have hD : va_D A (ceX th0 th1 th2 th3 th4 th5 th6 th7 th8 th9 ++ (ceW cI cZ th1 wheel1 wheel2 wheel3 wheel4 z4)) := hD
      refine lv_iload_n hx hb dX10_drag_30 rfl (lv_at hl 0 rfl) ?_
      exact k_iret (v := z3.1) (u := z4) hx hb hr hlocks hK hS eQ hf hP hD dX10_drag_31
    · have hf := (if_neg c2).symm.trans hf
      refine lv_bipush (v := -2) hx hb dX10_drag_11 (by decide) ?_
      exact k_iret (v := (-2 : Int32)) (u := u_wheel) hx hb hr hlocks hK hS eQ hf hP hD dX10_drag_13
theorem hd_X10_say : yX10_say.cls ≠ "java/lang/invoke/MethodHandle" ∧ yX10_say.cls ≠ "java/lang/invoke/VarHandle" ∧ (parseMethodDescriptor yX10_say.desc).map (fun d => d.parameters.length) = some 1 := by decide +kernel
set_option maxHeartbeats 4000000 in
set_option maxRecDepth 100000 in
theorem c_X10_say (l : Launch) (D : va_G) (cI cZ : ClassId) (th0 : Nat) (th1 : Nat) (th2 : Nat) (th3 : Nat) (th4 : Nat) (th5 : Nat) (th6 : Nat) (th7 : Nat) (th8 : Nat) (th9 : Nat) (pad1 : Nat) (sz : Nat) (u_pad : sP) (p1 : Int32) (z : Int32 × sP) (hf : f_X10_say u_pad p1 = some z) : Met l yX10_say wsX10_say rmX10_say (va_Pc [.ref th0, .int p1] (wPr D cI cZ (ceX th0 th1 th2 th3 th4 th5 th6 th7 th8 th9 ++ (ceP cI cZ th3 pad1 u_pad)) sz)) (va_Qi (fun (r : Int32) (v : sP) => (r, v) = z) (fun (v : sP) t => wPo D cI cZ (va_A (ceX th0 th1 th2 th3 th4 th5 th6 th7 th8 th9 ++ (ceP cI cZ th3 pad1 u_pad)) sz) (ceX th0 th1 th2 th3 th4 th5 th6 th7 th8 th9 ++ (ceP cI cZ th3 pad1 v)) t) (va_A (ceX th0 th1 th2 th3 th4 th5 th6 th7 th8 th9 ++ (ceP cI cZ th3 pad1 u_pad)) sz)) 0 0 (va_A (ceX th0 th1 th2 th3 th4 th5 th6 th7 th8 th9 ++ (ceP cI cZ th3 pad1 u_pad)) sz) := by
  refine k_enter (D := D) (cI := cI) (cZ := cZ) (wl := ceX th0 th1 th2 th3 th4 th5 th6 th7 th8 th9 ++ (ceP cI cZ th3 pad1 u_pad)) (sz := sz) (av := [.ref th0, .int p1]) (cc := cX10_say) (maxL := 2) (ret := (some .int)) (Qc := fun A => va_Qi (fun (r : Int32) (v : sP) => (r, v) = z) (fun (v : sP) t => wPo D cI cZ (A) (ceX th0 th1 th2 th3 th4 th5 th6 th7 th8 th9 ++ (ceP cI cZ th3 pad1 v)) t) (A)) (by decide) rfl (Nat.le_of_ble_eq_true rfl) ?_
  intro p e s m below meth c ls A Q H locs eQ hx hb hr hml hts hown hlocks hK hP hD hS hA hE hl
  have hown : s.vm.findClass RX10 = some m.cls := hown
  have hl : lv_has ls 2 [(0, .ref th0), (1, .int p1)] := hl
  have hi_X10 : ∀ w ∈ wsX100, w ∈ wsX10_say := fun w h => List.mem_cons_of_mem _ (List.mem_append_left _ (List.mem_append_right _ h))
  rw [f_X10_say] at hf
  refine lv_iload_n hx hb dX10_say_0 rfl (lv_at hl 1 rfl) ?_
  refine lv_bipush (v := 33) hx hb dX10_say_1 (by decide) ?_
  refine lv_icmp_lt (tgt := 12) hx hb dX10_say_3 (by decide) (fun c1 => ?_) (fun c1 => ?_)
  · have hf := (if_pos c1).symm.trans hf
    refine lv_bipush (v := -2) hx hb dX10_say_12 (by decide) ?_
    exact k_iret (v := (-2 : Int32)) (u := u_pad) hx hb hr hlocks hK hS eQ hf hP hD dX10_say_14
  · have hf := (if_neg c1).symm.trans hf
    refine lv_iload_n hx hb dX10_say_6 rfl (lv_at hl 1 rfl) ?_
    refine lv_bipush (v := 126) hx hb dX10_say_7 (by decide) ?_
    refine lv_icmp_le (tgt := 15) hx hb dX10_say_9 (by decide) (fun c2 => ?_) (fun c2 => ?_)
    · have hf := (if_pos c2).symm.trans hf
      refine lv_aload_n hx hb dX10_say_15 rfl (lv_at hl 0 rfl) ?_
      refine va_get (D := D) (ci := 7) (v := .ref th3) (C := RX10) (T := TX10) (N := 9) hx hb hts hi_X10 hown hK hP 0 rfl rfl 2 (by decide) (hts (.fieldLink RX10 22 "FairWheel" "pad" "LFairWheel$Pad;") (List.mem_of_getElem? (i := 1) rfl)) (fun _ h9 => h9) rfl dX10_say_16 ?_
      obtain ⟨z3, hz_z3, hf⟩ := o_bind hf
      refine k_calli (va_runV (As := []) (rest := []) ⟨hx, hb, hml, hown, hts⟩ (c_X4_length l D cI cZ th3 pad1 H.size u_pad z3 hz_z3) (cwV 0 hts gX10_say_X4_length rfl rfl rfl ⟨rfl, hd_X4_length⟩ ⟨Nat.le_of_ble_eq_true rfl, Nat.le_of_ble_eq_true rfl⟩) (k_preV hK hP hD hS hA hE [1, 2] (by decide) rfl (ci := 1) rfl rfl) rfl rfl hl.1 rfl (lv_room (Nat.le_of_ble_eq_true rfl)) dX10_say_19 ⟨Nat.zero_le _, Nat.zero_le _⟩) hP hD hS hA [1, 2] [none, some 0, some 1] 2 rfl (by decide) (by decide) rfl rfl (fun H locs hP hD hS => ?_)
      have hP : va_P D vwCl (ceX th0 th1 th2 th3 th4 th5 th6 th7 th8 th9 ++ (ceP cI cZ th3 pad1 u_pad)) H := hP
      have hD : va_D A (ceX th0 th1 th2 th3 th4 th5 th6 th7 th8 th9 ++ (ceP cI cZ th3 pad1 u_pad)) := hD
      refine lv_bipush (v := 60) hx hb dX10_say_22 (by decide) ?_
      refine lv_icmp_lt (tgt := 30) hx hb dX10_say_24 (by decide) (fun c4 => ?_) (fun c4 => ?_)
      · have hf := (if_pos c4).symm.trans hf
        refine lv_aload_n hx hb dX10_say_30 rfl (lv_at hl 0 rfl) ?_
        refine va_get (D := D) (ci := 7) (v := .ref th3) (C := RX10) (T := TX10) (N := 9) hx hb hts hi_X10 hown hK hP 0 rfl rfl 2 (by decide) (hts (.fieldLink RX10 22 "FairWheel" "pad" "LFairWheel$Pad;") (List.mem_of_getElem? (i := 1) rfl)) (fun _ h9 => h9) rfl dX10_say_31 ?_
        refine lv_iload_n hx hb dX10_say_34 rfl (lv_at hl 1 rfl) ?_
        obtain ⟨z5, hz_z5, hf⟩ := o_bind hf
        refine k_callv (va_runV (As := [.int p1]) (rest := []) ⟨hx, hb, hml, hown, hts⟩ (c_X4_write l D cI cZ th3 pad1 H.size u_pad p1 z5 hz_z5) (cwV 1 hts gX10_say_X4_write rfl rfl rfl ⟨rfl, hd_X4_write⟩ ⟨Nat.le_of_ble_eq_true rfl, Nat.le_of_ble_eq_true rfl⟩) (k_preV hK hP hD hS hA hE [1, 2] (by decide) rfl (ci := 1) rfl rfl) rfl rfl hl.1 rfl (lv_room (Nat.le_of_ble_eq_true rfl)) dX10_say_35 ⟨Nat.zero_le _, Nat.zero_le _⟩) hP hD hS hA [1, 2] [none, some 0, some 1] 2 rfl (by decide) (by decide) rfl rfl (fun H locs hP hD hS => ?_)
        have hP : va_P D vwCl (ceX th0 th1 th2 th3 th4 th5 th6 th7 th8 th9 ++ (ceP cI cZ th3 pad1 z5)) H := hP
        have hD : va_D A (ceX th0 th1 th2 th3 th4 th5 th6 th7 th8 th9 ++ (ceP cI cZ th3 pad1 z5)) := hD
        refine lv_aload_n hx hb dX10_say_38 rfl (lv_at hl 0 rfl) ?_
        refine va_get (D := D) (ci := 7) (v := .ref th3) (C := RX10) (T := TX10) (N := 9) hx hb hts hi_X10 hown hK hP 0 rfl rfl 2 (by decide) (hts (.fieldLink RX10 22 "FairWheel" "pad" "LFairWheel$Pad;") (List.mem_of_getElem? (i := 1) rfl)) (fun _ h9 => h9) rfl dX10_say_39 ?_
        obtain ⟨z6, hz_z6, hf⟩ := o_bind hf
        refine k_calli (va_runV (As := []) (rest := []) ⟨hx, hb, hml, hown, hts⟩ (c_X4_length l D cI cZ th3 pad1 H.size z5 z6 hz_z6) (cwV 0 hts gX10_say_X4_length rfl rfl rfl ⟨rfl, hd_X4_length⟩ ⟨Nat.le_of_ble_eq_true rfl, Nat.le_of_ble_eq_true rfl⟩) (k_preV hK hP hD hS hA hE [1, 2] (by decide) rfl (ci := 1) rfl rfl) rfl rfl hl.1 rfl (lv_room (Nat.le_of_ble_eq_true rfl)) dX10_say_42 ⟨Nat.zero_le _, Nat.zero_le _⟩) hP hD hS hA [1, 2] [none, some 0, some 1] 2 rfl (by decide) (by decide) rfl rfl (fun H locs hP hD hS => ?_)
        have hP : va_P D vwCl (ceX th0 th1 th2 th3 th4 th5 th6 th7 th8 th9 ++ (ceP cI cZ th3 pad1 z5)) H := hP
        have hD : va_D A (ceX th0 th1 th2 th3 th4 th5 th6 th7 th8 th9 ++ (ceP cI cZ th3 pad1 z5)) := hD
        exact k_iret (v := z6.1) (u := z5) hx hb hr hlocks hK hS eQ hf hP hD dX10_say_45
      · have hf := (if_neg c4).symm.trans hf
        refine lv_bipush (v := -4) hx hb dX10_say_27 (by decide) ?_
        exact k_iret (v := (-4 : Int32)) (u := u_pad) hx hb hr hlocks hK hS eQ hf hP hD dX10_say_29
    · have hf := (if_neg c2).symm.trans hf
      refine lv_bipush (v := -2) hx hb dX10_say_12 (by decide) ?_
      exact k_iret (v := (-2 : Int32)) (u := u_pad) hx hb hr hlocks hK hS eQ hf hP hD dX10_say_14
theorem hd_X10_wipe : yX10_wipe.cls ≠ "java/lang/invoke/MethodHandle" ∧ yX10_wipe.cls ≠ "java/lang/invoke/VarHandle" ∧ (parseMethodDescriptor yX10_wipe.desc).map (fun d => d.parameters.length) = some 0 := by decide +kernel
set_option maxHeartbeats 4000000 in
set_option maxRecDepth 100000 in
theorem c_X10_wipe (l : Launch) (D : va_G) (cI cZ : ClassId) (th0 : Nat) (th1 : Nat) (th2 : Nat) (th3 : Nat) (th4 : Nat) (th5 : Nat) (th6 : Nat) (th7 : Nat) (th8 : Nat) (th9 : Nat) (pad1 : Nat) (sz : Nat) (u_pad : sP) (z : Int32 × sP) (hf : f_X10_wipe u_pad = some z) : Met l yX10_wipe wsX10_wipe rmX10_wipe (va_Pc [.ref th0] (wPr D cI cZ (ceX th0 th1 th2 th3 th4 th5 th6 th7 th8 th9 ++ (ceP cI cZ th3 pad1 u_pad)) sz)) (va_Qi (fun (r : Int32) (v : sP) => (r, v) = z) (fun (v : sP) t => wPo D cI cZ (va_A (ceX th0 th1 th2 th3 th4 th5 th6 th7 th8 th9 ++ (ceP cI cZ th3 pad1 u_pad)) sz) (ceX th0 th1 th2 th3 th4 th5 th6 th7 th8 th9 ++ (ceP cI cZ th3 pad1 v)) t) (va_A (ceX th0 th1 th2 th3 th4 th5 th6 th7 th8 th9 ++ (ceP cI cZ th3 pad1 u_pad)) sz)) 0 0 (va_A (ceX th0 th1 th2 th3 th4 th5 th6 th7 th8 th9 ++ (ceP cI cZ th3 pad1 u_pad)) sz) := by
  refine k_enter (D := D) (cI := cI) (cZ := cZ) (wl := ceX th0 th1 th2 th3 th4 th5 th6 th7 th8 th9 ++ (ceP cI cZ th3 pad1 u_pad)) (sz := sz) (av := [.ref th0]) (cc := cX10_wipe) (maxL := 2) (ret := (some .int)) (Qc := fun A => va_Qi (fun (r : Int32) (v : sP) => (r, v) = z) (fun (v : sP) t => wPo D cI cZ (A) (ceX th0 th1 th2 th3 th4 th5 th6 th7 th8 th9 ++ (ceP cI cZ th3 pad1 v)) t) (A)) (by decide) rfl (Nat.le_of_ble_eq_true rfl) ?_
  intro p e s m below meth c ls A Q H locs eQ hx hb hr hml hts hown hlocks hK hP hD hS hA hE hl
  have hown : s.vm.findClass RX10 = some m.cls := hown
  have hl : lv_has ls 2 [(0, .ref th0)] := hl
  have hi_X10 : ∀ w ∈ wsX100, w ∈ wsX10_wipe := fun w h => List.mem_cons_of_mem _ (List.mem_append_left _ (List.mem_append_right _ h))
  rw [f_X10_wipe] at hf
  refine lv_aload_n hx hb dX10_wipe_0 rfl (lv_at hl 0 rfl) ?_
  refine va_get (D := D) (ci := 7) (v := .ref th3) (C := RX10) (T := TX10) (N := 9) hx hb hts hi_X10 hown hK hP 0 rfl rfl 2 (by decide) (hts (.fieldLink RX10 22 "FairWheel" "pad" "LFairWheel$Pad;") (List.mem_of_getElem? (i := 1) rfl)) (fun _ h9 => h9) rfl dX10_wipe_1 ?_
  obtain ⟨z1, hz_z1, hf⟩ := o_bind hf
  refine k_calli (va_runV (As := []) (rest := []) ⟨hx, hb, hml, hown, hts⟩ (c_X4_length l D cI cZ th3 pad1 H.size u_pad z1 hz_z1) (cwV 0 hts gX10_wipe_X4_length rfl rfl rfl ⟨rfl, hd_X4_length⟩ ⟨Nat.le_of_ble_eq_true rfl, Nat.le_of_ble_eq_true rfl⟩) (k_preV hK hP hD hS hA hE [1, 2] (by decide) rfl (ci := 1) rfl rfl) rfl rfl hl.1 rfl (lv_room (Nat.le_of_ble_eq_true rfl)) dX10_wipe_4 ⟨Nat.zero_le _, Nat.zero_le _⟩) hP hD hS hA [1, 2] [none, some 0, some 1] 2 rfl (by decide) (by decide) rfl rfl (fun H locs hP hD hS => ?_)
  have hP : va_P D vwCl (ceX th0 th1 th2 th3 th4 th5 th6 th7 th8 th9 ++ (ceP cI cZ th3 pad1 u_pad)) H := hP
  have hD : va_D A (ceX th0 th1 th2 th3 th4 th5 th6 th7 th8 th9 ++ (ceP cI cZ th3 pad1 u_pad)) := hD
  refine lv_istore_n (lv' := [(1, .int z1.1), (0, .ref th0)]) hx hb dX10_wipe_7 rfl hl (by decide) rfl (fun ls hl => ?_)
  refine lv_aload_n hx hb dX10_wipe_8 rfl (lv_at hl 1 rfl) ?_
  refine va_get (D := D) (ci := 7) (v := .ref th3) (C := RX10) (T := TX10) (N := 9) hx hb hts hi_X10 hown hK hP 0 rfl rfl 2 (by decide) (hts (.fieldLink RX10 22 "FairWheel" "pad" "LFairWheel$Pad;") (List.mem_of_getElem? (i := 1) rfl)) (fun _ h9 => h9) rfl dX10_wipe_9 ?_
  obtain ⟨z2, hz_z2, hf⟩ := o_bind hf
  refine k_callv (va_runV (As := []) (rest := []) ⟨hx, hb, hml, hown, hts⟩ (c_X4_clear l D cI cZ th3 pad1 H.size u_pad z2 hz_z2) (cwV 0 hts gX10_wipe_X4_clear rfl rfl rfl ⟨rfl, hd_X4_clear⟩ ⟨Nat.le_of_ble_eq_true rfl, Nat.le_of_ble_eq_true rfl⟩) (k_preV hK hP hD hS hA hE [1, 2] (by decide) rfl (ci := 1) rfl rfl) rfl rfl hl.1 rfl (lv_room (Nat.le_of_ble_eq_true rfl)) dX10_wipe_12 ⟨Nat.zero_le _, Nat.zero_le _⟩) hP hD hS hA [1, 2] [none, some 0, some 1] 2 rfl (by decide) (by decide) rfl rfl (fun H locs hP hD hS => ?_)
  have hP : va_P D vwCl (ceX th0 th1 th2 th3 th4 th5 th6 th7 th8 th9 ++ (ceP cI cZ th3 pad1 z2)) H := hP
  have hD : va_D A (ceX th0 th1 th2 th3 th4 th5 th6 th7 th8 th9 ++ (ceP cI cZ th3 pad1 z2)) := hD
  refine lv_iload_n hx hb dX10_wipe_15 rfl (lv_at hl 0 rfl) ?_
  exact k_iret (v := z1.1) (u := z2) hx hb hr hlocks hK hS eQ hf hP hD dX10_wipe_16
theorem hd_X10_fault : yX10_fault.cls ≠ "java/lang/invoke/MethodHandle" ∧ yX10_fault.cls ≠ "java/lang/invoke/VarHandle" ∧ (parseMethodDescriptor yX10_fault.desc).map (fun d => d.parameters.length) = some 0 := by decide +kernel
set_option maxHeartbeats 4000000 in
set_option maxRecDepth 100000 in
theorem c_X10_fault (l : Launch) (D : va_G) (cI cZ : ClassId) (th0 : Nat) (th1 : Nat) (th2 : Nat) (th3 : Nat) (th4 : Nat) (th5 : Nat) (th6 : Nat) (th7 : Nat) (th8 : Nat) (th9 : Nat) (pad1 : Nat) (sz : Nat) (u_pad : sP) (z : Int32 × Unit) (hf : f_X10_fault u_pad = some z) : Met l yX10_fault wsX10_fault rmX10_fault (va_Pc [.ref th0] (wPr D cI cZ (ceX th0 th1 th2 th3 th4 th5 th6 th7 th8 th9 ++ (ceP cI cZ th3 pad1 u_pad)) sz)) (va_Qi (fun (r : Int32) (v : Unit) => (r, v) = z) (fun (v : Unit) t => wPo D cI cZ (va_A (ceX th0 th1 th2 th3 th4 th5 th6 th7 th8 th9 ++ (ceP cI cZ th3 pad1 u_pad)) sz) (ceX th0 th1 th2 th3 th4 th5 th6 th7 th8 th9 ++ (ceP cI cZ th3 pad1 u_pad)) t) (va_A (ceX th0 th1 th2 th3 th4 th5 th6 th7 th8 th9 ++ (ceP cI cZ th3 pad1 u_pad)) sz)) 0 0 (va_A (ceX th0 th1 th2 th3 th4 th5 th6 th7 th8 th9 ++ (ceP cI cZ th3 pad1 u_pad)) sz) := by
  refine k_enter (D := D) (cI := cI) (cZ := cZ) (wl := ceX th0 th1 th2 th3 th4 th5 th6 th7 th8 th9 ++ (ceP cI cZ th3 pad1 u_pad)) (sz := sz) (av := [.ref th0]) (cc := cX10_fault) (maxL := 1) (ret := (some .int)) (Qc := fun A => va_Qi (fun (r : Int32) (v : Unit) => (r, v) = z) (fun (v : Unit) t => wPo D cI cZ (A) (ceX th0 th1 th2 th3 th4 th5 th6 th7 th8 th9 ++ (ceP cI cZ th3 pad1 u_pad)) t) (A)) (by decide) rfl (Nat.le_of_ble_eq_true rfl) ?_
  intro p e s m below meth c ls A Q H locs eQ hx hb hr hml hts hown hlocks hK hP hD hS hA hE hl
  have hown : s.vm.findClass RX10 = some m.cls := hown
  have hl : lv_has ls 1 [(0, .ref th0)] := hl
  have hi_X10 : ∀ w ∈ wsX100, w ∈ wsX10_fault := fun w h => List.mem_cons_of_mem _ (List.mem_append_left _ (List.mem_append_right _ h))
  rw [f_X10_fault] at hf
  refine lv_aload_n hx hb dX10_fault_0 rfl (lv_at hl 0 rfl) ?_
  refine va_get (D := D) (ci := 7) (v := .ref th3) (C := RX10) (T := TX10) (N := 9) hx hb hts hi_X10 hown hK hP 0 rfl rfl 2 (by decide) (hts (.fieldLink RX10 22 "FairWheel" "pad" "LFairWheel$Pad;") (List.mem_of_getElem? (i := 1) rfl)) (fun _ h9 => h9) rfl dX10_fault_1 ?_
  obtain ⟨z1, hz_z1, hf⟩ := o_bind hf
  refine k_calli (va_runV (As := []) (rest := []) ⟨hx, hb, hml, hown, hts⟩ (c_X4_firstFault l D cI cZ th3 pad1 H.size u_pad z1 hz_z1) (cwV 0 hts gX10_fault_X4_firstFault rfl rfl rfl ⟨rfl, hd_X4_firstFault⟩ ⟨Nat.le_of_ble_eq_true rfl, Nat.le_of_ble_eq_true rfl⟩) (k_preV hK hP hD hS hA hE [1, 2] (by decide) rfl (ci := 1) rfl rfl) rfl rfl hl.1 rfl (lv_room (Nat.le_of_ble_eq_true rfl)) dX10_fault_4 ⟨Nat.zero_le _, Nat.zero_le _⟩) hP hD hS hA [1, 2] [none, some 0, some 1] 2 rfl (by decide) (by decide) rfl rfl (fun H locs hP hD hS => ?_)
  have hP : va_P D vwCl (ceX th0 th1 th2 th3 th4 th5 th6 th7 th8 th9 ++ (ceP cI cZ th3 pad1 u_pad)) H := hP
  have hD : va_D A (ceX th0 th1 th2 th3 th4 th5 th6 th7 th8 th9 ++ (ceP cI cZ th3 pad1 u_pad)) := hD
  exact k_iret (v := z1.1) (u := ()) hx hb hr hlocks hK hS eQ hf hP hD dX10_fault_7
theorem hd_X10_judge : yX10_judge.cls ≠ "java/lang/invoke/MethodHandle" ∧ yX10_judge.cls ≠ "java/lang/invoke/VarHandle" ∧ (parseMethodDescriptor yX10_judge.desc).map (fun d => d.parameters.length) = some 1 := by decide +kernel
set_option maxHeartbeats 4000000 in
set_option maxRecDepth 100000 in
theorem c_X10_judge (l : Launch) (D : va_G) (cI cZ : ClassId) (th0 : Nat) (th1 : Nat) (th2 : Nat) (th3 : Nat) (th4 : Nat) (th5 : Nat) (th6 : Nat) (th7 : Nat) (th8 : Nat) (th9 : Nat) (wheel1 : Nat) (wheel2 : Nat) (wheel3 : Nat) (wheel4 : Nat) (pad1 : Nat) (telling1 : Nat) (telling2 : Nat) (telling3 : Nat) (telling4 : Nat) (telling5 : Nat) (sz : Nat) (u_wheel : sW) (u_pad : sP) (u_telling : sT) (p1 : Int32) (z : Int32 × sT) (hf : f_X10_judge u_wheel u_pad u_telling p1 = some z) : Met l yX10_judge wsX10_judge rmX10_judge (va_Pc [.ref th0, .int p1] (wPr D cI cZ (ceX th0 th1 th2 th3 th4 th5 th6 th7 th8 th9 ++ (ceW cI cZ th1 wheel1 wheel2 wheel3 wheel4 u_wheel ++ (ceP cI cZ th3 pad1 u_pad ++ (ceT cI cZ th5 telling1 telling2 telling3 telling4 telling5 u_telling)))) sz)) (va_Qi (fun (r : Int32) (v : sT) => (r, v) = z) (fun (v : sT) t => wPo D cI cZ (va_A (ceX th0 th1 th2 th3 th4 th5 th6 th7 th8 th9 ++ (ceW cI cZ th1 wheel1 wheel2 wheel3 wheel4 u_wheel ++ (ceP cI cZ th3 pad1 u_pad ++ (ceT cI cZ th5 telling1 telling2 telling3 telling4 telling5 u_telling)))) sz) (ceX th0 th1 th2 th3 th4 th5 th6 th7 th8 th9 ++ (ceW cI cZ th1 wheel1 wheel2 wheel3 wheel4 u_wheel ++ (ceP cI cZ th3 pad1 u_pad ++ (ceT cI cZ th5 telling1 telling2 telling3 telling4 telling5 v)))) t) (va_A (ceX th0 th1 th2 th3 th4 th5 th6 th7 th8 th9 ++ (ceW cI cZ th1 wheel1 wheel2 wheel3 wheel4 u_wheel ++ (ceP cI cZ th3 pad1 u_pad ++ (ceT cI cZ th5 telling1 telling2 telling3 telling4 telling5 u_telling)))) sz)) 0 0 (va_A (ceX th0 th1 th2 th3 th4 th5 th6 th7 th8 th9 ++ (ceW cI cZ th1 wheel1 wheel2 wheel3 wheel4 u_wheel ++ (ceP cI cZ th3 pad1 u_pad ++ (ceT cI cZ th5 telling1 telling2 telling3 telling4 telling5 u_telling)))) sz) := by
  refine k_enter (D := D) (cI := cI) (cZ := cZ) (wl := ceX th0 th1 th2 th3 th4 th5 th6 th7 th8 th9 ++ (ceW cI cZ th1 wheel1 wheel2 wheel3 wheel4 u_wheel ++ (ceP cI cZ th3 pad1 u_pad ++ (ceT cI cZ th5 telling1 telling2 telling3 telling4 telling5 u_telling)))) (sz := sz) (av := [.ref th0, .int p1]) (cc := cX10_judge) (maxL := 3) (ret := (some .int)) (Qc := fun A => va_Qi (fun (r : Int32) (v : sT) => (r, v) = z) (fun (v : sT) t => wPo D cI cZ (A) (ceX th0 th1 th2 th3 th4 th5 th6 th7 th8 th9 ++ (ceW cI cZ th1 wheel1 wheel2 wheel3 wheel4 u_wheel ++ (ceP cI cZ th3 pad1 u_pad ++ (ceT cI cZ th5 telling1 telling2 telling3 telling4 telling5 v)))) t) (A)) (by decide) rfl (Nat.le_of_ble_eq_true rfl) ?_
  intro p e s m below meth c ls A Q H locs eQ hx hb hr hml hts hown hlocks hK hP hD hS hA hE hl
  have hown : s.vm.findClass RX10 = some m.cls := hown
  have hl : lv_has ls 3 [(0, .ref th0), (1, .int p1)] := hl
  have hi_X10 : ∀ w ∈ wsX100, w ∈ wsX10_judge := fun w h => List.mem_cons_of_mem _ (List.mem_append_left _ (List.mem_append_left _ (List.mem_append_left _ (List.mem_append_right _ h))))
  rw [f_X10_judge] at hf
  refine lv_iload_n hx hb dX10_judge_0 rfl (lv_at hl 1 rfl) ?_
  refine lv_if_lt (tgt := 9) hx hb dX10_judge_1 (by decide) (fun c1 => ?_) (fun c1 => ?_)
  · have hf := (if_pos c1).symm.trans hf
    refine lv_bipush (v := -2) hx hb dX10_judge_9 (by decide) ?_
    exact k_iret (v := (-2 : Int32)) (u := u_telling) hx hb hr hlocks hK hS eQ hf hP hD dX10_judge_11
  · have hf := (if_neg c1).symm.trans hf
    refine lv_iload_n hx hb dX10_judge_4 rfl (lv_at hl 1 rfl) ?_
    refine lv_iconst (v := 1) hx hb dX10_judge_5 (by decide) ?_
    refine lv_icmp_le (tgt := 12) hx hb dX10_judge_6 (by decide) (fun c2 => ?_) (fun c2 => ?_)
    · have hf := (if_pos c2).symm.trans hf
      refine lv_aload_n hx hb dX10_judge_12 rfl (lv_at hl 0 rfl) ?_
      obtain ⟨z3, hz_z3, hf⟩ := o_bind hf
      refine k_calli (va_runV (As := []) (rest := []) ⟨hx, hb, hml, hown, hts⟩ (c_X10_refuseText l D cI cZ th0 th1 th2 th3 th4 th5 th6 th7 th8 th9 pad1 H.size u_pad z3 hz_z3) (cwV 0 hts gX10_judge_X10_refuseText rfl rfl rfl ⟨rfl, hd_X10_refuseText⟩ ⟨Nat.le_of_ble_eq_true rfl, Nat.le_of_ble_eq_true rfl⟩) (k_preV hK hP hD hS hA hE [0, 6, 7] (by decide) rfl (ci := 7) rfl rfl) rfl rfl hl.1 rfl (lv_room (Nat.le_of_ble_eq_true rfl)) dX10_judge_13 ⟨Nat.zero_le _, Nat.zero_le _⟩) hP hD hS hA [0, 6, 7] [some 0, none, none, none, none, none, some 1, some 2, none, none, none, none, none, none] 3 rfl (by decide) (by decide) rfl rfl (fun H locs hP hD hS => ?_)
      have hP : va_P D vwCl (ceX th0 th1 th2 th3 th4 th5 th6 th7 th8 th9 ++ (ceW cI cZ th1 wheel1 wheel2 wheel3 wheel4 u_wheel ++ (ceP cI cZ th3 pad1 u_pad ++ (ceT cI cZ th5 telling1 telling2 telling3 telling4 telling5 u_telling)))) H := hP
      have hD : va_D A (ceX th0 th1 th2 th3 th4 th5 th6 th7 th8 th9 ++ (ceW cI cZ th1 wheel1 wheel2 wheel3 wheel4 u_wheel ++ (ceP cI cZ th3 pad1 u_pad ++ (ceT cI cZ th5 telling1 telling2 telling3 telling4 telling5 u_telling)))) := hD
      refine lv_istore_n (lv' := [(2, .int z3.1), (0, .ref th0), (1, .int p1)]) hx hb dX10_judge_16 rfl hl (by decide) rfl (fun ls hl => ?_)
      refine lv_iload_n hx hb dX10_judge_17 rfl (lv_at hl 0 rfl) ?_
      refine lv_if_eq (tgt := 23) hx hb dX10_judge_18 (by decide) (fun c4 => ?_) (fun c4 => ?_)
      · have hf := (if_pos c4).symm.trans hf
        refine lv_aload_n hx hb dX10_judge_23 rfl (lv_at hl 1 rfl) ?_
        refine va_get (D := D) (ci := 7) (v := .ref th5) (C := RX10) (T := TX10) (N := 9) hx hb hts hi_X10 hown hK hP 0 rfl rfl 4 (by decide) (hts (.fieldLink RX10 36 "FairWheel" "telling" "LFairWheel$Telling;") (List.mem_of_getElem? (i := 1) rfl)) (fun _ h9 => h9) rfl dX10_judge_24 ?_
        refine lv_aload_n hx hb dX10_judge_27 rfl (lv_at hl 1 rfl) ?_
        refine va_get (D := D) (ci := 7) (v := .ref th1) (C := RX10) (T := TX10) (N := 9) hx hb hts hi_X10 hown hK hP 0 rfl rfl 0 (by decide) (hts (.fieldLink RX10 10 "FairWheel" "wheel" "LFairWheel$Wheel;") (List.mem_of_getElem? (i := 2) rfl)) (fun _ h9 => h9) rfl dX10_judge_28 ?_
        refine lv_aload_n hx hb dX10_judge_31 rfl (lv_at hl 1 rfl) ?_
        refine va_get (D := D) (ci := 7) (v := .ref th3) (C := RX10) (T := TX10) (N := 9) hx hb hts hi_X10 hown hK hP 0 rfl rfl 2 (by decide) (hts (.fieldLink RX10 22 "FairWheel" "pad" "LFairWheel$Pad;") (List.mem_of_getElem? (i := 3) rfl)) (fun _ h9 => h9) rfl dX10_judge_32 ?_
        refine lv_bipush (v := -6) hx hb dX10_judge_35 (by decide) ?_
        refine lv_iconst (v := 0) hx hb dX10_judge_37 (by decide) ?_
        obtain ⟨z5, hz_z5, hf⟩ := o_bind hf
        refine k_calli (va_runV (As := [.ref th1, .ref th3, .int (-6 : Int32), .int (0 : Int32)]) (rest := []) ⟨hx, hb, hml, hown, hts⟩ (c_X7_tell l D cI cZ th5 telling1 telling2 telling3 telling4 telling5 th1 wheel1 wheel2 wheel3 wheel4 th3 pad1 H.size u_telling u_wheel u_pad (-6 : Int32) (0 : Int32) z5 hz_z5) (cwV 4 hts gX10_judge_X7_tell rfl rfl rfl ⟨rfl, hd_X7_tell⟩ ⟨Nat.le_of_ble_eq_true rfl, Nat.le_of_ble_eq_true rfl⟩) (k_preV hK hP hD hS hA hE [8, 9, 10, 11, 12, 13, 1, 2, 3, 4, 5, 6, 7] (by decide) rfl (ci := 4) rfl rfl) rfl rfl hl.1 rfl (lv_room (Nat.le_of_ble_eq_true rfl)) dX10_judge_38 ⟨Nat.zero_le _, Nat.zero_le _⟩) hP hD hS hA [8, 9, 10, 11, 12, 13, 1, 2, 3, 4, 5, 6, 7] [none, some 6, some 7, some 8, some 9, some 10, some 11, some 12, some 0, some 1, some 2, some 3, some 4, some 5] 13 rfl (by decide) (by decide) rfl rfl (fun H locs hP hD hS => ?_)
        have hP : va_P D vwCl (ceX th0 th1 th2 th3 th4 th5 th6 th7 th8 th9 ++ (ceW cI cZ th1 wheel1 wheel2 wheel3 wheel4 u_wheel ++ (ceP cI cZ th3 pad1 u_pad ++ (ceT cI cZ th5 telling1 telling2 telling3 telling4 telling5 z5.2)))) H := hP
        have hD : va_D A (ceX th0 th1 th2 th3 th4 th5 th6 th7 th8 th9 ++ (ceW cI cZ th1 wheel1 wheel2 wheel3 wheel4 u_wheel ++ (ceP cI cZ th3 pad1 u_pad ++ (ceT cI cZ th5 telling1 telling2 telling3 telling4 telling5 z5.2)))) := hD
        refine lv_pop hx hb dX10_judge_41 rfl ?_
        refine lv_iload_n hx hb dX10_judge_42 rfl (lv_at hl 2 rfl) ?_
        refine lv_if_ne (tgt := 56) hx hb dX10_judge_43 (by decide) (fun c6 => ?_) (fun c6 => ?_)
        · have hf := (if_neg c6).symm.trans hf
          refine lv_aload_n hx hb dX10_judge_56 rfl (lv_at hl 1 rfl) ?_
          refine va_get (D := D) (ci := 7) (v := .ref th5) (C := RX10) (T := TX10) (N := 9) hx hb hts hi_X10 hown hK hP 0 rfl rfl 4 (by decide) (hts (.fieldLink RX10 36 "FairWheel" "telling" "LFairWheel$Telling;") (List.mem_of_getElem? (i := 1) rfl)) (fun _ h9 => h9) rfl dX10_judge_57 ?_
          obtain ⟨z7, hz_z7, hf⟩ := o_bind hf
          refine k_calli (va_runV (As := []) (rest := []) ⟨hx, hb, hml, hown, hts⟩ (c_X7_reason l D cI cZ th5 telling1 telling2 telling3 telling4 telling5 H.size z5.2 z7 hz_z7) (cwV 0 hts gX10_judge_X7_reason rfl rfl rfl ⟨rfl, hd_X7_reason⟩ ⟨Nat.le_of_ble_eq_true rfl, Nat.le_of_ble_eq_true rfl⟩) (k_preV hK hP hD hS hA hE [8, 9, 10, 11, 12, 13] (by decide) rfl (ci := 4) rfl rfl) rfl rfl hl.1 rfl (lv_room (Nat.le_of_ble_eq_true rfl)) dX10_judge_60 ⟨Nat.zero_le _, Nat.zero_le _⟩) hP hD hS hA [8, 9, 10, 11, 12, 13] [none, none, none, none, none, none, none, none, some 0, some 1, some 2, some 3, some 4, some 5] 6 rfl (by decide) (by decide) rfl rfl (fun H locs hP hD hS => ?_)
          have hP : va_P D vwCl (ceX th0 th1 th2 th3 th4 th5 th6 th7 th8 th9 ++ (ceW cI cZ th1 wheel1 wheel2 wheel3 wheel4 u_wheel ++ (ceP cI cZ th3 pad1 u_pad ++ (ceT cI cZ th5 telling1 telling2 telling3 telling4 telling5 z5.2)))) H := hP
          have hD : va_D A (ceX th0 th1 th2 th3 th4 th5 th6 th7 th8 th9 ++ (ceW cI cZ th1 wheel1 wheel2 wheel3 wheel4 u_wheel ++ (ceP cI cZ th3 pad1 u_pad ++ (ceT cI cZ th5 telling1 telling2 telling3 telling4 telling5 z5.2)))) := hD
          exact k_iret (v := z7.1) (u := z5.2) hx hb hr hlocks hK hS eQ hf hP hD dX10_judge_63
        · have hf := (if_pos c6).symm.trans hf
          refine lv_aload_n hx hb dX10_judge_46 rfl (lv_at hl 1 rfl) ?_
          refine va_get (D := D) (ci := 7) (v := .ref th5) (C := RX10) (T := TX10) (N := 9) hx hb hts hi_X10 hown hK hP 0 rfl rfl 4 (by decide) (hts (.fieldLink RX10 36 "FairWheel" "telling" "LFairWheel$Telling;") (List.mem_of_getElem? (i := 1) rfl)) (fun _ h9 => h9) rfl dX10_judge_47 ?_
          obtain ⟨z8, hz_z8, hf⟩ := o_bind hf
          refine k_calli (va_runV (As := []) (rest := []) ⟨hx, hb, hml, hown, hts⟩ (c_X7_failedEvent l D cI cZ th5 telling1 telling2 telling3 telling4 telling5 H.size z5.2 z8 hz_z8) (cwV 0 hts gX10_judge_X7_failedEvent rfl rfl rfl ⟨rfl, hd_X7_failedEvent⟩ ⟨Nat.le_of_ble_eq_true rfl, Nat.le_of_ble_eq_true rfl⟩) (k_preV hK hP hD hS hA hE [8, 9, 10, 11, 12, 13] (by decide) rfl (ci := 4) rfl rfl) rfl rfl hl.1 rfl (lv_room (Nat.le_of_ble_eq_true rfl)) dX10_judge_50 ⟨Nat.zero_le _, Nat.zero_le _⟩) hP hD hS hA [8, 9, 10, 11, 12, 13] [none, none, none, none, none, none, none, none, some 0, some 1, some 2, some 3, some 4, some 5] 6 rfl (by decide) (by decide) rfl rfl (fun H locs hP hD hS => ?_)
          have hP : va_P D vwCl (ceX th0 th1 th2 th3 th4 th5 th6 th7 th8 th9 ++ (ceW cI cZ th1 wheel1 wheel2 wheel3 wheel4 u_wheel ++ (ceP cI cZ th3 pad1 u_pad ++ (ceT cI cZ th5 telling1 telling2 telling3 telling4 telling5 z5.2)))) H := hP
          have hD : va_D A (ceX th0 th1 th2 th3 th4 th5 th6 th7 th8 th9 ++ (ceW cI cZ th1 wheel1 wheel2 wheel3 wheel4 u_wheel ++ (ceP cI cZ th3 pad1 u_pad ++ (ceT cI cZ th5 telling1 telling2 telling3 telling4 telling5 z5.2)))) := hD
          refine lv_goto (tgt := 63) hx hb dX10_judge_53 (by decide) ?_
          exact k_iret (v := z8.1) (u := z5.2) hx hb hr hlocks hK hS eQ hf hP hD dX10_judge_63
      · have hf := (if_neg c4).symm.trans hf
        refine lv_iload_n hx hb dX10_judge_21 rfl (lv_at hl 0 rfl) ?_
        exact k_iret (v := z3.1) (u := u_telling) hx hb hr hlocks hK hS eQ hf hP hD dX10_judge_22
    · have hf := (if_neg c2).symm.trans hf
      refine lv_bipush (v := -2) hx hb dX10_judge_9 (by decide) ?_
      exact k_iret (v := (-2 : Int32)) (u := u_telling) hx hb hr hlocks hK hS eQ hf hP hD dX10_judge_11
theorem hd_X10_done : yX10_done.cls ≠ "java/lang/invoke/MethodHandle" ∧ yX10_done.cls ≠ "java/lang/invoke/VarHandle" ∧ (parseMethodDescriptor yX10_done.desc).map (fun d => d.parameters.length) = some 0 := by decide +kernel
set_option maxHeartbeats 4000000 in
set_option maxRecDepth 100000 in
theorem c_X10_done (l : Launch) (D : va_G) (cI cZ : ClassId) (th0 : Nat) (th1 : Nat) (th2 : Nat) (th3 : Nat) (th4 : Nat) (th5 : Nat) (th6 : Nat) (th7 : Nat) (th8 : Nat) (th9 : Nat) (wheel1 : Nat) (wheel2 : Nat) (wheel3 : Nat) (wheel4 : Nat) (pad1 : Nat) (telling1 : Nat) (telling2 : Nat) (telling3 : Nat) (telling4 : Nat) (telling5 : Nat) (sz : Nat) (u_wheel : sW) (u_pad : sP) (u_telling : sT) (z : Int32 × sW × sP × sT) (hf : f_X10_done u_wheel u_pad u_telling = some z) : Met l yX10_done wsX10_done rmX10_done (va_Pc [.ref th0] (wPr D cI cZ (ceX th0 th1 th2 th3 th4 th5 th6 th7 th8 th9 ++ (ceW cI cZ th1 wheel1 wheel2 wheel3 wheel4 u_wheel ++ (ceP cI cZ th3 pad1 u_pad ++ (ceT cI cZ th5 telling1 telling2 telling3 telling4 telling5 u_telling)))) sz)) (va_Qi (fun (r : Int32) (v : sW × sP × sT) => (r, v) = z) (fun (v : sW × sP × sT) t => wPo D cI cZ (va_A (ceX th0 th1 th2 th3 th4 th5 th6 th7 th8 th9 ++ (ceW cI cZ th1 wheel1 wheel2 wheel3 wheel4 u_wheel ++ (ceP cI cZ th3 pad1 u_pad ++ (ceT cI cZ th5 telling1 telling2 telling3 telling4 telling5 u_telling)))) sz) (ceX th0 th1 th2 th3 th4 th5 th6 th7 th8 th9 ++ (ceW cI cZ th1 wheel1 wheel2 wheel3 wheel4 v.1 ++ (ceP cI cZ th3 pad1 v.2.1 ++ (ceT cI cZ th5 telling1 telling2 telling3 telling4 telling5 v.2.2)))) t) (va_A (ceX th0 th1 th2 th3 th4 th5 th6 th7 th8 th9 ++ (ceW cI cZ th1 wheel1 wheel2 wheel3 wheel4 u_wheel ++ (ceP cI cZ th3 pad1 u_pad ++ (ceT cI cZ th5 telling1 telling2 telling3 telling4 telling5 u_telling)))) sz)) 0 0 (va_A (ceX th0 th1 th2 th3 th4 th5 th6 th7 th8 th9 ++ (ceW cI cZ th1 wheel1 wheel2 wheel3 wheel4 u_wheel ++ (ceP cI cZ th3 pad1 u_pad ++ (ceT cI cZ th5 telling1 telling2 telling3 telling4 telling5 u_telling)))) sz) := by
  refine k_enter (D := D) (cI := cI) (cZ := cZ) (wl := ceX th0 th1 th2 th3 th4 th5 th6 th7 th8 th9 ++ (ceW cI cZ th1 wheel1 wheel2 wheel3 wheel4 u_wheel ++ (ceP cI cZ th3 pad1 u_pad ++ (ceT cI cZ th5 telling1 telling2 telling3 telling4 telling5 u_telling)))) (sz := sz) (av := [.ref th0]) (cc := cX10_done) (maxL := 3) (ret := (some .int)) (Qc := fun A => va_Qi (fun (r : Int32) (v : sW × sP × sT) => (r, v) = z) (fun (v : sW × sP × sT) t => wPo D cI cZ (A) (ceX th0 th1 th2 th3 th4 th5 th6 th7 th8 th9 ++ (ceW cI cZ th1 wheel1 wheel2 wheel3 wheel4 v.1 ++ (ceP cI cZ th3 pad1 v.2.1 ++ (ceT cI cZ th5 telling1 telling2 telling3 telling4 telling5 v.2.2)))) t) (A)) (by decide) rfl (Nat.le_of_ble_eq_true rfl) ?_
  intro p e s m below meth c ls A Q H locs eQ hx hb hr hml hts hown hlocks hK hP hD hS hA hE hl
  have hown : s.vm.findClass RX10 = some m.cls := hown
  have hl : lv_has ls 3 [(0, .ref th0)] := hl
  have hi_X10 : ∀ w ∈ wsX100, w ∈ wsX10_done := fun w h => List.mem_cons_of_mem _ (List.mem_append_left _ (List.mem_append_left _ (List.mem_append_left _ (List.mem_append_right _ h))))
  rw [f_X10_done] at hf
  refine lv_aload_n hx hb dX10_done_0 rfl (lv_at hl 0 rfl) ?_
  obtain ⟨z1, hz_z1, hf⟩ := o_bind hf
  refine k_calli (va_runV (As := []) (rest := []) ⟨hx, hb, hml, hown, hts⟩ (c_X10_refuseEvening l D cI cZ th0 th1 th2 th3 th4 th5 th6 th7 th8 th9 wheel1 wheel2 wheel3 wheel4 pad1 telling1 telling2 telling3 telling4 telling5 H.size u_wheel u_pad u_telling z1 hz_z1) (cwV 0 hts gX10_done_X10_refuseEvening rfl rfl rfl ⟨rfl, hd_X10_refuseEvening⟩ ⟨Nat.le_of_ble_eq_true rfl, Nat.le_of_ble_eq_true rfl⟩) (k_preV hK hP hD hS hA hE [0, 1, 2, 3, 4, 5, 6, 7, 8, 9, 10, 11, 12, 13] (by decide) rfl (ci := 7) rfl rfl) rfl rfl hl.1 rfl (lv_room (Nat.le_of_ble_eq_true rfl)) dX10_done_1 ⟨Nat.zero_le _, Nat.zero_le _⟩) hP hD hS hA [0, 1, 2, 3, 4, 5, 6, 7, 8, 9, 10, 11, 12, 13] [some 0, some 1, some 2, some 3, some 4, some 5, some 6, some 7, some 8, some 9, some 10, some 11, some 12, some 13] 14 rfl (by decide) (by decide) rfl rfl (fun H locs hP hD hS => ?_)
  have hP : va_P D vwCl (ceX th0 th1 th2 th3 th4 th5 th6 th7 th8 th9 ++ (ceW cI cZ th1 wheel1 wheel2 wheel3 wheel4 u_wheel ++ (ceP cI cZ th3 pad1 u_pad ++ (ceT cI cZ th5 telling1 telling2 telling3 telling4 telling5 z1.2)))) H := hP
  have hD : va_D A (ceX th0 th1 th2 th3 th4 th5 th6 th7 th8 th9 ++ (ceW cI cZ th1 wheel1 wheel2 wheel3 wheel4 u_wheel ++ (ceP cI cZ th3 pad1 u_pad ++ (ceT cI cZ th5 telling1 telling2 telling3 telling4 telling5 z1.2)))) := hD
  refine lv_istore_n (lv' := [(1, .int z1.1), (0, .ref th0)]) hx hb dX10_done_4 rfl hl (by decide) rfl (fun ls hl => ?_)
  refine lv_iload_n hx hb dX10_done_5 rfl (lv_at hl 0 rfl) ?_
  refine lv_if_eq (tgt := 11) hx hb dX10_done_6 (by decide) (fun c2 => ?_) (fun c2 => ?_)
  · have hf := (if_pos c2).symm.trans hf
    refine lv_aload_n hx hb dX10_done_11 rfl (lv_at hl 1 rfl) ?_
    refine va_get (D := D) (ci := 7) (v := .ref th1) (C := RX10) (T := TX10) (N := 9) hx hb hts hi_X10 hown hK hP 0 rfl rfl 0 (by decide) (hts (.fieldLink RX10 10 "FairWheel" "wheel" "LFairWheel$Wheel;") (List.mem_of_getElem? (i := 1) rfl)) (fun _ h9 => h9) rfl dX10_done_12 ?_
    refine lv_aload_n hx hb dX10_done_15 rfl (lv_at hl 1 rfl) ?_
    refine va_get (D := D) (ci := 7) (v := .ref th5) (C := RX10) (T := TX10) (N := 9) hx hb hts hi_X10 hown hK hP 0 rfl rfl 4 (by decide) (hts (.fieldLink RX10 36 "FairWheel" "telling" "LFairWheel$Telling;") (List.mem_of_getElem? (i := 2) rfl)) (fun _ h9 => h9) rfl dX10_done_16 ?_
    refine k_callr (va_runV (As := []) (rest := [.ref th1]) ⟨hx, hb, hml, hown, hts⟩ (c_X7_wheel l D cI cZ th5 telling1 telling2 telling3 telling4 telling5 H.size z1.2) (cwV 0 hts gX10_done_X7_wheel rfl rfl rfl ⟨rfl, hd_X7_wheel⟩ ⟨Nat.le_of_ble_eq_true rfl, Nat.le_of_ble_eq_true rfl⟩) (k_preV hK hP hD hS hA hE [8, 9, 10, 11, 12, 13] (by decide) rfl (ci := 4) rfl rfl) rfl rfl hl.1 rfl (lv_room (Nat.le_of_ble_eq_true rfl)) dX10_done_19 ⟨Nat.zero_le _, Nat.zero_le _⟩) hP hD hS hA [8, 9, 10, 11, 12, 13] [none, none, none, none, none, none, none, none, some 0, some 1, some 2, some 3, some 4, some 5] 6 rfl (by decide) (by decide) rfl rfl (fun H locs hP hD hS => ?_)
    have hP : va_P D vwCl (ceX th0 th1 th2 th3 th4 th5 th6 th7 th8 th9 ++ (ceW cI cZ th1 wheel1 wheel2 wheel3 wheel4 u_wheel ++ (ceP cI cZ th3 pad1 u_pad ++ (ceT cI cZ th5 telling1 telling2 telling3 telling4 telling5 z1.2)))) H := hP
    have hD : va_D A (ceX th0 th1 th2 th3 th4 th5 th6 th7 th8 th9 ++ (ceW cI cZ th1 wheel1 wheel2 wheel3 wheel4 u_wheel ++ (ceP cI cZ th3 pad1 u_pad ++ (ceT cI cZ th5 telling1 telling2 telling3 telling4 telling5 z1.2)))) := hD
    obtain ⟨z4, hz_z4, hf⟩ := o_bind hf
    refine k_callv (va_runV (As := [.ref telling1]) (rest := []) ⟨hx, hb, hml, hown, hts⟩ (c_X9_copyFrom l D cI cZ th1 wheel1 wheel2 wheel3 wheel4 telling1 telling2 telling3 telling4 telling5 H.size u_wheel (T_wheel z1.2) z4 hz_z4) (cwV 1 hts gX10_done_X9_copyFrom rfl rfl rfl ⟨rfl, hd_X9_copyFrom⟩ ⟨Nat.le_of_ble_eq_true rfl, Nat.le_of_ble_eq_true rfl⟩) (k_preV hK hP hD hS hA hE [1, 2, 3, 4, 5, 9, 10, 11, 12, 13] (by decide) rfl (ci := 6) rfl rfl) rfl rfl hl.1 rfl (lv_room (Nat.le_of_ble_eq_true rfl)) dX10_done_22 ⟨Nat.zero_le _, Nat.zero_le _⟩) hP hD hS hA [1, 2, 3, 4, 5, 9, 10, 11, 12, 13] [none, some 0, some 1, some 2, some 3, some 4, none, none, none, some 5, some 6, some 7, some 8, some 9] 10 rfl (by decide) (by decide) rfl rfl (fun H locs hP hD hS => ?_)
    have hP : va_P D vwCl (ceX th0 th1 th2 th3 th4 th5 th6 th7 th8 th9 ++ (ceW cI cZ th1 wheel1 wheel2 wheel3 wheel4 z4 ++ (ceP cI cZ th3 pad1 u_pad ++ (ceT cI cZ th5 telling1 telling2 telling3 telling4 telling5 z1.2)))) H := hP
    have hD : va_D A (ceX th0 th1 th2 th3 th4 th5 th6 th7 th8 th9 ++ (ceW cI cZ th1 wheel1 wheel2 wheel3 wheel4 z4 ++ (ceP cI cZ th3 pad1 u_pad ++ (ceT cI cZ th5 telling1 telling2 telling3 telling4 telling5 z1.2)))) := hD
    refine lv_aload_n hx hb dX10_done_25 rfl (lv_at hl 1 rfl) ?_
    refine va_get (D := D) (ci := 7) (v := .ref th3) (C := RX10) (T := TX10) (N := 9) hx hb hts hi_X10 hown hK hP 0 rfl rfl 2 (by decide) (hts (.fieldLink RX10 22 "FairWheel" "pad" "LFairWheel$Pad;") (List.mem_of_getElem? (i := 3) rfl)) (fun _ h9 => h9) rfl dX10_done_26 ?_
    obtain ⟨z5, hz_z5, hf⟩ := o_bind hf
    refine k_calli (va_runV (As := []) (rest := []) ⟨hx, hb, hml, hown, hts⟩ (c_X4_length l D cI cZ th3 pad1 H.size u_pad z5 hz_z5) (cwV 0 hts gX10_done_X4_length rfl rfl rfl ⟨rfl, hd_X4_length⟩ ⟨Nat.le_of_ble_eq_true rfl, Nat.le_of_ble_eq_true rfl⟩) (k_preV hK hP hD hS hA hE [6, 7] (by decide) rfl (ci := 1) rfl rfl) rfl rfl hl.1 rfl (lv_room (Nat.le_of_ble_eq_true rfl)) dX10_done_29 ⟨Nat.zero_le _, Nat.zero_le _⟩) hP hD hS hA [6, 7] [none, none, none, none, none, none, some 0, some 1, none, none, none, none, none, none] 2 rfl (by decide) (by decide) rfl rfl (fun H locs hP hD hS => ?_)
    have hP : va_P D vwCl (ceX th0 th1 th2 th3 th4 th5 th6 th7 th8 th9 ++ (ceW cI cZ th1 wheel1 wheel2 wheel3 wheel4 z4 ++ (ceP cI cZ th3 pad1 u_pad ++ (ceT cI cZ th5 telling1 telling2 telling3 telling4 telling5 z1.2)))) H := hP
    have hD : va_D A (ceX th0 th1 th2 th3 th4 th5 th6 th7 th8 th9 ++ (ceW cI cZ th1 wheel1 wheel2 wheel3 wheel4 z4 ++ (ceP cI cZ th3 pad1 u_pad ++ (ceT cI cZ th5 telling1 telling2 telling3 telling4 telling5 z1.2)))) := hD
    refine lv_istore_n (lv' := [(2, .int z5.1), (1, .int z1.1), (0, .ref th0)]) hx hb dX10_done_32 rfl hl (by decide) rfl (fun ls hl => ?_)
    refine lv_aload_n hx hb dX10_done_33 rfl (lv_at hl 2 rfl) ?_
    refine va_get (D := D) (ci := 7) (v := .ref th3) (C := RX10) (T := TX10) (N := 9) hx hb hts hi_X10 hown hK hP 0 rfl rfl 2 (by decide) (hts (.fieldLink RX10 22 "FairWheel" "pad" "LFairWheel$Pad;") (List.mem_of_getElem? (i := 3) rfl)) (fun _ h9 => h9) rfl dX10_done_34 ?_
    obtain ⟨z6, hz_z6, hf⟩ := o_bind hf
    refine k_callv (va_runV (As := []) (rest := []) ⟨hx, hb, hml, hown, hts⟩ (c_X4_clear l D cI cZ th3 pad1 H.size u_pad z6 hz_z6) (cwV 0 hts gX10_done_X4_clear rfl rfl rfl ⟨rfl, hd_X4_clear⟩ ⟨Nat.le_of_ble_eq_true rfl, Nat.le_of_ble_eq_true rfl⟩) (k_preV hK hP hD hS hA hE [6, 7] (by decide) rfl (ci := 1) rfl rfl) rfl rfl hl.1 rfl (lv_room (Nat.le_of_ble_eq_true rfl)) dX10_done_37 ⟨Nat.zero_le _, Nat.zero_le _⟩) hP hD hS hA [6, 7] [none, none, none, none, none, none, some 0, some 1, none, none, none, none, none, none] 2 rfl (by decide) (by decide) rfl rfl (fun H locs hP hD hS => ?_)
    have hP : va_P D vwCl (ceX th0 th1 th2 th3 th4 th5 th6 th7 th8 th9 ++ (ceW cI cZ th1 wheel1 wheel2 wheel3 wheel4 z4 ++ (ceP cI cZ th3 pad1 z6 ++ (ceT cI cZ th5 telling1 telling2 telling3 telling4 telling5 z1.2)))) H := hP
    have hD : va_D A (ceX th0 th1 th2 th3 th4 th5 th6 th7 th8 th9 ++ (ceW cI cZ th1 wheel1 wheel2 wheel3 wheel4 z4 ++ (ceP cI cZ th3 pad1 z6 ++ (ceT cI cZ th5 telling1 telling2 telling3 telling4 telling5 z1.2)))) := hD
    refine lv_iload_n hx hb dX10_done_40 rfl (lv_at hl 0 rfl) ?_
    exact k_iret (v := z5.1) (u := (z4, z6, z1.2)) hx hb hr hlocks hK hS eQ hf hP hD dX10_done_41
  · have hf := (if_neg c2).symm.trans hf
    refine lv_iload_n hx hb dX10_done_9 rfl (lv_at hl 0 rfl) ?_
    exact k_iret (v := z1.1) (u := (u_wheel, u_pad, z1.2)) hx hb hr hlocks hK hS eQ hf hP hD dX10_done_10
theorem hd_X10_foot : yX10_foot.cls ≠ "java/lang/invoke/MethodHandle" ∧ yX10_foot.cls ≠ "java/lang/invoke/VarHandle" ∧ (parseMethodDescriptor yX10_foot.desc).map (fun d => d.parameters.length) = some 0 := by decide +kernel
set_option maxHeartbeats 4000000 in
set_option maxRecDepth 100000 in
theorem c_X10_foot (l : Launch) (D : va_G) (cI cZ : ClassId) (th0 : Nat) (th1 : Nat) (th2 : Nat) (th3 : Nat) (th4 : Nat) (th5 : Nat) (th6 : Nat) (th7 : Nat) (th8 : Nat) (th9 : Nat) (wheel1 : Nat) (wheel2 : Nat) (wheel3 : Nat) (wheel4 : Nat) (sz : Nat) (u_wheel : sW) (z : Int32 × Unit) (hf : f_X10_foot u_wheel = some z) : Met l yX10_foot wsX10_foot rmX10_foot (va_Pc [.ref th0] (wPr D cI cZ (ceX th0 th1 th2 th3 th4 th5 th6 th7 th8 th9 ++ (ceW cI cZ th1 wheel1 wheel2 wheel3 wheel4 u_wheel)) sz)) (va_Qi (fun (r : Int32) (v : Unit) => (r, v) = z) (fun (v : Unit) t => wPo D cI cZ (va_A (ceX th0 th1 th2 th3 th4 th5 th6 th7 th8 th9 ++ (ceW cI cZ th1 wheel1 wheel2 wheel3 wheel4 u_wheel)) sz) (ceX th0 th1 th2 th3 th4 th5 th6 th7 th8 th9 ++ (ceW cI cZ th1 wheel1 wheel2 wheel3 wheel4 u_wheel)) t) (va_A (ceX th0 th1 th2 th3 th4 th5 th6 th7 th8 th9 ++ (ceW cI cZ th1 wheel1 wheel2 wheel3 wheel4 u_wheel)) sz)) 0 0 (va_A (ceX th0 th1 th2 th3 th4 th5 th6 th7 th8 th9 ++ (ceW cI cZ th1 wheel1 wheel2 wheel3 wheel4 u_wheel)) sz) := by
  refine k_enter (D := D) (cI := cI) (cZ := cZ) (wl := ceX th0 th1 th2 th3 th4 th5 th6 th7 th8 th9 ++ (ceW cI cZ th1 wheel1 wheel2 wheel3 wheel4 u_wheel)) (sz := sz) (av := [.ref th0]) (cc := cX10_foot) (maxL := 1) (ret := (some .int)) (Qc := fun A => va_Qi (fun (r : Int32) (v : Unit) => (r, v) = z) (fun (v : Unit) t => wPo D cI cZ (A) (ceX th0 th1 th2 th3 th4 th5 th6 th7 th8 th9 ++ (ceW cI cZ th1 wheel1 wheel2 wheel3 wheel4 u_wheel)) t) (A)) (by decide) rfl (Nat.le_of_ble_eq_true rfl) ?_
  intro p e s m below meth c ls A Q H locs eQ hx hb hr hml hts hown hlocks hK hP hD hS hA hE hl
  have hown : s.vm.findClass RX10 = some m.cls := hown
  have hl : lv_has ls 1 [(0, .ref th0)] := hl
  have hi_X10 : ∀ w ∈ wsX100, w ∈ wsX10_foot := fun w h => List.mem_cons_of_mem _ (List.mem_append_left _ (List.mem_append_right _ h))
  rw [f_X10_foot] at hf
  refine lv_aload_n hx hb dX10_foot_0 rfl (lv_at hl 0 rfl) ?_
  refine va_get (D := D) (ci := 7) (v := .ref th1) (C := RX10) (T := TX10) (N := 9) hx hb hts hi_X10 hown hK hP 0 rfl rfl 0 (by decide) (hts (.fieldLink RX10 10 "FairWheel" "wheel" "LFairWheel$Wheel;") (List.mem_of_getElem? (i := 1) rfl)) (fun _ h9 => h9) rfl dX10_foot_1 ?_
  obtain ⟨z1, hz_z1, hf⟩ := o_bind hf
  refine k_calli (va_runV (As := []) (rest := []) ⟨hx, hb, hml, hown, hts⟩ (c_X9_lowest l D cI cZ th1 wheel1 wheel2 wheel3 wheel4 H.size u_wheel z1 hz_z1) (cwV 0 hts gX10_foot_X9_lowest rfl rfl rfl ⟨rfl, hd_X9_lowest⟩ ⟨Nat.le_of_ble_eq_true rfl, Nat.le_of_ble_eq_true rfl⟩) (k_preV hK hP hD hS hA hE [1, 2, 3, 4, 5] (by decide) rfl (ci := 6) rfl rfl) rfl rfl hl.1 rfl (lv_room (Nat.le_of_ble_eq_true rfl)) dX10_foot_4 ⟨Nat.zero_le _, Nat.zero_le _⟩) hP hD hS hA [1, 2, 3, 4, 5] [none, some 0, some 1, some 2, some 3, some 4] 5 rfl (by decide) (by decide) rfl rfl (fun H locs hP hD hS => ?_)
  have hP : va_P D vwCl (ceX th0 th1 th2 th3 th4 th5 th6 th7 th8 th9 ++ (ceW cI cZ th1 wheel1 wheel2 wheel3 wheel4 u_wheel)) H := hP
  have hD : va_D A (ceX th0 th1 th2 th3 th4 th5 th6 th7 th8 th9 ++ (ceW cI cZ th1 wheel1 wheel2 wheel3 wheel4 u_wheel)) := hD
  exact k_iret (v := z1.1) (u := ()) hx hb hr hlocks hK hS eQ hf hP hD dX10_foot_7
theorem hd_X10_car : yX10_car.cls ≠ "java/lang/invoke/MethodHandle" ∧ yX10_car.cls ≠ "java/lang/invoke/VarHandle" ∧ (parseMethodDescriptor yX10_car.desc).map (fun d => d.parameters.length) = some 2 := by decide +kernel
set_option maxHeartbeats 4000000 in
set_option maxRecDepth 100000 in
theorem c_X10_car (l : Launch) (D : va_G) (cI cZ : ClassId) (th0 : Nat) (th1 : Nat) (th2 : Nat) (th3 : Nat) (th4 : Nat) (th5 : Nat) (th6 : Nat) (th7 : Nat) (th8 : Nat) (th9 : Nat) (wheel1 : Nat) (wheel2 : Nat) (wheel3 : Nat) (wheel4 : Nat) (sz : Nat) (u_wheel : sW) (p1 : Int32) (p2 : Int32) (z : Int32 × Unit) (hf : f_X10_car u_wheel p1 p2 = some z) : Met l yX10_car wsX10_car rmX10_car (va_Pc [.ref th0, .int p1, .int p2] (wPr D cI cZ (ceX th0 th1 th2 th3 th4 th5 th6 th7 th8 th9 ++ (ceW cI cZ th1 wheel1 wheel2 wheel3 wheel4 u_wheel)) sz)) (va_Qi (fun (r : Int32) (v : Unit) => (r, v) = z) (fun (v : Unit) t => wPo D cI cZ (va_A (ceX th0 th1 th2 th3 th4 th5 th6 th7 th8 th9 ++ (ceW cI cZ th1 wheel1 wheel2 wheel3 wheel4 u_wheel)) sz) (ceX th0 th1 th2 th3 th4 th5 th6 th7 th8 th9 ++ (ceW cI cZ th1 wheel1 wheel2 wheel3 wheel4 u_wheel)) t) (va_A (ceX th0 th1 th2 th3 th4 th5 th6 th7 th8 th9 ++ (ceW cI cZ th1 wheel1 wheel2 wheel3 wheel4 u_wheel)) sz)) 0 0 (va_A (ceX th0 th1 th2 th3 th4 th5 th6 th7 th8 th9 ++ (ceW cI cZ th1 wheel1 wheel2 wheel3 wheel4 u_wheel)) sz) := by
  refine k_enter (D := D) (cI := cI) (cZ := cZ) (wl := ceX th0 th1 th2 th3 th4 th5 th6 th7 th8 th9 ++ (ceW cI cZ th1 wheel1 wheel2 wheel3 wheel4 u_wheel)) (sz := sz) (av := [.ref th0, .int p1, .int p2]) (cc := cX10_car) (maxL := 3) (ret := (some .int)) (Qc := fun A => va_Qi (fun (r : Int32) (v : Unit) => (r, v) = z) (fun (v : Unit) t => wPo D cI cZ (A) (ceX th0 th1 th2 th3 th4 th5 th6 th7 th8 th9 ++ (ceW cI cZ th1 wheel1 wheel2 wheel3 wheel4 u_wheel)) t) (A)) (by decide) rfl (Nat.le_of_ble_eq_true rfl) ?_
  intro p e s m below meth c ls A Q H locs eQ hx hb hr hml hts hown hlocks hK hP hD hS hA hE hl
  have hown : s.vm.findClass RX10 = some m.cls := hown
  have hl : lv_has ls 3 [(0, .ref th0), (1, .int p1), (2, .int p2)] := hl
  have hi_X10 : ∀ w ∈ wsX100, w ∈ wsX10_car := fun w h => List.mem_cons_of_mem _ (List.mem_append_left _ (List.mem_append_right _ h))
  rw [f_X10_car] at hf
  refine lv_iload_n hx hb dX10_car_0 rfl (lv_at hl 1 rfl) ?_
  obtain ⟨z1, hz_z1, hf⟩ := o_bind hf
  refine k_calli (va_runS (As := [.int p1]) (rest := []) ⟨hx, hb, hml, hown, hts⟩ (c_X10_isCar l D cI cZ  H.size p1 z1 hz_z1) (va_cwS 1 hts gX10_car_X10_isCar rfl rfl rfl hd_X10_isCar ⟨Nat.le_of_ble_eq_true rfl, Nat.le_of_ble_eq_true rfl⟩) (k_preS hK hP hD hS hA hE [] (by decide) rfl) rfl rfl hl.1 rfl (lv_room (Nat.le_of_ble_eq_true rfl)) dX10_car_1 ⟨Nat.zero_le _, Nat.zero_le _⟩) hP hD hS hA [] [none, none, none, none, none, none] 0 rfl (by decide) (by decide) rfl rfl (fun H locs hP hD hS => ?_)
  have hP : va_P D vwCl (ceX th0 th1 th2 th3 th4 th5 th6 th7 th8 th9 ++ (ceW cI cZ th1 wheel1 wheel2 wheel3 wheel4 u_wheel)) H := hP
  have hD : va_D A (ceX th0 th1 th2 th3 th4 th5 th6 th7 th8 th9 ++ (ceW cI cZ th1 wheel1 wheel2 wheel3 wheel4 u_wheel)) := hD
  refine lv_if_ne (tgt := 9) hx hb dX10_car_4 (by decide) (fun c2 => ?_) (fun c2 => ?_)
  · have hf := (if_neg c2).symm.trans hf
    refine lv_iload_n hx hb dX10_car_9 rfl (lv_at hl 2 rfl) ?_
    refine lv_if_lt (tgt := 18) hx hb dX10_car_10 (by decide) (fun c3 => ?_) (fun c3 => ?_)
    · have hf := (if_pos c3).symm.trans hf
      refine lv_bipush (v := -2) hx hb dX10_car_18 (by decide) ?_
      exact k_iret (v := (-2 : Int32)) (u := ()) hx hb hr hlocks hK hS eQ hf hP hD dX10_car_20
    · have hf := (if_neg c3).symm.trans hf
      refine lv_iload_n hx hb dX10_car_13 rfl (lv_at hl 2 rfl) ?_
      refine lv_iconst (v := 2) hx hb dX10_car_14 (by decide) ?_
      refine lv_icmp_le (tgt := 21) hx hb dX10_car_15 (by decide) (fun c4 => ?_) (fun c4 => ?_)
      · have hf := (if_pos c4).symm.trans hf
        refine lv_iload_n hx hb dX10_car_21 rfl (lv_at hl 2 rfl) ?_
        refine lv_if_ne (tgt := 34) hx hb dX10_car_22 (by decide) (fun c5 => ?_) (fun c5 => ?_)
        · have hf := (if_neg c5).symm.trans hf
          refine lv_iload_n hx hb dX10_car_34 rfl (lv_at hl 2 rfl) ?_
          refine lv_iconst (v := 1) hx hb dX10_car_35 (by decide) ?_
          refine lv_icmp_ne (tgt := 50) hx hb dX10_car_36 (by decide) (fun c6 => ?_) (fun c6 => ?_)
          · have hf := (if_neg c6).symm.trans hf
            refine lv_aload_n hx hb dX10_car_50 rfl (lv_at hl 0 rfl) ?_
            refine va_get (D := D) (ci := 7) (v := .ref th1) (C := RX10) (T := TX10) (N := 9) hx hb hts hi_X10 hown hK hP 0 rfl rfl 0 (by decide) (hts (.fieldLink RX10 10 "FairWheel" "wheel" "LFairWheel$Wheel;") (List.mem_of_getElem? (i := 1) rfl)) (fun _ h9 => h9) rfl dX10_car_51 ?_
            refine lv_iload_n hx hb dX10_car_54 rfl (lv_at hl 1 rfl) ?_
            obtain ⟨z7, hz_z7, hf⟩ := o_bind hf
            refine k_calli (va_runV (As := [.int p1]) (rest := []) ⟨hx, hb, hml, hown, hts⟩ (c_X9_placeOf l D cI cZ th1 wheel1 wheel2 wheel3 wheel4 H.size u_wheel p1 z7 hz_z7) (cwV 1 hts gX10_car_X9_placeOf rfl rfl rfl ⟨rfl, hd_X9_placeOf⟩ ⟨Nat.le_of_ble_eq_true rfl, Nat.le_of_ble_eq_true rfl⟩) (k_preV hK hP hD hS hA hE [1, 2, 3, 4, 5] (by decide) rfl (ci := 6) rfl rfl) rfl rfl hl.1 rfl (lv_room (Nat.le_of_ble_eq_true rfl)) dX10_car_55 ⟨Nat.zero_le _, Nat.zero_le _⟩) hP hD hS hA [1, 2, 3, 4, 5] [none, some 0, some 1, some 2, some 3, some 4] 5 rfl (by decide) (by decide) rfl rfl (fun H locs hP hD hS => ?_)
            have hP : va_P D vwCl (ceX th0 th1 th2 th3 th4 th5 th6 th7 th8 th9 ++ (ceW cI cZ th1 wheel1 wheel2 wheel3 wheel4 u_wheel)) H := hP
            have hD : va_D A (ceX th0 th1 th2 th3 th4 th5 th6 th7 th8 th9 ++ (ceW cI cZ th1 wheel1 wheel2 wheel3 wheel4 u_wheel)) := hD
            exact k_iret (v := z7.1) (u := ()) hx hb hr hlocks hK hS eQ hf hP hD dX10_car_58
          · have hf := (if_pos c6).symm.trans hf
            refine lv_aload_n hx hb dX10_car_39 rfl (lv_at hl 0 rfl) ?_
            refine va_get (D := D) (ci := 7) (v := .ref th1) (C := RX10) (T := TX10) (N := 9) hx hb hts hi_X10 hown hK hP 0 rfl rfl 0 (by decide) (hts (.fieldLink RX10 10 "FairWheel" "wheel" "LFairWheel$Wheel;") (List.mem_of_getElem? (i := 1) rfl)) (fun _ h9 => h9) rfl dX10_car_40 ?_
            refine lv_iload_n hx hb dX10_car_43 rfl (lv_at hl 1 rfl) ?_
            obtain ⟨z8, hz_z8, hf⟩ := o_bind hf
            refine k_calli (va_runV (As := [.int p1]) (rest := []) ⟨hx, hb, hml, hown, hts⟩ (c_X9_loadOf l D cI cZ th1 wheel1 wheel2 wheel3 wheel4 H.size u_wheel p1 z8 hz_z8) (cwV 1 hts gX10_car_X9_loadOf rfl rfl rfl ⟨rfl, hd_X9_loadOf⟩ ⟨Nat.le_of_ble_eq_true rfl, Nat.le_of_ble_eq_true rfl⟩) (k_preV hK hP hD hS hA hE [1, 2, 3, 4, 5] (by decide) rfl (ci := 6) rfl rfl) rfl rfl hl.1 rfl (lv_room (Nat.le_of_ble_eq_true rfl)) dX10_car_44 ⟨Nat.zero_le _, Nat.zero_le _⟩) hP hD hS hA [1, 2, 3, 4, 5] [none, some 0, some 1, some 2, some 3, some 4] 5 rfl (by decide) (by decide) rfl rfl (fun H locs hP hD hS => ?_)
            have hP : va_P D vwCl (ceX th0 th1 th2 th3 th4 th5 th6 th7 th8 th9 ++ (ceW cI cZ th1 wheel1 wheel2 wheel3 wheel4 u_wheel)) H := hP
            have hD : va_D A (ceX th0 th1 th2 th3 th4 th5 th6 th7 th8 th9 ++ (ceW cI cZ th1 wheel1 wheel2 wheel3 wheel4 u_wheel)) := hD
            refine lv_goto (tgt := 58) hx hb dX10_car_47 (by decide) ?_
            exact k_iret (v := z8.1) (u := ()) hx hb hr hlocks hK hS eQ hf hP hD dX10_car_58
        · have hf := (if_pos c5).symm.trans hf
          refine lv_aload_n hx hb dX10_car_25 rfl (lv_at hl 0 rfl) ?_
          refine va_get (D := D) (ci := 7) (v := .ref th1) (C := RX10) (T := TX10) (N := 9) hx hb hts hi_X10 hown hK hP 0 rfl rfl 0 (by decide) (hts (.fieldLink RX10 10 "FairWheel" "wheel" "LFairWheel$Wheel;") (List.mem_of_getElem? (i := 1) rfl)) (fun _ h9 => h9) rfl dX10_car_26 ?_
          refine lv_iload_n hx hb dX10_car_29 rfl (lv_at hl 1 rfl) ?_
          obtain ⟨z9, hz_z9, hf⟩ := o_bind hf
          refine k_calli (va_runV (As := [.int p1]) (rest := []) ⟨hx, hb, hml, hown, hts⟩ (c_X9_riderOf l D cI cZ th1 wheel1 wheel2 wheel3 wheel4 H.size u_wheel p1 z9 hz_z9) (cwV 1 hts gX10_car_X9_riderOf rfl rfl rfl ⟨rfl, hd_X9_riderOf⟩ ⟨Nat.le_of_ble_eq_true rfl, Nat.le_of_ble_eq_true rfl⟩) (k_preV hK hP hD hS hA hE [1, 2, 3, 4, 5] (by decide) rfl (ci := 6) rfl rfl) rfl rfl hl.1 rfl (lv_room (Nat.le_of_ble_eq_true rfl)) dX10_car_30 ⟨Nat.zero_le _, Nat.zero_le _⟩) hP hD hS hA [1, 2, 3, 4, 5] [none, some 0, some 1, some 2, some 3, some 4] 5 rfl (by decide) (by decide) rfl rfl (fun H locs hP hD hS => ?_)
          have hP : va_P D vwCl (ceX th0 th1 th2 th3 th4 th5 th6 th7 th8 th9 ++ (ceW cI cZ th1 wheel1 wheel2 wheel3 wheel4 u_wheel)) H := hP
          have hD : va_D A (ceX th0 th1 th2 th3 th4 th5 th6 th7 th8 th9 ++ (ceW cI cZ th1 wheel1 wheel2 wheel3 wheel4 u_wheel)) := hD
          exact k_iret (v := z9.1) (u := ()) hx hb hr hlocks hK hS eQ hf hP hD dX10_car_33
      · have hf := (if_neg c4).symm.trans hf
        refine lv_bipush (v := -2) hx hb dX10_car_18 (by decide) ?_
        exact k_iret (v := (-2 : Int32)) (u := ()) hx hb hr hlocks hK hS eQ hf hP hD dX10_car_20
  · have hf := (if_pos c2).symm.trans hf
    refine lv_iconst (v := -1) hx hb dX10_car_7 (by decide) ?_
    exact k_iret (v := (-1 : Int32)) (u := ()) hx hb hr hlocks hK hS eQ hf hP hD dX10_car_8
theorem hd_X10_pull : yX10_pull.cls ≠ "java/lang/invoke/MethodHandle" ∧ yX10_pull.cls ≠ "java/lang/invoke/VarHandle" ∧ (parseMethodDescriptor yX10_pull.desc).map (fun d => d.parameters.length) = some 0 := by decide +kernel
set_option maxHeartbeats 4000000 in
set_option maxRecDepth 100000 in
theorem c_X10_pull (l : Launch) (D : va_G) (cI cZ : ClassId) (th0 : Nat) (th1 : Nat) (th2 : Nat) (th3 : Nat) (th4 : Nat) (th5 : Nat) (th6 : Nat) (th7 : Nat) (th8 : Nat) (th9 : Nat) (wheel1 : Nat) (wheel2 : Nat) (wheel3 : Nat) (wheel4 : Nat) (sz : Nat) (u_wheel : sW) (z : Int32 × Unit) (hf : f_X10_pull u_wheel = some z) : Met l yX10_pull wsX10_pull rmX10_pull (va_Pc [.ref th0] (wPr D cI cZ (ceX th0 th1 th2 th3 th4 th5 th6 th7 th8 th9 ++ (ceW cI cZ th1 wheel1 wheel2 wheel3 wheel4 u_wheel)) sz)) (va_Qi (fun (r : Int32) (v : Unit) => (r, v) = z) (fun (v : Unit) t => wPo D cI cZ (va_A (ceX th0 th1 th2 th3 th4 th5 th6 th7 th8 th9 ++ (ceW cI cZ th1 wheel1 wheel2 wheel3 wheel4 u_wheel)) sz) (ceX th0 th1 th2 th3 th4 th5 th6 th7 th8 th9 ++ (ceW cI cZ th1 wheel1 wheel2 wheel3 wheel4 u_wheel)) t) (va_A (ceX th0 th1 th2 th3 th4 th5 th6 th7 th8 th9 ++ (ceW cI cZ th1 wheel1 wheel2 wheel3 wheel4 u_wheel)) sz)) 0 0 (va_A (ceX th0 th1 th2 th3 th4 th5 th6 th7 th8 th9 ++ (ceW cI cZ th1 wheel1 wheel2 wheel3 wheel4 u_wheel)) sz) := by
  refine k_enter (D := D) (cI := cI) (cZ := cZ) (wl := ceX th0 th1 th2 th3 th4 th5 th6 th7 th8 th9 ++ (ceW cI cZ th1 wheel1 wheel2 wheel3 wheel4 u_wheel)) (sz := sz) (av := [.ref th0]) (cc := cX10_pull) (maxL := 1) (ret := (some .int)) (Qc := fun A => va_Qi (fun (r : Int32) (v : Unit) => (r, v) = z) (fun (v : Unit) t => wPo D cI cZ (A) (ceX th0 th1 th2 th3 th4 th5 th6 th7 th8 th9 ++ (ceW cI cZ th1 wheel1 wheel2 wheel3 wheel4 u_wheel)) t) (A)) (by decide) rfl (Nat.le_of_ble_eq_true rfl) ?_
  intro p e s m below meth c ls A Q H locs eQ hx hb hr hml hts hown hlocks hK hP hD hS hA hE hl
  have hown : s.vm.findClass RX10 = some m.cls := hown
  have hl : lv_has ls 1 [(0, .ref th0)] := hl
  have hi_X10 : ∀ w ∈ wsX100, w ∈ wsX10_pull := fun w h => List.mem_cons_of_mem _ (List.mem_append_left _ (List.mem_append_right _ h))
  rw [f_X10_pull] at hf
  refine lv_aload_n hx hb dX10_pull_0 rfl (lv_at hl 0 rfl) ?_
  refine va_get (D := D) (ci := 7) (v := .ref th1) (C := RX10) (T := TX10) (N := 9) hx hb hts hi_X10 hown hK hP 0 rfl rfl 0 (by decide) (hts (.fieldLink RX10 10 "FairWheel" "wheel" "LFairWheel$Wheel;") (List.mem_of_getElem? (i := 1) rfl)) (fun _ h9 => h9) rfl dX10_pull_1 ?_
  obtain ⟨z1, hz_z1, hf⟩ := o_bind hf
  refine k_calli (va_runV (As := []) (rest := []) ⟨hx, hb, hml, hown, hts⟩ (c_X9_pullNow l D cI cZ th1 wheel1 wheel2 wheel3 wheel4 H.size u_wheel z1 hz_z1) (cwV 0 hts gX10_pull_X9_pullNow rfl rfl rfl ⟨rfl, hd_X9_pullNow⟩ ⟨Nat.le_of_ble_eq_true rfl, Nat.le_of_ble_eq_true rfl⟩) (k_preV hK hP hD hS hA hE [1, 2, 3, 4, 5] (by decide) rfl (ci := 6) rfl rfl) rfl rfl hl.1 rfl (lv_room (Nat.le_of_ble_eq_true rfl)) dX10_pull_4 ⟨Nat.zero_le _, Nat.zero_le _⟩) hP hD hS hA [1, 2, 3, 4, 5] [none, some 0, some 1, some 2, some 3, some 4] 5 rfl (by decide) (by decide) rfl rfl (fun H locs hP hD hS => ?_)
  have hP : va_P D vwCl (ceX th0 th1 th2 th3 th4 th5 th6 th7 th8 th9 ++ (ceW cI cZ th1 wheel1 wheel2 wheel3 wheel4 u_wheel)) H := hP
  have hD : va_D A (ceX th0 th1 th2 th3 th4 th5 th6 th7 th8 th9 ++ (ceW cI cZ th1 wheel1 wheel2 wheel3 wheel4 u_wheel)) := hD
  refine lv_ldc hx hb hown (hts (.constant RX10 137 (1000000)) (List.mem_of_getElem? (i := 2) rfl)) dX10_pull_7 ?_
  refine lv_iadd hx hb dX10_pull_9 ?_
  exact k_iret (v := (z1.1 + (1000000 : Int32))) (u := ()) hx hb hr hlocks hK hS eQ hf hP hD dX10_pull_10
theorem hd_X10_behind : yX10_behind.cls ≠ "java/lang/invoke/MethodHandle" ∧ yX10_behind.cls ≠ "java/lang/invoke/VarHandle" ∧ (parseMethodDescriptor yX10_behind.desc).map (fun d => d.parameters.length) = some 1 := by decide +kernel
set_option maxHeartbeats 4000000 in
set_option maxRecDepth 100000 in
theorem c_X10_behind (l : Launch) (D : va_G) (cI cZ : ClassId) (th0 : Nat) (th1 : Nat) (th2 : Nat) (th3 : Nat) (th4 : Nat) (th5 : Nat) (th6 : Nat) (th7 : Nat) (th8 : Nat) (th9 : Nat) (wheel1 : Nat) (wheel2 : Nat) (wheel3 : Nat) (wheel4 : Nat) (pad1 : Nat) (telling1 : Nat) (telling2 : Nat) (telling3 : Nat) (telling4 : Nat) (telling5 : Nat) (sz : Nat) (u_wheel : sW) (u_pad : sP) (u_telling : sT) (p1 : Int32) (z : Int32 × sT) (hf : f_X10_behind u_wheel u_pad u_telling p1 = some z) : Met l yX10_behind wsX10_behind rmX10_behind (va_Pc [.ref th0, .int p1] (wPr D cI cZ (ceX th0 th1 th2 th3 th4 th5 th6 th7 th8 th9 ++ (ceW cI cZ th1 wheel1 wheel2 wheel3 wheel4 u_wheel ++ (ceP cI cZ th3 pad1 u_pad ++ (ceT cI cZ th5 telling1 telling2 telling3 telling4 telling5 u_telling)))) sz)) (va_Qi (fun (r : Int32) (v : sT) => (r, v) = z) (fun (v : sT) t => wPo D cI cZ (va_A (ceX th0 th1 th2 th3 th4 th5 th6 th7 th8 th9 ++ (ceW cI cZ th1 wheel1 wheel2 wheel3 wheel4 u_wheel ++ (ceP cI cZ th3 pad1 u_pad ++ (ceT cI cZ th5 telling1 telling2 telling3 telling4 telling5 u_telling)))) sz) (ceX th0 th1 th2 th3 th4 th5 th6 th7 th8 th9 ++ (ceW cI cZ th1 wheel1 wheel2 wheel3 wheel4 u_wheel ++ (ceP cI cZ th3 pad1 u_pad ++ (ceT cI cZ th5 telling1 telling2 telling3 telling4 telling5 v)))) t) (va_A (ceX th0 th1 th2 th3 th4 th5 th6 th7 th8 th9 ++ (ceW cI cZ th1 wheel1 wheel2 wheel3 wheel4 u_wheel ++ (ceP cI cZ th3 pad1 u_pad ++ (ceT cI cZ th5 telling1 telling2 telling3 telling4 telling5 u_telling)))) sz)) 0 0 (va_A (ceX th0 th1 th2 th3 th4 th5 th6 th7 th8 th9 ++ (ceW cI cZ th1 wheel1 wheel2 wheel3 wheel4 u_wheel ++ (ceP cI cZ th3 pad1 u_pad ++ (ceT cI cZ th5 telling1 telling2 telling3 telling4 telling5 u_telling)))) sz) := by
  refine k_enter (D := D) (cI := cI) (cZ := cZ) (wl := ceX th0 th1 th2 th3 th4 th5 th6 th7 th8 th9 ++ (ceW cI cZ th1 wheel1 wheel2 wheel3 wheel4 u_wheel ++ (ceP cI cZ th3 pad1 u_pad ++ (ceT cI cZ th5 telling1 telling2 telling3 telling4 telling5 u_telling)))) (sz := sz) (av := [.ref th0, .int p1]) (cc := cX10_behind) (maxL := 3) (ret := (some .int)) (Qc := fun A => va_Qi (fun (r : Int32) (v : sT) => (r, v) = z) (fun (v : sT) t => wPo D cI cZ (A) (ceX th0 th1 th2 th3 th4 th5 th6 th7 th8 th9 ++ (ceW cI cZ th1 wheel1 wheel2 wheel3 wheel4 u_wheel ++ (ceP cI cZ th3 pad1 u_pad ++ (ceT cI cZ th5 telling1 telling2 telling3 telling4 telling5 v)))) t) (A)) (by decide) rfl (Nat.le_of_ble_eq_true rfl) ?_
  intro p e s m below meth c ls A Q H locs eQ hx hb hr hml hts hown hlocks hK hP hD hS hA hE hl
  have hown : s.vm.findClass RX10 = some m.cls := hown
  have hl : lv_has ls 3 [(0, .ref th0), (1, .int p1)] := hl
  have hi_X10 : ∀ w ∈ wsX100, w ∈ wsX10_behind := fun w h => List.mem_cons_of_mem _ (List.mem_append_left _ (List.mem_append_left _ (List.mem_append_left _ (List.mem_append_right _ h))))
  rw [f_X10_behind] at hf
  refine lv_iload_n hx hb dX10_behind_0 rfl (lv_at hl 1 rfl) ?_
  refine lv_if_lt (tgt := 9) hx hb dX10_behind_1 (by decide) (fun c1 => ?_) (fun c1 => ?_)
  · have hf := (if_pos c1).symm.trans hf
    refine lv_bipush (v := -2) hx hb dX10_behind_9 (by decide) ?_
    exact k_iret (v := (-2 : Int32)) (u := u_telling) hx hb hr hlocks hK hS eQ hf hP hD dX10_behind_11
  · have hf := (if_neg c1).symm.trans hf
    refine lv_iload_n hx hb dX10_behind_4 rfl (lv_at hl 1 rfl) ?_
    refine lv_iconst (v := 2) hx hb dX10_behind_5 (by decide) ?_
    refine lv_icmp_le (tgt := 12) hx hb dX10_behind_6 (by decide) (fun c2 => ?_) (fun c2 => ?_)
    · have hf := (if_pos c2).symm.trans hf
      refine lv_aload_n hx hb dX10_behind_12 rfl (lv_at hl 0 rfl) ?_
      obtain ⟨z3, hz_z3, hf⟩ := o_bind hf
      refine k_calli (va_runV (As := []) (rest := []) ⟨hx, hb, hml, hown, hts⟩ (c_X10_refuseEvening l D cI cZ th0 th1 th2 th3 th4 th5 th6 th7 th8 th9 wheel1 wheel2 wheel3 wheel4 pad1 telling1 telling2 telling3 telling4 telling5 H.size u_wheel u_pad u_telling z3 hz_z3) (cwV 0 hts gX10_behind_X10_refuseEvening rfl rfl rfl ⟨rfl, hd_X10_refuseEvening⟩ ⟨Nat.le_of_ble_eq_true rfl, Nat.le_of_ble_eq_true rfl⟩) (k_preV hK hP hD hS hA hE [0, 1, 2, 3, 4, 5, 6, 7, 8, 9, 10, 11, 12, 13] (by decide) rfl (ci := 7) rfl rfl) rfl rfl hl.1 rfl (lv_room (Nat.le_of_ble_eq_true rfl)) dX10_behind_13 ⟨Nat.zero_le _, Nat.zero_le _⟩) hP hD hS hA [0, 1, 2, 3, 4, 5, 6, 7, 8, 9, 10, 11, 12, 13] [some 0, some 1, some 2, some 3, some 4, some 5, some 6, some 7, some 8, some 9, some 10, some 11, some 12, some 13] 14 rfl (by decide) (by decide) rfl rfl (fun H locs hP hD hS => ?_)
      have hP : va_P D vwCl (ceX th0 th1 th2 th3 th4 th5 th6 th7 th8 th9 ++ (ceW cI cZ th1 wheel1 wheel2 wheel3 wheel4 u_wheel ++ (ceP cI cZ th3 pad1 u_pad ++ (ceT cI cZ th5 telling1 telling2 telling3 telling4 telling5 z3.2)))) H := hP
      have hD : va_D A (ceX th0 th1 th2 th3 th4 th5 th6 th7 th8 th9 ++ (ceW cI cZ th1 wheel1 wheel2 wheel3 wheel4 u_wheel ++ (ceP cI cZ th3 pad1 u_pad ++ (ceT cI cZ th5 telling1 telling2 telling3 telling4 telling5 z3.2)))) := hD
      refine lv_istore_n (lv' := [(2, .int z3.1), (0, .ref th0), (1, .int p1)]) hx hb dX10_behind_16 rfl hl (by decide) rfl (fun ls hl => ?_)
      refine lv_iload_n hx hb dX10_behind_17 rfl (lv_at hl 0 rfl) ?_
      refine lv_if_eq (tgt := 23) hx hb dX10_behind_18 (by decide) (fun c4 => ?_) (fun c4 => ?_)
      · have hf := (if_pos c4).symm.trans hf
        refine lv_iload_n hx hb dX10_behind_23 rfl (lv_at hl 2 rfl) ?_
        refine lv_if_ne (tgt := 38) hx hb dX10_behind_24 (by decide) (fun c5 => ?_) (fun c5 => ?_)
        · have hf := (if_neg c5).symm.trans hf
          refine lv_iload_n hx hb dX10_behind_38 rfl (lv_at hl 2 rfl) ?_
          refine lv_iconst (v := 1) hx hb dX10_behind_39 (by decide) ?_
          refine lv_icmp_ne (tgt := 59) hx hb dX10_behind_40 (by decide) (fun c6 => ?_) (fun c6 => ?_)
          · have hf := (if_neg c6).symm.trans hf
            refine lv_aload_n hx hb dX10_behind_59 rfl (lv_at hl 1 rfl) ?_
            refine va_get (D := D) (ci := 7) (v := .ref th5) (C := RX10) (T := TX10) (N := 9) hx hb hts hi_X10 hown hK hP 0 rfl rfl 4 (by decide) (hts (.fieldLink RX10 36 "FairWheel" "telling" "LFairWheel$Telling;") (List.mem_of_getElem? (i := 1) rfl)) (fun _ h9 => h9) rfl dX10_behind_60 ?_
            obtain ⟨z7, hz_z7, hf⟩ := o_bind hf
            refine k_calli (va_runV (As := []) (rest := []) ⟨hx, hb, hml, hown, hts⟩ (c_X7_turned l D cI cZ th5 telling1 telling2 telling3 telling4 telling5 H.size z3.2 z7 hz_z7) (cwV 0 hts gX10_behind_X7_turned rfl rfl rfl ⟨rfl, hd_X7_turned⟩ ⟨Nat.le_of_ble_eq_true rfl, Nat.le_of_ble_eq_true rfl⟩) (k_preV hK hP hD hS hA hE [8, 9, 10, 11, 12, 13] (by decide) rfl (ci := 4) rfl rfl) rfl rfl hl.1 rfl (lv_room (Nat.le_of_ble_eq_true rfl)) dX10_behind_63 ⟨Nat.zero_le _, Nat.zero_le _⟩) hP hD hS hA [8, 9, 10, 11, 12, 13] [none, none, none, none, none, none, none, none, some 0, some 1, some 2, some 3, some 4, some 5] 6 rfl (by decide) (by decide) rfl rfl (fun H locs hP hD hS => ?_)
            have hP : va_P D vwCl (ceX th0 th1 th2 th3 th4 th5 th6 th7 th8 th9 ++ (ceW cI cZ th1 wheel1 wheel2 wheel3 wheel4 u_wheel ++ (ceP cI cZ th3 pad1 u_pad ++ (ceT cI cZ th5 telling1 telling2 telling3 telling4 telling5 z3.2)))) H := hP
            have hD : va_D A (ceX th0 th1 th2 th3 th4 th5 th6 th7 th8 th9 ++ (ceW cI cZ th1 wheel1 wheel2 wheel3 wheel4 u_wheel ++ (ceP cI cZ th3 pad1 u_pad ++ (ceT cI cZ th5 telling1 telling2 telling3 telling4 telling5 z3.2)))) := hD
            refine lv_sipush (v := 1000) hx hb dX10_behind_66 (by decide) ?_
            refine lv_iadd hx hb dX10_behind_69 ?_
            exact k_iret (v := (z7.1 + (1000 : Int32))) (u := z3.2) hx hb hr hlocks hK hS eQ hf hP hD dX10_behind_70
          · have hf := (if_pos c6).symm.trans hf
            refine lv_aload_n hx hb dX10_behind_43 rfl (lv_at hl 1 rfl) ?_
            refine va_get (D := D) (ci := 7) (v := .ref th5) (C := RX10) (T := TX10) (N := 9) hx hb hts hi_X10 hown hK hP 0 rfl rfl 4 (by decide) (hts (.fieldLink RX10 36 "FairWheel" "telling" "LFairWheel$Telling;") (List.mem_of_getElem? (i := 1) rfl)) (fun _ h9 => h9) rfl dX10_behind_44 ?_
            refine k_callr (va_runV (As := []) (rest := []) ⟨hx, hb, hml, hown, hts⟩ (c_X7_wheel l D cI cZ th5 telling1 telling2 telling3 telling4 telling5 H.size z3.2) (cwV 0 hts gX10_behind_X7_wheel rfl rfl rfl ⟨rfl, hd_X7_wheel⟩ ⟨Nat.le_of_ble_eq_true rfl, Nat.le_of_ble_eq_true rfl⟩) (k_preV hK hP hD hS hA hE [8, 9, 10, 11, 12, 13] (by decide) rfl (ci := 4) rfl rfl) rfl rfl hl.1 rfl (lv_room (Nat.le_of_ble_eq_true rfl)) dX10_behind_47 ⟨Nat.zero_le _, Nat.zero_le _⟩) hP hD hS hA [8, 9, 10, 11, 12, 13] [none, none, none, none, none, none, none, none, some 0, some 1, some 2, some 3, some 4, some 5] 6 rfl (by decide) (by decide) rfl rfl (fun H locs hP hD hS => ?_)
            have hP : va_P D vwCl (ceX th0 th1 th2 th3 th4 th5 th6 th7 th8 th9 ++ (ceW cI cZ th1 wheel1 wheel2 wheel3 wheel4 u_wheel ++ (ceP cI cZ th3 pad1 u_pad ++ (ceT cI cZ th5 telling1 telling2 telling3 telling4 telling5 z3.2)))) H := hP
            have hD : va_D A (ceX th0 th1 th2 th3 th4 th5 th6 th7 th8 th9 ++ (ceW cI cZ th1 wheel1 wheel2 wheel3 wheel4 u_wheel ++ (ceP cI cZ th3 pad1 u_pad ++ (ceT cI cZ th5 telling1 telling2 telling3 telling4 telling5 z3.2)))) := hD
            obtain ⟨z9, hz_z9, hf⟩ := o_bind hf
            refine k_calli (va_runV (As := []) (rest := []) ⟨hx, hb, hml, hown, hts⟩ (c_X9_pullNow l D cI cZ telling1 telling2 telling3 telling4 telling5 H.size (T_wheel z3.2) z9 hz_z9) (cwV 0 hts gX10_behind_X9_pullNow rfl rfl rfl ⟨rfl, hd_X9_pullNow⟩ ⟨Nat.le_of_ble_eq_true rfl, Nat.le_of_ble_eq_true rfl⟩) (k_preV hK hP hD hS hA hE [9, 10, 11, 12, 13] (by decide) rfl (ci := 6) rfl rfl) rfl rfl hl.1 rfl (lv_room (Nat.le_of_ble_eq_true rfl)) dX10_behind_50 ⟨Nat.zero_le _, Nat.zero_le _⟩) hP hD hS hA [9, 10, 11, 12, 13] [none, none, none, none, none, none, none, none, none, some 0, some 1, some 2, some 3, some 4] 5 rfl (by decide) (by decide) rfl rfl (fun H locs hP hD hS => ?_)
            have hP : va_P D vwCl (ceX th0 th1 th2 th3 th4 th5 th6 th7 th8 th9 ++ (ceW cI cZ th1 wheel1 wheel2 wheel3 wheel4 u_wheel ++ (ceP cI cZ th3 pad1 u_pad ++ (ceT cI cZ th5 telling1 telling2 telling3 telling4 telling5 z3.2)))) H := hP
            have hD : va_D A (ceX th0 th1 th2 th3 th4 th5 th6 th7 th8 th9 ++ (ceW cI cZ th1 wheel1 wheel2 wheel3 wheel4 u_wheel ++ (ceP cI cZ th3 pad1 u_pad ++ (ceT cI cZ th5 telling1 telling2 telling3 telling4 telling5 z3.2)))) := hD
            refine lv_ldc hx hb hown (hts (.constant RX10 137 (1000000)) (List.mem_of_getElem? (i := 2) rfl)) dX10_behind_53 ?_
            refine lv_iadd hx hb dX10_behind_55 ?_
            refine lv_goto (tgt := 70) hx hb dX10_behind_56 (by decide) ?_
            exact k_iret (v := (z9.1 + (1000000 : Int32))) (u := z3.2) hx hb hr hlocks hK hS eQ hf hP hD dX10_behind_70
        · have hf := (if_pos c5).symm.trans hf
          refine lv_aload_n hx hb dX10_behind_27 rfl (lv_at hl 1 rfl) ?_
          refine va_get (D := D) (ci := 7) (v := .ref th5) (C := RX10) (T := TX10) (N := 9) hx hb hts hi_X10 hown hK hP 0 rfl rfl 4 (by decide) (hts (.fieldLink RX10 36 "FairWheel" "telling" "LFairWheel$Telling;") (List.mem_of_getElem? (i := 1) rfl)) (fun _ h9 => h9) rfl dX10_behind_28 ?_
          refine k_callr (va_runV (As := []) (rest := []) ⟨hx, hb, hml, hown, hts⟩ (c_X7_wheel l D cI cZ th5 telling1 telling2 telling3 telling4 telling5 H.size z3.2) (cwV 0 hts gX10_behind_X7_wheel rfl rfl rfl ⟨rfl, hd_X7_wheel⟩ ⟨Nat.le_of_ble_eq_true rfl, Nat.le_of_ble_eq_true rfl⟩) (k_preV hK hP hD hS hA hE [8, 9, 10, 11, 12, 13] (by decide) rfl (ci := 4) rfl rfl) rfl rfl hl.1 rfl (lv_room (Nat.le_of_ble_eq_true rfl)) dX10_behind_31 ⟨Nat.zero_le _, Nat.zero_le _⟩) hP hD hS hA [8, 9, 10, 11, 12, 13] [none, none, none, none, none, none, none, none, some 0, some 1, some 2, some 3, some 4, some 5] 6 rfl (by decide) (by decide) rfl rfl (fun H locs hP hD hS => ?_)
          have hP : va_P D vwCl (ceX th0 th1 th2 th3 th4 th5 th6 th7 th8 th9 ++ (ceW cI cZ th1 wheel1 wheel2 wheel3 wheel4 u_wheel ++ (ceP cI cZ th3 pad1 u_pad ++ (ceT cI cZ th5 telling1 telling2 telling3 telling4 telling5 z3.2)))) H := hP
          have hD : va_D A (ceX th0 th1 th2 th3 th4 th5 th6 th7 th8 th9 ++ (ceW cI cZ th1 wheel1 wheel2 wheel3 wheel4 u_wheel ++ (ceP cI cZ th3 pad1 u_pad ++ (ceT cI cZ th5 telling1 telling2 telling3 telling4 telling5 z3.2)))) := hD
          obtain ⟨z11, hz_z11, hf⟩ := o_bind hf
          refine k_calli (va_runV (As := []) (rest := []) ⟨hx, hb, hml, hown, hts⟩ (c_X9_lowest l D cI cZ telling1 telling2 telling3 telling4 telling5 H.size (T_wheel z3.2) z11 hz_z11) (cwV 0 hts gX10_behind_X9_lowest rfl rfl rfl ⟨rfl, hd_X9_lowest⟩ ⟨Nat.le_of_ble_eq_true rfl, Nat.le_of_ble_eq_true rfl⟩) (k_preV hK hP hD hS hA hE [9, 10, 11, 12, 13] (by decide) rfl (ci := 6) rfl rfl) rfl rfl hl.1 rfl (lv_room (Nat.le_of_ble_eq_true rfl)) dX10_behind_34 ⟨Nat.zero_le _, Nat.zero_le _⟩) hP hD hS hA [9, 10, 11, 12, 13] [none, none, none, none, none, none, none, none, none, some 0, some 1, some 2, some 3, some 4] 5 rfl (by decide) (by decide) rfl rfl (fun H locs hP hD hS => ?_)
          have hP : va_P D vwCl (ceX th0 th1 th2 th3 th4 th5 th6 th7 th8 th9 ++ (ceW cI cZ th1 wheel1 wheel2 wheel3 wheel4 u_wheel ++ (ceP cI cZ th3 pad1 u_pad ++ (ceT cI cZ th5 telling1 telling2 telling3 telling4 telling5 z3.2)))) H := hP
          have hD : va_D A (ceX th0 th1 th2 th3 th4 th5 th6 th7 th8 th9 ++ (ceW cI cZ th1 wheel1 wheel2 wheel3 wheel4 u_wheel ++ (ceP cI cZ th3 pad1 u_pad ++ (ceT cI cZ th5 telling1 telling2 telling3 telling4 telling5 z3.2)))) := hD
          exact k_iret (v := z11.1) (u := z3.2) hx hb hr hlocks hK hS eQ hf hP hD dX10_behind_37
      · have hf := (if_neg c4).symm.trans hf
        refine lv_iload_n hx hb dX10_behind_21 rfl (lv_at hl 0 rfl) ?_
        exact k_iret (v := z3.1) (u := z3.2) hx hb hr hlocks hK hS eQ hf hP hD dX10_behind_22
    · have hf := (if_neg c2).symm.trans hf
      refine lv_bipush (v := -2) hx hb dX10_behind_9 (by decide) ?_
      exact k_iret (v := (-2 : Int32)) (u := u_telling) hx hb hr hlocks hK hS eQ hf hP hD dX10_behind_11
theorem hd_X10_leftOut : yX10_leftOut.cls ≠ "java/lang/invoke/MethodHandle" ∧ yX10_leftOut.cls ≠ "java/lang/invoke/VarHandle" ∧ (parseMethodDescriptor yX10_leftOut.desc).map (fun d => d.parameters.length) = some 1 := by decide +kernel
set_option maxHeartbeats 4000000 in
set_option maxRecDepth 100000 in
theorem c_X10_leftOut (l : Launch) (D : va_G) (cI cZ : ClassId) (th0 : Nat) (th1 : Nat) (th2 : Nat) (th3 : Nat) (th4 : Nat) (th5 : Nat) (th6 : Nat) (th7 : Nat) (th8 : Nat) (th9 : Nat) (wheel1 : Nat) (wheel2 : Nat) (wheel3 : Nat) (wheel4 : Nat) (pad1 : Nat) (telling1 : Nat) (telling2 : Nat) (telling3 : Nat) (telling4 : Nat) (telling5 : Nat) (sz : Nat) (u_wheel : sW) (u_pad : sP) (u_telling : sT) (p1 : Int32) (z : Int32 × sT) (hf : f_X10_leftOut u_wheel u_pad u_telling p1 = some z) : Met l yX10_leftOut wsX10_leftOut rmX10_leftOut (va_Pc [.ref th0, .int p1] (wPr D cI cZ (ceX th0 th1 th2 th3 th4 th5 th6 th7 th8 th9 ++ (ceW cI cZ th1 wheel1 wheel2 wheel3 wheel4 u_wheel ++ (ceP cI cZ th3 pad1 u_pad ++ (ceT cI cZ th5 telling1 telling2 telling3 telling4 telling5 u_telling)))) sz)) (va_Qi (fun (r : Int32) (v : sT) => (r, v) = z) (fun (v : sT) t => wPo D cI cZ (va_A (ceX th0 th1 th2 th3 th4 th5 th6 th7 th8 th9 ++ (ceW cI cZ th1 wheel1 wheel2 wheel3 wheel4 u_wheel ++ (ceP cI cZ th3 pad1 u_pad ++ (ceT cI cZ th5 telling1 telling2 telling3 telling4 telling5 u_telling)))) sz) (ceX th0 th1 th2 th3 th4 th5 th6 th7 th8 th9 ++ (ceW cI cZ th1 wheel1 wheel2 wheel3 wheel4 u_wheel ++ (ceP cI cZ th3 pad1 u_pad ++ (ceT cI cZ th5 telling1 telling2 telling3 telling4 telling5 v)))) t) (va_A (ceX th0 th1 th2 th3 th4 th5 th6 th7 th8 th9 ++ (ceW cI cZ th1 wheel1 wheel2 wheel3 wheel4 u_wheel ++ (ceP cI cZ th3 pad1 u_pad ++ (ceT cI cZ th5 telling1 telling2 telling3 telling4 telling5 u_telling)))) sz)) 0 0 (va_A (ceX th0 th1 th2 th3 th4 th5 th6 th7 th8 th9 ++ (ceW cI cZ th1 wheel1 wheel2 wheel3 wheel4 u_wheel ++ (ceP cI cZ th3 pad1 u_pad ++ (ceT cI cZ th5 telling1 telling2 telling3 telling4 telling5 u_telling)))) sz) := by
  refine k_enter (D := D) (cI := cI) (cZ := cZ) (wl := ceX th0 th1 th2 th3 th4 th5 th6 th7 th8 th9 ++ (ceW cI cZ th1 wheel1 wheel2 wheel3 wheel4 u_wheel ++ (ceP cI cZ th3 pad1 u_pad ++ (ceT cI cZ th5 telling1 telling2 telling3 telling4 telling5 u_telling)))) (sz := sz) (av := [.ref th0, .int p1]) (cc := cX10_leftOut) (maxL := 6) (ret := (some .int)) (Qc := fun A => va_Qi (fun (r : Int32) (v : sT) => (r, v) = z) (fun (v : sT) t => wPo D cI cZ (A) (ceX th0 th1 th2 th3 th4 th5 th6 th7 th8 th9 ++ (ceW cI cZ th1 wheel1 wheel2 wheel3 wheel4 u_wheel ++ (ceP cI cZ th3 pad1 u_pad ++ (ceT cI cZ th5 telling1 telling2 telling3 telling4 telling5 v)))) t) (A)) (by decide) rfl (Nat.le_of_ble_eq_true rfl) ?_
  intro p e s m below meth c ls A Q H locs eQ hx hb hr hml hts hown hlocks hK hP hD hS hA hE hl
  have hown : s.vm.findClass RX10 = some m.cls := hown
  have hl : lv_has ls 6 [(0, .ref th0), (1, .int p1)] := hl
  have hi_X10 : ∀ w ∈ wsX100, w ∈ wsX10_leftOut := fun w h => List.mem_cons_of_mem _ (List.mem_append_left _ (List.mem_append_left _ (List.mem_append_left _ (List.mem_append_right _ h))))
  have hL28 : ∀ (n : Nat), ∀ (v1 : Int32) (v3 : Int32) (v4 : Int32) (v5 : Int32) (u_telling : sT) (H : Heap) (locs : List Loc) (ls : Array Slot), lv_has ls 6 [(0, .ref th0), (1, .int v1), (3, .int v3), (4, .int v4), (5, .int v5)] → va_P D vwCl (ceX th0 th1 th2 th3 th4 th5 th6 th7 th8 th9 ++ (ceW cI cZ th1 wheel1 wheel2 wheel3 wheel4 u_wheel ++ (ceP cI cZ th3 pad1 u_pad ++ (ceT cI cZ th5 telling1 telling2 telling3 telling4 telling5 u_telling)))) H → va_D A (ceX th0 th1 th2 th3 th4 th5 th6 th7 th8 th9 ++ (ceW cI cZ th1 wheel1 wheel2 wheel3 wheel4 u_wheel ++ (ceP cI cZ th3 pad1 u_pad ++ (ceT cI cZ th5 telling1 telling2 telling3 telling4 telling5 u_telling)))) → va_S A s.heap H locs → f_X10_leftOut_L28 u_wheel u_pad n v1 v3 v4 v5 u_telling = some z → W p l e (headSpec wsX10_leftOut rmX10_leftOut).room s m ([.ref th0, .int p1] : List Value).toArray below meth c H locs 0 0 Q (F0 m 28 ls []) := by
    intro n
    induction n with
    | zero =>
      intro v1 v3 v4 v5 u_telling H locs ls hl hP hD hS hf
      exact absurd (show (none : Option (Int32 × sT)) = some z from hf) (fun h => by cases h)
    | succ n ih =>
      intro v1 v3 v4 v5 u_telling H locs ls hl hP hD hS hf
      rw [f_X10_leftOut_L28] at hf
      refine lv_iload hx hb dX10_leftOut_28 (lv_at hl 4 rfl) ?_
      refine lv_aload_n hx hb dX10_leftOut_30 rfl (lv_at hl 0 rfl) ?_
      refine va_get (D := D) (ci := 7) (v := .ref th3) (C := RX10) (T := TX10) (N := 9) hx hb hts hi_X10 hown hK hP 0 rfl rfl 2 (by decide) (hts (.fieldLink RX10 22 "FairWheel" "pad" "LFairWheel$Pad;") (List.mem_of_getElem? (i := 2) rfl)) (fun _ h9 => h9) rfl dX10_leftOut_31 ?_
      obtain ⟨z5, hz_z5, hf⟩ := o_bind hf
      refine k_calli (va_runV (As := []) (rest := [.int v5]) ⟨hx, hb, hml, hown, hts⟩ (c_X4_length l D cI cZ th3 pad1 H.size u_pad z5 hz_z5) (cwV 0 hts gX10_leftOut_X4_length rfl rfl rfl ⟨rfl, hd_X4_length⟩ ⟨Nat.le_of_ble_eq_true rfl, Nat.le_of_ble_eq_true rfl⟩) (k_preV hK hP hD hS hA hE [6, 7] (by decide) rfl (ci := 1) rfl rfl) rfl rfl hl.1 rfl (lv_room (Nat.le_of_ble_eq_true rfl)) dX10_leftOut_34 ⟨Nat.zero_le _, Nat.zero_le _⟩) hP hD hS hA [6, 7] [none, none, none, none, none, none, some 0, some 1, none, none, none, none, none, none] 2 rfl (by decide) (by decide) rfl rfl (fun H locs hP hD hS => ?_)
      have hP : va_P D vwCl (ceX th0 th1 th2 th3 th4 th5 th6 th7 th8 th9 ++ (ceW cI cZ th1 wheel1 wheel2 wheel3 wheel4 u_wheel ++ (ceP cI cZ th3 pad1 u_pad ++ (ceT cI cZ th5 telling1 telling2 telling3 telling4 telling5 u_telling)))) H := hP
      have hD : va_D A (ceX th0 th1 th2 th3 th4 th5 th6 th7 th8 th9 ++ (ceW cI cZ th1 wheel1 wheel2 wheel3 wheel4 u_wheel ++ (ceP cI cZ th3 pad1 u_pad ++ (ceT cI cZ th5 telling1 telling2 telling3 telling4 telling5 u_telling)))) := hD
      refine lv_icmp_ge (tgt := 68) hx hb dX10_leftOut_37 (by decide) (fun c6 => ?_) (fun c6 => ?_)
      · have hf := (if_pos c6).symm.trans hf
        refine lv_iload_n hx hb dX10_leftOut_68 rfl (lv_at hl 1 rfl) ?_
        refine lv_iconst (v := -1) hx hb dX10_leftOut_69 (by decide) ?_
        refine lv_icmp_ne (tgt := 78) hx hb dX10_leftOut_70 (by decide) (fun c7 => ?_) (fun c7 => ?_)
        · have hf := (if_neg c7).symm.trans hf
          refine lv_bipush (v := -6) hx hb dX10_leftOut_78 (by decide) ?_
          exact k_iret (v := (-6 : Int32)) (u := u_telling) hx hb hr hlocks hK hS eQ hf hP hD dX10_leftOut_80
        · have hf := (if_pos c7).symm.trans hf
          refine lv_iload hx hb dX10_leftOut_73 (lv_at hl 3 rfl) ?_
          refine lv_goto (tgt := 80) hx hb dX10_leftOut_75 (by decide) ?_
          exact k_iret (v := v4) (u := u_telling) hx hb hr hlocks hK hS eQ hf hP hD dX10_leftOut_80
      · have hf := (if_neg c6).symm.trans hf
        refine lv_aload_n hx hb dX10_leftOut_40 rfl (lv_at hl 0 rfl) ?_
        refine lv_iload hx hb dX10_leftOut_41 (lv_at hl 4 rfl) ?_
        refine lv_iload_n hx hb dX10_leftOut_43 rfl (lv_at hl 2 rfl) ?_
        obtain ⟨z8, hz_z8, hf⟩ := o_bind hf
        refine k_calli (va_runV (As := [.int v5, .int v3]) (rest := []) ⟨hx, hb, hml, hown, hts⟩ (c_X10_canBeLeftOut l D cI cZ th0 th1 th2 th3 th4 th5 th6 th7 th8 th9 wheel1 wheel2 wheel3 wheel4 pad1 telling1 telling2 telling3 telling4 telling5 H.size u_wheel u_pad u_telling v5 v3 z8 hz_z8) (cwV 2 hts gX10_leftOut_X10_canBeLeftOut rfl rfl rfl ⟨rfl, hd_X10_canBeLeftOut⟩ ⟨Nat.le_of_ble_eq_true rfl, Nat.le_of_ble_eq_true rfl⟩) (k_preV hK hP hD hS hA hE [0, 1, 2, 3, 4, 5, 6, 7, 8, 9, 10, 11, 12, 13] (by decide) rfl (ci := 7) rfl rfl) rfl rfl hl.1 rfl (lv_room (Nat.le_of_ble_eq_true rfl)) dX10_leftOut_44 ⟨Nat.zero_le _, Nat.zero_le _⟩) hP hD hS hA [0, 1, 2, 3, 4, 5, 6, 7, 8, 9, 10, 11, 12, 13] [some 0, some 1, some 2, some 3, some 4, some 5, some 6, some 7, some 8, some 9, some 10, some 11, some 12, some 13] 14 rfl (by decide) (by decide) rfl rfl (fun H locs hP hD hS => ?_)
        have hP : va_P D vwCl (ceX th0 th1 th2 th3 th4 th5 th6 th7 th8 th9 ++ (ceW cI cZ th1 wheel1 wheel2 wheel3 wheel4 u_wheel ++ (ceP cI cZ th3 pad1 u_pad ++ (ceT cI cZ th5 telling1 telling2 telling3 telling4 telling5 z8.2)))) H := hP
        have hD : va_D A (ceX th0 th1 th2 th3 th4 th5 th6 th7 th8 th9 ++ (ceW cI cZ th1 wheel1 wheel2 wheel3 wheel4 u_wheel ++ (ceP cI cZ th3 pad1 u_pad ++ (ceT cI cZ th5 telling1 telling2 telling3 telling4 telling5 z8.2)))) := hD
        refine lv_if_eq (tgt := 62) hx hb dX10_leftOut_47 (by decide) (fun c9 => ?_) (fun c9 => ?_)
        · have hf := (if_pos c9).symm.trans hf
          refine lv_iinc (v := (v5 + (1 : Int32))) (lv' := [(5, .int (v5 + (1 : Int32))), (0, .ref th0), (1, .int v1), (3, .int v3), (4, .int v4)]) hx hb dX10_leftOut_62 hl (k := 4) rfl rfl (by decide) rfl (fun ls hl => ?_)
          refine lv_goto (tgt := 28) hx hb dX10_leftOut_65 (by decide) ?_
          exact ih v1 v3 v4 (v5 + (1 : Int32)) z8.2 _ _ ls (lv_sub hl [1, 2, 3, 4, 0] rfl) hP hD hS hf
        · have hf := (if_neg c9).symm.trans hf
          refine lv_iload hx hb dX10_leftOut_50 (lv_at hl 3 rfl) ?_
          refine lv_iload_n hx hb dX10_leftOut_52 rfl (lv_at hl 1 rfl) ?_
          refine lv_icmp_ne (tgt := 59) hx hb dX10_leftOut_53 (by decide) (fun c10 => ?_) (fun c10 => ?_)
          · have hf := (if_neg c10).symm.trans hf
            refine lv_iinc (v := (v4 + (1 : Int32))) (lv' := [(4, .int (v4 + (1 : Int32))), (0, .ref th0), (1, .int v1), (3, .int v3), (5, .int v5)]) hx hb dX10_leftOut_59 hl (k := 3) rfl rfl (by decide) rfl (fun ls hl => ?_)
            refine lv_iinc (v := (v5 + (1 : Int32))) (lv' := [(5, .int (v5 + (1 : Int32))), (4, .int (v4 + (1 : Int32))), (0, .ref th0), (1, .int v1), (3, .int v3)]) hx hb dX10_leftOut_62 hl (k := 4) rfl rfl (by decide) rfl (fun ls hl => ?_)
            refine lv_goto (tgt := 28) hx hb dX10_leftOut_65 (by decide) ?_
            exact ih v1 v3 (v4 + (1 : Int32)) (v5 + (1 : Int32)) z8.2 _ _ ls (lv_sub hl [2, 3, 4, 1, 0] rfl) hP hD hS hf
          · have hf := (if_pos c10).symm.trans hf
            refine lv_iload hx hb dX10_leftOut_56 (lv_at hl 4 rfl) ?_
            exact k_iret (v := v5) (u := z8.2) hx hb hr hlocks hK hS eQ hf hP hD dX10_leftOut_58
  rw [f_X10_leftOut] at hf
  refine lv_aload_n hx hb dX10_leftOut_0 rfl (lv_at hl 0 rfl) ?_
  obtain ⟨z1, hz_z1, hf⟩ := o_bind hf
  refine k_calli (va_runV (As := []) (rest := []) ⟨hx, hb, hml, hown, hts⟩ (c_X10_refuseEvening l D cI cZ th0 th1 th2 th3 th4 th5 th6 th7 th8 th9 wheel1 wheel2 wheel3 wheel4 pad1 telling1 telling2 telling3 telling4 telling5 H.size u_wheel u_pad u_telling z1 hz_z1) (cwV 0 hts gX10_leftOut_X10_refuseEvening rfl rfl rfl ⟨rfl, hd_X10_refuseEvening⟩ ⟨Nat.le_of_ble_eq_true rfl, Nat.le_of_ble_eq_true rfl⟩) (k_preV hK hP hD hS hA hE [0, 1, 2, 3, 4, 5, 6, 7, 8, 9, 10, 11, 12, 13] (by decide) rfl (ci := 7) rfl rfl) rfl rfl hl.1 rfl (lv_room (Nat.le_of_ble_eq_true rfl)) dX10_leftOut_1 ⟨Nat.zero_le _, Nat.zero_le _⟩) hP hD hS hA [0, 1, 2, 3, 4, 5, 6, 7, 8, 9, 10, 11, 12, 13] [some 0, some 1, some 2, some 3, some 4, some 5, some 6, some 7, some 8, some 9, some 10, some 11, some 12, some 13] 14 rfl (by decide) (by decide) rfl rfl (fun H locs hP hD hS => ?_)
  have hP : va_P D vwCl (ceX th0 th1 th2 th3 th4 th5 th6 th7 th8 th9 ++ (ceW cI cZ th1 wheel1 wheel2 wheel3 wheel4 u_wheel ++ (ceP cI cZ th3 pad1 u_pad ++ (ceT cI cZ th5 telling1 telling2 telling3 telling4 telling5 z1.2)))) H := hP
  have hD : va_D A (ceX th0 th1 th2 th3 th4 th5 th6 th7 th8 th9 ++ (ceW cI cZ th1 wheel1 wheel2 wheel3 wheel4 u_wheel ++ (ceP cI cZ th3 pad1 u_pad ++ (ceT cI cZ th5 telling1 telling2 telling3 telling4 telling5 z1.2)))) := hD
  refine lv_istore_n (lv' := [(2, .int z1.1), (0, .ref th0), (1, .int p1)]) hx hb dX10_leftOut_4 rfl hl (by decide) rfl (fun ls hl => ?_)
  refine lv_iload_n hx hb dX10_leftOut_5 rfl (lv_at hl 0 rfl) ?_
  refine lv_if_eq (tgt := 11) hx hb dX10_leftOut_6 (by decide) (fun c2 => ?_) (fun c2 => ?_)
  · have hf := (if_pos c2).symm.trans hf
    refine lv_aload_n hx hb dX10_leftOut_11 rfl (lv_at hl 1 rfl) ?_
    refine va_get (D := D) (ci := 7) (v := .ref th5) (C := RX10) (T := TX10) (N := 9) hx hb hts hi_X10 hown hK hP 0 rfl rfl 4 (by decide) (hts (.fieldLink RX10 36 "FairWheel" "telling" "LFairWheel$Telling;") (List.mem_of_getElem? (i := 1) rfl)) (fun _ h9 => h9) rfl dX10_leftOut_12 ?_
    refine k_callr (va_runV (As := []) (rest := []) ⟨hx, hb, hml, hown, hts⟩ (c_X7_wheel l D cI cZ th5 telling1 telling2 telling3 telling4 telling5 H.size z1.2) (cwV 0 hts gX10_leftOut_X7_wheel rfl rfl rfl ⟨rfl, hd_X7_wheel⟩ ⟨Nat.le_of_ble_eq_true rfl, Nat.le_of_ble_eq_true rfl⟩) (k_preV hK hP hD hS hA hE [8, 9, 10, 11, 12, 13] (by decide) rfl (ci := 4) rfl rfl) rfl rfl hl.1 rfl (lv_room (Nat.le_of_ble_eq_true rfl)) dX10_leftOut_15 ⟨Nat.zero_le _, Nat.zero_le _⟩) hP hD hS hA [8, 9, 10, 11, 12, 13] [none, none, none, none, none, none, none, none, some 0, some 1, some 2, some 3, some 4, some 5] 6 rfl (by decide) (by decide) rfl rfl (fun H locs hP hD hS => ?_)
    have hP : va_P D vwCl (ceX th0 th1 th2 th3 th4 th5 th6 th7 th8 th9 ++ (ceW cI cZ th1 wheel1 wheel2 wheel3 wheel4 u_wheel ++ (ceP cI cZ th3 pad1 u_pad ++ (ceT cI cZ th5 telling1 telling2 telling3 telling4 telling5 z1.2)))) H := hP
    have hD : va_D A (ceX th0 th1 th2 th3 th4 th5 th6 th7 th8 th9 ++ (ceW cI cZ th1 wheel1 wheel2 wheel3 wheel4 u_wheel ++ (ceP cI cZ th3 pad1 u_pad ++ (ceT cI cZ th5 telling1 telling2 telling3 telling4 telling5 z1.2)))) := hD
    obtain ⟨z4, hz_z4, hf⟩ := o_bind hf
    refine k_calli (va_runV (As := []) (rest := []) ⟨hx, hb, hml, hown, hts⟩ (c_X9_lowest l D cI cZ telling1 telling2 telling3 telling4 telling5 H.size (T_wheel z1.2) z4 hz_z4) (cwV 0 hts gX10_leftOut_X9_lowest rfl rfl rfl ⟨rfl, hd_X9_lowest⟩ ⟨Nat.le_of_ble_eq_true rfl, Nat.le_of_ble_eq_true rfl⟩) (k_preV hK hP hD hS hA hE [9, 10, 11, 12, 13] (by decide) rfl (ci := 6) rfl rfl) rfl rfl hl.1 rfl (lv_room (Nat.le_of_ble_eq_true rfl)) dX10_leftOut_18 ⟨Nat.zero_le _, Nat.zero_le _⟩) hP hD hS hA [9, 10, 11, 12, 13] [none, none, none, none, none, none, none, none, none, some 0, some 1, some 2, some 3, some 4] 5 rfl (by decide) (by decide) rfl rfl (fun H locs hP hD hS => ?_)
    have hP : va_P D vwCl (ceX th0 th1 th2 th3 th4 th5 th6 th7 th8 th9 ++ (ceW cI cZ th1 wheel1 wheel2 wheel3 wheel4 u_wheel ++ (ceP cI cZ th3 pad1 u_pad ++ (ceT cI cZ th5 telling1 telling2 telling3 telling4 telling5 z1.2)))) H := hP
    have hD : va_D A (ceX th0 th1 th2 th3 th4 th5 th6 th7 th8 th9 ++ (ceW cI cZ th1 wheel1 wheel2 wheel3 wheel4 u_wheel ++ (ceP cI cZ th3 pad1 u_pad ++ (ceT cI cZ th5 telling1 telling2 telling3 telling4 telling5 z1.2)))) := hD
    refine lv_istore_n (lv' := [(3, .int z4.1), (2, .int z1.1), (0, .ref th0), (1, .int p1)]) hx hb dX10_leftOut_21 rfl hl (by decide) rfl (fun ls hl => ?_)
    refine lv_iconst (v := 0) hx hb dX10_leftOut_22 (by decide) ?_
    refine lv_istore (lv' := [(4, .int (0 : Int32)), (3, .int z4.1), (2, .int z1.1), (0, .ref th0), (1, .int p1)]) hx hb dX10_leftOut_23 hl (by decide) rfl (fun ls hl => ?_)
    refine lv_iconst (v := 0) hx hb dX10_leftOut_25 (by decide) ?_
    refine lv_istore (lv' := [(5, .int (0 : Int32)), (4, .int (0 : Int32)), (3, .int z4.1), (2, .int z1.1), (0, .ref th0), (1, .int p1)]) hx hb dX10_leftOut_26 hl (by decide) rfl (fun ls hl => ?_)
    exact hL28 oF p1 z4.1 (0 : Int32) (0 : Int32) z1.2 _ _ ls (lv_sub hl [4, 5, 2, 1, 0] rfl) hP hD hS hf
  · have hf := (if_neg c2).symm.trans hf
    refine lv_iload_n hx hb dX10_leftOut_9 rfl (lv_at hl 0 rfl) ?_
    exact k_iret (v := z1.1) (u := z1.2) hx hb hr hlocks hK hS eQ hf hP hD dX10_leftOut_10
