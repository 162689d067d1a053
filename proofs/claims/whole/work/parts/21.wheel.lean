theorem hd_X9_copyFrom : yX9_copyFrom.cls ≠ "java/lang/invoke/MethodHandle" ∧ yX9_copyFrom.cls ≠ "java/lang/invoke/VarHandle" ∧ (parseMethodDescriptor yX9_copyFrom.desc).map (fun d => d.parameters.length) = some 1 := by decide +kernel
set_option maxHeartbeats 4000000 in
set_option maxRecDepth 100000 in
theorem c_X9_copyFrom (l : Launch) (D : va_G) (cI cZ : ClassId) (th0 : Nat) (th1 : Nat) (th2 : Nat) (th3 : Nat) (th4 : Nat) (o10 : Nat) (o11 : Nat) (o12 : Nat) (o13 : Nat) (o14 : Nat) (sz : Nat) (u_th : sW) (u_o1 : sW) (z : sW) (hf : f_X9_copyFrom u_th u_o1 = some z) : Met l yX9_copyFrom wsX9_copyFrom rmX9_copyFrom (va_Pc [.ref th0, .ref o10] (wPr D cI cZ (ceW cI cZ th0 th1 th2 th3 th4 u_th ++ (ceW cI cZ o10 o11 o12 o13 o14 u_o1)) sz)) (va_Qv (fun (v : sW) => v = z) (fun (v : sW) t => wPo D cI cZ (va_A (ceW cI cZ th0 th1 th2 th3 th4 u_th ++ (ceW cI cZ o10 o11 o12 o13 o14 u_o1)) sz) (ceW cI cZ th0 th1 th2 th3 th4 v ++ (ceW cI cZ o10 o11 o12 o13 o14 u_o1)) t) (va_A (ceW cI cZ th0 th1 th2 th3 th4 u_th ++ (ceW cI cZ o10 o11 o12 o13 o14 u_o1)) sz)) 0 0 (va_A (ceW cI cZ th0 th1 th2 th3 th4 u_th ++ (ceW cI cZ o10 o11 o12 o13 o14 u_o1)) sz) := by
  refine k_enter (D := D) (cI := cI) (cZ := cZ) (wl := ceW cI cZ th0 th1 th2 th3 th4 u_th ++ (ceW cI cZ o10 o11 o12 o13 o14 u_o1)) (sz := sz) (av := [.ref th0, .ref o10]) (cc := cX9_copyFrom) (maxL := 2) (ret := none) (Qc := fun A => va_Qv (fun (v : sW) => v = z) (fun (v : sW) t => wPo D cI cZ (A) (ceW cI cZ th0 th1 th2 th3 th4 v ++ (ceW cI cZ o10 o11 o12 o13 o14 u_o1)) t) (A)) (by decide) rfl (Nat.le_of_ble_eq_true rfl) ?_
  intro p e s m below meth c ls A Q H locs eQ hx hb hr hml hts hown hlocks hK hP hD hS hA hE hl
  have hown : s.vm.findClass RX9 = some m.cls := hown
  have hl : lv_has ls 2 [(0, .ref th0), (1, .ref o10)] := hl
  have hi_X9 : ∀ w ∈ wsX90, w ∈ wsX9_copyFrom := fun w h => List.mem_cons_of_mem _ (List.mem_append_right _ h)
  rw [f_X9_copyFrom] at hf
  refine lv_aload_n hx hb dX9_copyFrom_0 rfl (lv_at hl 1 rfl) ?_
  refine va_get (D := D) (ci := 6) (v := .ref o11) (C := RX9) (T := TX9) (N := 6) hx hb hts hi_X9 hown hK hP 5 rfl rfl 0 (by decide) (hts (.fieldLink RX9 9 "FairWheel$Wheel" "weights" "[I") (List.mem_of_getElem? (i := 1) rfl)) (fun _ h9 => h9) rfl dX9_copyFrom_1 ?_
  refine lv_aload_n hx hb dX9_copyFrom_4 rfl (lv_at hl 0 rfl) ?_
  refine va_get (D := D) (ci := 6) (v := .ref th1) (C := RX9) (T := TX9) (N := 6) hx hb hts hi_X9 hown hK hP 0 rfl rfl 0 (by decide) (hts (.fieldLink RX9 9 "FairWheel$Wheel" "weights" "[I") (List.mem_of_getElem? (i := 1) rfl)) (fun _ h9 => h9) rfl dX9_copyFrom_5 ?_
  obtain ⟨z1, hz_z1, hf⟩ := o_bind hf
  refine k_callv (va_runSN (As := [.ref o11, .ref th1]) (rest := []) ⟨hx, hb, hml, hown, hts⟩ (c_X10_copyRow l D cI cZ o11 th1 H.size 8 8 (W_weights u_o1) (W_weights u_th) z1 hz_z1) ⟨va_cnB 2 hts gX9_copyFrom_X10_copyRow_n37 rfl rfl rfl (hE.1.1 (RX9, 37, yX10_copyRow) (List.mem_of_getElem? (i := 11) rfl)) (hts (.initialized RX10) (List.mem_of_getElem? (i := 8) rfl)) hd_X10_copyRow ⟨Nat.le_of_ble_eq_true rfl, Nat.le_of_ble_eq_true rfl⟩, hts (.static yX10_copyRow) (List.mem_of_getElem? (i := 7) rfl), trivial⟩ (k_preS hK hP hD hS hA hE [6, 1] (by decide) rfl) rfl rfl hl.1 rfl (lv_room (Nat.le_of_ble_eq_true rfl)) dX9_copyFrom_8 ⟨Nat.zero_le _, Nat.zero_le _⟩) hP hD hS hA [6, 1] [none, some 1, none, none, none, none, some 0, none, none, none] 2 rfl (by decide) (by decide) rfl rfl (fun H locs hP hD hS => ?_)
  have hP : va_P D vwCl (ceW cI cZ th0 th1 th2 th3 th4 (z1, (W_cars u_th), (W_riders u_th), (W_loads u_th), (W_lowest u_th), (W_friction u_th)) ++ (ceW cI cZ o10 o11 o12 o13 o14 u_o1)) H := hP
  have hD : va_D A (ceW cI cZ th0 th1 th2 th3 th4 (z1, (W_cars u_th), (W_riders u_th), (W_loads u_th), (W_lowest u_th), (W_friction u_th)) ++ (ceW cI cZ o10 o11 o12 o13 o14 u_o1)) := hD
  refine lv_aload_n hx hb dX9_copyFrom_11 rfl (lv_at hl 1 rfl) ?_
  refine va_get (D := D) (ci := 6) (v := .ref o12) (C := RX9) (T := TX9) (N := 6) hx hb hts hi_X9 hown hK hP 5 rfl rfl 1 (by decide) (hts (.fieldLink RX9 15 "FairWheel$Wheel" "cars" "[I") (List.mem_of_getElem? (i := 2) rfl)) (fun _ h9 => h9) rfl dX9_copyFrom_12 ?_
  refine lv_aload_n hx hb dX9_copyFrom_15 rfl (lv_at hl 0 rfl) ?_
  refine va_get (D := D) (ci := 6) (v := .ref th2) (C := RX9) (T := TX9) (N := 6) hx hb hts hi_X9 hown hK hP 0 rfl rfl 1 (by decide) (hts (.fieldLink RX9 15 "FairWheel$Wheel" "cars" "[I") (List.mem_of_getElem? (i := 2) rfl)) (fun _ h9 => h9) rfl dX9_copyFrom_16 ?_
  obtain ⟨z2, hz_z2, hf⟩ := o_bind hf
  refine k_callv (va_runSN (As := [.ref o12, .ref th2]) (rest := []) ⟨hx, hb, hml, hown, hts⟩ (c_X10_copyRow l D cI cZ o12 th2 H.size 8 8 (W_cars u_o1) (W_cars u_th) z2 hz_z2) ⟨va_cnB 2 hts gX9_copyFrom_X10_copyRow_n37 rfl rfl rfl (hE.1.1 (RX9, 37, yX10_copyRow) (List.mem_of_getElem? (i := 11) rfl)) (hts (.initialized RX10) (List.mem_of_getElem? (i := 8) rfl)) hd_X10_copyRow ⟨Nat.le_of_ble_eq_true rfl, Nat.le_of_ble_eq_true rfl⟩, hts (.static yX10_copyRow) (List.mem_of_getElem? (i := 7) rfl), trivial⟩ (k_preS hK hP hD hS hA hE [7, 2] (by decide) rfl) rfl rfl hl.1 rfl (lv_room (Nat.le_of_ble_eq_true rfl)) dX9_copyFrom_19 ⟨Nat.zero_le _, Nat.zero_le _⟩) hP hD hS hA [7, 2] [none, none, some 1, none, none, none, none, some 0, none, none] 2 rfl (by decide) (by decide) rfl rfl (fun H locs hP hD hS => ?_)
  have hP : va_P D vwCl (ceW cI cZ th0 th1 th2 th3 th4 (z1, z2, (W_riders u_th), (W_loads u_th), (W_lowest u_th), (W_friction u_th)) ++ (ceW cI cZ o10 o11 o12 o13 o14 u_o1)) H := hP
  have hD : va_D A (ceW cI cZ th0 th1 th2 th3 th4 (z1, z2, (W_riders u_th), (W_loads u_th), (W_lowest u_th), (W_friction u_th)) ++ (ceW cI cZ o10 o11 o12 o13 o14 u_o1)) := hD
  refine lv_aload_n hx hb dX9_copyFrom_22 rfl (lv_at hl 1 rfl) ?_
  refine va_get (D := D) (ci := 6) (v := .ref o13) (C := RX9) (T := TX9) (N := 6) hx hb hts hi_X9 hown hK hP 5 rfl rfl 2 (by decide) (hts (.fieldLink RX9 18 "FairWheel$Wheel" "riders" "[I") (List.mem_of_getElem? (i := 3) rfl)) (fun _ h9 => h9) rfl dX9_copyFrom_23 ?_
  refine lv_aload_n hx hb dX9_copyFrom_26 rfl (lv_at hl 0 rfl) ?_
  refine va_get (D := D) (ci := 6) (v := .ref th3) (C := RX9) (T := TX9) (N := 6) hx hb hts hi_X9 hown hK hP 0 rfl rfl 2 (by decide) (hts (.fieldLink RX9 18 "FairWheel$Wheel" "riders" "[I") (List.mem_of_getElem? (i := 3) rfl)) (fun _ h9 => h9) rfl dX9_copyFrom_27 ?_
  obtain ⟨z3, hz_z3, hf⟩ := o_bind hf
  refine k_callv (va_runSN (As := [.ref o13, .ref th3]) (rest := []) ⟨hx, hb, hml, hown, hts⟩ (c_X10_copyRow l D cI cZ o13 th3 H.size 8 8 (W_riders u_o1) (W_riders u_th) z3 hz_z3) ⟨va_cnB 2 hts gX9_copyFrom_X10_copyRow_n37 rfl rfl rfl (hE.1.1 (RX9, 37, yX10_copyRow) (List.mem_of_getElem? (i := 11) rfl)) (hts (.initialized RX10) (List.mem_of_getElem? (i := 8) rfl)) hd_X10_copyRow ⟨Nat.le_of_ble_eq_true rfl, Nat.le_of_ble_eq_true rfl⟩, hts (.static yX10_copyRow) (List.mem_of_getElem? (i := 7) rfl), trivial⟩ (k_preS hK hP hD hS hA hE [8, 3] (by decide) rfl) rfl rfl hl.1 rfl (lv_room (Nat.le_of_ble_eq_true rfl)) dX9_copyFrom_30 ⟨Nat.zero_le _, Nat.zero_le _⟩) hP hD hS hA [8, 3] [none, none, none, some 1, none, none, none, none, some 0, none] 2 rfl (by decide) (by decide) rfl rfl (fun H locs hP hD hS => ?_)
  have hP : va_P D vwCl (ceW cI cZ th0 th1 th2 th3 th4 (z1, z2, z3, (W_loads u_th), (W_lowest u_th), (W_friction u_th)) ++ (ceW cI cZ o10 o11 o12 o13 o14 u_o1)) H := hP
  have hD : va_D A (ceW cI cZ th0 th1 th2 th3 th4 (z1, z2, z3, (W_loads u_th), (W_lowest u_th), (W_friction u_th)) ++ (ceW cI cZ o10 o11 o12 o13 o14 u_o1)) := hD
  refine lv_aload_n hx hb dX9_copyFrom_33 rfl (lv_at hl 1 rfl) ?_
  refine va_get (D := D) (ci := 6) (v := .ref o14) (C := RX9) (T := TX9) (N := 6) hx hb hts hi_X9 hown hK hP 5 rfl rfl 3 (by decide) (hts (.fieldLink RX9 21 "FairWheel$Wheel" "loads" "[I") (List.mem_of_getElem? (i := 4) rfl)) (fun _ h9 => h9) rfl dX9_copyFrom_34 ?_
  refine lv_aload_n hx hb dX9_copyFrom_37 rfl (lv_at hl 0 rfl) ?_
  refine va_get (D := D) (ci := 6) (v := .ref th4) (C := RX9) (T := TX9) (N := 6) hx hb hts hi_X9 hown hK hP 0 rfl rfl 3 (by decide) (hts (.fieldLink RX9 21 "FairWheel$Wheel" "loads" "[I") (List.mem_of_getElem? (i := 4) rfl)) (fun _ h9 => h9) rfl dX9_copyFrom_38 ?_
  obtain ⟨z4, hz_z4, hf⟩ := o_bind hf
  refine k_callv (va_runSN (As := [.ref o14, .ref th4]) (rest := []) ⟨hx, hb, hml, hown, hts⟩ (c_X10_copyRow l D cI cZ o14 th4 H.size 8 8 (W_loads u_o1) (W_loads u_th) z4 hz_z4) ⟨va_cnB 2 hts gX9_copyFrom_X10_copyRow_n37 rfl rfl rfl (hE.1.1 (RX9, 37, yX10_copyRow) (List.mem_of_getElem? (i := 11) rfl)) (hts (.initialized RX10) (List.mem_of_getElem? (i := 8) rfl)) hd_X10_copyRow ⟨Nat.le_of_ble_eq_true rfl, Nat.le_of_ble_eq_true rfl⟩, hts (.static yX10_copyRow) (List.mem_of_getElem? (i := 7) rfl), trivial⟩ (k_preS hK hP hD hS hA hE [9, 4] (by decide) rfl) rfl rfl hl.1 rfl (lv_room (Nat.le_of_ble_eq_true rfl)) dX9_copyFrom_41 ⟨Nat.zero_le _, Nat.zero_le _⟩) hP hD hS hA [9, 4] [none, none, none, none, some 1, none, none, none, none, some 0] 2 rfl (by decide) (by decide) rfl rfl (fun H locs hP hD hS => ?_)
  have hP : va_P D vwCl (ceW cI cZ th0 th1 th2 th3 th4 (z1, z2, z3, z4, (W_lowest u_th), (W_friction u_th)) ++ (ceW cI cZ o10 o11 o12 o13 o14 u_o1)) H := hP
  have hD : va_D A (ceW cI cZ th0 th1 th2 th3 th4 (z1, z2, z3, z4, (W_lowest u_th), (W_friction u_th)) ++ (ceW cI cZ o10 o11 o12 o13 o14 u_o1)) := hD
  refine lv_aload_n hx hb dX9_copyFrom_44 rfl (lv_at hl 0 rfl) ?_
  refine lv_aload_n hx hb dX9_copyFrom_45 rfl (lv_at hl 1 rfl) ?_
  refine va_get (D := D) (ci := 6) (v := .int (W_lowest u_o1)) (C := RX9) (T := TX9) (N := 6) hx hb hts hi_X9 hown hK hP 5 rfl rfl 4 (by decide) (hts (.fieldLink RX9 24 "FairWheel$Wheel" "lowest" "I") (List.mem_of_getElem? (i := 5) rfl)) (fun _ h9 => h9) rfl dX9_copyFrom_46 ?_
  refine va_put (D := D) (ci := 6) (v := .int (W_lowest u_o1)) (ty := .int) (C := RX9) (T := TX9) (N := 6) hx hb hts hi_X9 tyX9 tyX9_ok nmX9 hown hK hP hD hS 0 rfl rfl 4 (by decide) (hts (.fieldLink RX9 24 "FairWheel$Wheel" "lowest" "I") (List.mem_of_getElem? (i := 5) rfl)) (fun _ h9 => h9) rfl (by decide +kernel) rfl rfl (Nat.le_of_ble_eq_true rfl) dX9_copyFrom_49 (fun H locs hP hD hS => ?_)
  have hP : va_P D vwCl (ceW cI cZ th0 th1 th2 th3 th4 (z1, z2, z3, z4, (W_lowest u_o1), (W_friction u_th)) ++ (ceW cI cZ o10 o11 o12 o13 o14 u_o1)) H := hP
  have hD : va_D A (ceW cI cZ th0 th1 th2 th3 th4 (z1, z2, z3, z4, (W_lowest u_o1), (W_friction u_th)) ++ (ceW cI cZ o10 o11 o12 o13 o14 u_o1)) := hD
  refine lv_aload_n hx hb dX9_copyFrom_52 rfl (lv_at hl 0 rfl) ?_
  refine lv_aload_n hx hb dX9_copyFrom_53 rfl (lv_at hl 1 rfl) ?_
  refine va_get (D := D) (ci := 6) (v := .int (W_friction u_o1)) (C := RX9) (T := TX9) (N := 6) hx hb hts hi_X9 hown hK hP 5 rfl rfl 5 (by decide) (hts (.fieldLink RX9 28 "FairWheel$Wheel" "friction" "I") (List.mem_of_getElem? (i := 6) rfl)) (fun _ h9 => h9) rfl dX9_copyFrom_54 ?_
  refine va_put (D := D) (ci := 6) (v := .int (W_friction u_o1)) (ty := .int) (C := RX9) (T := TX9) (N := 6) hx hb hts hi_X9 tyX9 tyX9_ok nmX9 hown hK hP hD hS 0 rfl rfl 5 (by decide) (hts (.fieldLink RX9 28 "FairWheel$Wheel" "friction" "I") (List.mem_of_getElem? (i := 6) rfl)) (fun _ h9 => h9) rfl (by decide +kernel) rfl rfl (Nat.le_of_ble_eq_true rfl) dX9_copyFrom_57 (fun H locs hP hD hS => ?_)
  have hP : va_P D vwCl (ceW cI cZ th0 th1 th2 th3 th4 (z1, z2, z3, z4, (W_lowest u_o1), (W_friction u_o1)) ++ (ceW cI cZ o10 o11 o12 o13 o14 u_o1)) H := hP
  have hD : va_D A (ceW cI cZ th0 th1 th2 th3 th4 (z1, z2, z3, z4, (W_lowest u_o1), (W_friction u_o1)) ++ (ceW cI cZ o10 o11 o12 o13 o14 u_o1)) := hD
  exact k_vret (u := (z1, z2, z3, z4, (W_lowest u_o1), (W_friction u_o1))) hx hb hr hlocks hK hS eQ hf hP hD dX9_copyFrom_60
theorem hd_X9_clear : yX9_clear.cls ≠ "java/lang/invoke/MethodHandle" ∧ yX9_clear.cls ≠ "java/lang/invoke/VarHandle" ∧ (parseMethodDescriptor yX9_clear.desc).map (fun d => d.parameters.length) = some 0 := by decide +kernel
set_option maxHeartbeats 4000000 in
set_option maxRecDepth 100000 in
theorem c_X9_clear (l : Launch) (D : va_G) (cI cZ : ClassId) (th0 : Nat) (th1 : Nat) (th2 : Nat) (th3 : Nat) (th4 : Nat) (sz : Nat) (u_th : sW) (z : sW) (hf : f_X9_clear u_th = some z) : Met l yX9_clear wsX9_clear rmX9_clear (va_Pc [.ref th0] (wPr D cI cZ (ceW cI cZ th0 th1 th2 th3 th4 u_th) sz)) (va_Qv (fun (v : sW) => v = z) (fun (v : sW) t => wPo D cI cZ (va_A (ceW cI cZ th0 th1 th2 th3 th4 u_th) sz) (ceW cI cZ th0 th1 th2 th3 th4 v) t) (va_A (ceW cI cZ th0 th1 th2 th3 th4 u_th) sz)) 0 0 (va_A (ceW cI cZ th0 th1 th2 th3 th4 u_th) sz) := by
  refine k_enter (D := D) (cI := cI) (cZ := cZ) (wl := ceW cI cZ th0 th1 th2 th3 th4 u_th) (sz := sz) (av := [.ref th0]) (cc := cX9_clear) (maxL := 1) (ret := none) (Qc := fun A => va_Qv (fun (v : sW) => v = z) (fun (v : sW) t => wPo D cI cZ (A) (ceW cI cZ th0 th1 th2 th3 th4 v) t) (A)) (by decide) rfl (Nat.le_of_ble_eq_true rfl) ?_
  intro p e s m below meth c ls A Q H locs eQ hx hb hr hml hts hown hlocks hK hP hD hS hA hE hl
  have hown : s.vm.findClass RX9 = some m.cls := hown
  have hl : lv_has ls 1 [(0, .ref th0)] := hl
  have hi_X9 : ∀ w ∈ wsX90, w ∈ wsX9_clear := fun w h => List.mem_cons_of_mem _ (List.mem_append_right _ h)
  rw [f_X9_clear] at hf
  refine lv_aload_n hx hb dX9_clear_0 rfl (lv_at hl 0 rfl) ?_
  refine va_get (D := D) (ci := 6) (v := .ref th2) (C := RX9) (T := TX9) (N := 6) hx hb hts hi_X9 hown hK hP 0 rfl rfl 1 (by decide) (hts (.fieldLink RX9 15 "FairWheel$Wheel" "cars" "[I") (List.mem_of_getElem? (i := 1) rfl)) (fun _ h9 => h9) rfl dX9_clear_1 ?_
  refine lv_bipush (v := -6) hx hb dX9_clear_4 (by decide) ?_
  obtain ⟨z1, hz_z1, hf⟩ := o_bind hf
  refine k_callv (va_runS (As := [.ref th2, .int (-6 : Int32)]) (rest := []) ⟨hx, hb, hml, hown, hts⟩ (c_J7_fill_53178 l D cI cZ th2 H.size 8 (W_cars u_th) (-6 : Int32) z1 hz_z1) (va_cwS 2 hts gX9_clear_J7_fill_53178 rfl rfl rfl hd_J7_fill_53178 ⟨Nat.le_of_ble_eq_true rfl, Nat.le_of_ble_eq_true rfl⟩) (k_preS hK hP hD hS hA hE [2] (by decide) rfl) rfl rfl hl.1 rfl (lv_room (Nat.le_of_ble_eq_true rfl)) dX9_clear_6 ⟨Nat.zero_le _, Nat.zero_le _⟩) hP hD hS hA [2] [none, none, some 0, none, none] 1 rfl (by decide) (by decide) rfl rfl (fun H locs hP hD hS => ?_)
  have hP : va_P D vwCl (ceW cI cZ th0 th1 th2 th3 th4 ((W_weights u_th), z1, (W_riders u_th), (W_loads u_th), (W_lowest u_th), (W_friction u_th))) H := hP
  have hD : va_D A (ceW cI cZ th0 th1 th2 th3 th4 ((W_weights u_th), z1, (W_riders u_th), (W_loads u_th), (W_lowest u_th), (W_friction u_th))) := hD
  refine lv_aload_n hx hb dX9_clear_9 rfl (lv_at hl 0 rfl) ?_
  refine va_get (D := D) (ci := 6) (v := .ref th3) (C := RX9) (T := TX9) (N := 6) hx hb hts hi_X9 hown hK hP 0 rfl rfl 2 (by decide) (hts (.fieldLink RX9 18 "FairWheel$Wheel" "riders" "[I") (List.mem_of_getElem? (i := 2) rfl)) (fun _ h9 => h9) rfl dX9_clear_10 ?_
  refine lv_bipush (v := -6) hx hb dX9_clear_13 (by decide) ?_
  obtain ⟨z2, hz_z2, hf⟩ := o_bind hf
  refine k_callv (va_runS (As := [.ref th3, .int (-6 : Int32)]) (rest := []) ⟨hx, hb, hml, hown, hts⟩ (c_J7_fill_53178 l D cI cZ th3 H.size 8 (W_riders u_th) (-6 : Int32) z2 hz_z2) (va_cwS 2 hts gX9_clear_J7_fill_53178 rfl rfl rfl hd_J7_fill_53178 ⟨Nat.le_of_ble_eq_true rfl, Nat.le_of_ble_eq_true rfl⟩) (k_preS hK hP hD hS hA hE [3] (by decide) rfl) rfl rfl hl.1 rfl (lv_room (Nat.le_of_ble_eq_true rfl)) dX9_clear_15 ⟨Nat.zero_le _, Nat.zero_le _⟩) hP hD hS hA [3] [none, none, none, some 0, none] 1 rfl (by decide) (by decide) rfl rfl (fun H locs hP hD hS => ?_)
  have hP : va_P D vwCl (ceW cI cZ th0 th1 th2 th3 th4 ((W_weights u_th), z1, z2, (W_loads u_th), (W_lowest u_th), (W_friction u_th))) H := hP
  have hD : va_D A (ceW cI cZ th0 th1 th2 th3 th4 ((W_weights u_th), z1, z2, (W_loads u_th), (W_lowest u_th), (W_friction u_th))) := hD
  refine lv_aload_n hx hb dX9_clear_18 rfl (lv_at hl 0 rfl) ?_
  refine va_get (D := D) (ci := 6) (v := .ref th4) (C := RX9) (T := TX9) (N := 6) hx hb hts hi_X9 hown hK hP 0 rfl rfl 3 (by decide) (hts (.fieldLink RX9 21 "FairWheel$Wheel" "loads" "[I") (List.mem_of_getElem? (i := 3) rfl)) (fun _ h9 => h9) rfl dX9_clear_19 ?_
  refine lv_iconst (v := 0) hx hb dX9_clear_22 (by decide) ?_
  obtain ⟨z3, hz_z3, hf⟩ := o_bind hf
  refine k_callv (va_runS (As := [.ref th4, .int (0 : Int32)]) (rest := []) ⟨hx, hb, hml, hown, hts⟩ (c_J7_fill_53178 l D cI cZ th4 H.size 8 (W_loads u_th) (0 : Int32) z3 hz_z3) (va_cwS 2 hts gX9_clear_J7_fill_53178 rfl rfl rfl hd_J7_fill_53178 ⟨Nat.le_of_ble_eq_true rfl, Nat.le_of_ble_eq_true rfl⟩) (k_preS hK hP hD hS hA hE [4] (by decide) rfl) rfl rfl hl.1 rfl (lv_room (Nat.le_of_ble_eq_true rfl)) dX9_clear_23 ⟨Nat.zero_le _, Nat.zero_le _⟩) hP hD hS hA [4] [none, none, none, none, some 0] 1 rfl (by decide) (by decide) rfl rfl (fun H locs hP hD hS => ?_)
  have hP : va_P D vwCl (ceW cI cZ th0 th1 th2 th3 th4 ((W_weights u_th), z1, z2, z3, (W_lowest u_th), (W_friction u_th))) H := hP
  have hD : va_D A (ceW cI cZ th0 th1 th2 th3 th4 ((W_weights u_th), z1, z2, z3, (W_lowest u_th), (W_friction u_th))) := hD
  exact k_vret (u := ((W_weights u_th), z1, z2, z3, (W_lowest u_th), (W_friction u_th))) hx hb hr hlocks hK hS eQ hf hP hD dX9_clear_26
theorem hd_X9_weightOf : yX9_weightOf.cls ≠ "java/lang/invoke/MethodHandle" ∧ yX9_weightOf.cls ≠ "java/lang/invoke/VarHandle" ∧ (parseMethodDescriptor yX9_weightOf.desc).map (fun d => d.parameters.length) = some 1 := by decide +kernel
set_option maxHeartbeats 4000000 in
set_option maxRecDepth 100000 in
theorem c_X9_weightOf (l : Launch) (D : va_G) (cI cZ : ClassId) (th0 : Nat) (th1 : Nat) (th2 : Nat) (th3 : Nat) (th4 : Nat) (sz : Nat) (u_th : sW) (p1 : Int32) (z : Int32 × Unit) (hf : f_X9_weightOf u_th p1 = some z) : Met l yX9_weightOf wsX9_weightOf rmX9_weightOf (va_Pc [.ref th0, .int p1] (wPr D cI cZ (ceW cI cZ th0 th1 th2 th3 th4 u_th) sz)) (va_Qi (fun (r : Int32) (v : Unit) => (r, v) = z) (fun (v : Unit) t => wPo D cI cZ (va_A (ceW cI cZ th0 th1 th2 th3 th4 u_th) sz) (ceW cI cZ th0 th1 th2 th3 th4 u_th) t) (va_A (ceW cI cZ th0 th1 th2 th3 th4 u_th) sz)) 0 0 (va_A (ceW cI cZ th0 th1 th2 th3 th4 u_th) sz) := by
  refine k_enter (D := D) (cI := cI) (cZ := cZ) (wl := ceW cI cZ th0 th1 th2 th3 th4 u_th) (sz := sz) (av := [.ref th0, .int p1]) (cc := cX9_weightOf) (maxL := 2) (ret := (some .int)) (Qc := fun A => va_Qi (fun (r : Int32) (v : Unit) => (r, v) = z) (fun (v : Unit) t => wPo D cI cZ (A) (ceW cI cZ th0 th1 th2 th3 th4 u_th) t) (A)) (by decide) rfl (Nat.le_of_ble_eq_true rfl) ?_
  intro p e s m below meth c ls A Q H locs eQ hx hb hr hml hts hown hlocks hK hP hD hS hA hE hl
  have hown : s.vm.findClass RX9 = some m.cls := hown
  have hl : lv_has ls 2 [(0, .ref th0), (1, .int p1)] := hl
  have hi_X9 : ∀ w ∈ wsX90, w ∈ wsX9_weightOf := fun w h => List.mem_cons_of_mem _ (List.mem_append_right _ h)
  rw [f_X9_weightOf] at hf
  refine lv_aload_n hx hb dX9_weightOf_0 rfl (lv_at hl 0 rfl) ?_
  refine va_get (D := D) (ci := 6) (v := .ref th1) (C := RX9) (T := TX9) (N := 6) hx hb hts hi_X9 hown hK hP 0 rfl rfl 0 (by decide) (hts (.fieldLink RX9 9 "FairWheel$Wheel" "weights" "[I") (List.mem_of_getElem? (i := 1) rfl)) (fun _ h9 => h9) rfl dX9_weightOf_1 ?_
  refine lv_iload_n hx hb dX9_weightOf_4 rfl (lv_at hl 1 rfl) ?_
  obtain ⟨z1, hz_z1, hf⟩ := o_bind hf
  refine k_calli (va_runSN (As := [.ref th1, .int p1]) (rest := []) ⟨hx, hb, hml, hown, hts⟩ (c_X10_at l D cI cZ th1 H.size 8 (W_weights u_th) p1 z1 hz_z1) ⟨va_cnB 2 hts gX9_weightOf_X10_at_n41 rfl rfl rfl (hE.1.1 (RX9, 41, yX10_at) (List.mem_of_getElem? (i := 12) rfl)) (hts (.initialized RX10) (List.mem_of_getElem? (i := 3) rfl)) hd_X10_at ⟨Nat.le_of_ble_eq_true rfl, Nat.le_of_ble_eq_true rfl⟩, hts (.static yX10_at) (List.mem_of_getElem? (i := 2) rfl), trivial⟩ (k_preS hK hP hD hS hA hE [1] (by decide) rfl) rfl rfl hl.1 rfl (lv_room (Nat.le_of_ble_eq_true rfl)) dX9_weightOf_5 ⟨Nat.zero_le _, Nat.zero_le _⟩) hP hD hS hA [1] [none, some 0, none, none, none] 1 rfl (by decide) (by decide) rfl rfl (fun H locs hP hD hS => ?_)
  have hP : va_P D vwCl (ceW cI cZ th0 th1 th2 th3 th4 u_th) H := hP
  have hD : va_D A (ceW cI cZ th0 th1 th2 th3 th4 u_th) := hD
  exact k_iret (v := z1.1) (u := ()) hx hb hr hlocks hK hS eQ hf hP hD dX9_weightOf_8
theorem hd_X9_setWeight : yX9_setWeight.cls ≠ "java/lang/invoke/MethodHandle" ∧ yX9_setWeight.cls ≠ "java/lang/invoke/VarHandle" ∧ (parseMethodDescriptor yX9_setWeight.desc).map (fun d => d.parameters.length) = some 2 := by decide +kernel
set_option maxHeartbeats 4000000 in
set_option maxRecDepth 100000 in
theorem c_X9_setWeight (l : Launch) (D : va_G) (cI cZ : ClassId) (th0 : Nat) (th1 : Nat) (th2 : Nat) (th3 : Nat) (th4 : Nat) (sz : Nat) (u_th : sW) (p1 : Int32) (p2 : Int32) (z : sW) (hf : f_X9_setWeight u_th p1 p2 = some z) : Met l yX9_setWeight wsX9_setWeight rmX9_setWeight (va_Pc [.ref th0, .int p1, .int p2] (wPr D cI cZ (ceW cI cZ th0 th1 th2 th3 th4 u_th) sz)) (va_Qv (fun (v : sW) => v = z) (fun (v : sW) t => wPo D cI cZ (va_A (ceW cI cZ th0 th1 th2 th3 th4 u_th) sz) (ceW cI cZ th0 th1 th2 th3 th4 v) t) (va_A (ceW cI cZ th0 th1 th2 th3 th4 u_th) sz)) 0 0 (va_A (ceW cI cZ th0 th1 th2 th3 th4 u_th) sz) := by
  refine k_enter (D := D) (cI := cI) (cZ := cZ) (wl := ceW cI cZ th0 th1 th2 th3 th4 u_th) (sz := sz) (av := [.ref th0, .int p1, .int p2]) (cc := cX9_setWeight) (maxL := 3) (ret := none) (Qc := fun A => va_Qv (fun (v : sW) => v = z) (fun (v : sW) t => wPo D cI cZ (A) (ceW cI cZ th0 th1 th2 th3 th4 v) t) (A)) (by decide) rfl (Nat.le_of_ble_eq_true rfl) ?_
  intro p e s m below meth c ls A Q H locs eQ hx hb hr hml hts hown hlocks hK hP hD hS hA hE hl
  have hown : s.vm.findClass RX9 = some m.cls := hown
  have hl : lv_has ls 3 [(0, .ref th0), (1, .int p1), (2, .int p2)] := hl
  have hi_X9 : ∀ w ∈ wsX90, w ∈ wsX9_setWeight := fun w h => List.mem_cons_of_mem _ (List.mem_append_right _ h)
  rw [f_X9_setWeight] at hf
  refine lv_aload_n hx hb dX9_setWeight_0 rfl (lv_at hl 0 rfl) ?_
  refine va_get (D := D) (ci := 6) (v := .ref th1) (C := RX9) (T := TX9) (N := 6) hx hb hts hi_X9 hown hK hP 0 rfl rfl 0 (by decide) (hts (.fieldLink RX9 9 "FairWheel$Wheel" "weights" "[I") (List.mem_of_getElem? (i := 1) rfl)) (fun _ h9 => h9) rfl dX9_setWeight_1 ?_
  refine lv_iload_n hx hb dX9_setWeight_4 rfl (lv_at hl 1 rfl) ?_
  refine lv_iload_n hx hb dX9_setWeight_5 rfl (lv_at hl 2 rfl) ?_
  obtain ⟨z1, hz_z1, hf⟩ := o_bind hf
  refine k_callv (va_runSN (As := [.ref th1, .int p1, .int p2]) (rest := []) ⟨hx, hb, hml, hown, hts⟩ (c_X10_put l D cI cZ th1 H.size 8 (W_weights u_th) p1 p2 z1 hz_z1) ⟨va_cnB 3 hts gX9_setWeight_X10_put_n45 rfl rfl rfl (hE.1.1 (RX9, 45, yX10_put) (List.mem_of_getElem? (i := 13) rfl)) (hts (.initialized RX10) (List.mem_of_getElem? (i := 3) rfl)) hd_X10_put ⟨Nat.le_of_ble_eq_true rfl, Nat.le_of_ble_eq_true rfl⟩, hts (.static yX10_put) (List.mem_of_getElem? (i := 2) rfl), trivial⟩ (k_preS hK hP hD hS hA hE [1] (by decide) rfl) rfl rfl hl.1 rfl (lv_room (Nat.le_of_ble_eq_true rfl)) dX9_setWeight_6 ⟨Nat.zero_le _, Nat.zero_le _⟩) hP hD hS hA [1] [none, some 0, none, none, none] 1 rfl (by decide) (by decide) rfl rfl (fun H locs hP hD hS => ?_)
  have hP : va_P D vwCl (ceW cI cZ th0 th1 th2 th3 th4 (z1, (W_cars u_th), (W_riders u_th), (W_loads u_th), (W_lowest u_th), (W_friction u_th))) H := hP
  have hD : va_D A (ceW cI cZ th0 th1 th2 th3 th4 (z1, (W_cars u_th), (W_riders u_th), (W_loads u_th), (W_lowest u_th), (W_friction u_th))) := hD
  exact k_vret (u := (z1, (W_cars u_th), (W_riders u_th), (W_loads u_th), (W_lowest u_th), (W_friction u_th))) hx hb hr hlocks hK hS eQ hf hP hD dX9_setWeight_9
theorem hd_X9_friction : yX9_friction.cls ≠ "java/lang/invoke/MethodHandle" ∧ yX9_friction.cls ≠ "java/lang/invoke/VarHandle" ∧ (parseMethodDescriptor yX9_friction.desc).map (fun d => d.parameters.length) = some 0 := by decide +kernel
set_option maxHeartbeats 4000000 in
set_option maxRecDepth 100000 in
theorem c_X9_friction (l : Launch) (D : va_G) (cI cZ : ClassId) (th0 : Nat) (th1 : Nat) (th2 : Nat) (th3 : Nat) (th4 : Nat) (sz : Nat) (u_th : sW) (z : Int32 × Unit) (hf : f_X9_friction u_th = some z) : Met l yX9_friction wsX9_friction rmX9_friction (va_Pc [.ref th0] (wPr D cI cZ (ceW cI cZ th0 th1 th2 th3 th4 u_th) sz)) (va_Qi (fun (r : Int32) (v : Unit) => (r, v) = z) (fun (v : Unit) t => wPo D cI cZ (va_A (ceW cI cZ th0 th1 th2 th3 th4 u_th) sz) (ceW cI cZ th0 th1 th2 th3 th4 u_th) t) (va_A (ceW cI cZ th0 th1 th2 th3 th4 u_th) sz)) 0 0 (va_A (ceW cI cZ th0 th1 th2 th3 th4 u_th) sz) := by
  refine k_enter (D := D) (cI := cI) (cZ := cZ) (wl := ceW cI cZ th0 th1 th2 th3 th4 u_th) (sz := sz) (av := [.ref th0]) (cc := cX9_friction) (maxL := 1) (ret := (some .int)) (Qc := fun A => va_Qi (fun (r : Int32) (v : Unit) => (r, v) = z) (fun (v : Unit) t => wPo D cI cZ (A) (ceW cI cZ th0 th1 th2 th3 th4 u_th) t) (A)) (by decide) rfl (Nat.le_of_ble_eq_true rfl) ?_
  intro p e s m below meth c ls A Q H locs eQ hx hb hr hml hts hown hlocks hK hP hD hS hA hE hl
  have hown : s.vm.findClass RX9 = some m.cls := hown
  have hl : lv_has ls 1 [(0, .ref th0)] := hl
  have hi_X9 : ∀ w ∈ wsX90, w ∈ wsX9_friction := fun w h => List.mem_cons_of_mem _ (List.mem_append_right _ h)
  rw [f_X9_friction] at hf
  refine lv_aload_n hx hb dX9_friction_0 rfl (lv_at hl 0 rfl) ?_
  refine va_get (D := D) (ci := 6) (v := .int (W_friction u_th)) (C := RX9) (T := TX9) (N := 6) hx hb hts hi_X9 hown hK hP 0 rfl rfl 5 (by decide) (hts (.fieldLink RX9 28 "FairWheel$Wheel" "friction" "I") (List.mem_of_getElem? (i := 1) rfl)) (fun _ h9 => h9) rfl dX9_friction_1 ?_
  exact k_iret (v := (W_friction u_th)) (u := ()) hx hb hr hlocks hK hS eQ hf hP hD dX9_friction_4
theorem hd_X9_setFriction : yX9_setFriction.cls ≠ "java/lang/invoke/MethodHandle" ∧ yX9_setFriction.cls ≠ "java/lang/invoke/VarHandle" ∧ (parseMethodDescriptor yX9_setFriction.desc).map (fun d => d.parameters.length) = some 1 := by decide +kernel
set_option maxHeartbeats 4000000 in
set_option maxRecDepth 100000 in
theorem c_X9_setFriction (l : Launch) (D : va_G) (cI cZ : ClassId) (th0 : Nat) (th1 : Nat) (th2 : Nat) (th3 : Nat) (th4 : Nat) (sz : Nat) (u_th : sW) (p1 : Int32) (z : sW) (hf : f_X9_setFriction u_th p1 = some z) : Met l yX9_setFriction wsX9_setFriction rmX9_setFriction (va_Pc [.ref th0, .int p1] (wPr D cI cZ (ceW cI cZ th0 th1 th2 th3 th4 u_th) sz)) (va_Qv (fun (v : sW) => v = z) (fun (v : sW) t => wPo D cI cZ (va_A (ceW cI cZ th0 th1 th2 th3 th4 u_th) sz) (ceW cI cZ th0 th1 th2 th3 th4 v) t) (va_A (ceW cI cZ th0 th1 th2 th3 th4 u_th) sz)) 0 0 (va_A (ceW cI cZ th0 th1 th2 th3 th4 u_th) sz) := by
  refine k_enter (D := D) (cI := cI) (cZ := cZ) (wl := ceW cI cZ th0 th1 th2 th3 th4 u_th) (sz := sz) (av := [.ref th0, .int p1]) (cc := cX9_setFriction) (maxL := 2) (ret := none) (Qc := fun A => va_Qv (fun (v : sW) => v = z) (fun (v : sW) t => wPo D cI cZ (A) (ceW cI cZ th0 th1 th2 th3 th4 v) t) (A)) (by decide) rfl (Nat.le_of_ble_eq_true rfl) ?_
  intro p e s m below meth c ls A Q H locs eQ hx hb hr hml hts hown hlocks hK hP hD hS hA hE hl
  have hown : s.vm.findClass RX9 = some m.cls := hown
  have hl : lv_has ls 2 [(0, .ref th0), (1, .int p1)] := hl
  have hi_X9 : ∀ w ∈ wsX90, w ∈ wsX9_setFriction := fun w h => List.mem_cons_of_mem _ (List.mem_append_right _ h)
  rw [f_X9_setFriction] at hf
  refine lv_aload_n hx hb dX9_setFriction_0 rfl (lv_at hl 0 rfl) ?_
  refine lv_iload_n hx hb dX9_setFriction_1 rfl (lv_at hl 1 rfl) ?_
  refine va_put (D := D) (ci := 6) (v := .int p1) (ty := .int) (C := RX9) (T := TX9) (N := 6) hx hb hts hi_X9 tyX9 tyX9_ok nmX9 hown hK hP hD hS 0 rfl rfl 5 (by decide) (hts (.fieldLink RX9 28 "FairWheel$Wheel" "friction" "I") (List.mem_of_getElem? (i := 1) rfl)) (fun _ h9 => h9) rfl (by decide +kernel) rfl rfl (Nat.le_of_ble_eq_true rfl) dX9_setFriction_2 (fun H locs hP hD hS => ?_)
  have hP : va_P D vwCl (ceW cI cZ th0 th1 th2 th3 th4 ((W_weights u_th), (W_cars u_th), (W_riders u_th), (W_loads u_th), (W_lowest u_th), p1)) H := hP
  have hD : va_D A (ceW cI cZ th0 th1 th2 th3 th4 ((W_weights u_th), (W_cars u_th), (W_riders u_th), (W_loads u_th), (W_lowest u_th), p1)) := hD
  exact k_vret (u := ((W_weights u_th), (W_cars u_th), (W_riders u_th), (W_loads u_th), (W_lowest u_th), p1)) hx hb hr hlocks hK hS eQ hf hP hD dX9_setFriction_5
theorem hd_X9_lowest : yX9_lowest.cls ≠ "java/lang/invoke/MethodHandle" ∧ yX9_lowest.cls ≠ "java/lang/invoke/VarHandle" ∧ (parseMethodDescriptor yX9_lowest.desc).map (fun d => d.parameters.length) = some 0 := by decide +kernel
set_option maxHeartbeats 4000000 in
set_option maxRecDepth 100000 in
theorem c_X9_lowest (l : Launch) (D : va_G) (cI cZ : ClassId) (th0 : Nat) (th1 : Nat) (th2 : Nat) (th3 : Nat) (th4 : Nat) (sz : Nat) (u_th : sW) (z : Int32 × Unit) (hf : f_X9_lowest u_th = some z) : Met l yX9_lowest wsX9_lowest rmX9_lowest (va_Pc [.ref th0] (wPr D cI cZ (ceW cI cZ th0 th1 th2 th3 th4 u_th) sz)) (va_Qi (fun (r : Int32) (v : Unit) => (r, v) = z) (fun (v : Unit) t => wPo D cI cZ (va_A (ceW cI cZ th0 th1 th2 th3 th4 u_th) sz) (ceW cI cZ th0 th1 th2 th3 th4 u_th) t) (va_A (ceW cI cZ th0 th1 th2 th3 th4 u_th) sz)) 0 0 (va_A (ceW cI cZ th0 th1 th2 th3 th4 u_th) sz) := by
  refine k_enter (D := D) (cI := cI) (cZ := cZ) (wl := ceW cI cZ th0 th1 th2 th3 th4 u_th) (sz := sz) (av := [.ref th0]) (cc := cX9_lowest) (maxL := 1) (ret := (some .int)) (Qc := fun A => va_Qi (fun (r : Int32) (v : Unit) => (r, v) = z) (fun (v : Unit) t => wPo D cI cZ (A) (ceW cI cZ th0 th1 th2 th3 th4 u_th) t) (A)) (by decide) rfl (Nat.le_of_ble_eq_true rfl) ?_
  intro p e s m below meth c ls A Q H locs eQ hx hb hr hml hts hown hlocks hK hP hD hS hA hE hl
  have hown : s.vm.findClass RX9 = some m.cls := hown
  have hl : lv_has ls 1 [(0, .ref th0)] := hl
  have hi_X9 : ∀ w ∈ wsX90, w ∈ wsX9_lowest := fun w h => List.mem_cons_of_mem _ (List.mem_append_right _ h)
  rw [f_X9_lowest] at hf
  refine lv_aload_n hx hb dX9_lowest_0 rfl (lv_at hl 0 rfl) ?_
  refine va_get (D := D) (ci := 6) (v := .int (W_lowest u_th)) (C := RX9) (T := TX9) (N := 6) hx hb hts hi_X9 hown hK hP 0 rfl rfl 4 (by decide) (hts (.fieldLink RX9 24 "FairWheel$Wheel" "lowest" "I") (List.mem_of_getElem? (i := 1) rfl)) (fun _ h9 => h9) rfl dX9_lowest_1 ?_
  exact k_iret (v := (W_lowest u_th)) (u := ()) hx hb hr hlocks hK hS eQ hf hP hD dX9_lowest_4
theorem hd_X9_riderOf : yX9_riderOf.cls ≠ "java/lang/invoke/MethodHandle" ∧ yX9_riderOf.cls ≠ "java/lang/invoke/VarHandle" ∧ (parseMethodDescriptor yX9_riderOf.desc).map (fun d => d.parameters.length) = some 1 := by decide +kernel
set_option maxHeartbeats 4000000 in
set_option maxRecDepth 100000 in
theorem c_X9_riderOf (l : Launch) (D : va_G) (cI cZ : ClassId) (th0 : Nat) (th1 : Nat) (th2 : Nat) (th3 : Nat) (th4 : Nat) (sz : Nat) (u_th : sW) (p1 : Int32) (z : Int32 × Unit) (hf : f_X9_riderOf u_th p1 = some z) : Met l yX9_riderOf wsX9_riderOf rmX9_riderOf (va_Pc [.ref th0, .int p1] (wPr D cI cZ (ceW cI cZ th0 th1 th2 th3 th4 u_th) sz)) (va_Qi (fun (r : Int32) (v : Unit) => (r, v) = z) (fun (v : Unit) t => wPo D cI cZ (va_A (ceW cI cZ th0 th1 th2 th3 th4 u_th) sz) (ceW cI cZ th0 th1 th2 th3 th4 u_th) t) (va_A (ceW cI cZ th0 th1 th2 th3 th4 u_th) sz)) 0 0 (va_A (ceW cI cZ th0 th1 th2 th3 th4 u_th) sz) := by
  refine k_enter (D := D) (cI := cI) (cZ := cZ) (wl := ceW cI cZ th0 th1 th2 th3 th4 u_th) (sz := sz) (av := [.ref th0, .int p1]) (cc := cX9_riderOf) (maxL := 2) (ret := (some .int)) (Qc := fun A => va_Qi (fun (r : Int32) (v : Unit) => (r, v) = z) (fun (v : Unit) t => wPo D cI cZ (A) (ceW cI cZ th0 th1 th2 th3 th4 u_th) t) (A)) (by decide) rfl (Nat.le_of_ble_eq_true rfl) ?_
  intro p e s m below meth c ls A Q H locs eQ hx hb hr hml hts hown hlocks hK hP hD hS hA hE hl
  have hown : s.vm.findClass RX9 = some m.cls := hown
  have hl : lv_has ls 2 [(0, .ref th0), (1, .int p1)] := hl
  have hi_X9 : ∀ w ∈ wsX90, w ∈ wsX9_riderOf := fun w h => List.mem_cons_of_mem _ (List.mem_append_right _ h)
  rw [f_X9_riderOf] at hf
  refine lv_aload_n hx hb dX9_riderOf_0 rfl (lv_at hl 0 rfl) ?_
  refine va_get (D := D) (ci := 6) (v := .ref th3) (C := RX9) (T := TX9) (N := 6) hx hb hts hi_X9 hown hK hP 0 rfl rfl 2 (by decide) (hts (.fieldLink RX9 18 "FairWheel$Wheel" "riders" "[I") (List.mem_of_getElem? (i := 1) rfl)) (fun _ h9 => h9) rfl dX9_riderOf_1 ?_
  refine lv_iload_n hx hb dX9_riderOf_4 rfl (lv_at hl 1 rfl) ?_
  obtain ⟨z1, hz_z1, hf⟩ := o_bind hf
  refine k_calli (va_runSN (As := [.ref th3, .int p1]) (rest := []) ⟨hx, hb, hml, hown, hts⟩ (c_X10_at l D cI cZ th3 H.size 8 (W_riders u_th) p1 z1 hz_z1) ⟨va_cnB 2 hts gX9_riderOf_X10_at_n41 rfl rfl rfl (hE.1.1 (RX9, 41, yX10_at) (List.mem_of_getElem? (i := 12) rfl)) (hts (.initialized RX10) (List.mem_of_getElem? (i := 3) rfl)) hd_X10_at ⟨Nat.le_of_ble_eq_true rfl, Nat.le_of_ble_eq_true rfl⟩, hts (.static yX10_at) (List.mem_of_getElem? (i := 2) rfl), trivial⟩ (k_preS hK hP hD hS hA hE [3] (by decide) rfl) rfl rfl hl.1 rfl (lv_room (Nat.le_of_ble_eq_true rfl)) dX9_riderOf_5 ⟨Nat.zero_le _, Nat.zero_le _⟩) hP hD hS hA [3] [none, none, none, some 0, none] 1 rfl (by decide) (by decide) rfl rfl (fun H locs hP hD hS => ?_)
  have hP : va_P D vwCl (ceW cI cZ th0 th1 th2 th3 th4 u_th) H := hP
  have hD : va_D A (ceW cI cZ th0 th1 th2 th3 th4 u_th) := hD
  exact k_iret (v := z1.1) (u := ()) hx hb hr hlocks hK hS eQ hf hP hD dX9_riderOf_8
theorem hd_X9_carOf : yX9_carOf.cls ≠ "java/lang/invoke/MethodHandle" ∧ yX9_carOf.cls ≠ "java/lang/invoke/VarHandle" ∧ (parseMethodDescriptor yX9_carOf.desc).map (fun d => d.parameters.length) = some 1 := by decide +kernel
set_option maxHeartbeats 4000000 in
set_option maxRecDepth 100000 in
theorem c_X9_carOf (l : Launch) (D : va_G) (cI cZ : ClassId) (th0 : Nat) (th1 : Nat) (th2 : Nat) (th3 : Nat) (th4 : Nat) (sz : Nat) (u_th : sW) (p1 : Int32) (z : Int32 × Unit) (hf : f_X9_carOf u_th p1 = some z) : Met l yX9_carOf wsX9_carOf rmX9_carOf (va_Pc [.ref th0, .int p1] (wPr D cI cZ (ceW cI cZ th0 th1 th2 th3 th4 u_th) sz)) (va_Qi (fun (r : Int32) (v : Unit) => (r, v) = z) (fun (v : Unit) t => wPo D cI cZ (va_A (ceW cI cZ th0 th1 th2 th3 th4 u_th) sz) (ceW cI cZ th0 th1 th2 th3 th4 u_th) t) (va_A (ceW cI cZ th0 th1 th2 th3 th4 u_th) sz)) 0 0 (va_A (ceW cI cZ th0 th1 th2 th3 th4 u_th) sz) := by
  refine k_enter (D := D) (cI := cI) (cZ := cZ) (wl := ceW cI cZ th0 th1 th2 th3 th4 u_th) (sz := sz) (av := [.ref th0, .int p1]) (cc := cX9_carOf) (maxL := 2) (ret := (some .int)) (Qc := fun A => va_Qi (fun (r : Int32) (v : Unit) => (r, v) = z) (fun (v : Unit) t => wPo D cI cZ (A) (ceW cI cZ th0 th1 th2 th3 th4 u_th) t) (A)) (by decide) rfl (Nat.le_of_ble_eq_true rfl) ?_
  intro p e s m below meth c ls A Q H locs eQ hx hb hr hml hts hown hlocks hK hP hD hS hA hE hl
  have hown : s.vm.findClass RX9 = some m.cls := hown
  have hl : lv_has ls 2 [(0, .ref th0), (1, .int p1)] := hl
  have hi_X9 : ∀ w ∈ wsX90, w ∈ wsX9_carOf := fun w h => List.mem_cons_of_mem _ (List.mem_append_right _ h)
  rw [f_X9_carOf] at hf
  refine lv_aload_n hx hb dX9_carOf_0 rfl (lv_at hl 0 rfl) ?_
  refine va_get (D := D) (ci := 6) (v := .ref th2) (C := RX9) (T := TX9) (N := 6) hx hb hts hi_X9 hown hK hP 0 rfl rfl 1 (by decide) (hts (.fieldLink RX9 15 "FairWheel$Wheel" "cars" "[I") (List.mem_of_getElem? (i := 1) rfl)) (fun _ h9 => h9) rfl dX9_carOf_1 ?_
  refine lv_iload_n hx hb dX9_carOf_4 rfl (lv_at hl 1 rfl) ?_
  obtain ⟨z1, hz_z1, hf⟩ := o_bind hf
  refine k_calli (va_runSN (As := [.ref th2, .int p1]) (rest := []) ⟨hx, hb, hml, hown, hts⟩ (c_X10_at l D cI cZ th2 H.size 8 (W_cars u_th) p1 z1 hz_z1) ⟨va_cnB 2 hts gX9_carOf_X10_at_n41 rfl rfl rfl (hE.1.1 (RX9, 41, yX10_at) (List.mem_of_getElem? (i := 12) rfl)) (hts (.initialized RX10) (List.mem_of_getElem? (i := 3) rfl)) hd_X10_at ⟨Nat.le_of_ble_eq_true rfl, Nat.le_of_ble_eq_true rfl⟩, hts (.static yX10_at) (List.mem_of_getElem? (i := 2) rfl), trivial⟩ (k_preS hK hP hD hS hA hE [2] (by decide) rfl) rfl rfl hl.1 rfl (lv_room (Nat.le_of_ble_eq_true rfl)) dX9_carOf_5 ⟨Nat.zero_le _, Nat.zero_le _⟩) hP hD hS hA [2] [none, none, some 0, none, none] 1 rfl (by decide) (by decide) rfl rfl (fun H locs hP hD hS => ?_)
  have hP : va_P D vwCl (ceW cI cZ th0 th1 th2 th3 th4 u_th) H := hP
  have hD : va_D A (ceW cI cZ th0 th1 th2 th3 th4 u_th) := hD
  exact k_iret (v := z1.1) (u := ()) hx hb hr hlocks hK hS eQ hf hP hD dX9_carOf_8
theorem hd_X9_isAboard : yX9_isAboard.cls ≠ "java/lang/invoke/MethodHandle" ∧ yX9_isAboard.cls ≠ "java/lang/invoke/VarHandle" ∧ (parseMethodDescriptor yX9_isAboard.desc).map (fun d => d.parameters.length) = some 1 := by decide +kernel
set_option maxHeartbeats 4000000 in
set_option maxRecDepth 100000 in
theorem c_X9_isAboard (l : Launch) (D : va_G) (cI cZ : ClassId) (th0 : Nat) (th1 : Nat) (th2 : Nat) (th3 : Nat) (th4 : Nat) (sz : Nat) (u_th : sW) (p1 : Int32) (z : Int32 × Unit) (hf : f_X9_isAboard u_th p1 = some z) : Met l yX9_isAboard wsX9_isAboard rmX9_isAboard (va_Pc [.ref th0, .int p1] (wPr D cI cZ (ceW cI cZ th0 th1 th2 th3 th4 u_th) sz)) (va_Qi (fun (r : Int32) (v : Unit) => (r, v) = z) (fun (v : Unit) t => wPo D cI cZ (va_A (ceW cI cZ th0 th1 th2 th3 th4 u_th) sz) (ceW cI cZ th0 th1 th2 th3 th4 u_th) t) (va_A (ceW cI cZ th0 th1 th2 th3 th4 u_th) sz)) 0 0 (va_A (ceW cI cZ th0 th1 th2 th3 th4 u_th) sz) := by
  refine k_enter (D := D) (cI := cI) (cZ := cZ) (wl := ceW cI cZ th0 th1 th2 th3 th4 u_th) (sz := sz) (av := [.ref th0, .int p1]) (cc := cX9_isAboard) (maxL := 2) (ret := (some .boolean)) (Qc := fun A => va_Qi (fun (r : Int32) (v : Unit) => (r, v) = z) (fun (v : Unit) t => wPo D cI cZ (A) (ceW cI cZ th0 th1 th2 th3 th4 u_th) t) (A)) (by decide) rfl (Nat.le_of_ble_eq_true rfl) ?_
  intro p e s m below meth c ls A Q H locs eQ hx hb hr hml hts hown hlocks hK hP hD hS hA hE hl
  have hown : s.vm.findClass RX9 = some m.cls := hown
  have hl : lv_has ls 2 [(0, .ref th0), (1, .int p1)] := hl
  have hi_X9 : ∀ w ∈ wsX90, w ∈ wsX9_isAboard := fun w h => List.mem_cons_of_mem _ (List.mem_append_right _ h)
  rw [f_X9_isAboard] at hf
  refine lv_aload_n hx hb dX9_isAboard_0 rfl (lv_at hl 0 rfl) ?_
  refine va_get (D := D) (ci := 6) (v := .ref th2) (C := RX9) (T := TX9) (N := 6) hx hb hts hi_X9 hown hK hP 0 rfl rfl 1 (by decide) (hts (.fieldLink RX9 15 "FairWheel$Wheel" "cars" "[I") (List.mem_of_getElem? (i := 1) rfl)) (fun _ h9 => h9) rfl dX9_isAboard_1 ?_
  refine lv_iload_n hx hb dX9_isAboard_4 rfl (lv_at hl 1 rfl) ?_
  obtain ⟨z1, hz_z1, hf⟩ := o_bind hf
  refine k_calli (va_runSN (As := [.ref th2, .int p1]) (rest := []) ⟨hx, hb, hml, hown, hts⟩ (c_X10_at l D cI cZ th2 H.size 8 (W_cars u_th) p1 z1 hz_z1) ⟨va_cnB 2 hts gX9_isAboard_X10_at_n41 rfl rfl rfl (hE.1.1 (RX9, 41, yX10_at) (List.mem_of_getElem? (i := 12) rfl)) (hts (.initialized RX10) (List.mem_of_getElem? (i := 3) rfl)) hd_X10_at ⟨Nat.le_of_ble_eq_true rfl, Nat.le_of_ble_eq_true rfl⟩, hts (.static yX10_at) (List.mem_of_getElem? (i := 2) rfl), trivial⟩ (k_preS hK hP hD hS hA hE [2] (by decide) rfl) rfl rfl hl.1 rfl (lv_room (Nat.le_of_ble_eq_true rfl)) dX9_isAboard_5 ⟨Nat.zero_le _, Nat.zero_le _⟩) hP hD hS hA [2] [none, none, some 0, none, none] 1 rfl (by decide) (by decide) rfl rfl (fun H locs hP hD hS => ?_)
  have hP : va_P D vwCl (ceW cI cZ th0 th1 th2 th3 th4 u_th) H := hP
  have hD : va_D A (ceW cI cZ th0 th1 th2 th3 th4 u_th) := hD
  refine lv_bipush (v := -6) hx hb dX9_isAboard_8 (by decide) ?_
  refine lv_icmp_eq (tgt := 17) hx hb dX9_isAboard_10 (by decide) (fun c2 => ?_) (fun c2 => ?_)
  · have hf := (if_pos c2).symm.trans hf
    refine lv_iconst (v := 0) hx hb dX9_isAboard_17 (by decide) ?_
    exact k_zret (v := (0 : Int32)) (u := ()) hx hb hr hlocks hK hS eQ (by decide) hf hP hD dX9_isAboard_18
  · have hf := (if_neg c2).symm.trans hf
    refine lv_iconst (v := 1) hx hb dX9_isAboard_13 (by decide) ?_
    refine lv_goto (tgt := 18) hx hb dX9_isAboard_14 (by decide) ?_
    exact k_zret (v := (1 : Int32)) (u := ()) hx hb hr hlocks hK hS eQ (by decide) hf hP hD dX9_isAboard_18
theorem hd_X9_isLowest : yX9_isLowest.cls ≠ "java/lang/invoke/MethodHandle" ∧ yX9_isLowest.cls ≠ "java/lang/invoke/VarHandle" ∧ (parseMethodDescriptor yX9_isLowest.desc).map (fun d => d.parameters.length) = some 1 := by decide +kernel
set_option maxHeartbeats 4000000 in
set_option maxRecDepth 100000 in
theorem c_X9_isLowest (l : Launch) (D : va_G) (cI cZ : ClassId) (th0 : Nat) (th1 : Nat) (th2 : Nat) (th3 : Nat) (th4 : Nat) (sz : Nat) (u_th : sW) (p1 : Int32) (z : Int32 × Unit) (hf : f_X9_isLowest u_th p1 = some z) : Met l yX9_isLowest wsX9_isLowest rmX9_isLowest (va_Pc [.ref th0, .int p1] (wPr D cI cZ (ceW cI cZ th0 th1 th2 th3 th4 u_th) sz)) (va_Qi (fun (r : Int32) (v : Unit) => (r, v) = z) (fun (v : Unit) t => wPo D cI cZ (va_A (ceW cI cZ th0 th1 th2 th3 th4 u_th) sz) (ceW cI cZ th0 th1 th2 th3 th4 u_th) t) (va_A (ceW cI cZ th0 th1 th2 th3 th4 u_th) sz)) 0 0 (va_A (ceW cI cZ th0 th1 th2 th3 th4 u_th) sz) := by
  refine k_enter (D := D) (cI := cI) (cZ := cZ) (wl := ceW cI cZ th0 th1 th2 th3 th4 u_th) (sz := sz) (av := [.ref th0, .int p1]) (cc := cX9_isLowest) (maxL := 2) (ret := (some .boolean)) (Qc := fun A => va_Qi (fun (r : Int32) (v : Unit) => (r, v) = z) (fun (v : Unit) t => wPo D cI cZ (A) (ceW cI cZ th0 th1 th2 th3 th4 u_th) t) (A)) (by decide) rfl (Nat.le_of_ble_eq_true rfl) ?_
  intro p e s m below meth c ls A Q H locs eQ hx hb hr hml hts hown hlocks hK hP hD hS hA hE hl
  have hown : s.vm.findClass RX9 = some m.cls := hown
  have hl : lv_has ls 2 [(0, .ref th0), (1, .int p1)] := hl
  have hi_X9 : ∀ w ∈ wsX90, w ∈ wsX9_isLowest := fun w h => List.mem_cons_of_mem _ (List.mem_append_right _ h)
  rw [f_X9_isLowest] at hf
  refine lv_aload_n hx hb dX9_isLowest_0 rfl (lv_at hl 0 rfl) ?_
  refine va_get (D := D) (ci := 6) (v := .ref th2) (C := RX9) (T := TX9) (N := 6) hx hb hts hi_X9 hown hK hP 0 rfl rfl 1 (by decide) (hts (.fieldLink RX9 15 "FairWheel$Wheel" "cars" "[I") (List.mem_of_getElem? (i := 1) rfl)) (fun _ h9 => h9) rfl dX9_isLowest_1 ?_
  refine lv_iload_n hx hb dX9_isLowest_4 rfl (lv_at hl 1 rfl) ?_
  obtain ⟨z1, hz_z1, hf⟩ := o_bind hf
  refine k_calli (va_runSN (As := [.ref th2, .int p1]) (rest := []) ⟨hx, hb, hml, hown, hts⟩ (c_X10_at l D cI cZ th2 H.size 8 (W_cars u_th) p1 z1 hz_z1) ⟨va_cnB 2 hts gX9_isLowest_X10_at_n41 rfl rfl rfl (hE.1.1 (RX9, 41, yX10_at) (List.mem_of_getElem? (i := 12) rfl)) (hts (.initialized RX10) (List.mem_of_getElem? (i := 4) rfl)) hd_X10_at ⟨Nat.le_of_ble_eq_true rfl, Nat.le_of_ble_eq_true rfl⟩, hts (.static yX10_at) (List.mem_of_getElem? (i := 3) rfl), trivial⟩ (k_preS hK hP hD hS hA hE [2] (by decide) rfl) rfl rfl hl.1 rfl (lv_room (Nat.le_of_ble_eq_true rfl)) dX9_isLowest_5 ⟨Nat.zero_le _, Nat.zero_le _⟩) hP hD hS hA [2] [none, none, some 0, none, none] 1 rfl (by decide) (by decide) rfl rfl (fun H locs hP hD hS => ?_)
  have hP : va_P D vwCl (ceW cI cZ th0 th1 th2 th3 th4 u_th) H := hP
  have hD : va_D A (ceW cI cZ th0 th1 th2 th3 th4 u_th) := hD
  refine lv_aload_n hx hb dX9_isLowest_8 rfl (lv_at hl 0 rfl) ?_
  refine va_get (D := D) (ci := 6) (v := .int (W_lowest u_th)) (C := RX9) (T := TX9) (N := 6) hx hb hts hi_X9 hown hK hP 0 rfl rfl 4 (by decide) (hts (.fieldLink RX9 24 "FairWheel$Wheel" "lowest" "I") (List.mem_of_getElem? (i := 2) rfl)) (fun _ h9 => h9) rfl dX9_isLowest_9 ?_
  refine lv_icmp_ne (tgt := 19) hx hb dX9_isLowest_12 (by decide) (fun c2 => ?_) (fun c2 => ?_)
  · have hf := (if_neg c2).symm.trans hf
    refine lv_iconst (v := 0) hx hb dX9_isLowest_19 (by decide) ?_
    exact k_zret (v := (0 : Int32)) (u := ()) hx hb hr hlocks hK hS eQ (by decide) hf hP hD dX9_isLowest_20
  · have hf := (if_pos c2).symm.trans hf
    refine lv_iconst (v := 1) hx hb dX9_isLowest_15 (by decide) ?_
    refine lv_goto (tgt := 20) hx hb dX9_isLowest_16 (by decide) ?_
    exact k_zret (v := (1 : Int32)) (u := ()) hx hb hr hlocks hK hS eQ (by decide) hf hP hD dX9_isLowest_20
theorem hd_X9_isTaken : yX9_isTaken.cls ≠ "java/lang/invoke/MethodHandle" ∧ yX9_isTaken.cls ≠ "java/lang/invoke/VarHandle" ∧ (parseMethodDescriptor yX9_isTaken.desc).map (fun d => d.parameters.length) = some 0 := by decide +kernel
set_option maxHeartbeats 4000000 in
set_option maxRecDepth 100000 in
theorem c_X9_isTaken (l : Launch) (D : va_G) (cI cZ : ClassId) (th0 : Nat) (th1 : Nat) (th2 : Nat) (th3 : Nat) (th4 : Nat) (sz : Nat) (u_th : sW) (z : Int32 × Unit) (hf : f_X9_isTaken u_th = some z) : Met l yX9_isTaken wsX9_isTaken rmX9_isTaken (va_Pc [.ref th0] (wPr D cI cZ (ceW cI cZ th0 th1 th2 th3 th4 u_th) sz)) (va_Qi (fun (r : Int32) (v : Unit) => (r, v) = z) (fun (v : Unit) t => wPo D cI cZ (va_A (ceW cI cZ th0 th1 th2 th3 th4 u_th) sz) (ceW cI cZ th0 th1 th2 th3 th4 u_th) t) (va_A (ceW cI cZ th0 th1 th2 th3 th4 u_th) sz)) 0 0 (va_A (ceW cI cZ th0 th1 th2 th3 th4 u_th) sz) := by
  refine k_enter (D := D) (cI := cI) (cZ := cZ) (wl := ceW cI cZ th0 th1 th2 th3 th4 u_th) (sz := sz) (av := [.ref th0]) (cc := cX9_isTaken) (maxL := 1) (ret := (some .boolean)) (Qc := fun A => va_Qi (fun (r : Int32) (v : Unit) => (r, v) = z) (fun (v : Unit) t => wPo D cI cZ (A) (ceW cI cZ th0 th1 th2 th3 th4 u_th) t) (A)) (by decide) rfl (Nat.le_of_ble_eq_true rfl) ?_
  intro p e s m below meth c ls A Q H locs eQ hx hb hr hml hts hown hlocks hK hP hD hS hA hE hl
  have hown : s.vm.findClass RX9 = some m.cls := hown
  have hl : lv_has ls 1 [(0, .ref th0)] := hl
  have hi_X9 : ∀ w ∈ wsX90, w ∈ wsX9_isTaken := fun w h => List.mem_cons_of_mem _ (List.mem_append_right _ h)
  rw [f_X9_isTaken] at hf
  refine lv_aload_n hx hb dX9_isTaken_0 rfl (lv_at hl 0 rfl) ?_
  refine va_get (D := D) (ci := 6) (v := .ref th3) (C := RX9) (T := TX9) (N := 6) hx hb hts hi_X9 hown hK hP 0 rfl rfl 2 (by decide) (hts (.fieldLink RX9 18 "FairWheel$Wheel" "riders" "[I") (List.mem_of_getElem? (i := 1) rfl)) (fun _ h9 => h9) rfl dX9_isTaken_1 ?_
  refine lv_aload_n hx hb dX9_isTaken_4 rfl (lv_at hl 0 rfl) ?_
  refine va_get (D := D) (ci := 6) (v := .int (W_lowest u_th)) (C := RX9) (T := TX9) (N := 6) hx hb hts hi_X9 hown hK hP 0 rfl rfl 4 (by decide) (hts (.fieldLink RX9 24 "FairWheel$Wheel" "lowest" "I") (List.mem_of_getElem? (i := 2) rfl)) (fun _ h9 => h9) rfl dX9_isTaken_5 ?_
  obtain ⟨z1, hz_z1, hf⟩ := o_bind hf
  refine k_calli (va_runSN (As := [.ref th3, .int (W_lowest u_th)]) (rest := []) ⟨hx, hb, hml, hown, hts⟩ (c_X10_at l D cI cZ th3 H.size 8 (W_riders u_th) (W_lowest u_th) z1 hz_z1) ⟨va_cnB 2 hts gX9_isTaken_X10_at_n41 rfl rfl rfl (hE.1.1 (RX9, 41, yX10_at) (List.mem_of_getElem? (i := 12) rfl)) (hts (.initialized RX10) (List.mem_of_getElem? (i := 4) rfl)) hd_X10_at ⟨Nat.le_of_ble_eq_true rfl, Nat.le_of_ble_eq_true rfl⟩, hts (.static yX10_at) (List.mem_of_getElem? (i := 3) rfl), trivial⟩ (k_preS hK hP hD hS hA hE [3] (by decide) rfl) rfl rfl hl.1 rfl (lv_room (Nat.le_of_ble_eq_true rfl)) dX9_isTaken_8 ⟨Nat.zero_le _, Nat.zero_le _⟩) hP hD hS hA [3] [none, none, none, some 0, none] 1 rfl (by decide) (by decide) rfl rfl (fun H locs hP hD hS => ?_)
  have hP : va_P D vwCl (ceW cI cZ th0 th1 th2 th3 th4 u_th) H := hP
  have hD : va_D A (ceW cI cZ th0 th1 th2 th3 th4 u_th) := hD
  refine lv_bipush (v := -6) hx hb dX9_isTaken_11 (by decide) ?_
  refine lv_icmp_eq (tgt := 20) hx hb dX9_isTaken_13 (by decide) (fun c2 => ?_) (fun c2 => ?_)
  · have hf := (if_pos c2).symm.trans hf
    refine lv_iconst (v := 0) hx hb dX9_isTaken_20 (by decide) ?_
    exact k_zret (v := (0 : Int32)) (u := ()) hx hb hr hlocks hK hS eQ (by decide) hf hP hD dX9_isTaken_21
  · have hf := (if_neg c2).symm.trans hf
    refine lv_iconst (v := 1) hx hb dX9_isTaken_16 (by decide) ?_
    refine lv_goto (tgt := 21) hx hb dX9_isTaken_17 (by decide) ?_
    exact k_zret (v := (1 : Int32)) (u := ()) hx hb hr hlocks hK hS eQ (by decide) hf hP hD dX9_isTaken_21
theorem hd_X9_loadOf : yX9_loadOf.cls ≠ "java/lang/invoke/MethodHandle" ∧ yX9_loadOf.cls ≠ "java/lang/invoke/VarHandle" ∧ (parseMethodDescriptor yX9_loadOf.desc).map (fun d => d.parameters.length) = some 1 := by decide +kernel
set_option maxHeartbeats 4000000 in
set_option maxRecDepth 100000 in
theorem c_X9_loadOf (l : Launch) (D : va_G) (cI cZ : ClassId) (th0 : Nat) (th1 : Nat) (th2 : Nat) (th3 : Nat) (th4 : Nat) (sz : Nat) (u_th : sW) (p1 : Int32) (z : Int32 × Unit) (hf : f_X9_loadOf u_th p1 = some z) : Met l yX9_loadOf wsX9_loadOf rmX9_loadOf (va_Pc [.ref th0, .int p1] (wPr D cI cZ (ceW cI cZ th0 th1 th2 th3 th4 u_th) sz)) (va_Qi (fun (r : Int32) (v : Unit) => (r, v) = z) (fun (v : Unit) t => wPo D cI cZ (va_A (ceW cI cZ th0 th1 th2 th3 th4 u_th) sz) (ceW cI cZ th0 th1 th2 th3 th4 u_th) t) (va_A (ceW cI cZ th0 th1 th2 th3 th4 u_th) sz)) 0 0 (va_A (ceW cI cZ th0 th1 th2 th3 th4 u_th) sz) := by
  refine k_enter (D := D) (cI := cI) (cZ := cZ) (wl := ceW cI cZ th0 th1 th2 th3 th4 u_th) (sz := sz) (av := [.ref th0, .int p1]) (cc := cX9_loadOf) (maxL := 2) (ret := (some .int)) (Qc := fun A => va_Qi (fun (r : Int32) (v : Unit) => (r, v) = z) (fun (v : Unit) t => wPo D cI cZ (A) (ceW cI cZ th0 th1 th2 th3 th4 u_th) t) (A)) (by decide) rfl (Nat.le_of_ble_eq_true rfl) ?_
  intro p e s m below meth c ls A Q H locs eQ hx hb hr hml hts hown hlocks hK hP hD hS hA hE hl
  have hown : s.vm.findClass RX9 = some m.cls := hown
  have hl : lv_has ls 2 [(0, .ref th0), (1, .int p1)] := hl
  have hi_X9 : ∀ w ∈ wsX90, w ∈ wsX9_loadOf := fun w h => List.mem_cons_of_mem _ (List.mem_append_right _ h)
  rw [f_X9_loadOf] at hf
  refine lv_aload_n hx hb dX9_loadOf_0 rfl (lv_at hl 0 rfl) ?_
  refine va_get (D := D) (ci := 6) (v := .ref th4) (C := RX9) (T := TX9) (N := 6) hx hb hts hi_X9 hown hK hP 0 rfl rfl 3 (by decide) (hts (.fieldLink RX9 21 "FairWheel$Wheel" "loads" "[I") (List.mem_of_getElem? (i := 1) rfl)) (fun _ h9 => h9) rfl dX9_loadOf_1 ?_
  refine lv_iload_n hx hb dX9_loadOf_4 rfl (lv_at hl 1 rfl) ?_
  obtain ⟨z1, hz_z1, hf⟩ := o_bind hf
  refine k_calli (va_runSN (As := [.ref th4, .int p1]) (rest := []) ⟨hx, hb, hml, hown, hts⟩ (c_X10_at l D cI cZ th4 H.size 8 (W_loads u_th) p1 z1 hz_z1) ⟨va_cnB 2 hts gX9_loadOf_X10_at_n41 rfl rfl rfl (hE.1.1 (RX9, 41, yX10_at) (List.mem_of_getElem? (i := 12) rfl)) (hts (.initialized RX10) (List.mem_of_getElem? (i := 3) rfl)) hd_X10_at ⟨Nat.le_of_ble_eq_true rfl, Nat.le_of_ble_eq_true rfl⟩, hts (.static yX10_at) (List.mem_of_getElem? (i := 2) rfl), trivial⟩ (k_preS hK hP hD hS hA hE [4] (by decide) rfl) rfl rfl hl.1 rfl (lv_room (Nat.le_of_ble_eq_true rfl)) dX9_loadOf_5 ⟨Nat.zero_le _, Nat.zero_le _⟩) hP hD hS hA [4] [none, none, none, none, some 0] 1 rfl (by decide) (by decide) rfl rfl (fun H locs hP hD hS => ?_)
  have hP : va_P D vwCl (ceW cI cZ th0 th1 th2 th3 th4 u_th) H := hP
  have hD : va_D A (ceW cI cZ th0 th1 th2 th3 th4 u_th) := hD
  exact k_iret (v := z1.1) (u := ()) hx hb hr hlocks hK hS eQ hf hP hD dX9_loadOf_8
theorem hd_X9_setLoad : yX9_setLoad.cls ≠ "java/lang/invoke/MethodHandle" ∧ yX9_setLoad.cls ≠ "java/lang/invoke/VarHandle" ∧ (parseMethodDescriptor yX9_setLoad.desc).map (fun d => d.parameters.length) = some 2 := by decide +kernel
set_option maxHeartbeats 4000000 in
set_option maxRecDepth 100000 in
theorem c_X9_setLoad (l : Launch) (D : va_G) (cI cZ : ClassId) (th0 : Nat) (th1 : Nat) (th2 : Nat) (th3 : Nat) (th4 : Nat) (sz : Nat) (u_th : sW) (p1 : Int32) (p2 : Int32) (z : sW) (hf : f_X9_setLoad u_th p1 p2 = some z) : Met l yX9_setLoad wsX9_setLoad rmX9_setLoad (va_Pc [.ref th0, .int p1, .int p2] (wPr D cI cZ (ceW cI cZ th0 th1 th2 th3 th4 u_th) sz)) (va_Qv (fun (v : sW) => v = z) (fun (v : sW) t => wPo D cI cZ (va_A (ceW cI cZ th0 th1 th2 th3 th4 u_th) sz) (ceW cI cZ th0 th1 th2 th3 th4 v) t) (va_A (ceW cI cZ th0 th1 th2 th3 th4 u_th) sz)) 0 0 (va_A (ceW cI cZ th0 th1 th2 th3 th4 u_th) sz) := by
  refine k_enter (D := D) (cI := cI) (cZ := cZ) (wl := ceW cI cZ th0 th1 th2 th3 th4 u_th) (sz := sz) (av := [.ref th0, .int p1, .int p2]) (cc := cX9_setLoad) (maxL := 3) (ret := none) (Qc := fun A => va_Qv (fun (v : sW) => v = z) (fun (v : sW) t => wPo D cI cZ (A) (ceW cI cZ th0 th1 th2 th3 th4 v) t) (A)) (by decide) rfl (Nat.le_of_ble_eq_true rfl) ?_
  intro p e s m below meth c ls A Q H locs eQ hx hb hr hml hts hown hlocks hK hP hD hS hA hE hl
  have hown : s.vm.findClass RX9 = some m.cls := hown
  have hl : lv_has ls 3 [(0, .ref th0), (1, .int p1), (2, .int p2)] := hl
  have hi_X9 : ∀ w ∈ wsX90, w ∈ wsX9_setLoad := fun w h => List.mem_cons_of_mem _ (List.mem_append_right _ h)
  rw [f_X9_setLoad] at hf
  refine lv_aload_n hx hb dX9_setLoad_0 rfl (lv_at hl 0 rfl) ?_
  refine va_get (D := D) (ci := 6) (v := .ref th4) (C := RX9) (T := TX9) (N := 6) hx hb hts hi_X9 hown hK hP 0 rfl rfl 3 (by decide) (hts (.fieldLink RX9 21 "FairWheel$Wheel" "loads" "[I") (List.mem_of_getElem? (i := 1) rfl)) (fun _ h9 => h9) rfl dX9_setLoad_1 ?_
  refine lv_iload_n hx hb dX9_setLoad_4 rfl (lv_at hl 1 rfl) ?_
  refine lv_iload_n hx hb dX9_setLoad_5 rfl (lv_at hl 2 rfl) ?_
  obtain ⟨z1, hz_z1, hf⟩ := o_bind hf
  refine k_callv (va_runSN (As := [.ref th4, .int p1, .int p2]) (rest := []) ⟨hx, hb, hml, hown, hts⟩ (c_X10_put l D cI cZ th4 H.size 8 (W_loads u_th) p1 p2 z1 hz_z1) ⟨va_cnB 3 hts gX9_setLoad_X10_put_n45 rfl rfl rfl (hE.1.1 (RX9, 45, yX10_put) (List.mem_of_getElem? (i := 13) rfl)) (hts (.initialized RX10) (List.mem_of_getElem? (i := 3) rfl)) hd_X10_put ⟨Nat.le_of_ble_eq_true rfl, Nat.le_of_ble_eq_true rfl⟩, hts (.static yX10_put) (List.mem_of_getElem? (i := 2) rfl), trivial⟩ (k_preS hK hP hD hS hA hE [4] (by decide) rfl) rfl rfl hl.1 rfl (lv_room (Nat.le_of_ble_eq_true rfl)) dX9_setLoad_6 ⟨Nat.zero_le _, Nat.zero_le _⟩) hP hD hS hA [4] [none, none, none, none, some 0] 1 rfl (by decide) (by decide) rfl rfl (fun H locs hP hD hS => ?_)
  have hP : va_P D vwCl (ceW cI cZ th0 th1 th2 th3 th4 ((W_weights u_th), (W_cars u_th), (W_riders u_th), z1, (W_lowest u_th), (W_friction u_th))) H := hP
  have hD : va_D A (ceW cI cZ th0 th1 th2 th3 th4 ((W_weights u_th), (W_cars u_th), (W_riders u_th), z1, (W_lowest u_th), (W_friction u_th))) := hD
  exact k_vret (u := ((W_weights u_th), (W_cars u_th), (W_riders u_th), z1, (W_lowest u_th), (W_friction u_th))) hx hb hr hlocks hK hS eQ hf hP hD dX9_setLoad_9
theorem hd_X9_placeOf : yX9_placeOf.cls ≠ "java/lang/invoke/MethodHandle" ∧ yX9_placeOf.cls ≠ "java/lang/invoke/VarHandle" ∧ (parseMethodDescriptor yX9_placeOf.desc).map (fun d => d.parameters.length) = some 1 := by decide +kernel
set_option maxHeartbeats 4000000 in
set_option maxRecDepth 100000 in
theorem c_X9_placeOf (l : Launch) (D : va_G) (cI cZ : ClassId) (th0 : Nat) (th1 : Nat) (th2 : Nat) (th3 : Nat) (th4 : Nat) (sz : Nat) (u_th : sW) (p1 : Int32) (z : Int32 × Unit) (hf : f_X9_placeOf u_th p1 = some z) : Met l yX9_placeOf wsX9_placeOf rmX9_placeOf (va_Pc [.ref th0, .int p1] (wPr D cI cZ (ceW cI cZ th0 th1 th2 th3 th4 u_th) sz)) (va_Qi (fun (r : Int32) (v : Unit) => (r, v) = z) (fun (v : Unit) t => wPo D cI cZ (va_A (ceW cI cZ th0 th1 th2 th3 th4 u_th) sz) (ceW cI cZ th0 th1 th2 th3 th4 u_th) t) (va_A (ceW cI cZ th0 th1 th2 th3 th4 u_th) sz)) 0 0 (va_A (ceW cI cZ th0 th1 th2 th3 th4 u_th) sz) := by
  refine k_enter (D := D) (cI := cI) (cZ := cZ) (wl := ceW cI cZ th0 th1 th2 th3 th4 u_th) (sz := sz) (av := [.ref th0, .int p1]) (cc := cX9_placeOf) (maxL := 2) (ret := (some .int)) (Qc := fun A => va_Qi (fun (r : Int32) (v : Unit) => (r, v) = z) (fun (v : Unit) t => wPo D cI cZ (A) (ceW cI cZ th0 th1 th2 th3 th4 u_th) t) (A)) (by decide) rfl (Nat.le_of_ble_eq_true rfl) ?_
  intro p e s m below meth c ls A Q H locs eQ hx hb hr hml hts hown hlocks hK hP hD hS hA hE hl
  have hown : s.vm.findClass RX9 = some m.cls := hown
  have hl : lv_has ls 2 [(0, .ref th0), (1, .int p1)] := hl
  have hi_X9 : ∀ w ∈ wsX90, w ∈ wsX9_placeOf := fun w h => List.mem_cons_of_mem _ (List.mem_append_right _ h)
  rw [f_X9_placeOf] at hf
  refine lv_iload_n hx hb dX9_placeOf_0 rfl (lv_at hl 1 rfl) ?_
  refine lv_aload_n hx hb dX9_placeOf_1 rfl (lv_at hl 0 rfl) ?_
  refine va_get (D := D) (ci := 6) (v := .int (W_lowest u_th)) (C := RX9) (T := TX9) (N := 6) hx hb hts hi_X9 hown hK hP 0 rfl rfl 4 (by decide) (hts (.fieldLink RX9 24 "FairWheel$Wheel" "lowest" "I") (List.mem_of_getElem? (i := 1) rfl)) (fun _ h9 => h9) rfl dX9_placeOf_2 ?_
  refine lv_isub hx hb dX9_placeOf_5 ?_
  refine lv_bipush (v := 8) hx hb dX9_placeOf_6 (by decide) ?_
  obtain ⟨z1, hz_z1, hf⟩ := o_bind hf
  refine k_calli (va_runS (As := [.int (p1 - (W_lowest u_th)), .int (8 : Int32)]) (rest := []) ⟨hx, hb, hml, hown, hts⟩ (c_J9_floorMod_7cf53 l D cI cZ  H.size (p1 - (W_lowest u_th)) (8 : Int32) z1 hz_z1) (va_cwS 2 hts gX9_placeOf_J9_floorMod_7cf53 rfl rfl rfl hd_J9_floorMod_7cf53 ⟨Nat.le_of_ble_eq_true rfl, Nat.le_of_ble_eq_true rfl⟩) (k_preS hK hP hD hS hA hE [] (by decide) rfl) rfl rfl hl.1 rfl (lv_room (Nat.le_of_ble_eq_true rfl)) dX9_placeOf_8 ⟨Nat.zero_le _, Nat.zero_le _⟩) hP hD hS hA [] [none, none, none, none, none] 0 rfl (by decide) (by decide) rfl rfl (fun H locs hP hD hS => ?_)
  have hP : va_P D vwCl (ceW cI cZ th0 th1 th2 th3 th4 u_th) H := hP
  have hD : va_D A (ceW cI cZ th0 th1 th2 th3 th4 u_th) := hD
  exact k_iret (v := z1.1) (u := ()) hx hb hr hlocks hK hS eQ hf hP hD dX9_placeOf_11
theorem hd_X9_takenCars : yX9_takenCars.cls ≠ "java/lang/invoke/MethodHandle" ∧ yX9_takenCars.cls ≠ "java/lang/invoke/VarHandle" ∧ (parseMethodDescriptor yX9_takenCars.desc).map (fun d => d.parameters.length) = some 0 := by decide +kernel
set_option maxHeartbeats 4000000 in
set_option maxRecDepth 100000 in
theorem c_X9_takenCars (l : Launch) (D : va_G) (cI cZ : ClassId) (th0 : Nat) (th1 : Nat) (th2 : Nat) (th3 : Nat) (th4 : Nat) (sz : Nat) (u_th : sW) (z : Int32 × Unit) (hf : f_X9_takenCars u_th = some z) : Met l yX9_takenCars wsX9_takenCars rmX9_takenCars (va_Pc [.ref th0] (wPr D cI cZ (ceW cI cZ th0 th1 th2 th3 th4 u_th) sz)) (va_Qi (fun (r : Int32) (v : Unit) => (r, v) = z) (fun (v : Unit) t => wPo D cI cZ (va_A (ceW cI cZ th0 th1 th2 th3 th4 u_th) sz) (ceW cI cZ th0 th1 th2 th3 th4 u_th) t) (va_A (ceW cI cZ th0 th1 th2 th3 th4 u_th) sz)) 0 0 (va_A (ceW cI cZ th0 th1 th2 th3 th4 u_th) sz) := by
  refine k_enter (D := D) (cI := cI) (cZ := cZ) (wl := ceW cI cZ th0 th1 th2 th3 th4 u_th) (sz := sz) (av := [.ref th0]) (cc := cX9_takenCars) (maxL := 3) (ret := (some .int)) (Qc := fun A => va_Qi (fun (r : Int32) (v : Unit) => (r, v) = z) (fun (v : Unit) t => wPo D cI cZ (A) (ceW cI cZ th0 th1 th2 th3 th4 u_th) t) (A)) (by decide) rfl (Nat.le_of_ble_eq_true rfl) ?_
  intro p e s m below meth c ls A Q H locs eQ hx hb hr hml hts hown hlocks hK hP hD hS hA hE hl
  have hown : s.vm.findClass RX9 = some m.cls := hown
  have hl : lv_has ls 3 [(0, .ref th0)] := hl
  have hi_X9 : ∀ w ∈ wsX90, w ∈ wsX9_takenCars := fun w h => List.mem_cons_of_mem _ (List.mem_append_right _ h)
  have hL4 : ∀ (n : Nat), ∀ (v1 : Int32) (v2 : Int32) (H : Heap) (locs : List Loc) (ls : Array Slot), lv_has ls 3 [(0, .ref th0), (1, .int v1), (2, .int v2)] → va_P D vwCl (ceW cI cZ th0 th1 th2 th3 th4 u_th) H → va_D A (ceW cI cZ th0 th1 th2 th3 th4 u_th) → va_S A s.heap H locs → f_X9_takenCars_L4 u_th n v1 v2 = some z → W p l e (headSpec wsX9_takenCars rmX9_takenCars).room s m ([.ref th0] : List Value).toArray below meth c H locs 0 0 Q (F0 m 4 ls []) := by
    intro n
    induction n with
    | zero =>
      intro v1 v2 H locs ls hl hP hD hS hf
      exact absurd (show (none : Option (Int32 × Unit)) = some z from hf) (fun h => by cases h)
    | succ n ih =>
      intro v1 v2 H locs ls hl hP hD hS hf
      rw [f_X9_takenCars_L4] at hf
      refine lv_iload_n hx hb dX9_takenCars_4 rfl (lv_at hl 2 rfl) ?_
      refine lv_bipush (v := 8) hx hb dX9_takenCars_5 (by decide) ?_
      refine lv_icmp_ge (tgt := 35) hx hb dX9_takenCars_7 (by decide) (fun c1 => ?_) (fun c1 => ?_)
      · have hf := (if_pos c1).symm.trans hf
        refine lv_iload_n hx hb dX9_takenCars_35 rfl (lv_at hl 1 rfl) ?_
        exact k_iret (v := v1) (u := ()) hx hb hr hlocks hK hS eQ hf hP hD dX9_takenCars_36
      · have hf := (if_neg c1).symm.trans hf
        refine lv_aload_n hx hb dX9_takenCars_10 rfl (lv_at hl 0 rfl) ?_
        refine va_get (D := D) (ci := 6) (v := .ref th3) (C := RX9) (T := TX9) (N := 6) hx hb hts hi_X9 hown hK hP 0 rfl rfl 2 (by decide) (hts (.fieldLink RX9 18 "FairWheel$Wheel" "riders" "[I") (List.mem_of_getElem? (i := 1) rfl)) (fun _ h9 => h9) rfl dX9_takenCars_11 ?_
        refine lv_iload_n hx hb dX9_takenCars_14 rfl (lv_at hl 2 rfl) ?_
        obtain ⟨z2, hz_z2, hf⟩ := o_bind hf
        refine k_calli (va_runSN (As := [.ref th3, .int v2]) (rest := []) ⟨hx, hb, hml, hown, hts⟩ (c_X10_at l D cI cZ th3 H.size 8 (W_riders u_th) v2 z2 hz_z2) ⟨va_cnB 2 hts gX9_takenCars_X10_at_n41 rfl rfl rfl (hE.1.1 (RX9, 41, yX10_at) (List.mem_of_getElem? (i := 12) rfl)) (hts (.initialized RX10) (List.mem_of_getElem? (i := 3) rfl)) hd_X10_at ⟨Nat.le_of_ble_eq_true rfl, Nat.le_of_ble_eq_true rfl⟩, hts (.static yX10_at) (List.mem_of_getElem? (i := 2) rfl), trivial⟩ (k_preS hK hP hD hS hA hE [3] (by decide) rfl) rfl rfl hl.1 rfl (lv_room (Nat.le_of_ble_eq_true rfl)) dX9_takenCars_15 ⟨Nat.zero_le _, Nat.zero_le _⟩) hP hD hS hA [3] [none, none, none, some 0, none] 1 rfl (by decide) (by decide) rfl rfl (fun H locs hP hD hS => ?_)
        have hP : va_P D vwCl (ceW cI cZ th0 th1 th2 th3 th4 u_th) H := hP
        have hD : va_D A (ceW cI cZ th0 th1 th2 th3 th4 u_th) := hD
        refine lv_bipush (v := -6) hx hb dX9_takenCars_18 (by decide) ?_
        refine lv_icmp_eq (tgt := 29) hx hb dX9_takenCars_20 (by decide) (fun c3 => ?_) (fun c3 => ?_)
        · have hf := (if_pos c3).symm.trans hf
          refine lv_iinc (v := (v2 + (1 : Int32))) (lv' := [(2, .int (v2 + (1 : Int32))), (0, .ref th0), (1, .int v1)]) hx hb dX9_takenCars_29 hl (k := 2) rfl rfl (by decide) rfl (fun ls hl => ?_)
          refine lv_goto (tgt := 4) hx hb dX9_takenCars_32 (by decide) ?_
          exact ih v1 (v2 + (1 : Int32)) _ _ ls (lv_sub hl [1, 2, 0] rfl) hP hD hS hf
        · have hf := (if_neg c3).symm.trans hf
          refine lv_iload_n hx hb dX9_takenCars_23 rfl (lv_at hl 1 rfl) ?_
          refine lv_iconst (v := 1) hx hb dX9_takenCars_24 (by decide) ?_
          refine lv_iload_n hx hb dX9_takenCars_25 rfl (lv_at hl 2 rfl) ?_
          refine lv_ishl hx hb dX9_takenCars_26 ?_
          refine lv_ior hx hb dX9_takenCars_27 ?_
          refine lv_istore_n (lv' := [(1, .int (v1 ||| ((1 : Int32) <<< (v2 &&& 31)))), (0, .ref th0), (2, .int v2)]) hx hb dX9_takenCars_28 rfl hl (by decide) rfl (fun ls hl => ?_)
          refine lv_iinc (v := (v2 + (1 : Int32))) (lv' := [(2, .int (v2 + (1 : Int32))), (1, .int (v1 ||| ((1 : Int32) <<< (v2 &&& 31)))), (0, .ref th0)]) hx hb dX9_takenCars_29 hl (k := 2) rfl rfl (by decide) rfl (fun ls hl => ?_)
          refine lv_goto (tgt := 4) hx hb dX9_takenCars_32 (by decide) ?_
          exact ih (v1 ||| ((1 : Int32) <<< (v2 &&& 31))) (v2 + (1 : Int32)) _ _ ls (lv_sub hl [2, 1, 0] rfl) hP hD hS hf
  rw [f_X9_takenCars] at hf
  refine lv_iconst (v := 0) hx hb dX9_takenCars_0 (by decide) ?_
  refine lv_istore_n (lv' := [(1, .int (0 : Int32)), (0, .ref th0)]) hx hb dX9_takenCars_1 rfl hl (by decide) rfl (fun ls hl => ?_)
  refine lv_iconst (v := 0) hx hb dX9_takenCars_2 (by decide) ?_
  refine lv_istore_n (lv' := [(2, .int (0 : Int32)), (1, .int (0 : Int32)), (0, .ref th0)]) hx hb dX9_takenCars_3 rfl hl (by decide) rfl (fun ls hl => ?_)
  exact hL4 oF (0 : Int32) (0 : Int32) _ _ ls (lv_sub hl [2, 1, 0] rfl) hP hD hS hf
theorem hd_X9_seat : yX9_seat.cls ≠ "java/lang/invoke/MethodHandle" ∧ yX9_seat.cls ≠ "java/lang/invoke/VarHandle" ∧ (parseMethodDescriptor yX9_seat.desc).map (fun d => d.parameters.length) = some 2 := by decide +kernel
set_option maxHeartbeats 4000000 in
set_option maxRecDepth 100000 in
theorem c_X9_seat (l : Launch) (D : va_G) (cI cZ : ClassId) (th0 : Nat) (th1 : Nat) (th2 : Nat) (th3 : Nat) (th4 : Nat) (sz : Nat) (u_th : sW) (p1 : Int32) (p2 : Int32) (z : sW) (hf : f_X9_seat u_th p1 p2 = some z) : Met l yX9_seat wsX9_seat rmX9_seat (va_Pc [.ref th0, .int p1, .int p2] (wPr D cI cZ (ceW cI cZ th0 th1 th2 th3 th4 u_th) sz)) (va_Qv (fun (v : sW) => v = z) (fun (v : sW) t => wPo D cI cZ (va_A (ceW cI cZ th0 th1 th2 th3 th4 u_th) sz) (ceW cI cZ th0 th1 th2 th3 th4 v) t) (va_A (ceW cI cZ th0 th1 th2 th3 th4 u_th) sz)) 0 0 (va_A (ceW cI cZ th0 th1 th2 th3 th4 u_th) sz) := by
  refine k_enter (D := D) (cI := cI) (cZ := cZ) (wl := ceW cI cZ th0 th1 th2 th3 th4 u_th) (sz := sz) (av := [.ref th0, .int p1, .int p2]) (cc := cX9_seat) (maxL := 3) (ret := none) (Qc := fun A => va_Qv (fun (v : sW) => v = z) (fun (v : sW) t => wPo D cI cZ (A) (ceW cI cZ th0 th1 th2 th3 th4 v) t) (A)) (by decide) rfl (Nat.le_of_ble_eq_true rfl) ?_
  intro p e s m below meth c ls A Q H locs eQ hx hb hr hml hts hown hlocks hK hP hD hS hA hE hl
  have hown : s.vm.findClass RX9 = some m.cls := hown
  have hl : lv_has ls 3 [(0, .ref th0), (1, .int p1), (2, .int p2)] := hl
  have hi_X9 : ∀ w ∈ wsX90, w ∈ wsX9_seat := fun w h => List.mem_cons_of_mem _ (List.mem_append_right _ h)
  rw [f_X9_seat] at hf
  refine lv_aload_n hx hb dX9_seat_0 rfl (lv_at hl 0 rfl) ?_
  refine va_get (D := D) (ci := 6) (v := .ref th3) (C := RX9) (T := TX9) (N := 6) hx hb hts hi_X9 hown hK hP 0 rfl rfl 2 (by decide) (hts (.fieldLink RX9 18 "FairWheel$Wheel" "riders" "[I") (List.mem_of_getElem? (i := 1) rfl)) (fun _ h9 => h9) rfl dX9_seat_1 ?_
  refine lv_iload_n hx hb dX9_seat_4 rfl (lv_at hl 2 rfl) ?_
  refine lv_iload_n hx hb dX9_seat_5 rfl (lv_at hl 1 rfl) ?_
  obtain ⟨z1, hz_z1, hf⟩ := o_bind hf
  refine k_callv (va_runSN (As := [.ref th3, .int p2, .int p1]) (rest := []) ⟨hx, hb, hml, hown, hts⟩ (c_X10_put l D cI cZ th3 H.size 8 (W_riders u_th) p2 p1 z1 hz_z1) ⟨va_cnB 3 hts gX9_seat_X10_put_n45 rfl rfl rfl (hE.1.1 (RX9, 45, yX10_put) (List.mem_of_getElem? (i := 13) rfl)) (hts (.initialized RX10) (List.mem_of_getElem? (i := 4) rfl)) hd_X10_put ⟨Nat.le_of_ble_eq_true rfl, Nat.le_of_ble_eq_true rfl⟩, hts (.static yX10_put) (List.mem_of_getElem? (i := 3) rfl), trivial⟩ (k_preS hK hP hD hS hA hE [3] (by decide) rfl) rfl rfl hl.1 rfl (lv_room (Nat.le_of_ble_eq_true rfl)) dX9_seat_6 ⟨Nat.zero_le _, Nat.zero_le _⟩) hP hD hS hA [3] [none, none, none, some 0, none] 1 rfl (by decide) (by decide) rfl rfl (fun H locs hP hD hS => ?_)
  have hP : va_P D vwCl (ceW cI cZ th0 th1 th2 th3 th4 ((W_weights u_th), (W_cars u_th), z1, (W_loads u_th), (W_lowest u_th), (W_friction u_th))) H := hP
  have hD : va_D A (ceW cI cZ th0 th1 th2 th3 th4 ((W_weights u_th), (W_cars u_th), z1, (W_loads u_th), (W_lowest u_th), (W_friction u_th))) := hD
  refine lv_aload_n hx hb dX9_seat_9 rfl (lv_at hl 0 rfl) ?_
  refine va_get (D := D) (ci := 6) (v := .ref th2) (C := RX9) (T := TX9) (N := 6) hx hb hts hi_X9 hown hK hP 0 rfl rfl 1 (by decide) (hts (.fieldLink RX9 15 "FairWheel$Wheel" "cars" "[I") (List.mem_of_getElem? (i := 2) rfl)) (fun _ h9 => h9) rfl dX9_seat_10 ?_
  refine lv_iload_n hx hb dX9_seat_13 rfl (lv_at hl 1 rfl) ?_
  refine lv_iload_n hx hb dX9_seat_14 rfl (lv_at hl 2 rfl) ?_
  obtain ⟨z2, hz_z2, hf⟩ := o_bind hf
  refine k_callv (va_runSN (As := [.ref th2, .int p1, .int p2]) (rest := []) ⟨hx, hb, hml, hown, hts⟩ (c_X10_put l D cI cZ th2 H.size 8 (W_cars u_th) p1 p2 z2 hz_z2) ⟨va_cnB 3 hts gX9_seat_X10_put_n45 rfl rfl rfl (hE.1.1 (RX9, 45, yX10_put) (List.mem_of_getElem? (i := 13) rfl)) (hts (.initialized RX10) (List.mem_of_getElem? (i := 4) rfl)) hd_X10_put ⟨Nat.le_of_ble_eq_true rfl, Nat.le_of_ble_eq_true rfl⟩, hts (.static yX10_put) (List.mem_of_getElem? (i := 3) rfl), trivial⟩ (k_preS hK hP hD hS hA hE [2] (by decide) rfl) rfl rfl hl.1 rfl (lv_room (Nat.le_of_ble_eq_true rfl)) dX9_seat_15 ⟨Nat.zero_le _, Nat.zero_le _⟩) hP hD hS hA [2] [none, none, some 0, none, none] 1 rfl (by decide) (by decide) rfl rfl (fun H locs hP hD hS => ?_)
  have hP : va_P D vwCl (ceW cI cZ th0 th1 th2 th3 th4 ((W_weights u_th), z2, z1, (W_loads u_th), (W_lowest u_th), (W_friction u_th))) H := hP
  have hD : va_D A (ceW cI cZ th0 th1 th2 th3 th4 ((W_weights u_th), z2, z1, (W_loads u_th), (W_lowest u_th), (W_friction u_th))) := hD
  exact k_vret (u := ((W_weights u_th), z2, z1, (W_loads u_th), (W_lowest u_th), (W_friction u_th))) hx hb hr hlocks hK hS eQ hf hP hD dX9_seat_18
theorem hd_X9_unseat : yX9_unseat.cls ≠ "java/lang/invoke/MethodHandle" ∧ yX9_unseat.cls ≠ "java/lang/invoke/VarHandle" ∧ (parseMethodDescriptor yX9_unseat.desc).map (fun d => d.parameters.length) = some 1 := by decide +kernel
set_option maxHeartbeats 4000000 in
set_option maxRecDepth 100000 in
theorem c_X9_unseat (l : Launch) (D : va_G) (cI cZ : ClassId) (th0 : Nat) (th1 : Nat) (th2 : Nat) (th3 : Nat) (th4 : Nat) (sz : Nat) (u_th : sW) (p1 : Int32) (z : sW) (hf : f_X9_unseat u_th p1 = some z) : Met l yX9_unseat wsX9_unseat rmX9_unseat (va_Pc [.ref th0, .int p1] (wPr D cI cZ (ceW cI cZ th0 th1 th2 th3 th4 u_th) sz)) (va_Qv (fun (v : sW) => v = z) (fun (v : sW) t => wPo D cI cZ (va_A (ceW cI cZ th0 th1 th2 th3 th4 u_th) sz) (ceW cI cZ th0 th1 th2 th3 th4 v) t) (va_A (ceW cI cZ th0 th1 th2 th3 th4 u_th) sz)) 0 0 (va_A (ceW cI cZ th0 th1 th2 th3 th4 u_th) sz) := by
  refine k_enter (D := D) (cI := cI) (cZ := cZ) (wl := ceW cI cZ th0 th1 th2 th3 th4 u_th) (sz := sz) (av := [.ref th0, .int p1]) (cc := cX9_unseat) (maxL := 2) (ret := none) (Qc := fun A => va_Qv (fun (v : sW) => v = z) (fun (v : sW) t => wPo D cI cZ (A) (ceW cI cZ th0 th1 th2 th3 th4 v) t) (A)) (by decide) rfl (Nat.le_of_ble_eq_true rfl) ?_
  intro p e s m below meth c ls A Q H locs eQ hx hb hr hml hts hown hlocks hK hP hD hS hA hE hl
  have hown : s.vm.findClass RX9 = some m.cls := hown
  have hl : lv_has ls 2 [(0, .ref th0), (1, .int p1)] := hl
  have hi_X9 : ∀ w ∈ wsX90, w ∈ wsX9_unseat := fun w h => List.mem_cons_of_mem _ (List.mem_append_right _ h)
  rw [f_X9_unseat] at hf
  refine lv_aload_n hx hb dX9_unseat_0 rfl (lv_at hl 0 rfl) ?_
  refine va_get (D := D) (ci := 6) (v := .ref th2) (C := RX9) (T := TX9) (N := 6) hx hb hts hi_X9 hown hK hP 0 rfl rfl 1 (by decide) (hts (.fieldLink RX9 15 "FairWheel$Wheel" "cars" "[I") (List.mem_of_getElem? (i := 1) rfl)) (fun _ h9 => h9) rfl dX9_unseat_1 ?_
  refine lv_aload_n hx hb dX9_unseat_4 rfl (lv_at hl 0 rfl) ?_
  refine va_get (D := D) (ci := 6) (v := .ref th3) (C := RX9) (T := TX9) (N := 6) hx hb hts hi_X9 hown hK hP 0 rfl rfl 2 (by decide) (hts (.fieldLink RX9 18 "FairWheel$Wheel" "riders" "[I") (List.mem_of_getElem? (i := 2) rfl)) (fun _ h9 => h9) rfl dX9_unseat_5 ?_
  refine lv_iload_n hx hb dX9_unseat_8 rfl (lv_at hl 1 rfl) ?_
  obtain ⟨z1, hz_z1, hf⟩ := o_bind hf
  refine k_calli (va_runSN (As := [.ref th3, .int p1]) (rest := [.ref th2]) ⟨hx, hb, hml, hown, hts⟩ (c_X10_at l D cI cZ th3 H.size 8 (W_riders u_th) p1 z1 hz_z1) ⟨va_cnB 2 hts gX9_unseat_X10_at_n41 rfl rfl rfl (hE.1.1 (RX9, 41, yX10_at) (List.mem_of_getElem? (i := 12) rfl)) (hts (.initialized RX10) (List.mem_of_getElem? (i := 4) rfl)) hd_X10_at ⟨Nat.le_of_ble_eq_true rfl, Nat.le_of_ble_eq_true rfl⟩, hts (.static yX10_at) (List.mem_of_getElem? (i := 3) rfl), trivial⟩ (k_preS hK hP hD hS hA hE [3] (by decide) rfl) rfl rfl hl.1 rfl (lv_room (Nat.le_of_ble_eq_true rfl)) dX9_unseat_9 ⟨Nat.zero_le _, Nat.zero_le _⟩) hP hD hS hA [3] [none, none, none, some 0, none] 1 rfl (by decide) (by decide) rfl rfl (fun H locs hP hD hS => ?_)
  have hP : va_P D vwCl (ceW cI cZ th0 th1 th2 th3 th4 u_th) H := hP
  have hD : va_D A (ceW cI cZ th0 th1 th2 th3 th4 u_th) := hD
  refine lv_bipush (v := -6) hx hb dX9_unseat_12 (by decide) ?_
  obtain ⟨z2, hz_z2, hf⟩ := o_bind hf
  refine k_callv (va_runSN (As := [.ref th2, .int z1.1, .int (-6 : Int32)]) (rest := []) ⟨hx, hb, hml, hown, hts⟩ (c_X10_put l D cI cZ th2 H.size 8 (W_cars u_th) z1.1 (-6 : Int32) z2 hz_z2) ⟨va_cnB 3 hts gX9_unseat_X10_put_n45 rfl rfl rfl (hE.1.1 (RX9, 45, yX10_put) (List.mem_of_getElem? (i := 13) rfl)) (hts (.initialized RX10) (List.mem_of_getElem? (i := 4) rfl)) hd_X10_put ⟨Nat.le_of_ble_eq_true rfl, Nat.le_of_ble_eq_true rfl⟩, hts (.static yX10_put) (List.mem_of_getElem? (i := 6) rfl), trivial⟩ (k_preS hK hP hD hS hA hE [2] (by decide) rfl) rfl rfl hl.1 rfl (lv_room (Nat.le_of_ble_eq_true rfl)) dX9_unseat_14 ⟨Nat.zero_le _, Nat.zero_le _⟩) hP hD hS hA [2] [none, none, some 0, none, none] 1 rfl (by decide) (by decide) rfl rfl (fun H locs hP hD hS => ?_)
  have hP : va_P D vwCl (ceW cI cZ th0 th1 th2 th3 th4 ((W_weights u_th), z2, (W_riders u_th), (W_loads u_th), (W_lowest u_th), (W_friction u_th))) H := hP
  have hD : va_D A (ceW cI cZ th0 th1 th2 th3 th4 ((W_weights u_th), z2, (W_riders u_th), (W_loads u_th), (W_lowest u_th), (W_friction u_th))) := hD
  refine lv_aload_n hx hb dX9_unseat_17 rfl (lv_at hl 0 rfl) ?_
  refine va_get (D := D) (ci := 6) (v := .ref th3) (C := RX9) (T := TX9) (N := 6) hx hb hts hi_X9 hown hK hP 0 rfl rfl 2 (by decide) (hts (.fieldLink RX9 18 "FairWheel$Wheel" "riders" "[I") (List.mem_of_getElem? (i := 2) rfl)) (fun _ h9 => h9) rfl dX9_unseat_18 ?_
  refine lv_iload_n hx hb dX9_unseat_21 rfl (lv_at hl 1 rfl) ?_
  refine lv_bipush (v := -6) hx hb dX9_unseat_22 (by decide) ?_
  obtain ⟨z3, hz_z3, hf⟩ := o_bind hf
  refine k_callv (va_runSN (As := [.ref th3, .int p1, .int (-6 : Int32)]) (rest := []) ⟨hx, hb, hml, hown, hts⟩ (c_X10_put l D cI cZ th3 H.size 8 (W_riders u_th) p1 (-6 : Int32) z3 hz_z3) ⟨va_cnB 3 hts gX9_unseat_X10_put_n45 rfl rfl rfl (hE.1.1 (RX9, 45, yX10_put) (List.mem_of_getElem? (i := 13) rfl)) (hts (.initialized RX10) (List.mem_of_getElem? (i := 4) rfl)) hd_X10_put ⟨Nat.le_of_ble_eq_true rfl, Nat.le_of_ble_eq_true rfl⟩, hts (.static yX10_put) (List.mem_of_getElem? (i := 6) rfl), trivial⟩ (k_preS hK hP hD hS hA hE [3] (by decide) rfl) rfl rfl hl.1 rfl (lv_room (Nat.le_of_ble_eq_true rfl)) dX9_unseat_24 ⟨Nat.zero_le _, Nat.zero_le _⟩) hP hD hS hA [3] [none, none, none, some 0, none] 1 rfl (by decide) (by decide) rfl rfl (fun H locs hP hD hS => ?_)
  have hP : va_P D vwCl (ceW cI cZ th0 th1 th2 th3 th4 ((W_weights u_th), z2, z3, (W_loads u_th), (W_lowest u_th), (W_friction u_th))) H := hP
  have hD : va_D A (ceW cI cZ th0 th1 th2 th3 th4 ((W_weights u_th), z2, z3, (W_loads u_th), (W_lowest u_th), (W_friction u_th))) := hD
  exact k_vret (u := ((W_weights u_th), z2, z3, (W_loads u_th), (W_lowest u_th), (W_friction u_th))) hx hb hr hlocks hK hS eQ hf hP hD dX9_unseat_27
theorem hd_X9_turn : yX9_turn.cls ≠ "java/lang/invoke/MethodHandle" ∧ yX9_turn.cls ≠ "java/lang/invoke/VarHandle" ∧ (parseMethodDescriptor yX9_turn.desc).map (fun d => d.parameters.length) = some 1 := by decide +kernel
set_option maxHeartbeats 4000000 in
set_option maxRecDepth 100000 in
theorem c_X9_turn (l : Launch) (D : va_G) (cI cZ : ClassId) (th0 : Nat) (th1 : Nat) (th2 : Nat) (th3 : Nat) (th4 : Nat) (sz : Nat) (u_th : sW) (p1 : Int32) (z : sW) (hf : f_X9_turn u_th p1 = some z) : Met l yX9_turn wsX9_turn rmX9_turn (va_Pc [.ref th0, .int p1] (wPr D cI cZ (ceW cI cZ th0 th1 th2 th3 th4 u_th) sz)) (va_Qv (fun (v : sW) => v = z) (fun (v : sW) t => wPo D cI cZ (va_A (ceW cI cZ th0 th1 th2 th3 th4 u_th) sz) (ceW cI cZ th0 th1 th2 th3 th4 v) t) (va_A (ceW cI cZ th0 th1 th2 th3 th4 u_th) sz)) 0 0 (va_A (ceW cI cZ th0 th1 th2 th3 th4 u_th) sz) := by
  refine k_enter (D := D) (cI := cI) (cZ := cZ) (wl := ceW cI cZ th0 th1 th2 th3 th4 u_th) (sz := sz) (av := [.ref th0, .int p1]) (cc := cX9_turn) (maxL := 2) (ret := none) (Qc := fun A => va_Qv (fun (v : sW) => v = z) (fun (v : sW) t => wPo D cI cZ (A) (ceW cI cZ th0 th1 th2 th3 th4 v) t) (A)) (by decide) rfl (Nat.le_of_ble_eq_true rfl) ?_
  intro p e s m below meth c ls A Q H locs eQ hx hb hr hml hts hown hlocks hK hP hD hS hA hE hl
  have hown : s.vm.findClass RX9 = some m.cls := hown
  have hl : lv_has ls 2 [(0, .ref th0), (1, .int p1)] := hl
  have hi_X9 : ∀ w ∈ wsX90, w ∈ wsX9_turn := fun w h => List.mem_cons_of_mem _ (List.mem_append_right _ h)
  rw [f_X9_turn] at hf
  refine lv_aload_n hx hb dX9_turn_0 rfl (lv_at hl 0 rfl) ?_
  refine lv_aload_n hx hb dX9_turn_1 rfl (lv_at hl 0 rfl) ?_
  refine va_get (D := D) (ci := 6) (v := .int (W_lowest u_th)) (C := RX9) (T := TX9) (N := 6) hx hb hts hi_X9 hown hK hP 0 rfl rfl 4 (by decide) (hts (.fieldLink RX9 24 "FairWheel$Wheel" "lowest" "I") (List.mem_of_getElem? (i := 1) rfl)) (fun _ h9 => h9) rfl dX9_turn_2 ?_
  refine lv_iload_n hx hb dX9_turn_5 rfl (lv_at hl 1 rfl) ?_
  refine lv_iadd hx hb dX9_turn_6 ?_
  refine lv_bipush (v := 8) hx hb dX9_turn_7 (by decide) ?_
  obtain ⟨z1, hz_z1, hf⟩ := o_bind hf
  refine k_calli (va_runS (As := [.int ((W_lowest u_th) + p1), .int (8 : Int32)]) (rest := [.ref th0]) ⟨hx, hb, hml, hown, hts⟩ (c_J9_floorMod_7cf53 l D cI cZ  H.size ((W_lowest u_th) + p1) (8 : Int32) z1 hz_z1) (va_cwS 2 hts gX9_turn_J9_floorMod_7cf53 rfl rfl rfl hd_J9_floorMod_7cf53 ⟨Nat.le_of_ble_eq_true rfl, Nat.le_of_ble_eq_true rfl⟩) (k_preS hK hP hD hS hA hE [] (by decide) rfl) rfl rfl hl.1 rfl (lv_room (Nat.le_of_ble_eq_true rfl)) dX9_turn_9 ⟨Nat.zero_le _, Nat.zero_le _⟩) hP hD hS hA [] [none, none, none, none, none] 0 rfl (by decide) (by decide) rfl rfl (fun H locs hP hD hS => ?_)
  have hP : va_P D vwCl (ceW cI cZ th0 th1 th2 th3 th4 u_th) H := hP
  have hD : va_D A (ceW cI cZ th0 th1 th2 th3 th4 u_th) := hD
  refine va_put (D := D) (ci := 6) (v := .int z1.1) (ty := .int) (C := RX9) (T := TX9) (N := 6) hx hb hts hi_X9 tyX9 tyX9_ok nmX9 hown hK hP hD hS 0 rfl rfl 4 (by decide) (hts (.fieldLink RX9 24 "FairWheel$Wheel" "lowest" "I") (List.mem_of_getElem? (i := 1) rfl)) (fun _ h9 => h9) rfl (by decide +kernel) rfl rfl (Nat.le_of_ble_eq_true rfl) dX9_turn_12 (fun H locs hP hD hS => ?_)
  have hP : va_P D vwCl (ceW cI cZ th0 th1 th2 th3 th4 ((W_weights u_th), (W_cars u_th), (W_riders u_th), (W_loads u_th), z1.1, (W_friction u_th))) H := hP
  have hD : va_D A (ceW cI cZ th0 th1 th2 th3 th4 ((W_weights u_th), (W_cars u_th), (W_riders u_th), (W_loads u_th), z1.1, (W_friction u_th))) := hD
  exact k_vret (u := ((W_weights u_th), (W_cars u_th), (W_riders u_th), (W_loads u_th), z1.1, (W_friction u_th))) hx hb hr hlocks hK hS eQ hf hP hD dX9_turn_15
theorem hd_X9_takeBack : yX9_takeBack.cls ≠ "java/lang/invoke/MethodHandle" ∧ yX9_takeBack.cls ≠ "java/lang/invoke/VarHandle" ∧ (parseMethodDescriptor yX9_takeBack.desc).map (fun d => d.parameters.length) = some 2 := by decide +kernel
set_option maxHeartbeats 4000000 in
set_option maxRecDepth 100000 in
theorem c_X9_takeBack (l : Launch) (D : va_G) (cI cZ : ClassId) (th0 : Nat) (th1 : Nat) (th2 : Nat) (th3 : Nat) (th4 : Nat) (sz : Nat) (u_th : sW) (p1 : Int32) (p2 : Int32) (z : sW) (hf : f_X9_takeBack u_th p1 p2 = some z) : Met l yX9_takeBack wsX9_takeBack rmX9_takeBack (va_Pc [.ref th0, .int p1, .int p2] (wPr D cI cZ (ceW cI cZ th0 th1 th2 th3 th4 u_th) sz)) (va_Qv (fun (v : sW) => v = z) (fun (v : sW) t => wPo D cI cZ (va_A (ceW cI cZ th0 th1 th2 th3 th4 u_th) sz) (ceW cI cZ th0 th1 th2 th3 th4 v) t) (va_A (ceW cI cZ th0 th1 th2 th3 th4 u_th) sz)) 0 0 (va_A (ceW cI cZ th0 th1 th2 th3 th4 u_th) sz) := by
  refine k_enter (D := D) (cI := cI) (cZ := cZ) (wl := ceW cI cZ th0 th1 th2 th3 th4 u_th) (sz := sz) (av := [.ref th0, .int p1, .int p2]) (cc := cX9_takeBack) (maxL := 3) (ret := none) (Qc := fun A => va_Qv (fun (v : sW) => v = z) (fun (v : sW) t => wPo D cI cZ (A) (ceW cI cZ th0 th1 th2 th3 th4 v) t) (A)) (by decide) rfl (Nat.le_of_ble_eq_true rfl) ?_
  intro p e s m below meth c ls A Q H locs eQ hx hb hr hml hts hown hlocks hK hP hD hS hA hE hl
  have hown : s.vm.findClass RX9 = some m.cls := hown
  have hl : lv_has ls 3 [(0, .ref th0), (1, .int p1), (2, .int p2)] := hl
  have hi_X9 : ∀ w ∈ wsX90, w ∈ wsX9_takeBack := fun w h => List.mem_cons_of_mem _ (List.mem_append_right _ h)
  rw [f_X9_takeBack] at hf
  refine lv_aload_n hx hb dX9_takeBack_0 rfl (lv_at hl 0 rfl) ?_
  refine lv_iload_n hx hb dX9_takeBack_1 rfl (lv_at hl 1 rfl) ?_
  refine lv_bipush (v := 8) hx hb dX9_takeBack_2 (by decide) ?_
  obtain ⟨z1, hz_z1, hf⟩ := o_bind hf
  refine k_calli (va_runS (As := [.int p1, .int (8 : Int32)]) (rest := [.ref th0]) ⟨hx, hb, hml, hown, hts⟩ (c_J9_floorMod_7cf53 l D cI cZ  H.size p1 (8 : Int32) z1 hz_z1) (va_cwS 2 hts gX9_takeBack_J9_floorMod_7cf53 rfl rfl rfl hd_J9_floorMod_7cf53 ⟨Nat.le_of_ble_eq_true rfl, Nat.le_of_ble_eq_true rfl⟩) (k_preS hK hP hD hS hA hE [] (by decide) rfl) rfl rfl hl.1 rfl (lv_room (Nat.le_of_ble_eq_true rfl)) dX9_takeBack_4 ⟨Nat.zero_le _, Nat.zero_le _⟩) hP hD hS hA [] [none, none, none, none, none] 0 rfl (by decide) (by decide) rfl rfl (fun H locs hP hD hS => ?_)
  have hP : va_P D vwCl (ceW cI cZ th0 th1 th2 th3 th4 u_th) H := hP
  have hD : va_D A (ceW cI cZ th0 th1 th2 th3 th4 u_th) := hD
  refine va_put (D := D) (ci := 6) (v := .int z1.1) (ty := .int) (C := RX9) (T := TX9) (N := 6) hx hb hts hi_X9 tyX9 tyX9_ok nmX9 hown hK hP hD hS 0 rfl rfl 4 (by decide) (hts (.fieldLink RX9 24 "FairWheel$Wheel" "lowest" "I") (List.mem_of_getElem? (i := 1) rfl)) (fun _ h9 => h9) rfl (by decide +kernel) rfl rfl (Nat.le_of_ble_eq_true rfl) dX9_takeBack_7 (fun H locs hP hD hS => ?_)
  have hP : va_P D vwCl (ceW cI cZ th0 th1 th2 th3 th4 ((W_weights u_th), (W_cars u_th), (W_riders u_th), (W_loads u_th), z1.1, (W_friction u_th))) H := hP
  have hD : va_D A (ceW cI cZ th0 th1 th2 th3 th4 ((W_weights u_th), (W_cars u_th), (W_riders u_th), (W_loads u_th), z1.1, (W_friction u_th))) := hD
  refine lv_aload_n hx hb dX9_takeBack_10 rfl (lv_at hl 0 rfl) ?_
  refine lv_iload_n hx hb dX9_takeBack_11 rfl (lv_at hl 1 rfl) ?_
  obtain ⟨z2, hz_z2, hf⟩ := o_bind hf
  refine k_callv (va_runV (As := [.int p1]) (rest := []) ⟨hx, hb, hml, hown, hts⟩ (c_X9_unseat l D cI cZ th0 th1 th2 th3 th4 H.size ((W_weights u_th), (W_cars u_th), (W_riders u_th), (W_loads u_th), z1.1, (W_friction u_th)) p1 z2 hz_z2) (cwV 1 hts gX9_takeBack_X9_unseat rfl rfl rfl ⟨rfl, hd_X9_unseat⟩ ⟨Nat.le_of_ble_eq_true rfl, Nat.le_of_ble_eq_true rfl⟩) (k_preV hK hP hD hS hA hE [0, 1, 2, 3, 4] (by decide) rfl (ci := 6) rfl rfl) rfl rfl hl.1 rfl (lv_room (Nat.le_of_ble_eq_true rfl)) dX9_takeBack_12 ⟨Nat.zero_le _, Nat.zero_le _⟩) hP hD hS hA [0, 1, 2, 3, 4] [some 0, some 1, some 2, some 3, some 4] 5 rfl (by decide) (by decide) rfl rfl (fun H locs hP hD hS => ?_)
  have hP : va_P D vwCl (ceW cI cZ th0 th1 th2 th3 th4 z2) H := hP
  have hD : va_D A (ceW cI cZ th0 th1 th2 th3 th4 z2) := hD
  refine lv_iload_n hx hb dX9_takeBack_15 rfl (lv_at hl 2 rfl) ?_
  refine lv_bipush (v := -6) hx hb dX9_takeBack_16 (by decide) ?_
  refine lv_icmp_eq (tgt := 27) hx hb dX9_takeBack_18 (by decide) (fun c3 => ?_) (fun c3 => ?_)
  · have hf := (if_pos c3).symm.trans hf
    exact k_vret (u := z2) hx hb hr hlocks hK hS eQ hf hP hD dX9_takeBack_27
  · have hf := (if_neg c3).symm.trans hf
    refine lv_aload_n hx hb dX9_takeBack_21 rfl (lv_at hl 0 rfl) ?_
    refine lv_iload_n hx hb dX9_takeBack_22 rfl (lv_at hl 2 rfl) ?_
    refine lv_iload_n hx hb dX9_takeBack_23 rfl (lv_at hl 1 rfl) ?_
    obtain ⟨z4, hz_z4, hf⟩ := o_bind hf
    refine k_callv (va_runV (As := [.int p2, .int p1]) (rest := []) ⟨hx, hb, hml, hown, hts⟩ (c_X9_seat l D cI cZ th0 th1 th2 th3 th4 H.size z2 p2 p1 z4 hz_z4) (cwV 2 hts gX9_takeBack_X9_seat rfl rfl rfl ⟨rfl, hd_X9_seat⟩ ⟨Nat.le_of_ble_eq_true rfl, Nat.le_of_ble_eq_true rfl⟩) (k_preV hK hP hD hS hA hE [0, 1, 2, 3, 4] (by decide) rfl (ci := 6) rfl rfl) rfl rfl hl.1 rfl (lv_room (Nat.le_of_ble_eq_true rfl)) dX9_takeBack_24 ⟨Nat.zero_le _, Nat.zero_le _⟩) hP hD hS hA [0, 1, 2, 3, 4] [some 0, some 1, some 2, some 3, some 4] 5 rfl (by decide) (by decide) rfl rfl (fun H locs hP hD hS => ?_)
    have hP : va_P D vwCl (ceW cI cZ th0 th1 th2 th3 th4 z4) H := hP
    have hD : va_D A (ceW cI cZ th0 th1 th2 th3 th4 z4) := hD
    exact k_vret (u := z4) hx hb hr hlocks hK hS eQ hf hP hD dX9_takeBack_27
theorem hd_X9_pullAt : yX9_pullAt.cls ≠ "java/lang/invoke/MethodHandle" ∧ yX9_pullAt.cls ≠ "java/lang/invoke/VarHandle" ∧ (parseMethodDescriptor yX9_pullAt.desc).map (fun d => d.parameters.length) = some 1 := by decide +kernel
set_option maxHeartbeats 4000000 in
set_option maxRecDepth 100000 in
theorem c_X9_pullAt (l : Launch) (D : va_G) (cI cZ : ClassId) (th0 : Nat) (th1 : Nat) (th2 : Nat) (th3 : Nat) (th4 : Nat) (sz : Nat) (u_th : sW) (p1 : Int32) (z : Int32 × Unit) (hf : f_X9_pullAt u_th p1 = some z) : Met l yX9_pullAt wsX9_pullAt rmX9_pullAt (va_Pc [.ref th0, .int p1] (wPr D cI cZ (ceW cI cZ th0 th1 th2 th3 th4 u_th) sz)) (va_Qi (fun (r : Int32) (v : Unit) => (r, v) = z) (fun (v : Unit) t => wPo D cI cZ (va_A (ceW cI cZ th0 th1 th2 th3 th4 u_th) sz) (ceW cI cZ th0 th1 th2 th3 th4 u_th) t) (va_A (ceW cI cZ th0 th1 th2 th3 th4 u_th) sz)) 0 0 (va_A (ceW cI cZ th0 th1 th2 th3 th4 u_th) sz) := by
  refine k_enter (D := D) (cI := cI) (cZ := cZ) (wl := ceW cI cZ th0 th1 th2 th3 th4 u_th) (sz := sz) (av := [.ref th0, .int p1]) (cc := cX9_pullAt) (maxL := 6) (ret := (some .int)) (Qc := fun A => va_Qi (fun (r : Int32) (v : Unit) => (r, v) = z) (fun (v : Unit) t => wPo D cI cZ (A) (ceW cI cZ th0 th1 th2 th3 th4 u_th) t) (A)) (by decide) rfl (Nat.le_of_ble_eq_true rfl) ?_
  intro p e s m below meth c ls A Q H locs eQ hx hb hr hml hts hown hlocks hK hP hD hS hA hE hl
  have hown : s.vm.findClass RX9 = some m.cls := hown
  have hl : lv_has ls 6 [(0, .ref th0), (1, .int p1)] := hl
  have hi_X9 : ∀ w ∈ wsX90, w ∈ wsX9_pullAt := fun w h => List.mem_cons_of_mem _ (List.mem_append_right _ h)
  have hJ48 : ∀ (K_4 : Int32 → Int32 → Int32 → Option (Int32 × Unit)), (∀ (v1 : Int32) (v2 : Int32) (v3 : Int32) (H : Heap) (locs : List Loc) (ls : Array Slot), lv_has ls 6 [(0, .ref th0), (1, .int v1), (2, .int v2), (3, .int v3)] → va_P D vwCl (ceW cI cZ th0 th1 th2 th3 th4 u_th) H → va_D A (ceW cI cZ th0 th1 th2 th3 th4 u_th) → va_S A s.heap H locs → K_4 v1 v2 v3 = some z → W p l e (headSpec wsX9_pullAt rmX9_pullAt).room s m ([.ref th0, .int p1] : List Value).toArray below meth c H locs 0 0 Q (F0 m 4 ls [])) → ∀ (v1 : Int32) (v2 : Int32) (v3 : Int32) (s0 : Int32) (s1 : Int32) (H : Heap) (locs : List Loc) (ls : Array Slot), lv_has ls 6 [(0, .ref th0), (1, .int v1), (2, .int v2), (3, .int v3)] → va_P D vwCl (ceW cI cZ th0 th1 th2 th3 th4 u_th) H → va_D A (ceW cI cZ th0 th1 th2 th3 th4 u_th) → va_S A s.heap H locs → f_X9_pullAt_J48 u_th K_4 v1 v2 v3 s0 s1 = some z → W p l e (headSpec wsX9_pullAt rmX9_pullAt).room s m ([.ref th0, .int p1] : List Value).toArray below meth c H locs 0 0 Q (F0 m 48 ls [.int s1, .int s0]) := by
    intro K_4 hK_4 v1 v2 v3 s0 s1 H locs ls hl hP hD hS hf
    rw [f_X9_pullAt_J48] at hf
    refine lv_iadd hx hb dX9_pullAt_48 ?_
    refine lv_istore (lv' := [(5, .int (s0 + s1)), (0, .ref th0), (1, .int v1), (2, .int v2), (3, .int v3)]) hx hb dX9_pullAt_49 hl (by decide) rfl (fun ls hl => ?_)
    refine lv_iload_n hx hb dX9_pullAt_51 rfl (lv_at hl 3 rfl) ?_
    refine lv_iload hx hb dX9_pullAt_52 (lv_at hl 0 rfl) ?_
    obtain ⟨tA, hZ, hT⟩ := hE.2
    refine va_gets hx hb hZ hS hown (hts (.fieldLink RX9 67 "FairWheel$Wheel" "ARMS" "[I") (List.mem_of_getElem? (i := 4) rfl)) (fun _ h9 => h9) dX9_pullAt_54 ?_
    refine lv_iload_n hx hb dX9_pullAt_57 rfl (lv_at hl 4 rfl) ?_
    refine lv_iload_n hx hb dX9_pullAt_58 rfl (lv_at hl 2 rfl) ?_
    refine lv_isub hx hb dX9_pullAt_59 ?_
    refine lv_bipush (v := 8) hx hb dX9_pullAt_60 (by decide) ?_
    obtain ⟨z6, hz_z6, hf⟩ := o_bind hf
    refine k_calli (va_runS (As := [.int (v3 - v1), .int (8 : Int32)]) (rest := [.ref tA, .int (s0 + s1), .int v2]) ⟨hx, hb, hml, hown, hts⟩ (c_J9_floorMod_7cf53 l D cI cZ  H.size (v3 - v1) (8 : Int32) z6 hz_z6) (va_cwS 2 hts gX9_pullAt_J9_floorMod_7cf53 rfl rfl rfl hd_J9_floorMod_7cf53 ⟨Nat.le_of_ble_eq_true rfl, Nat.le_of_ble_eq_true rfl⟩) (k_preS hK hP hD hS hA hE [] (by decide) rfl) rfl rfl hl.1 rfl (lv_room (Nat.le_of_ble_eq_true rfl)) dX9_pullAt_62 ⟨Nat.zero_le _, Nat.zero_le _⟩) hP hD hS hA [] [none, none, none, none, none] 0 rfl (by decide) (by decide) rfl rfl (fun H locs hP hD hS => ?_)
    have hP : va_P D vwCl (ceW cI cZ th0 th1 th2 th3 th4 u_th) H := hP
    have hD : va_D A (ceW cI cZ th0 th1 th2 th3 th4 u_th) := hD
    obtain ⟨z7, hz_z7, hf⟩ := o_bind hf
    refine k_calli (va_runSN (As := [.ref tA, .int z6.1]) (rest := [.int (s0 + s1), .int v2]) ⟨hx, hb, hml, hown, hts⟩ (c_X10_atT l D cI cZ tA H.size z6.1 z7 hz_z7) ⟨va_cnB 2 hts gX9_pullAt_X10_at_n41 rfl rfl rfl (hE.1.1 (RX9, 41, yX10_at) (List.mem_of_getElem? (i := 12) rfl)) (hts (.initialized RX10) (List.mem_of_getElem? (i := 6) rfl)) hd_X10_at ⟨Nat.le_of_ble_eq_true rfl, Nat.le_of_ble_eq_true rfl⟩, hts (.static yX10_at) (List.mem_of_getElem? (i := 5) rfl), trivial⟩ (k_preT hK hP hD hS hA hE hT) rfl rfl hl.1 rfl (lv_room (Nat.le_of_ble_eq_true rfl)) dX9_pullAt_65 ⟨Nat.zero_le _, Nat.zero_le _⟩) hP hD hS hA [] [none, none, none, none, none] 0 rfl (by decide) (by decide) rfl rfl (fun H locs hP hD hS => ?_)
    have hP : va_P D vwCl (ceW cI cZ th0 th1 th2 th3 th4 u_th) H := hP
    have hD : va_D A (ceW cI cZ th0 th1 th2 th3 th4 u_th) := hD
    refine lv_imul hx hb dX9_pullAt_68 ?_
    refine lv_iadd hx hb dX9_pullAt_69 ?_
    refine lv_istore_n (lv' := [(2, .int (v2 + ((s0 + s1) * z7.1))), (5, .int (s0 + s1)), (0, .ref th0), (1, .int v1), (3, .int v3)]) hx hb dX9_pullAt_70 rfl hl (by decide) rfl (fun ls hl => ?_)
    refine lv_iinc (v := (v3 + (1 : Int32))) (lv' := [(3, .int (v3 + (1 : Int32))), (2, .int (v2 + ((s0 + s1) * z7.1))), (5, .int (s0 + s1)), (0, .ref th0), (1, .int v1)]) hx hb dX9_pullAt_71 hl (k := 4) rfl rfl (by decide) rfl (fun ls hl => ?_)
    refine lv_goto (tgt := 4) hx hb dX9_pullAt_74 (by decide) ?_
    exact hK_4 v1 (v2 + ((s0 + s1) * z7.1)) (v3 + (1 : Int32)) _ _ ls (lv_sub hl [3, 4, 1, 0] rfl) hP hD hS hf
  have hL4 : ∀ (n : Nat), ∀ (v1 : Int32) (v2 : Int32) (v3 : Int32) (H : Heap) (locs : List Loc) (ls : Array Slot), lv_has ls 6 [(0, .ref th0), (1, .int v1), (2, .int v2), (3, .int v3)] → va_P D vwCl (ceW cI cZ th0 th1 th2 th3 th4 u_th) H → va_D A (ceW cI cZ th0 th1 th2 th3 th4 u_th) → va_S A s.heap H locs → f_X9_pullAt_L4 u_th n v1 v2 v3 = some z → W p l e (headSpec wsX9_pullAt rmX9_pullAt).room s m ([.ref th0, .int p1] : List Value).toArray below meth c H locs 0 0 Q (F0 m 4 ls []) := by
    intro n
    induction n with
    | zero =>
      intro v1 v2 v3 H locs ls hl hP hD hS hf
      exact absurd (show (none : Option (Int32 × Unit)) = some z from hf) (fun h => by cases h)
    | succ n ih =>
      intro v1 v2 v3 H locs ls hl hP hD hS hf
      rw [f_X9_pullAt_L4] at hf
      refine lv_iload_n hx hb dX9_pullAt_4 rfl (lv_at hl 3 rfl) ?_
      refine lv_bipush (v := 8) hx hb dX9_pullAt_5 (by decide) ?_
      refine lv_icmp_ge (tgt := 77) hx hb dX9_pullAt_7 (by decide) (fun c1 => ?_) (fun c1 => ?_)
      · have hf := (if_pos c1).symm.trans hf
        refine lv_iload_n hx hb dX9_pullAt_77 rfl (lv_at hl 2 rfl) ?_
        exact k_iret (v := v2) (u := ()) hx hb hr hlocks hK hS eQ hf hP hD dX9_pullAt_78
      · have hf := (if_neg c1).symm.trans hf
        refine lv_aload_n hx hb dX9_pullAt_10 rfl (lv_at hl 0 rfl) ?_
        refine va_get (D := D) (ci := 6) (v := .ref th3) (C := RX9) (T := TX9) (N := 6) hx hb hts hi_X9 hown hK hP 0 rfl rfl 2 (by decide) (hts (.fieldLink RX9 18 "FairWheel$Wheel" "riders" "[I") (List.mem_of_getElem? (i := 1) rfl)) (fun _ h9 => h9) rfl dX9_pullAt_11 ?_
        refine lv_iload_n hx hb dX9_pullAt_14 rfl (lv_at hl 3 rfl) ?_
        obtain ⟨z2, hz_z2, hf⟩ := o_bind hf
        refine k_calli (va_runSN (As := [.ref th3, .int v3]) (rest := []) ⟨hx, hb, hml, hown, hts⟩ (c_X10_at l D cI cZ th3 H.size 8 (W_riders u_th) v3 z2 hz_z2) ⟨va_cnB 2 hts gX9_pullAt_X10_at_n41 rfl rfl rfl (hE.1.1 (RX9, 41, yX10_at) (List.mem_of_getElem? (i := 12) rfl)) (hts (.initialized RX10) (List.mem_of_getElem? (i := 6) rfl)) hd_X10_at ⟨Nat.le_of_ble_eq_true rfl, Nat.le_of_ble_eq_true rfl⟩, hts (.static yX10_at) (List.mem_of_getElem? (i := 5) rfl), trivial⟩ (k_preS hK hP hD hS hA hE [3] (by decide) rfl) rfl rfl hl.1 rfl (lv_room (Nat.le_of_ble_eq_true rfl)) dX9_pullAt_15 ⟨Nat.zero_le _, Nat.zero_le _⟩) hP hD hS hA [3] [none, none, none, some 0, none] 1 rfl (by decide) (by decide) rfl rfl (fun H locs hP hD hS => ?_)
        have hP : va_P D vwCl (ceW cI cZ th0 th1 th2 th3 th4 u_th) H := hP
        have hD : va_D A (ceW cI cZ th0 th1 th2 th3 th4 u_th) := hD
        refine lv_istore (lv' := [(4, .int z2.1), (0, .ref th0), (1, .int v1), (2, .int v2), (3, .int v3)]) hx hb dX9_pullAt_18 hl (by decide) rfl (fun ls hl => ?_)
        refine lv_aload_n hx hb dX9_pullAt_20 rfl (lv_at hl 1 rfl) ?_
        refine va_get (D := D) (ci := 6) (v := .ref th4) (C := RX9) (T := TX9) (N := 6) hx hb hts hi_X9 hown hK hP 0 rfl rfl 3 (by decide) (hts (.fieldLink RX9 21 "FairWheel$Wheel" "loads" "[I") (List.mem_of_getElem? (i := 2) rfl)) (fun _ h9 => h9) rfl dX9_pullAt_21 ?_
        refine lv_iload_n hx hb dX9_pullAt_24 rfl (lv_at hl 4 rfl) ?_
        obtain ⟨z3, hz_z3, hf⟩ := o_bind hf
        refine k_calli (va_runSN (As := [.ref th4, .int v3]) (rest := []) ⟨hx, hb, hml, hown, hts⟩ (c_X10_at l D cI cZ th4 H.size 8 (W_loads u_th) v3 z3 hz_z3) ⟨va_cnB 2 hts gX9_pullAt_X10_at_n41 rfl rfl rfl (hE.1.1 (RX9, 41, yX10_at) (List.mem_of_getElem? (i := 12) rfl)) (hts (.initialized RX10) (List.mem_of_getElem? (i := 6) rfl)) hd_X10_at ⟨Nat.le_of_ble_eq_true rfl, Nat.le_of_ble_eq_true rfl⟩, hts (.static yX10_at) (List.mem_of_getElem? (i := 5) rfl), trivial⟩ (k_preS hK hP hD hS hA hE [4] (by decide) rfl) rfl rfl hl.1 rfl (lv_room (Nat.le_of_ble_eq_true rfl)) dX9_pullAt_25 ⟨Nat.zero_le _, Nat.zero_le _⟩) hP hD hS hA [4] [none, none, none, none, some 0] 1 rfl (by decide) (by decide) rfl rfl (fun H locs hP hD hS => ?_)
        have hP : va_P D vwCl (ceW cI cZ th0 th1 th2 th3 th4 u_th) H := hP
        have hD : va_D A (ceW cI cZ th0 th1 th2 th3 th4 u_th) := hD
        refine lv_iload hx hb dX9_pullAt_28 (lv_at hl 0 rfl) ?_
        refine lv_bipush (v := -6) hx hb dX9_pullAt_30 (by decide) ?_
        refine lv_icmp_ne (tgt := 39) hx hb dX9_pullAt_32 (by decide) (fun c4 => ?_) (fun c4 => ?_)
        · have hf := (if_neg c4).symm.trans hf
          refine lv_aload_n hx hb dX9_pullAt_39 rfl (lv_at hl 1 rfl) ?_
          refine va_get (D := D) (ci := 6) (v := .ref th1) (C := RX9) (T := TX9) (N := 6) hx hb hts hi_X9 hown hK hP 0 rfl rfl 0 (by decide) (hts (.fieldLink RX9 9 "FairWheel$Wheel" "weights" "[I") (List.mem_of_getElem? (i := 3) rfl)) (fun _ h9 => h9) rfl dX9_pullAt_40 ?_
          refine lv_iload hx hb dX9_pullAt_43 (lv_at hl 0 rfl) ?_
          obtain ⟨z5, hz_z5, hf⟩ := o_bind hf
          refine k_calli (va_runSN (As := [.ref th1, .int z2.1]) (rest := [.int z3.1]) ⟨hx, hb, hml, hown, hts⟩ (c_X10_at l D cI cZ th1 H.size 8 (W_weights u_th) z2.1 z5 hz_z5) ⟨va_cnB 2 hts gX9_pullAt_X10_at_n41 rfl rfl rfl (hE.1.1 (RX9, 41, yX10_at) (List.mem_of_getElem? (i := 12) rfl)) (hts (.initialized RX10) (List.mem_of_getElem? (i := 6) rfl)) hd_X10_at ⟨Nat.le_of_ble_eq_true rfl, Nat.le_of_ble_eq_true rfl⟩, hts (.static yX10_at) (List.mem_of_getElem? (i := 5) rfl), trivial⟩ (k_preS hK hP hD hS hA hE [1] (by decide) rfl) rfl rfl hl.1 rfl (lv_room (Nat.le_of_ble_eq_true rfl)) dX9_pullAt_45 ⟨Nat.zero_le _, Nat.zero_le _⟩) hP hD hS hA [1] [none, some 0, none, none, none] 1 rfl (by decide) (by decide) rfl rfl (fun H locs hP hD hS => ?_)
          have hP : va_P D vwCl (ceW cI cZ th0 th1 th2 th3 th4 u_th) H := hP
          have hD : va_D A (ceW cI cZ th0 th1 th2 th3 th4 u_th) := hD
          exact hJ48 (f_X9_pullAt_L4 u_th n) ih v1 v2 v3 z3.1 z5.1 _ _ ls (lv_sub hl [1, 2, 3, 4] rfl) hP hD hS hf
        · have hf := (if_pos c4).symm.trans hf
          refine lv_iconst (v := 0) hx hb dX9_pullAt_35 (by decide) ?_
          refine lv_goto (tgt := 48) hx hb dX9_pullAt_36 (by decide) ?_
          exact hJ48 (f_X9_pullAt_L4 u_th n) ih v1 v2 v3 z3.1 (0 : Int32) _ _ ls (lv_sub hl [1, 2, 3, 4] rfl) hP hD hS hf
  rw [f_X9_pullAt] at hf
  refine lv_iconst (v := 0) hx hb dX9_pullAt_0 (by decide) ?_
  refine lv_istore_n (lv' := [(2, .int (0 : Int32)), (0, .ref th0), (1, .int p1)]) hx hb dX9_pullAt_1 rfl hl (by decide) rfl (fun ls hl => ?_)
  refine lv_iconst (v := 0) hx hb dX9_pullAt_2 (by decide) ?_
  refine lv_istore_n (lv' := [(3, .int (0 : Int32)), (2, .int (0 : Int32)), (0, .ref th0), (1, .int p1)]) hx hb dX9_pullAt_3 rfl hl (by decide) rfl (fun ls hl => ?_)
  exact hL4 oF p1 (0 : Int32) (0 : Int32) _ _ ls (lv_sub hl [2, 3, 1, 0] rfl) hP hD hS hf
theorem hd_X9_pullNow : yX9_pullNow.cls ≠ "java/lang/invoke/MethodHandle" ∧ yX9_pullNow.cls ≠ "java/lang/invoke/VarHandle" ∧ (parseMethodDescriptor yX9_pullNow.desc).map (fun d => d.parameters.length) = some 0 := by decide +kernel
set_option maxHeartbeats 4000000 in
set_option maxRecDepth 100000 in
theorem c_X9_pullNow (l : Launch) (D : va_G) (cI cZ : ClassId) (th0 : Nat) (th1 : Nat) (th2 : Nat) (th3 : Nat) (th4 : Nat) (sz : Nat) (u_th : sW) (z : Int32 × Unit) (hf : f_X9_pullNow u_th = some z) : Met l yX9_pullNow wsX9_pullNow rmX9_pullNow (va_Pc [.ref th0] (wPr D cI cZ (ceW cI cZ th0 th1 th2 th3 th4 u_th) sz)) (va_Qi (fun (r : Int32) (v : Unit) => (r, v) = z) (fun (v : Unit) t => wPo D cI cZ (va_A (ceW cI cZ th0 th1 th2 th3 th4 u_th) sz) (ceW cI cZ th0 th1 th2 th3 th4 u_th) t) (va_A (ceW cI cZ th0 th1 th2 th3 th4 u_th) sz)) 0 0 (va_A (ceW cI cZ th0 th1 th2 th3 th4 u_th) sz) := by
  refine k_enter (D := D) (cI := cI) (cZ := cZ) (wl := ceW cI cZ th0 th1 th2 th3 th4 u_th) (sz := sz) (av := [.ref th0]) (cc := cX9_pullNow) (maxL := 1) (ret := (some .int)) (Qc := fun A => va_Qi (fun (r : Int32) (v : Unit) => (r, v) = z) (fun (v : Unit) t => wPo D cI cZ (A) (ceW cI cZ th0 th1 th2 th3 th4 u_th) t) (A)) (by decide) rfl (Nat.le_of_ble_eq_true rfl) ?_
  intro p e s m below meth c ls A Q H locs eQ hx hb hr hml hts hown hlocks hK hP hD hS hA hE hl
  have hown : s.vm.findClass RX9 = some m.cls := hown
  have hl : lv_has ls 1 [(0, .ref th0)] := hl
  have hi_X9 : ∀ w ∈ wsX90, w ∈ wsX9_pullNow := fun w h => List.mem_cons_of_mem _ (List.mem_append_right _ h)
  rw [f_X9_pullNow] at hf
  refine lv_aload_n hx hb dX9_pullNow_0 rfl (lv_at hl 0 rfl) ?_
  refine lv_aload_n hx hb dX9_pullNow_1 rfl (lv_at hl 0 rfl) ?_
  refine va_get (D := D) (ci := 6) (v := .int (W_lowest u_th)) (C := RX9) (T := TX9) (N := 6) hx hb hts hi_X9 hown hK hP 0 rfl rfl 4 (by decide) (hts (.fieldLink RX9 24 "FairWheel$Wheel" "lowest" "I") (List.mem_of_getElem? (i := 1) rfl)) (fun _ h9 => h9) rfl dX9_pullNow_2 ?_
  obtain ⟨z1, hz_z1, hf⟩ := o_bind hf
  refine k_calli (va_runV (As := [.int (W_lowest u_th)]) (rest := []) ⟨hx, hb, hml, hown, hts⟩ (c_X9_pullAt l D cI cZ th0 th1 th2 th3 th4 H.size u_th (W_lowest u_th) z1 hz_z1) (cwV 1 hts gX9_pullNow_X9_pullAt rfl rfl rfl ⟨rfl, hd_X9_pullAt⟩ ⟨Nat.le_of_ble_eq_true rfl, Nat.le_of_ble_eq_true rfl⟩) (k_preV hK hP hD hS hA hE [0, 1, 2, 3, 4] (by decide) rfl (ci := 6) rfl rfl) rfl rfl hl.1 rfl (lv_room (Nat.le_of_ble_eq_true rfl)) dX9_pullNow_5 ⟨Nat.zero_le _, Nat.zero_le _⟩) hP hD hS hA [0, 1, 2, 3, 4] [some 0, some 1, some 2, some 3, some 4] 5 rfl (by decide) (by decide) rfl rfl (fun H locs hP hD hS => ?_)
  have hP : va_P D vwCl (ceW cI cZ th0 th1 th2 th3 th4 u_th) H := hP
  have hD : va_D A (ceW cI cZ th0 th1 th2 th3 th4 u_th) := hD
  exact k_iret (v := z1.1) (u := ()) hx hb hr hlocks hK hS eQ hf hP hD dX9_pullNow_8
theorem hd_X9_greatestPull : yX9_greatestPull.cls ≠ "java/lang/invoke/MethodHandle" ∧ yX9_greatestPull.cls ≠ "java/lang/invoke/VarHandle" ∧ (parseMethodDescriptor yX9_greatestPull.desc).map (fun d => d.parameters.length) = some 0 := by decide +kernel
set_option maxHeartbeats 4000000 in
set_option maxRecDepth 100000 in
theorem c_X9_greatestPull (l : Launch) (D : va_G) (cI cZ : ClassId) (th0 : Nat) (th1 : Nat) (th2 : Nat) (th3 : Nat) (th4 : Nat) (sz : Nat) (u_th : sW) (z : Int32 × Unit) (hf : f_X9_greatestPull u_th = some z) : Met l yX9_greatestPull wsX9_greatestPull rmX9_greatestPull (va_Pc [.ref th0] (wPr D cI cZ (ceW cI cZ th0 th1 th2 th3 th4 u_th) sz)) (va_Qi (fun (r : Int32) (v : Unit) => (r, v) = z) (fun (v : Unit) t => wPo D cI cZ (va_A (ceW cI cZ th0 th1 th2 th3 th4 u_th) sz) (ceW cI cZ th0 th1 th2 th3 th4 u_th) t) (va_A (ceW cI cZ th0 th1 th2 th3 th4 u_th) sz)) 0 0 (va_A (ceW cI cZ th0 th1 th2 th3 th4 u_th) sz) := by
  refine k_enter (D := D) (cI := cI) (cZ := cZ) (wl := ceW cI cZ th0 th1 th2 th3 th4 u_th) (sz := sz) (av := [.ref th0]) (cc := cX9_greatestPull) (maxL := 3) (ret := (some .int)) (Qc := fun A => va_Qi (fun (r : Int32) (v : Unit) => (r, v) = z) (fun (v : Unit) t => wPo D cI cZ (A) (ceW cI cZ th0 th1 th2 th3 th4 u_th) t) (A)) (by decide) rfl (Nat.le_of_ble_eq_true rfl) ?_
  intro p e s m below meth c ls A Q H locs eQ hx hb hr hml hts hown hlocks hK hP hD hS hA hE hl
  have hown : s.vm.findClass RX9 = some m.cls := hown
  have hl : lv_has ls 3 [(0, .ref th0)] := hl
  have hL4 : ∀ (n : Nat), ∀ (v1 : Int32) (v2 : Int32) (H : Heap) (locs : List Loc) (ls : Array Slot), lv_has ls 3 [(0, .ref th0), (1, .int v1), (2, .int v2)] → va_P D vwCl (ceW cI cZ th0 th1 th2 th3 th4 u_th) H → va_D A (ceW cI cZ th0 th1 th2 th3 th4 u_th) → va_S A s.heap H locs → f_X9_greatestPull_L4 u_th n v1 v2 = some z → W p l e (headSpec wsX9_greatestPull rmX9_greatestPull).room s m ([.ref th0] : List Value).toArray below meth c H locs 0 0 Q (F0 m 4 ls []) := by
    intro n
    induction n with
    | zero =>
      intro v1 v2 H locs ls hl hP hD hS hf
      exact absurd (show (none : Option (Int32 × Unit)) = some z from hf) (fun h => by cases h)
    | succ n ih =>
      intro v1 v2 H locs ls hl hP hD hS hf
      rw [f_X9_greatestPull_L4] at hf
      refine lv_iload_n hx hb dX9_greatestPull_4 rfl (lv_at hl 2 rfl) ?_
      refine lv_bipush (v := 8) hx hb dX9_greatestPull_5 (by decide) ?_
      refine lv_icmp_ge (tgt := 29) hx hb dX9_greatestPull_7 (by decide) (fun c1 => ?_) (fun c1 => ?_)
      · have hf := (if_pos c1).symm.trans hf
        refine lv_iload_n hx hb dX9_greatestPull_29 rfl (lv_at hl 1 rfl) ?_
        exact k_iret (v := v1) (u := ()) hx hb hr hlocks hK hS eQ hf hP hD dX9_greatestPull_30
      · have hf := (if_neg c1).symm.trans hf
        refine lv_iload_n hx hb dX9_greatestPull_10 rfl (lv_at hl 1 rfl) ?_
        refine lv_aload_n hx hb dX9_greatestPull_11 rfl (lv_at hl 0 rfl) ?_
        refine lv_iload_n hx hb dX9_greatestPull_12 rfl (lv_at hl 2 rfl) ?_
        obtain ⟨z2, hz_z2, hf⟩ := o_bind hf
        refine k_calli (va_runV (As := [.int v2]) (rest := [.int v1]) ⟨hx, hb, hml, hown, hts⟩ (c_X9_pullAt l D cI cZ th0 th1 th2 th3 th4 H.size u_th v2 z2 hz_z2) (cwV 1 hts gX9_greatestPull_X9_pullAt rfl rfl rfl ⟨rfl, hd_X9_pullAt⟩ ⟨Nat.le_of_ble_eq_true rfl, Nat.le_of_ble_eq_true rfl⟩) (k_preV hK hP hD hS hA hE [0, 1, 2, 3, 4] (by decide) rfl (ci := 6) rfl rfl) rfl rfl hl.1 rfl (lv_room (Nat.le_of_ble_eq_true rfl)) dX9_greatestPull_13 ⟨Nat.zero_le _, Nat.zero_le _⟩) hP hD hS hA [0, 1, 2, 3, 4] [some 0, some 1, some 2, some 3, some 4] 5 rfl (by decide) (by decide) rfl rfl (fun H locs hP hD hS => ?_)
        have hP : va_P D vwCl (ceW cI cZ th0 th1 th2 th3 th4 u_th) H := hP
        have hD : va_D A (ceW cI cZ th0 th1 th2 th3 th4 u_th) := hD
        refine va_mabs hx hb (hml.trans hl.1.symm) hown (hts (.methodLink RX9 70 Lib.Math.abs.name) (List.mem_of_getElem? (i := 1) rfl)) (hts (.static Lib.Math.abs.name) (List.mem_of_getElem? (i := 2) rfl)) (hts (.initialized "java/lang/Math") (List.mem_of_getElem? (i := 3) rfl)) (hts (.code Lib.Math.abs.name Lib.Math.abs.code 1 (some .int)) (List.mem_of_getElem? (i := 4) rfl)) (Nat.le_of_ble_eq_true rfl) (Nat.le_of_ble_eq_true rfl) (Nat.zero_le _) (Nat.zero_le _) dX9_greatestPull_16 ?_
        refine va_mmax hx hb (hml.trans hl.1.symm) hown (hts (.methodLink RX9 73 Lib.Math.max.name) (List.mem_of_getElem? (i := 5) rfl)) (hts (.static Lib.Math.max.name) (List.mem_of_getElem? (i := 6) rfl)) (hts (.initialized "java/lang/Math") (List.mem_of_getElem? (i := 3) rfl)) (hts (.code Lib.Math.max.name Lib.Math.max.code 2 (some .int)) (List.mem_of_getElem? (i := 7) rfl)) (Nat.le_of_ble_eq_true rfl) (Nat.le_of_ble_eq_true rfl) (Nat.zero_le _) (Nat.zero_le _) dX9_greatestPull_19 ?_
        refine lv_istore_n (lv' := [(1, .int (if v1 < (if 0 ≤ z2.1 then z2.1 else 0 - z2.1) then (if 0 ≤ z2.1 then z2.1 else 0 - z2.1) else v1)), (0, .ref th0), (2, .int v2)]) hx hb dX9_greatestPull_22 rfl hl (by decide) rfl (fun ls hl => ?_)
        refine lv_iinc (v := (v2 + (1 : Int32))) (lv' := [(2, .int (v2 + (1 : Int32))), (1, .int (if v1 < (if 0 ≤ z2.1 then z2.1 else 0 - z2.1) then (if 0 ≤ z2.1 then z2.1 else 0 - z2.1) else v1)), (0, .ref th0)]) hx hb dX9_greatestPull_23 hl (k := 2) rfl rfl (by decide) rfl (fun ls hl => ?_)
        refine lv_goto (tgt := 4) hx hb dX9_greatestPull_26 (by decide) ?_
        exact ih (if v1 < (if 0 ≤ z2.1 then z2.1 else 0 - z2.1) then (if 0 ≤ z2.1 then z2.1 else 0 - z2.1) else v1) (v2 + (1 : Int32)) _ _ ls (lv_sub hl [2, 1, 0] rfl) hP hD hS hf
  rw [f_X9_greatestPull] at hf
  refine lv_iconst (v := 0) hx hb dX9_greatestPull_0 (by decide) ?_
  refine lv_istore_n (lv' := [(1, .int (0 : Int32)), (0, .ref th0)]) hx hb dX9_greatestPull_1 rfl hl (by decide) rfl (fun ls hl => ?_)
  refine lv_iconst (v := 0) hx hb dX9_greatestPull_2 (by decide) ?_
  refine lv_istore_n (lv' := [(2, .int (0 : Int32)), (1, .int (0 : Int32)), (0, .ref th0)]) hx hb dX9_greatestPull_3 rfl hl (by decide) rfl (fun ls hl => ?_)
  exact hL4 oF (0 : Int32) (0 : Int32) _ _ ls (lv_sub hl [2, 1, 0] rfl) hP hD hS hf
theorem hd_X9_wayOf : yX9_wayOf.cls ≠ "java/lang/invoke/MethodHandle" ∧ yX9_wayOf.cls ≠ "java/lang/invoke/VarHandle" ∧ (parseMethodDescriptor yX9_wayOf.desc).map (fun d => d.parameters.length) = some 1 := by decide +kernel
set_option maxHeartbeats 4000000 in
set_option maxRecDepth 100000 in
theorem c_X9_wayOf (l : Launch) (D : va_G) (cI cZ : ClassId) (th0 : Nat) (th1 : Nat) (th2 : Nat) (th3 : Nat) (th4 : Nat) (sz : Nat) (u_th : sW) (p1 : Int32) (z : Int32 × Unit) (hf : f_X9_wayOf u_th p1 = some z) : Met l yX9_wayOf wsX9_wayOf rmX9_wayOf (va_Pc [.ref th0, .int p1] (wPr D cI cZ (ceW cI cZ th0 th1 th2 th3 th4 u_th) sz)) (va_Qi (fun (r : Int32) (v : Unit) => (r, v) = z) (fun (v : Unit) t => wPo D cI cZ (va_A (ceW cI cZ th0 th1 th2 th3 th4 u_th) sz) (ceW cI cZ th0 th1 th2 th3 th4 u_th) t) (va_A (ceW cI cZ th0 th1 th2 th3 th4 u_th) sz)) 0 0 (va_A (ceW cI cZ th0 th1 th2 th3 th4 u_th) sz) := by
  refine k_enter (D := D) (cI := cI) (cZ := cZ) (wl := ceW cI cZ th0 th1 th2 th3 th4 u_th) (sz := sz) (av := [.ref th0, .int p1]) (cc := cX9_wayOf) (maxL := 2) (ret := (some .int)) (Qc := fun A => va_Qi (fun (r : Int32) (v : Unit) => (r, v) = z) (fun (v : Unit) t => wPo D cI cZ (A) (ceW cI cZ th0 th1 th2 th3 th4 u_th) t) (A)) (by decide) rfl (Nat.le_of_ble_eq_true rfl) ?_
  intro p e s m below meth c ls A Q H locs eQ hx hb hr hml hts hown hlocks hK hP hD hS hA hE hl
  have hown : s.vm.findClass RX9 = some m.cls := hown
  have hl : lv_has ls 2 [(0, .ref th0), (1, .int p1)] := hl
  have hi_X9 : ∀ w ∈ wsX90, w ∈ wsX9_wayOf := fun w h => List.mem_cons_of_mem _ (List.mem_append_right _ h)
  rw [f_X9_wayOf] at hf
  refine lv_iload_n hx hb dX9_wayOf_0 rfl (lv_at hl 1 rfl) ?_
  refine lv_aload_n hx hb dX9_wayOf_1 rfl (lv_at hl 0 rfl) ?_
  refine va_get (D := D) (ci := 6) (v := .int (W_friction u_th)) (C := RX9) (T := TX9) (N := 6) hx hb hts hi_X9 hown hK hP 0 rfl rfl 5 (by decide) (hts (.fieldLink RX9 28 "FairWheel$Wheel" "friction" "I") (List.mem_of_getElem? (i := 1) rfl)) (fun _ h9 => h9) rfl dX9_wayOf_2 ?_
  refine lv_icmp_le (tgt := 10) hx hb dX9_wayOf_5 (by decide) (fun c1 => ?_) (fun c1 => ?_)
  · have hf := (if_pos c1).symm.trans hf
    refine lv_iload_n hx hb dX9_wayOf_10 rfl (lv_at hl 1 rfl) ?_
    refine lv_aload_n hx hb dX9_wayOf_11 rfl (lv_at hl 0 rfl) ?_
    refine va_get (D := D) (ci := 6) (v := .int (W_friction u_th)) (C := RX9) (T := TX9) (N := 6) hx hb hts hi_X9 hown hK hP 0 rfl rfl 5 (by decide) (hts (.fieldLink RX9 28 "FairWheel$Wheel" "friction" "I") (List.mem_of_getElem? (i := 1) rfl)) (fun _ h9 => h9) rfl dX9_wayOf_12 ?_
    refine lv_ineg hx hb dX9_wayOf_15 ?_
    refine lv_icmp_ge (tgt := 23) hx hb dX9_wayOf_16 (by decide) (fun c2 => ?_) (fun c2 => ?_)
    · have hf := (if_pos c2).symm.trans hf
      refine lv_iconst (v := 0) hx hb dX9_wayOf_23 (by decide) ?_
      exact k_iret (v := (0 : Int32)) (u := ()) hx hb hr hlocks hK hS eQ hf hP hD dX9_wayOf_24
    · have hf := (if_neg c2).symm.trans hf
      refine lv_iconst (v := -1) hx hb dX9_wayOf_19 (by decide) ?_
      refine lv_goto (tgt := 24) hx hb dX9_wayOf_20 (by decide) ?_
      exact k_iret (v := (-1 : Int32)) (u := ()) hx hb hr hlocks hK hS eQ hf hP hD dX9_wayOf_24
  · have hf := (if_neg c1).symm.trans hf
    refine lv_iconst (v := 1) hx hb dX9_wayOf_8 (by decide) ?_
    exact k_iret (v := (1 : Int32)) (u := ()) hx hb hr hlocks hK hS eQ hf hP hD dX9_wayOf_9
theorem hd_X9_letGo : yX9_letGo.cls ≠ "java/lang/invoke/MethodHandle" ∧ yX9_letGo.cls ≠ "java/lang/invoke/VarHandle" ∧ (parseMethodDescriptor yX9_letGo.desc).map (fun d => d.parameters.length) = some 0 := by decide +kernel
set_option maxHeartbeats 4000000 in
set_option maxRecDepth 100000 in
theorem c_X9_letGo (l : Launch) (D : va_G) (cI cZ : ClassId) (th0 : Nat) (th1 : Nat) (th2 : Nat) (th3 : Nat) (th4 : Nat) (sz : Nat) (u_th : sW) (z : Int32 × sW) (hf : f_X9_letGo u_th = some z) : Met l yX9_letGo wsX9_letGo rmX9_letGo (va_Pc [.ref th0] (wPr D cI cZ (ceW cI cZ th0 th1 th2 th3 th4 u_th) sz)) (va_Qi (fun (r : Int32) (v : sW) => (r, v) = z) (fun (v : sW) t => wPo D cI cZ (va_A (ceW cI cZ th0 th1 th2 th3 th4 u_th) sz) (ceW cI cZ th0 th1 th2 th3 th4 v) t) (va_A (ceW cI cZ th0 th1 th2 th3 th4 u_th) sz)) 0 0 (va_A (ceW cI cZ th0 th1 th2 th3 th4 u_th) sz) := by
  refine k_enter (D := D) (cI := cI) (cZ := cZ) (wl := ceW cI cZ th0 th1 th2 th3 th4 u_th) (sz := sz) (av := [.ref th0]) (cc := cX9_letGo) (maxL := 5) (ret := (some .int)) (Qc := fun A => va_Qi (fun (r : Int32) (v : sW) => (r, v) = z) (fun (v : sW) t => wPo D cI cZ (A) (ceW cI cZ th0 th1 th2 th3 th4 v) t) (A)) (by decide) rfl (Nat.le_of_ble_eq_true rfl) ?_
  intro p e s m below meth c ls A Q H locs eQ hx hb hr hml hts hown hlocks hK hP hD hS hA hE hl
  have hown : s.vm.findClass RX9 = some m.cls := hown
  have hl : lv_has ls 5 [(0, .ref th0)] := hl
  have hi_X9 : ∀ w ∈ wsX90, w ∈ wsX9_letGo := fun w h => List.mem_cons_of_mem _ (List.mem_append_right _ h)
  have hL20 : ∀ (n : Nat), ∀ (v1 : Int32) (v2 : Int32) (v3 : Int32) (v4 : Int32) (u_th : sW) (H : Heap) (locs : List Loc) (ls : Array Slot), lv_has ls 5 [(0, .ref th0), (1, .int v1), (2, .int v2), (3, .int v3), (4, .int v4)] → va_P D vwCl (ceW cI cZ th0 th1 th2 th3 th4 u_th) H → va_D A (ceW cI cZ th0 th1 th2 th3 th4 u_th) → va_S A s.heap H locs → f_X9_letGo_L20 n v1 v2 v3 v4 u_th = some z → W p l e (headSpec wsX9_letGo rmX9_letGo).room s m ([.ref th0] : List Value).toArray below meth c H locs 0 0 Q (F0 m 20 ls []) := by
    intro n
    induction n with
    | zero =>
      intro v1 v2 v3 v4 u_th H locs ls hl hP hD hS hf
      exact absurd (show (none : Option (Int32 × sW)) = some z from hf) (fun h => by cases h)
    | succ n ih =>
      intro v1 v2 v3 v4 u_th H locs ls hl hP hD hS hf
      rw [f_X9_letGo_L20] at hf
      refine lv_iload hx hb dX9_letGo_20 (lv_at hl 4 rfl) ?_
      refine lv_bipush (v := 8) hx hb dX9_letGo_22 (by decide) ?_
      refine lv_icmp_ge (tgt := 64) hx hb dX9_letGo_24 (by decide) (fun c3 => ?_) (fun c3 => ?_)
      · have hf := (if_pos c3).symm.trans hf
        refine lv_iload_n hx hb dX9_letGo_64 rfl (lv_at hl 3 rfl) ?_
        exact k_iret (v := v3) (u := u_th) hx hb hr hlocks hK hS eQ hf hP hD dX9_letGo_65
      · have hf := (if_neg c3).symm.trans hf
        refine lv_iload_n hx hb dX9_letGo_27 rfl (lv_at hl 2 rfl) ?_
        refine lv_if_eq (tgt := 64) hx hb dX9_letGo_28 (by decide) (fun c4 => ?_) (fun c4 => ?_)
        · have hf := (if_pos c4).symm.trans hf
          refine lv_iload_n hx hb dX9_letGo_64 rfl (lv_at hl 3 rfl) ?_
          exact k_iret (v := v3) (u := u_th) hx hb hr hlocks hK hS eQ hf hP hD dX9_letGo_65
        · have hf := (if_neg c4).symm.trans hf
          refine lv_iload_n hx hb dX9_letGo_31 rfl (lv_at hl 2 rfl) ?_
          refine lv_iload_n hx hb dX9_letGo_32 rfl (lv_at hl 1 rfl) ?_
          refine lv_icmp_ne (tgt := 64) hx hb dX9_letGo_33 (by decide) (fun c5 => ?_) (fun c5 => ?_)
          · have hf := (if_neg c5).symm.trans hf
            refine lv_iload_n hx hb dX9_letGo_64 rfl (lv_at hl 3 rfl) ?_
            exact k_iret (v := v3) (u := u_th) hx hb hr hlocks hK hS eQ hf hP hD dX9_letGo_65
          · have hf := (if_pos c5).symm.trans hf
            refine lv_aload_n hx hb dX9_letGo_36 rfl (lv_at hl 0 rfl) ?_
            refine lv_iload_n hx hb dX9_letGo_37 rfl (lv_at hl 1 rfl) ?_
            obtain ⟨z6, hz_z6, hf⟩ := o_bind hf
            refine k_callv (va_runV (As := [.int v1]) (rest := []) ⟨hx, hb, hml, hown, hts⟩ (c_X9_turn l D cI cZ th0 th1 th2 th3 th4 H.size u_th v1 z6 hz_z6) (cwV 1 hts gX9_letGo_X9_turn rfl rfl rfl ⟨rfl, hd_X9_turn⟩ ⟨Nat.le_of_ble_eq_true rfl, Nat.le_of_ble_eq_true rfl⟩) (k_preV hK hP hD hS hA hE [0, 1, 2, 3, 4] (by decide) rfl (ci := 6) rfl rfl) rfl rfl hl.1 rfl (lv_room (Nat.le_of_ble_eq_true rfl)) dX9_letGo_38 ⟨Nat.zero_le _, Nat.zero_le _⟩) hP hD hS hA [0, 1, 2, 3, 4] [some 0, some 1, some 2, some 3, some 4] 5 rfl (by decide) (by decide) rfl rfl (fun H locs hP hD hS => ?_)
            have hP : va_P D vwCl (ceW cI cZ th0 th1 th2 th3 th4 z6) H := hP
            have hD : va_D A (ceW cI cZ th0 th1 th2 th3 th4 z6) := hD
            refine lv_iload_n hx hb dX9_letGo_41 rfl (lv_at hl 3 rfl) ?_
            refine lv_iload_n hx hb dX9_letGo_42 rfl (lv_at hl 1 rfl) ?_
            refine lv_iadd hx hb dX9_letGo_43 ?_
            refine lv_istore_n (lv' := [(3, .int (v3 + v1)), (0, .ref th0), (1, .int v1), (2, .int v2), (4, .int v4)]) hx hb dX9_letGo_44 rfl hl (by decide) rfl (fun ls hl => ?_)
            refine lv_aload_n hx hb dX9_letGo_45 rfl (lv_at hl 1 rfl) ?_
            refine lv_aload_n hx hb dX9_letGo_46 rfl (lv_at hl 1 rfl) ?_
            refine lv_aload_n hx hb dX9_letGo_47 rfl (lv_at hl 1 rfl) ?_
            refine va_get (D := D) (ci := 6) (v := .int (W_lowest z6)) (C := RX9) (T := TX9) (N := 6) hx hb hts hi_X9 hown hK hP 0 rfl rfl 4 (by decide) (hts (.fieldLink RX9 24 "FairWheel$Wheel" "lowest" "I") (List.mem_of_getElem? (i := 1) rfl)) (fun _ h9 => h9) rfl dX9_letGo_48 ?_
            obtain ⟨z7, hz_z7, hf⟩ := o_bind hf
            refine k_calli (va_runV (As := [.int (W_lowest z6)]) (rest := [.ref th0]) ⟨hx, hb, hml, hown, hts⟩ (c_X9_pullAt l D cI cZ th0 th1 th2 th3 th4 H.size z6 (W_lowest z6) z7 hz_z7) (cwV 1 hts gX9_letGo_X9_pullAt rfl rfl rfl ⟨rfl, hd_X9_pullAt⟩ ⟨Nat.le_of_ble_eq_true rfl, Nat.le_of_ble_eq_true rfl⟩) (k_preV hK hP hD hS hA hE [0, 1, 2, 3, 4] (by decide) rfl (ci := 6) rfl rfl) rfl rfl hl.1 rfl (lv_room (Nat.le_of_ble_eq_true rfl)) dX9_letGo_51 ⟨Nat.zero_le _, Nat.zero_le _⟩) hP hD hS hA [0, 1, 2, 3, 4] [some 0, some 1, some 2, some 3, some 4] 5 rfl (by decide) (by decide) rfl rfl (fun H locs hP hD hS => ?_)
            have hP : va_P D vwCl (ceW cI cZ th0 th1 th2 th3 th4 z6) H := hP
            have hD : va_D A (ceW cI cZ th0 th1 th2 th3 th4 z6) := hD
            obtain ⟨z8, hz_z8, hf⟩ := o_bind hf
            refine k_calli (va_runV (As := [.int z7.1]) (rest := []) ⟨hx, hb, hml, hown, hts⟩ (c_X9_wayOf l D cI cZ th0 th1 th2 th3 th4 H.size z6 z7.1 z8 hz_z8) (cwV 1 hts gX9_letGo_X9_wayOf rfl rfl rfl ⟨rfl, hd_X9_wayOf⟩ ⟨Nat.le_of_ble_eq_true rfl, Nat.le_of_ble_eq_true rfl⟩) (k_preV hK hP hD hS hA hE [0, 1, 2, 3, 4] (by decide) rfl (ci := 6) rfl rfl) rfl rfl hl.1 rfl (lv_room (Nat.le_of_ble_eq_true rfl)) dX9_letGo_54 ⟨Nat.zero_le _, Nat.zero_le _⟩) hP hD hS hA [0, 1, 2, 3, 4] [some 0, some 1, some 2, some 3, some 4] 5 rfl (by decide) (by decide) rfl rfl (fun H locs hP hD hS => ?_)
            have hP : va_P D vwCl (ceW cI cZ th0 th1 th2 th3 th4 z6) H := hP
            have hD : va_D A (ceW cI cZ th0 th1 th2 th3 th4 z6) := hD
            refine lv_istore_n (lv' := [(2, .int z8.1), (3, .int (v3 + v1)), (0, .ref th0), (1, .int v1), (4, .int v4)]) hx hb dX9_letGo_57 rfl hl (by decide) rfl (fun ls hl => ?_)
            refine lv_iinc (v := (v4 + (1 : Int32))) (lv' := [(4, .int (v4 + (1 : Int32))), (2, .int z8.1), (3, .int (v3 + v1)), (0, .ref th0), (1, .int v1)]) hx hb dX9_letGo_58 hl (k := 4) rfl rfl (by decide) rfl (fun ls hl => ?_)
            refine lv_goto (tgt := 20) hx hb dX9_letGo_61 (by decide) ?_
            exact ih v1 z8.1 (v3 + v1) (v4 + (1 : Int32)) z6 _ _ ls (lv_sub hl [3, 4, 1, 2, 0] rfl) hP hD hS hf
  rw [f_X9_letGo] at hf
  refine lv_aload_n hx hb dX9_letGo_0 rfl (lv_at hl 0 rfl) ?_
  refine lv_aload_n hx hb dX9_letGo_1 rfl (lv_at hl 0 rfl) ?_
  refine lv_aload_n hx hb dX9_letGo_2 rfl (lv_at hl 0 rfl) ?_
  refine va_get (D := D) (ci := 6) (v := .int (W_lowest u_th)) (C := RX9) (T := TX9) (N := 6) hx hb hts hi_X9 hown hK hP 0 rfl rfl 4 (by decide) (hts (.fieldLink RX9 24 "FairWheel$Wheel" "lowest" "I") (List.mem_of_getElem? (i := 1) rfl)) (fun _ h9 => h9) rfl dX9_letGo_3 ?_
  obtain ⟨z1, hz_z1, hf⟩ := o_bind hf
  refine k_calli (va_runV (As := [.int (W_lowest u_th)]) (rest := [.ref th0]) ⟨hx, hb, hml, hown, hts⟩ (c_X9_pullAt l D cI cZ th0 th1 th2 th3 th4 H.size u_th (W_lowest u_th) z1 hz_z1) (cwV 1 hts gX9_letGo_X9_pullAt rfl rfl rfl ⟨rfl, hd_X9_pullAt⟩ ⟨Nat.le_of_ble_eq_true rfl, Nat.le_of_ble_eq_true rfl⟩) (k_preV hK hP hD hS hA hE [0, 1, 2, 3, 4] (by decide) rfl (ci := 6) rfl rfl) rfl rfl hl.1 rfl (lv_room (Nat.le_of_ble_eq_true rfl)) dX9_letGo_6 ⟨Nat.zero_le _, Nat.zero_le _⟩) hP hD hS hA [0, 1, 2, 3, 4] [some 0, some 1, some 2, some 3, some 4] 5 rfl (by decide) (by decide) rfl rfl (fun H locs hP hD hS => ?_)
  have hP : va_P D vwCl (ceW cI cZ th0 th1 th2 th3 th4 u_th) H := hP
  have hD : va_D A (ceW cI cZ th0 th1 th2 th3 th4 u_th) := hD
  obtain ⟨z2, hz_z2, hf⟩ := o_bind hf
  refine k_calli (va_runV (As := [.int z1.1]) (rest := []) ⟨hx, hb, hml, hown, hts⟩ (c_X9_wayOf l D cI cZ th0 th1 th2 th3 th4 H.size u_th z1.1 z2 hz_z2) (cwV 1 hts gX9_letGo_X9_wayOf rfl rfl rfl ⟨rfl, hd_X9_wayOf⟩ ⟨Nat.le_of_ble_eq_true rfl, Nat.le_of_ble_eq_true rfl⟩) (k_preV hK hP hD hS hA hE [0, 1, 2, 3, 4] (by decide) rfl (ci := 6) rfl rfl) rfl rfl hl.1 rfl (lv_room (Nat.le_of_ble_eq_true rfl)) dX9_letGo_9 ⟨Nat.zero_le _, Nat.zero_le _⟩) hP hD hS hA [0, 1, 2, 3, 4] [some 0, some 1, some 2, some 3, some 4] 5 rfl (by decide) (by decide) rfl rfl (fun H locs hP hD hS => ?_)
  have hP : va_P D vwCl (ceW cI cZ th0 th1 th2 th3 th4 u_th) H := hP
  have hD : va_D A (ceW cI cZ th0 th1 th2 th3 th4 u_th) := hD
  refine lv_istore_n (lv' := [(1, .int z2.1), (0, .ref th0)]) hx hb dX9_letGo_12 rfl hl (by decide) rfl (fun ls hl => ?_)
  refine lv_iload_n hx hb dX9_letGo_13 rfl (lv_at hl 0 rfl) ?_
  refine lv_istore_n (lv' := [(2, .int z2.1), (1, .int z2.1), (0, .ref th0)]) hx hb dX9_letGo_14 rfl hl (by decide) rfl (fun ls hl => ?_)
  refine lv_iconst (v := 0) hx hb dX9_letGo_15 (by decide) ?_
  refine lv_istore_n (lv' := [(3, .int (0 : Int32)), (2, .int z2.1), (1, .int z2.1), (0, .ref th0)]) hx hb dX9_letGo_16 rfl hl (by decide) rfl (fun ls hl => ?_)
  refine lv_iconst (v := 0) hx hb dX9_letGo_17 (by decide) ?_
  refine lv_istore (lv' := [(4, .int (0 : Int32)), (3, .int (0 : Int32)), (2, .int z2.1), (1, .int z2.1), (0, .ref th0)]) hx hb dX9_letGo_18 hl (by decide) rfl (fun ls hl => ?_)
  exact hL20 oF z2.1 z2.1 (0 : Int32) (0 : Int32) u_th _ _ ls (lv_sub hl [4, 3, 2, 1, 0] rfl) hP hD hS hf
